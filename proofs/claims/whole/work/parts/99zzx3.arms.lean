/-! arms of the law -/
set_option maxHeartbeats 4000000 in
theorem arm_30 {w : ia_O0} {N1 W1 : Nat} {K : ia_K} {L i : Nat} {x3 : Int32} {h : ia_H} (hK : ia_isK 101 mm_law N1 W1 K) (w1 : w.1 1 = (100, L)) (hL : L ≤ 5120) (oc : OCw w) (hx : x3.toInt = i) (hi : i + 10 ≤ L) (hg : gd_ w h) (I : INV (vw h)) (nxt : ∀ u, gd_ w u → INV (vw u) → K 2759 [some (.inr (.inr 1)), some (.inr (.inr 64)), some (.inr (.inr 417)), some (.inl x3)] [] u) : K 2300 [some (.inr (.inr 1)), some (.inr (.inr 64)), some (.inr (.inr 417)), some (.inl x3)] [] h := by
  have o1 : ia_i h 1 = w.2 1 := gd_o1 hg
  obtain ⟨r, h1, h2, e1, e2, I2⟩ := j_shopping (x1 := (w.2 1 (x3 + 1).toNatClampNeg)) (x2 := (w.2 1 (x3 + 2).toNatClampNeg)) (x3 := (w.2 1 (x3 + 3).toNatClampNeg)) (x4 := (w.2 1 (x3 + 4).toNatClampNeg)) (x5 := (w.2 1 (x3 + 5).toNatClampNeg)) (x6 := (w.2 1 (x3 + 6).toNatClampNeg)) hg oc I
  have v1 := t_I_shopping 93 hg e1
  have g1 : gd_ w h1 := g_I_shopping hg e1
  have v2 := t_M_shopping 88 g1 e2
  have g2 : gd_ w h2 := g_M_shopping g1 e2
  have o2 : ia_i h1 1 = w.2 1 := gd_o1 g1
  refine ia_go hK ck_law_2300_172 ⟨ld_law hg w1 hL hx hi (j := 1) (by decide) (by decide), ld_law hg w1 hL hx hi (j := 2) (by decide) (by decide), ld_law hg w1 hL hx hi (j := 3) (by decide) (by decide), ld_law hg w1 hL hx hi (j := 4) (by decide) (by decide), ld_law hg w1 hL hx hi (j := 5) (by decide) (by decide), ld_law hg w1 hL hx hi (j := 6) (by decide) (by decide), ?_⟩
  show K 2332 [some (.inr (.inr 1)), some (.inr (.inr 64)), some (.inr (.inr 417)), some (.inl x3)] [.inl (ia_i h 1 (x3 + 6).toNatClampNeg), .inl (ia_i h 1 (x3 + 5).toNatClampNeg), .inl (ia_i h 1 (x3 + 4).toNatClampNeg), .inl (ia_i h 1 (x3 + 3).toNatClampNeg), .inl (ia_i h 1 (x3 + 2).toNatClampNeg), .inl (ia_i h 1 (x3 + 1).toNatClampNeg), .inr (.inr 64)] h
  rw [o1]
  refine ia_cV hK mk_I_shopping lk_13_151 dc_law_2332 64 [.inl (w.2 1 (x3 + 1).toNatClampNeg), .inl (w.2 1 (x3 + 2).toNatClampNeg), .inl (w.2 1 (x3 + 3).toNatClampNeg), .inl (w.2 1 (x3 + 4).toNatClampNeg), .inl (w.2 1 (x3 + 5).toNatClampNeg), .inl (w.2 1 (x3 + 6).toNatClampNeg)] [] rfl rfl (Nat.le_of_ble_eq_true rfl) (by decide) rfl (gk_0 hg pk_64) v1 (gd_nm hg g1) ?_
  show K 2335 [some (.inr (.inr 1)), some (.inr (.inr 64)), some (.inr (.inr 417)), some (.inl x3)] [.inl r] h1
  refine ia_go hK ck_law_2335_174 ⟨ld_law g1 w1 hL hx hi (j := 1) (by decide) (by decide), ld_law g1 w1 hL hx hi (j := 2) (by decide) (by decide), ld_law g1 w1 hL hx hi (j := 3) (by decide) (by decide), ld_law g1 w1 hL hx hi (j := 4) (by decide) (by decide), ld_law g1 w1 hL hx hi (j := 5) (by decide) (by decide), ld_law g1 w1 hL hx hi (j := 6) (by decide) (by decide), ?_⟩
  show K 2367 [some (.inr (.inr 1)), some (.inr (.inr 64)), some (.inr (.inr 417)), some (.inl x3)] [.inl (ia_i h1 1 (x3 + 6).toNatClampNeg), .inl (ia_i h1 1 (x3 + 5).toNatClampNeg), .inl (ia_i h1 1 (x3 + 4).toNatClampNeg), .inl (ia_i h1 1 (x3 + 3).toNatClampNeg), .inl (ia_i h1 1 (x3 + 2).toNatClampNeg), .inl (ia_i h1 1 (x3 + 1).toNatClampNeg), .inr (.inr 417), .inl r] h1
  rw [o2]
  refine ia_cV hK mk_M_shopping lk_13_154 dc_law_2367 417 [.inl (w.2 1 (x3 + 1).toNatClampNeg), .inl (w.2 1 (x3 + 2).toNatClampNeg), .inl (w.2 1 (x3 + 3).toNatClampNeg), .inl (w.2 1 (x3 + 4).toNatClampNeg), .inl (w.2 1 (x3 + 5).toNatClampNeg), .inl (w.2 1 (x3 + 6).toNatClampNeg)] [.inl r] rfl rfl (Nat.le_of_ble_eq_true rfl) (by decide) rfl (gk_12 g1 pk_417) v2 (gd_nm g1 g2) ?_
  show K 2370 [some (.inr (.inr 1)), some (.inr (.inr 64)), some (.inr (.inr 417)), some (.inl x3)] [.inl r, .inl r] h2
  refine ia_go hK ck_law_2370_176 ⟨fun _ => ?_, fun c => absurd rfl c⟩
  exact nxt h2 g2 I2
set_option maxHeartbeats 4000000 in
theorem arm_31 {w : ia_O0} {N1 W1 : Nat} {K : ia_K} {L i : Nat} {x3 : Int32} {h : ia_H} (hK : ia_isK 101 mm_law N1 W1 K) (w1 : w.1 1 = (100, L)) (hL : L ≤ 5120) (oc : OCw w) (hx : x3.toInt = i) (hi : i + 10 ≤ L) (hg : gd_ w h) (I : INV (vw h)) (nxt : ∀ u, gd_ w u → INV (vw u) → K 2759 [some (.inr (.inr 1)), some (.inr (.inr 64)), some (.inr (.inr 417)), some (.inl x3)] [] u) : K 2375 [some (.inr (.inr 1)), some (.inr (.inr 64)), some (.inr (.inr 417)), some (.inl x3)] [] h := by
  have o1 : ia_i h 1 = w.2 1 := gd_o1 hg
  obtain ⟨r, h1, h2, e1, e2, I2⟩ := j_cold (x1 := (w.2 1 (x3 + 1).toNatClampNeg)) (x2 := (w.2 1 (x3 + 2).toNatClampNeg)) (x3 := (w.2 1 (x3 + 3).toNatClampNeg)) (x4 := (w.2 1 (x3 + 4).toNatClampNeg)) (x5 := (w.2 1 (x3 + 5).toNatClampNeg)) (x6 := (w.2 1 (x3 + 6).toNatClampNeg)) hg oc I
  have v1 := t_I_cold 93 hg e1
  have g1 : gd_ w h1 := g_I_cold hg e1
  have v2 := t_M_cold 88 g1 e2
  have g2 : gd_ w h2 := g_M_cold g1 e2
  have o2 : ia_i h1 1 = w.2 1 := gd_o1 g1
  refine ia_go hK ck_law_2375_177 ⟨ld_law hg w1 hL hx hi (j := 1) (by decide) (by decide), ld_law hg w1 hL hx hi (j := 2) (by decide) (by decide), ld_law hg w1 hL hx hi (j := 3) (by decide) (by decide), ld_law hg w1 hL hx hi (j := 4) (by decide) (by decide), ld_law hg w1 hL hx hi (j := 5) (by decide) (by decide), ld_law hg w1 hL hx hi (j := 6) (by decide) (by decide), ?_⟩
  show K 2407 [some (.inr (.inr 1)), some (.inr (.inr 64)), some (.inr (.inr 417)), some (.inl x3)] [.inl (ia_i h 1 (x3 + 6).toNatClampNeg), .inl (ia_i h 1 (x3 + 5).toNatClampNeg), .inl (ia_i h 1 (x3 + 4).toNatClampNeg), .inl (ia_i h 1 (x3 + 3).toNatClampNeg), .inl (ia_i h 1 (x3 + 2).toNatClampNeg), .inl (ia_i h 1 (x3 + 1).toNatClampNeg), .inr (.inr 64)] h
  rw [o1]
  refine ia_cV hK mk_I_cold lk_13_155 dc_law_2407 64 [.inl (w.2 1 (x3 + 1).toNatClampNeg), .inl (w.2 1 (x3 + 2).toNatClampNeg), .inl (w.2 1 (x3 + 3).toNatClampNeg), .inl (w.2 1 (x3 + 4).toNatClampNeg), .inl (w.2 1 (x3 + 5).toNatClampNeg), .inl (w.2 1 (x3 + 6).toNatClampNeg)] [] rfl rfl (Nat.le_of_ble_eq_true rfl) (by decide) rfl (gk_0 hg pk_64) v1 (gd_nm hg g1) ?_
  show K 2410 [some (.inr (.inr 1)), some (.inr (.inr 64)), some (.inr (.inr 417)), some (.inl x3)] [.inl r] h1
  refine ia_go hK ck_law_2410_179 ⟨ld_law g1 w1 hL hx hi (j := 1) (by decide) (by decide), ld_law g1 w1 hL hx hi (j := 2) (by decide) (by decide), ld_law g1 w1 hL hx hi (j := 3) (by decide) (by decide), ld_law g1 w1 hL hx hi (j := 4) (by decide) (by decide), ld_law g1 w1 hL hx hi (j := 5) (by decide) (by decide), ld_law g1 w1 hL hx hi (j := 6) (by decide) (by decide), ?_⟩
  show K 2442 [some (.inr (.inr 1)), some (.inr (.inr 64)), some (.inr (.inr 417)), some (.inl x3)] [.inl (ia_i h1 1 (x3 + 6).toNatClampNeg), .inl (ia_i h1 1 (x3 + 5).toNatClampNeg), .inl (ia_i h1 1 (x3 + 4).toNatClampNeg), .inl (ia_i h1 1 (x3 + 3).toNatClampNeg), .inl (ia_i h1 1 (x3 + 2).toNatClampNeg), .inl (ia_i h1 1 (x3 + 1).toNatClampNeg), .inr (.inr 417), .inl r] h1
  rw [o2]
  refine ia_cV hK mk_M_cold lk_13_158 dc_law_2442 417 [.inl (w.2 1 (x3 + 1).toNatClampNeg), .inl (w.2 1 (x3 + 2).toNatClampNeg), .inl (w.2 1 (x3 + 3).toNatClampNeg), .inl (w.2 1 (x3 + 4).toNatClampNeg), .inl (w.2 1 (x3 + 5).toNatClampNeg), .inl (w.2 1 (x3 + 6).toNatClampNeg)] [.inl r] rfl rfl (Nat.le_of_ble_eq_true rfl) (by decide) rfl (gk_12 g1 pk_417) v2 (gd_nm g1 g2) ?_
  show K 2445 [some (.inr (.inr 1)), some (.inr (.inr 64)), some (.inr (.inr 417)), some (.inl x3)] [.inl r, .inl r] h2
  refine ia_go hK ck_law_2445_181 ⟨fun _ => ?_, fun c => absurd rfl c⟩
  exact nxt h2 g2 I2
set_option maxHeartbeats 4000000 in
theorem arm_32 {w : ia_O0} {N1 W1 : Nat} {K : ia_K} {L i : Nat} {x3 : Int32} {h : ia_H} (hK : ia_isK 101 mm_law N1 W1 K) (w1 : w.1 1 = (100, L)) (hL : L ≤ 5120) (oc : OCw w) (hx : x3.toInt = i) (hi : i + 10 ≤ L) (hg : gd_ w h) (I : INV (vw h)) (nxt : ∀ u, gd_ w u → INV (vw u) → K 2759 [some (.inr (.inr 1)), some (.inr (.inr 64)), some (.inr (.inr 417)), some (.inl x3)] [] u) : K 2450 [some (.inr (.inr 1)), some (.inr (.inr 64)), some (.inr (.inr 417)), some (.inl x3)] [] h := by
  have o1 : ia_i h 1 = w.2 1 := gd_o1 hg
  obtain ⟨r, h1, h2, e1, e2, I2⟩ := j_lacks (x1 := (w.2 1 (x3 + 1).toNatClampNeg)) (x2 := (w.2 1 (x3 + 2).toNatClampNeg)) (x3 := (w.2 1 (x3 + 3).toNatClampNeg)) (x4 := (w.2 1 (x3 + 4).toNatClampNeg)) (x5 := (w.2 1 (x3 + 5).toNatClampNeg)) (x6 := (w.2 1 (x3 + 6).toNatClampNeg)) (x7 := (w.2 1 (x3 + 7).toNatClampNeg)) (x8 := (w.2 1 (x3 + 8).toNatClampNeg)) hg oc I
  have v1 := t_I_lacks 93 hg e1
  have g1 : gd_ w h1 := g_I_lacks hg e1
  have v2 := t_M_lacks 88 g1 e2
  have g2 : gd_ w h2 := g_M_lacks g1 e2
  have o2 : ia_i h1 1 = w.2 1 := gd_o1 g1
  refine ia_go hK ck_law_2450_182 ⟨ld_law hg w1 hL hx hi (j := 1) (by decide) (by decide), ld_law hg w1 hL hx hi (j := 2) (by decide) (by decide), ld_law hg w1 hL hx hi (j := 3) (by decide) (by decide), ld_law hg w1 hL hx hi (j := 4) (by decide) (by decide), ld_law hg w1 hL hx hi (j := 5) (by decide) (by decide), ld_law hg w1 hL hx hi (j := 6) (by decide) (by decide), ld_law hg w1 hL hx hi (j := 7) (by decide) (by decide), ld_law hg w1 hL hx hi (j := 8) (by decide) (by decide), ?_⟩
  show K 2494 [some (.inr (.inr 1)), some (.inr (.inr 64)), some (.inr (.inr 417)), some (.inl x3)] [.inl (ia_i h 1 (x3 + 8).toNatClampNeg), .inl (ia_i h 1 (x3 + 7).toNatClampNeg), .inl (ia_i h 1 (x3 + 6).toNatClampNeg), .inl (ia_i h 1 (x3 + 5).toNatClampNeg), .inl (ia_i h 1 (x3 + 4).toNatClampNeg), .inl (ia_i h 1 (x3 + 3).toNatClampNeg), .inl (ia_i h 1 (x3 + 2).toNatClampNeg), .inl (ia_i h 1 (x3 + 1).toNatClampNeg), .inr (.inr 64)] h
  rw [o1]
  refine ia_cV hK mk_I_lacks lk_13_159 dc_law_2494 64 [.inl (w.2 1 (x3 + 1).toNatClampNeg), .inl (w.2 1 (x3 + 2).toNatClampNeg), .inl (w.2 1 (x3 + 3).toNatClampNeg), .inl (w.2 1 (x3 + 4).toNatClampNeg), .inl (w.2 1 (x3 + 5).toNatClampNeg), .inl (w.2 1 (x3 + 6).toNatClampNeg), .inl (w.2 1 (x3 + 7).toNatClampNeg), .inl (w.2 1 (x3 + 8).toNatClampNeg)] [] rfl rfl (Nat.le_of_ble_eq_true rfl) (by decide) rfl (gk_0 hg pk_64) v1 (gd_nm hg g1) ?_
  show K 2497 [some (.inr (.inr 1)), some (.inr (.inr 64)), some (.inr (.inr 417)), some (.inl x3)] [.inl r] h1
  refine ia_go hK ck_law_2497_184 ⟨ld_law g1 w1 hL hx hi (j := 1) (by decide) (by decide), ld_law g1 w1 hL hx hi (j := 2) (by decide) (by decide), ld_law g1 w1 hL hx hi (j := 3) (by decide) (by decide), ld_law g1 w1 hL hx hi (j := 4) (by decide) (by decide), ld_law g1 w1 hL hx hi (j := 5) (by decide) (by decide), ld_law g1 w1 hL hx hi (j := 6) (by decide) (by decide), ld_law g1 w1 hL hx hi (j := 7) (by decide) (by decide), ld_law g1 w1 hL hx hi (j := 8) (by decide) (by decide), ?_⟩
  show K 2541 [some (.inr (.inr 1)), some (.inr (.inr 64)), some (.inr (.inr 417)), some (.inl x3)] [.inl (ia_i h1 1 (x3 + 8).toNatClampNeg), .inl (ia_i h1 1 (x3 + 7).toNatClampNeg), .inl (ia_i h1 1 (x3 + 6).toNatClampNeg), .inl (ia_i h1 1 (x3 + 5).toNatClampNeg), .inl (ia_i h1 1 (x3 + 4).toNatClampNeg), .inl (ia_i h1 1 (x3 + 3).toNatClampNeg), .inl (ia_i h1 1 (x3 + 2).toNatClampNeg), .inl (ia_i h1 1 (x3 + 1).toNatClampNeg), .inr (.inr 417), .inl r] h1
  rw [o2]
  refine ia_cV hK mk_M_lacks lk_13_162 dc_law_2541 417 [.inl (w.2 1 (x3 + 1).toNatClampNeg), .inl (w.2 1 (x3 + 2).toNatClampNeg), .inl (w.2 1 (x3 + 3).toNatClampNeg), .inl (w.2 1 (x3 + 4).toNatClampNeg), .inl (w.2 1 (x3 + 5).toNatClampNeg), .inl (w.2 1 (x3 + 6).toNatClampNeg), .inl (w.2 1 (x3 + 7).toNatClampNeg), .inl (w.2 1 (x3 + 8).toNatClampNeg)] [.inl r] rfl rfl (Nat.le_of_ble_eq_true rfl) (by decide) rfl (gk_12 g1 pk_417) v2 (gd_nm g1 g2) ?_
  show K 2544 [some (.inr (.inr 1)), some (.inr (.inr 64)), some (.inr (.inr 417)), some (.inl x3)] [.inl r, .inl r] h2
  refine ia_go hK ck_law_2544_186 ⟨fun _ => ?_, fun c => absurd rfl c⟩
  exact nxt h2 g2 I2
set_option maxHeartbeats 4000000 in
theorem arm_33 {w : ia_O0} {N1 W1 : Nat} {K : ia_K} {L i : Nat} {x3 : Int32} {h : ia_H} (hK : ia_isK 101 mm_law N1 W1 K) (w1 : w.1 1 = (100, L)) (hL : L ≤ 5120) (oc : OCw w) (hx : x3.toInt = i) (hi : i + 10 ≤ L) (hg : gd_ w h) (I : INV (vw h)) (nxt : ∀ u, gd_ w u → INV (vw u) → K 2759 [some (.inr (.inr 1)), some (.inr (.inr 64)), some (.inr (.inr 417)), some (.inl x3)] [] u) : K 2549 [some (.inr (.inr 1)), some (.inr (.inr 64)), some (.inr (.inr 417)), some (.inl x3)] [] h := by
  have o1 : ia_i h 1 = w.2 1 := gd_o1 hg
  obtain ⟨r, h1, h2, e1, e2, I2⟩ := j_needs (x1 := (w.2 1 (x3 + 1).toNatClampNeg)) (x2 := (w.2 1 (x3 + 2).toNatClampNeg)) (x3 := (w.2 1 (x3 + 3).toNatClampNeg)) (x4 := (w.2 1 (x3 + 4).toNatClampNeg)) (x5 := (w.2 1 (x3 + 5).toNatClampNeg)) (x6 := (w.2 1 (x3 + 6).toNatClampNeg)) (x7 := (w.2 1 (x3 + 7).toNatClampNeg)) hg oc I
  have v1 := t_I_needs 93 hg e1
  have g1 : gd_ w h1 := g_I_needs hg e1
  have v2 := t_M_needs 88 g1 e2
  have g2 : gd_ w h2 := g_M_needs g1 e2
  have o2 : ia_i h1 1 = w.2 1 := gd_o1 g1
  refine ia_go hK ck_law_2549_187 ⟨ld_law hg w1 hL hx hi (j := 1) (by decide) (by decide), ld_law hg w1 hL hx hi (j := 2) (by decide) (by decide), ld_law hg w1 hL hx hi (j := 3) (by decide) (by decide), ld_law hg w1 hL hx hi (j := 4) (by decide) (by decide), ld_law hg w1 hL hx hi (j := 5) (by decide) (by decide), ld_law hg w1 hL hx hi (j := 6) (by decide) (by decide), ld_law hg w1 hL hx hi (j := 7) (by decide) (by decide), ?_⟩
  show K 2587 [some (.inr (.inr 1)), some (.inr (.inr 64)), some (.inr (.inr 417)), some (.inl x3)] [.inl (ia_i h 1 (x3 + 7).toNatClampNeg), .inl (ia_i h 1 (x3 + 6).toNatClampNeg), .inl (ia_i h 1 (x3 + 5).toNatClampNeg), .inl (ia_i h 1 (x3 + 4).toNatClampNeg), .inl (ia_i h 1 (x3 + 3).toNatClampNeg), .inl (ia_i h 1 (x3 + 2).toNatClampNeg), .inl (ia_i h 1 (x3 + 1).toNatClampNeg), .inr (.inr 64)] h
  rw [o1]
  refine ia_cV hK mk_I_needs lk_13_163 dc_law_2587 64 [.inl (w.2 1 (x3 + 1).toNatClampNeg), .inl (w.2 1 (x3 + 2).toNatClampNeg), .inl (w.2 1 (x3 + 3).toNatClampNeg), .inl (w.2 1 (x3 + 4).toNatClampNeg), .inl (w.2 1 (x3 + 5).toNatClampNeg), .inl (w.2 1 (x3 + 6).toNatClampNeg), .inl (w.2 1 (x3 + 7).toNatClampNeg)] [] rfl rfl (Nat.le_of_ble_eq_true rfl) (by decide) rfl (gk_0 hg pk_64) v1 (gd_nm hg g1) ?_
  show K 2590 [some (.inr (.inr 1)), some (.inr (.inr 64)), some (.inr (.inr 417)), some (.inl x3)] [.inr (.inl r)] h1
  refine ia_go hK ck_law_2590_189 ⟨ld_law g1 w1 hL hx hi (j := 1) (by decide) (by decide), ld_law g1 w1 hL hx hi (j := 2) (by decide) (by decide), ld_law g1 w1 hL hx hi (j := 3) (by decide) (by decide), ld_law g1 w1 hL hx hi (j := 4) (by decide) (by decide), ld_law g1 w1 hL hx hi (j := 5) (by decide) (by decide), ld_law g1 w1 hL hx hi (j := 6) (by decide) (by decide), ld_law g1 w1 hL hx hi (j := 7) (by decide) (by decide), ?_⟩
  show K 2628 [some (.inr (.inr 1)), some (.inr (.inr 64)), some (.inr (.inr 417)), some (.inl x3)] [.inl (ia_i h1 1 (x3 + 7).toNatClampNeg), .inl (ia_i h1 1 (x3 + 6).toNatClampNeg), .inl (ia_i h1 1 (x3 + 5).toNatClampNeg), .inl (ia_i h1 1 (x3 + 4).toNatClampNeg), .inl (ia_i h1 1 (x3 + 3).toNatClampNeg), .inl (ia_i h1 1 (x3 + 2).toNatClampNeg), .inl (ia_i h1 1 (x3 + 1).toNatClampNeg), .inr (.inr 417), .inr (.inl r)] h1
  rw [o2]
  refine ia_cV hK mk_M_needs lk_13_166 dc_law_2628 417 [.inl (w.2 1 (x3 + 1).toNatClampNeg), .inl (w.2 1 (x3 + 2).toNatClampNeg), .inl (w.2 1 (x3 + 3).toNatClampNeg), .inl (w.2 1 (x3 + 4).toNatClampNeg), .inl (w.2 1 (x3 + 5).toNatClampNeg), .inl (w.2 1 (x3 + 6).toNatClampNeg), .inl (w.2 1 (x3 + 7).toNatClampNeg)] [.inr (.inl r)] rfl rfl (Nat.le_of_ble_eq_true rfl) (by decide) rfl (gk_12 g1 pk_417) v2 (gd_nm g1 g2) ?_
  show K 2631 [some (.inr (.inr 1)), some (.inr (.inr 64)), some (.inr (.inr 417)), some (.inl x3)] [.inr (.inl r), .inr (.inl r)] h2
  refine ia_go hK ck_law_2631_191 ⟨fun _ => ?_, fun c => absurd (lgc r) c⟩
  exact nxt h2 g2 I2
set_option maxHeartbeats 4000000 in
theorem arm_34 {w : ia_O0} {N1 W1 : Nat} {K : ia_K} {L i : Nat} {x3 : Int32} {h : ia_H} (hK : ia_isK 101 mm_law N1 W1 K) (w1 : w.1 1 = (100, L)) (hL : L ≤ 5120) (oc : OCw w) (hx : x3.toInt = i) (hi : i + 10 ≤ L) (hg : gd_ w h) (I : INV (vw h)) (nxt : ∀ u, gd_ w u → INV (vw u) → K 2759 [some (.inr (.inr 1)), some (.inr (.inr 64)), some (.inr (.inr 417)), some (.inl x3)] [] u) : K 2637 [some (.inr (.inr 1)), some (.inr (.inr 64)), some (.inr (.inr 417)), some (.inl x3)] [] h := by
  have o1 : ia_i h 1 = w.2 1 := gd_o1 hg
  obtain ⟨r, h1, h2, e1, e2, I2⟩ := j_spread (x1 := (w.2 1 (x3 + 1).toNatClampNeg)) (x2 := (w.2 1 (x3 + 2).toNatClampNeg)) (x3 := (w.2 1 (x3 + 3).toNatClampNeg)) (x4 := (w.2 1 (x3 + 4).toNatClampNeg)) hg oc I
  have v1 := t_I_spread 93 hg e1
  have g1 : gd_ w h1 := g_I_spread hg e1
  have v2 := t_M_spread 89 g1 e2
  have g2 : gd_ w h2 := g_M_spread g1 e2
  have o2 : ia_i h1 1 = w.2 1 := gd_o1 g1
  refine ia_go hK ck_law_2637_192 ⟨ld_law hg w1 hL hx hi (j := 1) (by decide) (by decide), ld_law hg w1 hL hx hi (j := 2) (by decide) (by decide), ld_law hg w1 hL hx hi (j := 3) (by decide) (by decide), ld_law hg w1 hL hx hi (j := 4) (by decide) (by decide), ?_⟩
  show K 2658 [some (.inr (.inr 1)), some (.inr (.inr 64)), some (.inr (.inr 417)), some (.inl x3)] [.inl (ia_i h 1 (x3 + 4).toNatClampNeg), .inl (ia_i h 1 (x3 + 3).toNatClampNeg), .inl (ia_i h 1 (x3 + 2).toNatClampNeg), .inl (ia_i h 1 (x3 + 1).toNatClampNeg), .inr (.inr 64)] h
  rw [o1]
  refine ia_cV hK mk_I_spread lk_13_167 dc_law_2658 64 [.inl (w.2 1 (x3 + 1).toNatClampNeg), .inl (w.2 1 (x3 + 2).toNatClampNeg), .inl (w.2 1 (x3 + 3).toNatClampNeg), .inl (w.2 1 (x3 + 4).toNatClampNeg)] [] rfl rfl (Nat.le_of_ble_eq_true rfl) (by decide) rfl (gk_0 hg pk_64) v1 (gd_nm hg g1) ?_
  show K 2661 [some (.inr (.inr 1)), some (.inr (.inr 64)), some (.inr (.inr 417)), some (.inl x3)] [.inl r] h1
  refine ia_go hK ck_law_2661_194 ⟨ld_law g1 w1 hL hx hi (j := 1) (by decide) (by decide), ld_law g1 w1 hL hx hi (j := 2) (by decide) (by decide), ld_law g1 w1 hL hx hi (j := 3) (by decide) (by decide), ld_law g1 w1 hL hx hi (j := 4) (by decide) (by decide), ?_⟩
  show K 2682 [some (.inr (.inr 1)), some (.inr (.inr 64)), some (.inr (.inr 417)), some (.inl x3)] [.inl (ia_i h1 1 (x3 + 4).toNatClampNeg), .inl (ia_i h1 1 (x3 + 3).toNatClampNeg), .inl (ia_i h1 1 (x3 + 2).toNatClampNeg), .inl (ia_i h1 1 (x3 + 1).toNatClampNeg), .inr (.inr 417), .inl r] h1
  rw [o2]
  refine ia_cV hK mk_M_spread lk_13_170 dc_law_2682 417 [.inl (w.2 1 (x3 + 1).toNatClampNeg), .inl (w.2 1 (x3 + 2).toNatClampNeg), .inl (w.2 1 (x3 + 3).toNatClampNeg), .inl (w.2 1 (x3 + 4).toNatClampNeg)] [.inl r] rfl rfl (Nat.le_of_ble_eq_true rfl) (by decide) rfl (gk_12 g1 pk_417) v2 (gd_nm g1 g2) ?_
  show K 2685 [some (.inr (.inr 1)), some (.inr (.inr 64)), some (.inr (.inr 417)), some (.inl x3)] [.inl r, .inl r] h2
  refine ia_go hK ck_law_2685_196 ⟨fun _ => ?_, fun c => absurd rfl c⟩
  exact nxt h2 g2 I2
set_option maxHeartbeats 4000000 in
theorem arm_35 {w : ia_O0} {N1 W1 : Nat} {K : ia_K} {L i : Nat} {x3 : Int32} {h : ia_H} (hK : ia_isK 101 mm_law N1 W1 K) (w1 : w.1 1 = (100, L)) (hL : L ≤ 5120) (oc : OCw w) (hx : x3.toInt = i) (hi : i + 10 ≤ L) (hg : gd_ w h) (I : INV (vw h)) (nxt : ∀ u, gd_ w u → INV (vw u) → K 2759 [some (.inr (.inr 1)), some (.inr (.inr 64)), some (.inr (.inr 417)), some (.inl x3)] [] u) : K 2690 [some (.inr (.inr 1)), some (.inr (.inr 64)), some (.inr (.inr 417)), some (.inl x3)] [] h := by
  have o1 : ia_i h 1 = w.2 1 := gd_o1 hg
  obtain ⟨r, e1, e2⟩ := j_count (x1 := (w.2 1 (x3 + 1).toNatClampNeg)) I
  have v1 := t_I_count 100 hg e1
  have v2 := t_M_count 99 hg e2
  refine ia_go hK ck_law_2690_197 ⟨ld_law hg w1 hL hx hi (j := 1) (by decide) (by decide), ?_⟩
  show K 2696 [some (.inr (.inr 1)), some (.inr (.inr 64)), some (.inr (.inr 417)), some (.inl x3)] [.inl (ia_i h 1 (x3 + 1).toNatClampNeg), .inr (.inr 64)] h
  rw [o1]
  refine ia_cV hK mk_I_count lk_13_171 dc_law_2696 64 [.inl (w.2 1 (x3 + 1).toNatClampNeg)] [] rfl rfl (Nat.le_of_ble_eq_true rfl) (by decide) rfl (gk_0 hg pk_64) v1 ⟨rfl, rfl⟩ ?_
  show K 2699 [some (.inr (.inr 1)), some (.inr (.inr 64)), some (.inr (.inr 417)), some (.inl x3)] [.inl r] h
  refine ia_go hK ck_law_2699_199 ⟨ld_law hg w1 hL hx hi (j := 1) (by decide) (by decide), ?_⟩
  show K 2705 [some (.inr (.inr 1)), some (.inr (.inr 64)), some (.inr (.inr 417)), some (.inl x3)] [.inl (ia_i h 1 (x3 + 1).toNatClampNeg), .inr (.inr 417), .inl r] h
  rw [o1]
  refine ia_cV hK mk_M_count lk_13_174 dc_law_2705 417 [.inl (w.2 1 (x3 + 1).toNatClampNeg)] [.inl r] rfl rfl (Nat.le_of_ble_eq_true rfl) (by decide) rfl (gk_12 hg pk_417) v2 ⟨rfl, rfl⟩ ?_
  show K 2708 [some (.inr (.inr 1)), some (.inr (.inr 64)), some (.inr (.inr 417)), some (.inl x3)] [.inl r, .inl r] h
  refine ia_go hK ck_law_2708_201 ⟨fun _ => ?_, fun c => absurd rfl c⟩
  exact nxt h hg I
set_option maxHeartbeats 4000000 in
theorem arm_36 {w : ia_O0} {N1 W1 : Nat} {K : ia_K} {L i : Nat} {x3 : Int32} {h : ia_H} (hK : ia_isK 101 mm_law N1 W1 K) (w1 : w.1 1 = (100, L)) (hL : L ≤ 5120) (oc : OCw w) (hx : x3.toInt = i) (hi : i + 10 ≤ L) (hg : gd_ w h) (I : INV (vw h)) (nxt : ∀ u, gd_ w u → INV (vw u) → K 2759 [some (.inr (.inr 1)), some (.inr (.inr 64)), some (.inr (.inr 417)), some (.inl x3)] [] u) : K 2713 [some (.inr (.inr 1)), some (.inr (.inr 64)), some (.inr (.inr 417)), some (.inl x3)] [] h := by
  have o1 : ia_i h 1 = w.2 1 := gd_o1 hg
  obtain ⟨r, h1, h2, e1, e2, I2⟩ := j_image (x1 := (w.2 1 (x3 + 1).toNatClampNeg)) hg oc I
  have v1 := t_I_image 98 hg e1
  have g1 : gd_ w h1 := g_I_image hg e1
  have v2 := t_M_image 99 g1 e2
  have g2 : gd_ w h2 := g_M_image g1 e2
  have o2 : ia_i h1 1 = w.2 1 := gd_o1 g1
  refine ia_go hK ck_law_2713_202 ⟨ld_law hg w1 hL hx hi (j := 1) (by decide) (by decide), ?_⟩
  show K 2719 [some (.inr (.inr 1)), some (.inr (.inr 64)), some (.inr (.inr 417)), some (.inl x3)] [.inl (ia_i h 1 (x3 + 1).toNatClampNeg), .inr (.inr 64)] h
  rw [o1]
  refine ia_cV hK mk_I_image lk_13_175 dc_law_2719 64 [.inl (w.2 1 (x3 + 1).toNatClampNeg)] [] rfl rfl (Nat.le_of_ble_eq_true rfl) (by decide) rfl (gk_0 hg pk_64) v1 (gd_nm hg g1) ?_
  show K 2722 [some (.inr (.inr 1)), some (.inr (.inr 64)), some (.inr (.inr 417)), some (.inl x3)] [.inl r] h1
  refine ia_go hK ck_law_2722_204 ⟨ld_law g1 w1 hL hx hi (j := 1) (by decide) (by decide), ?_⟩
  show K 2728 [some (.inr (.inr 1)), some (.inr (.inr 64)), some (.inr (.inr 417)), some (.inl x3)] [.inl (ia_i h1 1 (x3 + 1).toNatClampNeg), .inr (.inr 417), .inl r] h1
  rw [o2]
  refine ia_cV hK mk_M_image lk_13_179 dc_law_2728 417 [.inl (w.2 1 (x3 + 1).toNatClampNeg)] [.inl r] rfl rfl (Nat.le_of_ble_eq_true rfl) (by decide) rfl (gk_12 g1 pk_417) v2 (gd_nm g1 g2) ?_
  show K 2731 [some (.inr (.inr 1)), some (.inr (.inr 64)), some (.inr (.inr 417)), some (.inl x3)] [.inl r, .inl r] h2
  refine ia_go hK ck_law_2731_206 ⟨fun _ => ?_, fun c => absurd rfl c⟩
  exact nxt h2 g2 I2
set_option maxHeartbeats 4000000 in
theorem arm_37 {w : ia_O0} {N1 W1 : Nat} {K : ia_K} {L i : Nat} {x3 : Int32} {h : ia_H} (hK : ia_isK 101 mm_law N1 W1 K) (w1 : w.1 1 = (100, L)) (hL : L ≤ 5120) (oc : OCw w) (hx : x3.toInt = i) (hi : i + 10 ≤ L) (hg : gd_ w h) (I : INV (vw h)) (nxt : ∀ u, gd_ w u → INV (vw u) → K 2759 [some (.inr (.inr 1)), some (.inr (.inr 64)), some (.inr (.inr 417)), some (.inl x3)] [] u) : K 2736 [some (.inr (.inr 1)), some (.inr (.inr 64)), some (.inr (.inr 417)), some (.inl x3)] [] h := by
  have o1 : ia_i h 1 = w.2 1 := gd_o1 hg
  obtain ⟨r, h1, h2, e1, e2, I2⟩ := j_again (x1 := (w.2 1 (x3 + 1).toNatClampNeg)) hg oc I
  have v1 := t_I_again 98 hg e1
  have g1 : gd_ w h1 := g_I_again hg e1
  have v2 := t_M_again 99 g1 e2
  have g2 : gd_ w h2 := g_M_again g1 e2
  have o2 : ia_i h1 1 = w.2 1 := gd_o1 g1
  refine ia_go hK ck_law_2736_207 ⟨ld_law hg w1 hL hx hi (j := 1) (by decide) (by decide), ?_⟩
  show K 2742 [some (.inr (.inr 1)), some (.inr (.inr 64)), some (.inr (.inr 417)), some (.inl x3)] [.inl (ia_i h 1 (x3 + 1).toNatClampNeg), .inr (.inr 64)] h
  rw [o1]
  refine ia_cV hK mk_I_again lk_13_180 dc_law_2742 64 [.inl (w.2 1 (x3 + 1).toNatClampNeg)] [] rfl rfl (Nat.le_of_ble_eq_true rfl) (by decide) rfl (gk_0 hg pk_64) v1 (gd_nm hg g1) ?_
  show K 2745 [some (.inr (.inr 1)), some (.inr (.inr 64)), some (.inr (.inr 417)), some (.inl x3)] [.inl r] h1
  refine ia_go hK ck_law_2745_209 ⟨ld_law g1 w1 hL hx hi (j := 1) (by decide) (by decide), ?_⟩
  show K 2751 [some (.inr (.inr 1)), some (.inr (.inr 64)), some (.inr (.inr 417)), some (.inl x3)] [.inl (ia_i h1 1 (x3 + 1).toNatClampNeg), .inr (.inr 417), .inl r] h1
  rw [o2]
  refine ia_cV hK mk_M_again lk_13_183 dc_law_2751 417 [.inl (w.2 1 (x3 + 1).toNatClampNeg)] [.inl r] rfl rfl (Nat.le_of_ble_eq_true rfl) (by decide) rfl (gk_12 g1 pk_417) v2 (gd_nm g1 g2) ?_
  show K 2754 [some (.inr (.inr 1)), some (.inr (.inr 64)), some (.inr (.inr 417)), some (.inl x3)] [.inl r, .inl r] h2
  refine ia_go hK ck_law_2754_211 ⟨fun _ => ?_, fun c => absurd rfl c⟩
  exact nxt h2 g2 I2
