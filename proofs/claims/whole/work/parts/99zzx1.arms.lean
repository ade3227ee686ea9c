/-! arms of the law -/
set_option maxHeartbeats 4000000 in
theorem arm_10 {w : ia_O0} {N1 W1 : Nat} {K : ia_K} {L i : Nat} {x3 : Int32} {h : ia_H} (hK : ia_isK 101 mm_law N1 W1 K) (w1 : w.1 1 = (100, L)) (hL : L ≤ 5120) (oc : OCw w) (hx : x3.toInt = i) (hi : i + 10 ≤ L) (hg : gd_ w h) (I : INV (vw h)) (nxt : ∀ u, gd_ w u → INV (vw u) → K 2759 [some (.inr (.inr 1)), some (.inr (.inr 64)), some (.inr (.inr 417)), some (.inl x3)] [] u) : K 580 [some (.inr (.inr 1)), some (.inr (.inr 64)), some (.inr (.inr 417)), some (.inl x3)] [] h := by
  have o1 : ia_i h 1 = w.2 1 := gd_o1 hg
  obtain ⟨r, h1, h2, e1, e2, I2⟩ := j_state (x1 := (w.2 1 (x3 + 1).toNatClampNeg)) (x2 := (w.2 1 (x3 + 2).toNatClampNeg)) (x3 := (w.2 1 (x3 + 3).toNatClampNeg)) (x4 := (w.2 1 (x3 + 4).toNatClampNeg)) (x5 := (w.2 1 (x3 + 5).toNatClampNeg)) hg oc I
  have v1 := t_I_state 93 hg e1
  have g1 : gd_ w h1 := g_I_state hg e1
  have v2 := t_M_state 89 g1 e2
  have g2 : gd_ w h2 := g_M_state g1 e2
  have o2 : ia_i h1 1 = w.2 1 := gd_o1 g1
  refine ia_go hK ck_law_580_50 ⟨ld_law hg w1 hL hx hi (j := 1) (by decide) (by decide), ld_law hg w1 hL hx hi (j := 2) (by decide) (by decide), ld_law hg w1 hL hx hi (j := 3) (by decide) (by decide), ld_law hg w1 hL hx hi (j := 4) (by decide) (by decide), ld_law hg w1 hL hx hi (j := 5) (by decide) (by decide), ?_⟩
  show K 606 [some (.inr (.inr 1)), some (.inr (.inr 64)), some (.inr (.inr 417)), some (.inl x3)] [.inl (ia_i h 1 (x3 + 5).toNatClampNeg), .inl (ia_i h 1 (x3 + 4).toNatClampNeg), .inl (ia_i h 1 (x3 + 3).toNatClampNeg), .inl (ia_i h 1 (x3 + 2).toNatClampNeg), .inl (ia_i h 1 (x3 + 1).toNatClampNeg), .inr (.inr 64)] h
  rw [o1]
  refine ia_cV hK mk_I_state lk_13_57 dc_law_606 64 [.inl (w.2 1 (x3 + 1).toNatClampNeg), .inl (w.2 1 (x3 + 2).toNatClampNeg), .inl (w.2 1 (x3 + 3).toNatClampNeg), .inl (w.2 1 (x3 + 4).toNatClampNeg), .inl (w.2 1 (x3 + 5).toNatClampNeg)] [] rfl rfl (Nat.le_of_ble_eq_true rfl) (by decide) rfl (gk_0 hg pk_64) v1 (gd_nm hg g1) ?_
  show K 609 [some (.inr (.inr 1)), some (.inr (.inr 64)), some (.inr (.inr 417)), some (.inl x3)] [.inl r] h1
  refine ia_go hK ck_law_609_52 ⟨ld_law g1 w1 hL hx hi (j := 1) (by decide) (by decide), ld_law g1 w1 hL hx hi (j := 2) (by decide) (by decide), ld_law g1 w1 hL hx hi (j := 3) (by decide) (by decide), ld_law g1 w1 hL hx hi (j := 4) (by decide) (by decide), ld_law g1 w1 hL hx hi (j := 5) (by decide) (by decide), ?_⟩
  show K 635 [some (.inr (.inr 1)), some (.inr (.inr 64)), some (.inr (.inr 417)), some (.inl x3)] [.inl (ia_i h1 1 (x3 + 5).toNatClampNeg), .inl (ia_i h1 1 (x3 + 4).toNatClampNeg), .inl (ia_i h1 1 (x3 + 3).toNatClampNeg), .inl (ia_i h1 1 (x3 + 2).toNatClampNeg), .inl (ia_i h1 1 (x3 + 1).toNatClampNeg), .inr (.inr 417), .inl r] h1
  rw [o2]
  refine ia_cV hK mk_M_state lk_13_60 dc_law_635 417 [.inl (w.2 1 (x3 + 1).toNatClampNeg), .inl (w.2 1 (x3 + 2).toNatClampNeg), .inl (w.2 1 (x3 + 3).toNatClampNeg), .inl (w.2 1 (x3 + 4).toNatClampNeg), .inl (w.2 1 (x3 + 5).toNatClampNeg)] [.inl r] rfl rfl (Nat.le_of_ble_eq_true rfl) (by decide) rfl (gk_12 g1 pk_417) v2 (gd_nm g1 g2) ?_
  show K 638 [some (.inr (.inr 1)), some (.inr (.inr 64)), some (.inr (.inr 417)), some (.inl x3)] [.inl r, .inl r] h2
  refine ia_go hK ck_law_638_54 ⟨fun _ => ?_, fun c => absurd rfl c⟩
  exact nxt h2 g2 I2
set_option maxHeartbeats 4000000 in
theorem arm_11 {w : ia_O0} {N1 W1 : Nat} {K : ia_K} {L i : Nat} {x3 : Int32} {h : ia_H} (hK : ia_isK 101 mm_law N1 W1 K) (w1 : w.1 1 = (100, L)) (hL : L ≤ 5120) (oc : OCw w) (hx : x3.toInt = i) (hi : i + 10 ≤ L) (hg : gd_ w h) (I : INV (vw h)) (nxt : ∀ u, gd_ w u → INV (vw u) → K 2759 [some (.inr (.inr 1)), some (.inr (.inr 64)), some (.inr (.inr 417)), some (.inl x3)] [] u) : K 643 [some (.inr (.inr 1)), some (.inr (.inr 64)), some (.inr (.inr 417)), some (.inl x3)] [] h := by
  have o1 : ia_i h 1 = w.2 1 := gd_o1 hg
  obtain ⟨r, h1, h2, e1, e2, I2⟩ := j_ice (x1 := (w.2 1 (x3 + 1).toNatClampNeg)) (x2 := (w.2 1 (x3 + 2).toNatClampNeg)) (x3 := (w.2 1 (x3 + 3).toNatClampNeg)) (x4 := (w.2 1 (x3 + 4).toNatClampNeg)) (x5 := (w.2 1 (x3 + 5).toNatClampNeg)) (x6 := (w.2 1 (x3 + 6).toNatClampNeg)) hg oc I
  have v1 := t_I_ice 93 hg e1
  have g1 : gd_ w h1 := g_I_ice hg e1
  have v2 := t_M_ice 88 g1 e2
  have g2 : gd_ w h2 := g_M_ice g1 e2
  have o2 : ia_i h1 1 = w.2 1 := gd_o1 g1
  refine ia_go hK ck_law_643_55 ⟨ld_law hg w1 hL hx hi (j := 1) (by decide) (by decide), ld_law hg w1 hL hx hi (j := 2) (by decide) (by decide), ld_law hg w1 hL hx hi (j := 3) (by decide) (by decide), ld_law hg w1 hL hx hi (j := 4) (by decide) (by decide), ld_law hg w1 hL hx hi (j := 5) (by decide) (by decide), ld_law hg w1 hL hx hi (j := 6) (by decide) (by decide), ?_⟩
  show K 675 [some (.inr (.inr 1)), some (.inr (.inr 64)), some (.inr (.inr 417)), some (.inl x3)] [.inl (ia_i h 1 (x3 + 6).toNatClampNeg), .inl (ia_i h 1 (x3 + 5).toNatClampNeg), .inl (ia_i h 1 (x3 + 4).toNatClampNeg), .inl (ia_i h 1 (x3 + 3).toNatClampNeg), .inl (ia_i h 1 (x3 + 2).toNatClampNeg), .inl (ia_i h 1 (x3 + 1).toNatClampNeg), .inr (.inr 64)] h
  rw [o1]
  refine ia_cV hK mk_I_ice lk_13_61 dc_law_675 64 [.inl (w.2 1 (x3 + 1).toNatClampNeg), .inl (w.2 1 (x3 + 2).toNatClampNeg), .inl (w.2 1 (x3 + 3).toNatClampNeg), .inl (w.2 1 (x3 + 4).toNatClampNeg), .inl (w.2 1 (x3 + 5).toNatClampNeg), .inl (w.2 1 (x3 + 6).toNatClampNeg)] [] rfl rfl (Nat.le_of_ble_eq_true rfl) (by decide) rfl (gk_0 hg pk_64) v1 (gd_nm hg g1) ?_
  show K 678 [some (.inr (.inr 1)), some (.inr (.inr 64)), some (.inr (.inr 417)), some (.inl x3)] [.inl r] h1
  refine ia_go hK ck_law_678_57 ⟨ld_law g1 w1 hL hx hi (j := 1) (by decide) (by decide), ld_law g1 w1 hL hx hi (j := 2) (by decide) (by decide), ld_law g1 w1 hL hx hi (j := 3) (by decide) (by decide), ld_law g1 w1 hL hx hi (j := 4) (by decide) (by decide), ld_law g1 w1 hL hx hi (j := 5) (by decide) (by decide), ld_law g1 w1 hL hx hi (j := 6) (by decide) (by decide), ?_⟩
  show K 710 [some (.inr (.inr 1)), some (.inr (.inr 64)), some (.inr (.inr 417)), some (.inl x3)] [.inl (ia_i h1 1 (x3 + 6).toNatClampNeg), .inl (ia_i h1 1 (x3 + 5).toNatClampNeg), .inl (ia_i h1 1 (x3 + 4).toNatClampNeg), .inl (ia_i h1 1 (x3 + 3).toNatClampNeg), .inl (ia_i h1 1 (x3 + 2).toNatClampNeg), .inl (ia_i h1 1 (x3 + 1).toNatClampNeg), .inr (.inr 417), .inl r] h1
  rw [o2]
  refine ia_cV hK mk_M_ice lk_13_65 dc_law_710 417 [.inl (w.2 1 (x3 + 1).toNatClampNeg), .inl (w.2 1 (x3 + 2).toNatClampNeg), .inl (w.2 1 (x3 + 3).toNatClampNeg), .inl (w.2 1 (x3 + 4).toNatClampNeg), .inl (w.2 1 (x3 + 5).toNatClampNeg), .inl (w.2 1 (x3 + 6).toNatClampNeg)] [.inl r] rfl rfl (Nat.le_of_ble_eq_true rfl) (by decide) rfl (gk_12 g1 pk_417) v2 (gd_nm g1 g2) ?_
  show K 713 [some (.inr (.inr 1)), some (.inr (.inr 64)), some (.inr (.inr 417)), some (.inl x3)] [.inl r, .inl r] h2
  refine ia_go hK ck_law_713_59 ⟨fun _ => ?_, fun c => absurd rfl c⟩
  exact nxt h2 g2 I2
set_option maxHeartbeats 4000000 in
theorem arm_12 {w : ia_O0} {N1 W1 : Nat} {K : ia_K} {L i : Nat} {x3 : Int32} {h : ia_H} (hK : ia_isK 101 mm_law N1 W1 K) (w1 : w.1 1 = (100, L)) (hL : L ≤ 5120) (oc : OCw w) (hx : x3.toInt = i) (hi : i + 10 ≤ L) (hg : gd_ w h) (I : INV (vw h)) (nxt : ∀ u, gd_ w u → INV (vw u) → K 2759 [some (.inr (.inr 1)), some (.inr (.inr 64)), some (.inr (.inr 417)), some (.inl x3)] [] u) : K 718 [some (.inr (.inr 1)), some (.inr (.inr 64)), some (.inr (.inr 417)), some (.inl x3)] [] h := by
  have o1 : ia_i h 1 = w.2 1 := gd_o1 hg
  obtain ⟨r, h1, h2, e1, e2, I2⟩ := j_way (x1 := (w.2 1 (x3 + 1).toNatClampNeg)) (x2 := (w.2 1 (x3 + 2).toNatClampNeg)) (x3 := (w.2 1 (x3 + 3).toNatClampNeg)) (x4 := (w.2 1 (x3 + 4).toNatClampNeg)) (x5 := (w.2 1 (x3 + 5).toNatClampNeg)) (x6 := (w.2 1 (x3 + 6).toNatClampNeg)) (x7 := (w.2 1 (x3 + 7).toNatClampNeg)) (x8 := (w.2 1 (x3 + 8).toNatClampNeg)) (x9 := (w.2 1 (x3 + 9).toNatClampNeg)) hg oc I
  have v1 := t_I_way 93 hg e1
  have g1 : gd_ w h1 := g_I_way hg e1
  have v2 := t_M_way 88 g1 e2
  have g2 : gd_ w h2 := g_M_way g1 e2
  have o2 : ia_i h1 1 = w.2 1 := gd_o1 g1
  refine ia_go hK ck_law_718_60 ⟨ld_law hg w1 hL hx hi (j := 1) (by decide) (by decide), ld_law hg w1 hL hx hi (j := 2) (by decide) (by decide), ld_law hg w1 hL hx hi (j := 3) (by decide) (by decide), ld_law hg w1 hL hx hi (j := 4) (by decide) (by decide), ld_law hg w1 hL hx hi (j := 5) (by decide) (by decide), ld_law hg w1 hL hx hi (j := 6) (by decide) (by decide), ld_law hg w1 hL hx hi (j := 7) (by decide) (by decide), ld_law hg w1 hL hx hi (j := 8) (by decide) (by decide), ld_law hg w1 hL hx hi (j := 9) (by decide) (by decide), ?_⟩
  show K 768 [some (.inr (.inr 1)), some (.inr (.inr 64)), some (.inr (.inr 417)), some (.inl x3)] [.inl (ia_i h 1 (x3 + 9).toNatClampNeg), .inl (ia_i h 1 (x3 + 8).toNatClampNeg), .inl (ia_i h 1 (x3 + 7).toNatClampNeg), .inl (ia_i h 1 (x3 + 6).toNatClampNeg), .inl (ia_i h 1 (x3 + 5).toNatClampNeg), .inl (ia_i h 1 (x3 + 4).toNatClampNeg), .inl (ia_i h 1 (x3 + 3).toNatClampNeg), .inl (ia_i h 1 (x3 + 2).toNatClampNeg), .inl (ia_i h 1 (x3 + 1).toNatClampNeg), .inr (.inr 64)] h
  rw [o1]
  refine ia_cV hK mk_I_way lk_13_66 dc_law_768 64 [.inl (w.2 1 (x3 + 1).toNatClampNeg), .inl (w.2 1 (x3 + 2).toNatClampNeg), .inl (w.2 1 (x3 + 3).toNatClampNeg), .inl (w.2 1 (x3 + 4).toNatClampNeg), .inl (w.2 1 (x3 + 5).toNatClampNeg), .inl (w.2 1 (x3 + 6).toNatClampNeg), .inl (w.2 1 (x3 + 7).toNatClampNeg), .inl (w.2 1 (x3 + 8).toNatClampNeg), .inl (w.2 1 (x3 + 9).toNatClampNeg)] [] rfl rfl (Nat.le_of_ble_eq_true rfl) (by decide) rfl (gk_0 hg pk_64) v1 (gd_nm hg g1) ?_
  show K 771 [some (.inr (.inr 1)), some (.inr (.inr 64)), some (.inr (.inr 417)), some (.inl x3)] [.inl r] h1
  refine ia_go hK ck_law_771_62 ⟨ld_law g1 w1 hL hx hi (j := 1) (by decide) (by decide), ld_law g1 w1 hL hx hi (j := 2) (by decide) (by decide), ld_law g1 w1 hL hx hi (j := 3) (by decide) (by decide), ld_law g1 w1 hL hx hi (j := 4) (by decide) (by decide), ld_law g1 w1 hL hx hi (j := 5) (by decide) (by decide), ld_law g1 w1 hL hx hi (j := 6) (by decide) (by decide), ld_law g1 w1 hL hx hi (j := 7) (by decide) (by decide), ld_law g1 w1 hL hx hi (j := 8) (by decide) (by decide), ld_law g1 w1 hL hx hi (j := 9) (by decide) (by decide), ?_⟩
  show K 821 [some (.inr (.inr 1)), some (.inr (.inr 64)), some (.inr (.inr 417)), some (.inl x3)] [.inl (ia_i h1 1 (x3 + 9).toNatClampNeg), .inl (ia_i h1 1 (x3 + 8).toNatClampNeg), .inl (ia_i h1 1 (x3 + 7).toNatClampNeg), .inl (ia_i h1 1 (x3 + 6).toNatClampNeg), .inl (ia_i h1 1 (x3 + 5).toNatClampNeg), .inl (ia_i h1 1 (x3 + 4).toNatClampNeg), .inl (ia_i h1 1 (x3 + 3).toNatClampNeg), .inl (ia_i h1 1 (x3 + 2).toNatClampNeg), .inl (ia_i h1 1 (x3 + 1).toNatClampNeg), .inr (.inr 417), .inl r] h1
  rw [o2]
  refine ia_cV hK mk_M_way lk_13_70 dc_law_821 417 [.inl (w.2 1 (x3 + 1).toNatClampNeg), .inl (w.2 1 (x3 + 2).toNatClampNeg), .inl (w.2 1 (x3 + 3).toNatClampNeg), .inl (w.2 1 (x3 + 4).toNatClampNeg), .inl (w.2 1 (x3 + 5).toNatClampNeg), .inl (w.2 1 (x3 + 6).toNatClampNeg), .inl (w.2 1 (x3 + 7).toNatClampNeg), .inl (w.2 1 (x3 + 8).toNatClampNeg), .inl (w.2 1 (x3 + 9).toNatClampNeg)] [.inl r] rfl rfl (Nat.le_of_ble_eq_true rfl) (by decide) rfl (gk_12 g1 pk_417) v2 (gd_nm g1 g2) ?_
  show K 824 [some (.inr (.inr 1)), some (.inr (.inr 64)), some (.inr (.inr 417)), some (.inl x3)] [.inl r, .inl r] h2
  refine ia_go hK ck_law_824_64 ⟨fun _ => ?_, fun c => absurd rfl c⟩
  exact nxt h2 g2 I2
set_option maxHeartbeats 4000000 in
theorem arm_13 {w : ia_O0} {N1 W1 : Nat} {K : ia_K} {L i : Nat} {x3 : Int32} {h : ia_H} (hK : ia_isK 101 mm_law N1 W1 K) (w1 : w.1 1 = (100, L)) (hL : L ≤ 5120) (oc : OCw w) (hx : x3.toInt = i) (hi : i + 10 ≤ L) (hg : gd_ w h) (I : INV (vw h)) (nxt : ∀ u, gd_ w u → INV (vw u) → K 2759 [some (.inr (.inr 1)), some (.inr (.inr 64)), some (.inr (.inr 417)), some (.inl x3)] [] u) : K 829 [some (.inr (.inr 1)), some (.inr (.inr 64)), some (.inr (.inr 417)), some (.inl x3)] [] h := by
  have o1 : ia_i h 1 = w.2 1 := gd_o1 hg
  obtain ⟨r, h1, h2, e1, e2, I2⟩ := j_luck (x1 := (w.2 1 (x3 + 1).toNatClampNeg)) (x2 := (w.2 1 (x3 + 2).toNatClampNeg)) (x3 := (w.2 1 (x3 + 3).toNatClampNeg)) (x4 := (w.2 1 (x3 + 4).toNatClampNeg)) (x5 := (w.2 1 (x3 + 5).toNatClampNeg)) (x6 := (w.2 1 (x3 + 6).toNatClampNeg)) (x7 := (w.2 1 (x3 + 7).toNatClampNeg)) hg oc I
  have v1 := t_I_luck 93 hg e1
  have g1 : gd_ w h1 := g_I_luck hg e1
  have v2 := t_M_luck 88 g1 e2
  have g2 : gd_ w h2 := g_M_luck g1 e2
  have o2 : ia_i h1 1 = w.2 1 := gd_o1 g1
  refine ia_go hK ck_law_829_65 ⟨ld_law hg w1 hL hx hi (j := 1) (by decide) (by decide), ld_law hg w1 hL hx hi (j := 2) (by decide) (by decide), ld_law hg w1 hL hx hi (j := 3) (by decide) (by decide), ld_law hg w1 hL hx hi (j := 4) (by decide) (by decide), ld_law hg w1 hL hx hi (j := 5) (by decide) (by decide), ld_law hg w1 hL hx hi (j := 6) (by decide) (by decide), ld_law hg w1 hL hx hi (j := 7) (by decide) (by decide), ?_⟩
  show K 867 [some (.inr (.inr 1)), some (.inr (.inr 64)), some (.inr (.inr 417)), some (.inl x3)] [.inl (ia_i h 1 (x3 + 7).toNatClampNeg), .inl (ia_i h 1 (x3 + 6).toNatClampNeg), .inl (ia_i h 1 (x3 + 5).toNatClampNeg), .inl (ia_i h 1 (x3 + 4).toNatClampNeg), .inl (ia_i h 1 (x3 + 3).toNatClampNeg), .inl (ia_i h 1 (x3 + 2).toNatClampNeg), .inl (ia_i h 1 (x3 + 1).toNatClampNeg), .inr (.inr 64)] h
  rw [o1]
  refine ia_cV hK mk_I_luck lk_13_71 dc_law_867 64 [.inl (w.2 1 (x3 + 1).toNatClampNeg), .inl (w.2 1 (x3 + 2).toNatClampNeg), .inl (w.2 1 (x3 + 3).toNatClampNeg), .inl (w.2 1 (x3 + 4).toNatClampNeg), .inl (w.2 1 (x3 + 5).toNatClampNeg), .inl (w.2 1 (x3 + 6).toNatClampNeg), .inl (w.2 1 (x3 + 7).toNatClampNeg)] [] rfl rfl (Nat.le_of_ble_eq_true rfl) (by decide) rfl (gk_0 hg pk_64) v1 (gd_nm hg g1) ?_
  show K 870 [some (.inr (.inr 1)), some (.inr (.inr 64)), some (.inr (.inr 417)), some (.inl x3)] [.inr (.inl r)] h1
  refine ia_go hK ck_law_870_67 ⟨ld_law g1 w1 hL hx hi (j := 1) (by decide) (by decide), ld_law g1 w1 hL hx hi (j := 2) (by decide) (by decide), ld_law g1 w1 hL hx hi (j := 3) (by decide) (by decide), ld_law g1 w1 hL hx hi (j := 4) (by decide) (by decide), ld_law g1 w1 hL hx hi (j := 5) (by decide) (by decide), ld_law g1 w1 hL hx hi (j := 6) (by decide) (by decide), ld_law g1 w1 hL hx hi (j := 7) (by decide) (by decide), ?_⟩
  show K 908 [some (.inr (.inr 1)), some (.inr (.inr 64)), some (.inr (.inr 417)), some (.inl x3)] [.inl (ia_i h1 1 (x3 + 7).toNatClampNeg), .inl (ia_i h1 1 (x3 + 6).toNatClampNeg), .inl (ia_i h1 1 (x3 + 5).toNatClampNeg), .inl (ia_i h1 1 (x3 + 4).toNatClampNeg), .inl (ia_i h1 1 (x3 + 3).toNatClampNeg), .inl (ia_i h1 1 (x3 + 2).toNatClampNeg), .inl (ia_i h1 1 (x3 + 1).toNatClampNeg), .inr (.inr 417), .inr (.inl r)] h1
  rw [o2]
  refine ia_cV hK mk_M_luck lk_13_75 dc_law_908 417 [.inl (w.2 1 (x3 + 1).toNatClampNeg), .inl (w.2 1 (x3 + 2).toNatClampNeg), .inl (w.2 1 (x3 + 3).toNatClampNeg), .inl (w.2 1 (x3 + 4).toNatClampNeg), .inl (w.2 1 (x3 + 5).toNatClampNeg), .inl (w.2 1 (x3 + 6).toNatClampNeg), .inl (w.2 1 (x3 + 7).toNatClampNeg)] [.inr (.inl r)] rfl rfl (Nat.le_of_ble_eq_true rfl) (by decide) rfl (gk_12 g1 pk_417) v2 (gd_nm g1 g2) ?_
  show K 911 [some (.inr (.inr 1)), some (.inr (.inr 64)), some (.inr (.inr 417)), some (.inl x3)] [.inr (.inl r), .inr (.inl r)] h2
  refine ia_go hK ck_law_911_69 ⟨fun _ => ?_, fun c => absurd (lgc r) c⟩
  exact nxt h2 g2 I2
set_option maxHeartbeats 4000000 in
theorem arm_14 {w : ia_O0} {N1 W1 : Nat} {K : ia_K} {L i : Nat} {x3 : Int32} {h : ia_H} (hK : ia_isK 101 mm_law N1 W1 K) (w1 : w.1 1 = (100, L)) (hL : L ≤ 5120) (oc : OCw w) (hx : x3.toInt = i) (hi : i + 10 ≤ L) (hg : gd_ w h) (I : INV (vw h)) (nxt : ∀ u, gd_ w u → INV (vw u) → K 2759 [some (.inr (.inr 1)), some (.inr (.inr 64)), some (.inr (.inr 417)), some (.inl x3)] [] u) : K 917 [some (.inr (.inr 1)), some (.inr (.inr 64)), some (.inr (.inr 417)), some (.inl x3)] [] h := by
  have o1 : ia_i h 1 = w.2 1 := gd_o1 hg
  obtain ⟨r, h1, h2, e1, e2, I2⟩ := j_most (x1 := (w.2 1 (x3 + 1).toNatClampNeg)) (x2 := (w.2 1 (x3 + 2).toNatClampNeg)) (x3 := (w.2 1 (x3 + 3).toNatClampNeg)) (x4 := (w.2 1 (x3 + 4).toNatClampNeg)) (x5 := (w.2 1 (x3 + 5).toNatClampNeg)) (x6 := (w.2 1 (x3 + 6).toNatClampNeg)) hg oc I
  have v1 := t_I_most 93 hg e1
  have g1 : gd_ w h1 := g_I_most hg e1
  have v2 := t_M_most 88 g1 e2
  have g2 : gd_ w h2 := g_M_most g1 e2
  have o2 : ia_i h1 1 = w.2 1 := gd_o1 g1
  refine ia_go hK ck_law_917_70 ⟨ld_law hg w1 hL hx hi (j := 1) (by decide) (by decide), ld_law hg w1 hL hx hi (j := 2) (by decide) (by decide), ld_law hg w1 hL hx hi (j := 3) (by decide) (by decide), ld_law hg w1 hL hx hi (j := 4) (by decide) (by decide), ld_law hg w1 hL hx hi (j := 5) (by decide) (by decide), ld_law hg w1 hL hx hi (j := 6) (by decide) (by decide), ?_⟩
  show K 949 [some (.inr (.inr 1)), some (.inr (.inr 64)), some (.inr (.inr 417)), some (.inl x3)] [.inl (ia_i h 1 (x3 + 6).toNatClampNeg), .inl (ia_i h 1 (x3 + 5).toNatClampNeg), .inl (ia_i h 1 (x3 + 4).toNatClampNeg), .inl (ia_i h 1 (x3 + 3).toNatClampNeg), .inl (ia_i h 1 (x3 + 2).toNatClampNeg), .inl (ia_i h 1 (x3 + 1).toNatClampNeg), .inr (.inr 64)] h
  rw [o1]
  refine ia_cV hK mk_I_most lk_13_76 dc_law_949 64 [.inl (w.2 1 (x3 + 1).toNatClampNeg), .inl (w.2 1 (x3 + 2).toNatClampNeg), .inl (w.2 1 (x3 + 3).toNatClampNeg), .inl (w.2 1 (x3 + 4).toNatClampNeg), .inl (w.2 1 (x3 + 5).toNatClampNeg), .inl (w.2 1 (x3 + 6).toNatClampNeg)] [] rfl rfl (Nat.le_of_ble_eq_true rfl) (by decide) rfl (gk_0 hg pk_64) v1 (gd_nm hg g1) ?_
  show K 952 [some (.inr (.inr 1)), some (.inr (.inr 64)), some (.inr (.inr 417)), some (.inl x3)] [.inl r] h1
  refine ia_go hK ck_law_952_72 ⟨ld_law g1 w1 hL hx hi (j := 1) (by decide) (by decide), ld_law g1 w1 hL hx hi (j := 2) (by decide) (by decide), ld_law g1 w1 hL hx hi (j := 3) (by decide) (by decide), ld_law g1 w1 hL hx hi (j := 4) (by decide) (by decide), ld_law g1 w1 hL hx hi (j := 5) (by decide) (by decide), ld_law g1 w1 hL hx hi (j := 6) (by decide) (by decide), ?_⟩
  show K 984 [some (.inr (.inr 1)), some (.inr (.inr 64)), some (.inr (.inr 417)), some (.inl x3)] [.inl (ia_i h1 1 (x3 + 6).toNatClampNeg), .inl (ia_i h1 1 (x3 + 5).toNatClampNeg), .inl (ia_i h1 1 (x3 + 4).toNatClampNeg), .inl (ia_i h1 1 (x3 + 3).toNatClampNeg), .inl (ia_i h1 1 (x3 + 2).toNatClampNeg), .inl (ia_i h1 1 (x3 + 1).toNatClampNeg), .inr (.inr 417), .inl r] h1
  rw [o2]
  refine ia_cV hK mk_M_most lk_13_79 dc_law_984 417 [.inl (w.2 1 (x3 + 1).toNatClampNeg), .inl (w.2 1 (x3 + 2).toNatClampNeg), .inl (w.2 1 (x3 + 3).toNatClampNeg), .inl (w.2 1 (x3 + 4).toNatClampNeg), .inl (w.2 1 (x3 + 5).toNatClampNeg), .inl (w.2 1 (x3 + 6).toNatClampNeg)] [.inl r] rfl rfl (Nat.le_of_ble_eq_true rfl) (by decide) rfl (gk_12 g1 pk_417) v2 (gd_nm g1 g2) ?_
  show K 987 [some (.inr (.inr 1)), some (.inr (.inr 64)), some (.inr (.inr 417)), some (.inl x3)] [.inl r, .inl r] h2
  refine ia_go hK ck_law_987_74 ⟨fun _ => ?_, fun c => absurd rfl c⟩
  exact nxt h2 g2 I2
set_option maxHeartbeats 4000000 in
theorem arm_15 {w : ia_O0} {N1 W1 : Nat} {K : ia_K} {L i : Nat} {x3 : Int32} {h : ia_H} (hK : ia_isK 101 mm_law N1 W1 K) (w1 : w.1 1 = (100, L)) (hL : L ≤ 5120) (oc : OCw w) (hx : x3.toInt = i) (hi : i + 10 ≤ L) (hg : gd_ w h) (I : INV (vw h)) (nxt : ∀ u, gd_ w u → INV (vw u) → K 2759 [some (.inr (.inr 1)), some (.inr (.inr 64)), some (.inr (.inr 417)), some (.inl x3)] [] u) : K 992 [some (.inr (.inr 1)), some (.inr (.inr 64)), some (.inr (.inr 417)), some (.inl x3)] [] h := by
  have o1 : ia_i h 1 = w.2 1 := gd_o1 hg
  obtain ⟨r, h1, h2, e1, e2, I2⟩ := j_from (x1 := (w.2 1 (x3 + 1).toNatClampNeg)) (x2 := (w.2 1 (x3 + 2).toNatClampNeg)) (x3 := (w.2 1 (x3 + 3).toNatClampNeg)) (x4 := (w.2 1 (x3 + 4).toNatClampNeg)) (x5 := (w.2 1 (x3 + 5).toNatClampNeg)) (x6 := (w.2 1 (x3 + 6).toNatClampNeg)) hg oc I
  have v1 := t_I_from 93 hg e1
  have g1 : gd_ w h1 := g_I_from hg e1
  have v2 := t_M_from 88 g1 e2
  have g2 : gd_ w h2 := g_M_from g1 e2
  have o2 : ia_i h1 1 = w.2 1 := gd_o1 g1
  refine ia_go hK ck_law_992_75 ⟨ld_law hg w1 hL hx hi (j := 1) (by decide) (by decide), ld_law hg w1 hL hx hi (j := 2) (by decide) (by decide), ld_law hg w1 hL hx hi (j := 3) (by decide) (by decide), ld_law hg w1 hL hx hi (j := 4) (by decide) (by decide), ld_law hg w1 hL hx hi (j := 5) (by decide) (by decide), ld_law hg w1 hL hx hi (j := 6) (by decide) (by decide), ?_⟩
  show K 1024 [some (.inr (.inr 1)), some (.inr (.inr 64)), some (.inr (.inr 417)), some (.inl x3)] [.inl (ia_i h 1 (x3 + 6).toNatClampNeg), .inl (ia_i h 1 (x3 + 5).toNatClampNeg), .inl (ia_i h 1 (x3 + 4).toNatClampNeg), .inl (ia_i h 1 (x3 + 3).toNatClampNeg), .inl (ia_i h 1 (x3 + 2).toNatClampNeg), .inl (ia_i h 1 (x3 + 1).toNatClampNeg), .inr (.inr 64)] h
  rw [o1]
  refine ia_cV hK mk_I_from lk_13_80 dc_law_1024 64 [.inl (w.2 1 (x3 + 1).toNatClampNeg), .inl (w.2 1 (x3 + 2).toNatClampNeg), .inl (w.2 1 (x3 + 3).toNatClampNeg), .inl (w.2 1 (x3 + 4).toNatClampNeg), .inl (w.2 1 (x3 + 5).toNatClampNeg), .inl (w.2 1 (x3 + 6).toNatClampNeg)] [] rfl rfl (Nat.le_of_ble_eq_true rfl) (by decide) rfl (gk_0 hg pk_64) v1 (gd_nm hg g1) ?_
  show K 1027 [some (.inr (.inr 1)), some (.inr (.inr 64)), some (.inr (.inr 417)), some (.inl x3)] [.inr (.inl r)] h1
  refine ia_go hK ck_law_1027_77 ⟨ld_law g1 w1 hL hx hi (j := 1) (by decide) (by decide), ld_law g1 w1 hL hx hi (j := 2) (by decide) (by decide), ld_law g1 w1 hL hx hi (j := 3) (by decide) (by decide), ld_law g1 w1 hL hx hi (j := 4) (by decide) (by decide), ld_law g1 w1 hL hx hi (j := 5) (by decide) (by decide), ld_law g1 w1 hL hx hi (j := 6) (by decide) (by decide), ?_⟩
  show K 1059 [some (.inr (.inr 1)), some (.inr (.inr 64)), some (.inr (.inr 417)), some (.inl x3)] [.inl (ia_i h1 1 (x3 + 6).toNatClampNeg), .inl (ia_i h1 1 (x3 + 5).toNatClampNeg), .inl (ia_i h1 1 (x3 + 4).toNatClampNeg), .inl (ia_i h1 1 (x3 + 3).toNatClampNeg), .inl (ia_i h1 1 (x3 + 2).toNatClampNeg), .inl (ia_i h1 1 (x3 + 1).toNatClampNeg), .inr (.inr 417), .inr (.inl r)] h1
  rw [o2]
  refine ia_cV hK mk_M_from lk_13_84 dc_law_1059 417 [.inl (w.2 1 (x3 + 1).toNatClampNeg), .inl (w.2 1 (x3 + 2).toNatClampNeg), .inl (w.2 1 (x3 + 3).toNatClampNeg), .inl (w.2 1 (x3 + 4).toNatClampNeg), .inl (w.2 1 (x3 + 5).toNatClampNeg), .inl (w.2 1 (x3 + 6).toNatClampNeg)] [.inr (.inl r)] rfl rfl (Nat.le_of_ble_eq_true rfl) (by decide) rfl (gk_12 g1 pk_417) v2 (gd_nm g1 g2) ?_
  show K 1062 [some (.inr (.inr 1)), some (.inr (.inr 64)), some (.inr (.inr 417)), some (.inl x3)] [.inr (.inl r), .inr (.inl r)] h2
  refine ia_go hK ck_law_1062_79 ⟨fun _ => ?_, fun c => absurd (lgc r) c⟩
  exact nxt h2 g2 I2
set_option maxHeartbeats 4000000 in
theorem arm_16 {w : ia_O0} {N1 W1 : Nat} {K : ia_K} {L i : Nat} {x3 : Int32} {h : ia_H} (hK : ia_isK 101 mm_law N1 W1 K) (w1 : w.1 1 = (100, L)) (hL : L ≤ 5120) (oc : OCw w) (hx : x3.toInt = i) (hi : i + 10 ≤ L) (hg : gd_ w h) (I : INV (vw h)) (nxt : ∀ u, gd_ w u → INV (vw u) → K 2759 [some (.inr (.inr 1)), some (.inr (.inr 64)), some (.inr (.inr 417)), some (.inl x3)] [] u) : K 1068 [some (.inr (.inr 1)), some (.inr (.inr 64)), some (.inr (.inr 417)), some (.inl x3)] [] h := by
  have o1 : ia_i h 1 = w.2 1 := gd_o1 hg
  obtain ⟨r, h1, h2, e1, e2, I2⟩ := j_part (x1 := (w.2 1 (x3 + 1).toNatClampNeg)) (x2 := (w.2 1 (x3 + 2).toNatClampNeg)) (x3 := (w.2 1 (x3 + 3).toNatClampNeg)) (x4 := (w.2 1 (x3 + 4).toNatClampNeg)) (x5 := (w.2 1 (x3 + 5).toNatClampNeg)) (x6 := (zb (w.2 1 (x3 + 6).toNatClampNeg))) hg oc I
  have v1 := t_I_part 93 hg e1
  have g1 : gd_ w h1 := g_I_part hg e1
  have v2 := t_M_part 88 g1 e2
  have g2 : gd_ w h2 := g_M_part g1 e2
  have o2 : ia_i h1 1 = w.2 1 := gd_o1 g1
  refine ia_go hK ck_law_1068_80 ⟨ld_law hg w1 hL hx hi (j := 1) (by decide) (by decide), ld_law hg w1 hL hx hi (j := 2) (by decide) (by decide), ld_law hg w1 hL hx hi (j := 3) (by decide) (by decide), ld_law hg w1 hL hx hi (j := 4) (by decide) (by decide), ld_law hg w1 hL hx hi (j := 5) (by decide) (by decide), ld_law hg w1 hL hx hi (j := 6) (by decide) (by decide), ?_⟩
  show K 1100 [some (.inr (.inr 1)), some (.inr (.inr 64)), some (.inr (.inr 417)), some (.inl x3)] [.inl (ia_i h 1 (x3 + 6).toNatClampNeg), .inl (ia_i h 1 (x3 + 5).toNatClampNeg), .inl (ia_i h 1 (x3 + 4).toNatClampNeg), .inl (ia_i h 1 (x3 + 3).toNatClampNeg), .inl (ia_i h 1 (x3 + 2).toNatClampNeg), .inl (ia_i h 1 (x3 + 1).toNatClampNeg), .inr (.inr 64)] h
  rw [o1]
  have tail1 : K 1108 [some (.inr (.inr 1)), some (.inr (.inr 64)), some (.inr (.inr 417)), some (.inl x3)] [.inl (zb (w.2 1 (x3 + 6).toNatClampNeg)), .inl (w.2 1 (x3 + 5).toNatClampNeg), .inl (w.2 1 (x3 + 4).toNatClampNeg), .inl (w.2 1 (x3 + 3).toNatClampNeg), .inl (w.2 1 (x3 + 2).toNatClampNeg), .inl (w.2 1 (x3 + 1).toNatClampNeg), .inr (.inr 64)] h := by
    refine ia_cV hK mk_I_part lk_13_85 dc_law_1108 64 [.inl (w.2 1 (x3 + 1).toNatClampNeg), .inl (w.2 1 (x3 + 2).toNatClampNeg), .inl (w.2 1 (x3 + 3).toNatClampNeg), .inl (w.2 1 (x3 + 4).toNatClampNeg), .inl (w.2 1 (x3 + 5).toNatClampNeg), .inl (zb (w.2 1 (x3 + 6).toNatClampNeg))] [] rfl rfl (Nat.le_of_ble_eq_true rfl) (by decide) rfl (gk_0 hg pk_64) v1 (gd_nm hg g1) ?_
    show K 1111 [some (.inr (.inr 1)), some (.inr (.inr 64)), some (.inr (.inr 417)), some (.inl x3)] [.inr (.inl r)] h1
    refine ia_go hK ck_law_1111_85 ⟨ld_law g1 w1 hL hx hi (j := 1) (by decide) (by decide), ld_law g1 w1 hL hx hi (j := 2) (by decide) (by decide), ld_law g1 w1 hL hx hi (j := 3) (by decide) (by decide), ld_law g1 w1 hL hx hi (j := 4) (by decide) (by decide), ld_law g1 w1 hL hx hi (j := 5) (by decide) (by decide), ld_law g1 w1 hL hx hi (j := 6) (by decide) (by decide), ?_⟩
    show K 1143 [some (.inr (.inr 1)), some (.inr (.inr 64)), some (.inr (.inr 417)), some (.inl x3)] [.inl (ia_i h1 1 (x3 + 6).toNatClampNeg), .inl (ia_i h1 1 (x3 + 5).toNatClampNeg), .inl (ia_i h1 1 (x3 + 4).toNatClampNeg), .inl (ia_i h1 1 (x3 + 3).toNatClampNeg), .inl (ia_i h1 1 (x3 + 2).toNatClampNeg), .inl (ia_i h1 1 (x3 + 1).toNatClampNeg), .inr (.inr 417), .inr (.inl r)] h1
    rw [o2]
    have tail2 : K 1151 [some (.inr (.inr 1)), some (.inr (.inr 64)), some (.inr (.inr 417)), some (.inl x3)] [.inl (zb (w.2 1 (x3 + 6).toNatClampNeg)), .inl (w.2 1 (x3 + 5).toNatClampNeg), .inl (w.2 1 (x3 + 4).toNatClampNeg), .inl (w.2 1 (x3 + 3).toNatClampNeg), .inl (w.2 1 (x3 + 2).toNatClampNeg), .inl (w.2 1 (x3 + 1).toNatClampNeg), .inr (.inr 417), .inr (.inl r)] h1 := by
      refine ia_cV hK mk_M_part lk_13_89 dc_law_1151 417 [.inl (w.2 1 (x3 + 1).toNatClampNeg), .inl (w.2 1 (x3 + 2).toNatClampNeg), .inl (w.2 1 (x3 + 3).toNatClampNeg), .inl (w.2 1 (x3 + 4).toNatClampNeg), .inl (w.2 1 (x3 + 5).toNatClampNeg), .inl (zb (w.2 1 (x3 + 6).toNatClampNeg))] [.inr (.inl r)] rfl rfl (Nat.le_of_ble_eq_true rfl) (by decide) rfl (gk_12 g1 pk_417) v2 (gd_nm g1 g2) ?_
      show K 1154 [some (.inr (.inr 1)), some (.inr (.inr 64)), some (.inr (.inr 417)), some (.inl x3)] [.inr (.inl r), .inr (.inl r)] h2
      refine ia_go hK ck_law_1154_90 ⟨fun _ => ?_, fun c => absurd (lgc r) c⟩
      exact nxt h2 g2 I2
    refine ia_go hK ck_law_1143_86 ⟨fun c => ?_, fun c => ?_⟩
    · show K 1150 [some (.inr (.inr 1)), some (.inr (.inr 64)), some (.inr (.inr 417)), some (.inl x3)] [.inl (w.2 1 (x3 + 5).toNatClampNeg), .inl (w.2 1 (x3 + 4).toNatClampNeg), .inl (w.2 1 (x3 + 3).toNatClampNeg), .inl (w.2 1 (x3 + 2).toNatClampNeg), .inl (w.2 1 (x3 + 1).toNatClampNeg), .inr (.inr 417), .inr (.inl r)] h1
      refine ia_go hK ck_law_1150_88 ?_
      show K 1151 [some (.inr (.inr 1)), some (.inr (.inr 64)), some (.inr (.inr 417)), some (.inl x3)] [.inl 0, .inl (w.2 1 (x3 + 5).toNatClampNeg), .inl (w.2 1 (x3 + 4).toNatClampNeg), .inl (w.2 1 (x3 + 3).toNatClampNeg), .inl (w.2 1 (x3 + 2).toNatClampNeg), .inl (w.2 1 (x3 + 1).toNatClampNeg), .inr (.inr 417), .inr (.inl r)] h1
      rw [zb_0 c] at tail2
      exact tail2
    · show K 1146 [some (.inr (.inr 1)), some (.inr (.inr 64)), some (.inr (.inr 417)), some (.inl x3)] [.inl (w.2 1 (x3 + 5).toNatClampNeg), .inl (w.2 1 (x3 + 4).toNatClampNeg), .inl (w.2 1 (x3 + 3).toNatClampNeg), .inl (w.2 1 (x3 + 2).toNatClampNeg), .inl (w.2 1 (x3 + 1).toNatClampNeg), .inr (.inr 417), .inr (.inl r)] h1
      refine ia_go hK ck_law_1146_87 ?_
      show K 1151 [some (.inr (.inr 1)), some (.inr (.inr 64)), some (.inr (.inr 417)), some (.inl x3)] [.inl 1, .inl (w.2 1 (x3 + 5).toNatClampNeg), .inl (w.2 1 (x3 + 4).toNatClampNeg), .inl (w.2 1 (x3 + 3).toNatClampNeg), .inl (w.2 1 (x3 + 2).toNatClampNeg), .inl (w.2 1 (x3 + 1).toNatClampNeg), .inr (.inr 417), .inr (.inl r)] h1
      rw [zb_1 c] at tail2
      exact tail2
  refine ia_go hK ck_law_1100_81 ⟨fun c => ?_, fun c => ?_⟩
  · show K 1107 [some (.inr (.inr 1)), some (.inr (.inr 64)), some (.inr (.inr 417)), some (.inl x3)] [.inl (w.2 1 (x3 + 5).toNatClampNeg), .inl (w.2 1 (x3 + 4).toNatClampNeg), .inl (w.2 1 (x3 + 3).toNatClampNeg), .inl (w.2 1 (x3 + 2).toNatClampNeg), .inl (w.2 1 (x3 + 1).toNatClampNeg), .inr (.inr 64)] h
    refine ia_go hK ck_law_1107_83 ?_
    show K 1108 [some (.inr (.inr 1)), some (.inr (.inr 64)), some (.inr (.inr 417)), some (.inl x3)] [.inl 0, .inl (w.2 1 (x3 + 5).toNatClampNeg), .inl (w.2 1 (x3 + 4).toNatClampNeg), .inl (w.2 1 (x3 + 3).toNatClampNeg), .inl (w.2 1 (x3 + 2).toNatClampNeg), .inl (w.2 1 (x3 + 1).toNatClampNeg), .inr (.inr 64)] h
    rw [zb_0 c] at tail1
    exact tail1
  · show K 1103 [some (.inr (.inr 1)), some (.inr (.inr 64)), some (.inr (.inr 417)), some (.inl x3)] [.inl (w.2 1 (x3 + 5).toNatClampNeg), .inl (w.2 1 (x3 + 4).toNatClampNeg), .inl (w.2 1 (x3 + 3).toNatClampNeg), .inl (w.2 1 (x3 + 2).toNatClampNeg), .inl (w.2 1 (x3 + 1).toNatClampNeg), .inr (.inr 64)] h
    refine ia_go hK ck_law_1103_82 ?_
    show K 1108 [some (.inr (.inr 1)), some (.inr (.inr 64)), some (.inr (.inr 417)), some (.inl x3)] [.inl 1, .inl (w.2 1 (x3 + 5).toNatClampNeg), .inl (w.2 1 (x3 + 4).toNatClampNeg), .inl (w.2 1 (x3 + 3).toNatClampNeg), .inl (w.2 1 (x3 + 2).toNatClampNeg), .inl (w.2 1 (x3 + 1).toNatClampNeg), .inr (.inr 64)] h
    rw [zb_1 c] at tail1
    exact tail1
set_option maxHeartbeats 4000000 in
theorem arm_17 {w : ia_O0} {N1 W1 : Nat} {K : ia_K} {L i : Nat} {x3 : Int32} {h : ia_H} (hK : ia_isK 101 mm_law N1 W1 K) (w1 : w.1 1 = (100, L)) (hL : L ≤ 5120) (oc : OCw w) (hx : x3.toInt = i) (hi : i + 10 ≤ L) (hg : gd_ w h) (I : INV (vw h)) (nxt : ∀ u, gd_ w u → INV (vw u) → K 2759 [some (.inr (.inr 1)), some (.inr (.inr 64)), some (.inr (.inr 417)), some (.inl x3)] [] u) : K 1160 [some (.inr (.inr 1)), some (.inr (.inr 64)), some (.inr (.inr 417)), some (.inl x3)] [] h := by
  have o1 : ia_i h 1 = w.2 1 := gd_o1 hg
  obtain ⟨r, h1, h2, e1, e2, I2⟩ := j_holds (x1 := (w.2 1 (x3 + 1).toNatClampNeg)) (x2 := (w.2 1 (x3 + 2).toNatClampNeg)) (x3 := (w.2 1 (x3 + 3).toNatClampNeg)) (x4 := (w.2 1 (x3 + 4).toNatClampNeg)) (x5 := (w.2 1 (x3 + 5).toNatClampNeg)) hg oc I
  have v1 := t_I_holds 93 hg e1
  have g1 : gd_ w h1 := g_I_holds hg e1
  have v2 := t_M_holds 88 g1 e2
  have g2 : gd_ w h2 := g_M_holds g1 e2
  have o2 : ia_i h1 1 = w.2 1 := gd_o1 g1
  refine ia_go hK ck_law_1160_91 ⟨ld_law hg w1 hL hx hi (j := 1) (by decide) (by decide), ld_law hg w1 hL hx hi (j := 2) (by decide) (by decide), ld_law hg w1 hL hx hi (j := 3) (by decide) (by decide), ld_law hg w1 hL hx hi (j := 4) (by decide) (by decide), ld_law hg w1 hL hx hi (j := 5) (by decide) (by decide), ?_⟩
  show K 1186 [some (.inr (.inr 1)), some (.inr (.inr 64)), some (.inr (.inr 417)), some (.inl x3)] [.inl (ia_i h 1 (x3 + 5).toNatClampNeg), .inl (ia_i h 1 (x3 + 4).toNatClampNeg), .inl (ia_i h 1 (x3 + 3).toNatClampNeg), .inl (ia_i h 1 (x3 + 2).toNatClampNeg), .inl (ia_i h 1 (x3 + 1).toNatClampNeg), .inr (.inr 64)] h
  rw [o1]
  refine ia_cV hK mk_I_holds lk_13_90 dc_law_1186 64 [.inl (w.2 1 (x3 + 1).toNatClampNeg), .inl (w.2 1 (x3 + 2).toNatClampNeg), .inl (w.2 1 (x3 + 3).toNatClampNeg), .inl (w.2 1 (x3 + 4).toNatClampNeg), .inl (w.2 1 (x3 + 5).toNatClampNeg)] [] rfl rfl (Nat.le_of_ble_eq_true rfl) (by decide) rfl (gk_0 hg pk_64) v1 (gd_nm hg g1) ?_
  show K 1189 [some (.inr (.inr 1)), some (.inr (.inr 64)), some (.inr (.inr 417)), some (.inl x3)] [.inl r] h1
  refine ia_go hK ck_law_1189_93 ⟨ld_law g1 w1 hL hx hi (j := 1) (by decide) (by decide), ld_law g1 w1 hL hx hi (j := 2) (by decide) (by decide), ld_law g1 w1 hL hx hi (j := 3) (by decide) (by decide), ld_law g1 w1 hL hx hi (j := 4) (by decide) (by decide), ld_law g1 w1 hL hx hi (j := 5) (by decide) (by decide), ?_⟩
  show K 1215 [some (.inr (.inr 1)), some (.inr (.inr 64)), some (.inr (.inr 417)), some (.inl x3)] [.inl (ia_i h1 1 (x3 + 5).toNatClampNeg), .inl (ia_i h1 1 (x3 + 4).toNatClampNeg), .inl (ia_i h1 1 (x3 + 3).toNatClampNeg), .inl (ia_i h1 1 (x3 + 2).toNatClampNeg), .inl (ia_i h1 1 (x3 + 1).toNatClampNeg), .inr (.inr 417), .inl r] h1
  rw [o2]
  refine ia_cV hK mk_M_holds lk_13_93 dc_law_1215 417 [.inl (w.2 1 (x3 + 1).toNatClampNeg), .inl (w.2 1 (x3 + 2).toNatClampNeg), .inl (w.2 1 (x3 + 3).toNatClampNeg), .inl (w.2 1 (x3 + 4).toNatClampNeg), .inl (w.2 1 (x3 + 5).toNatClampNeg)] [.inl r] rfl rfl (Nat.le_of_ble_eq_true rfl) (by decide) rfl (gk_12 g1 pk_417) v2 (gd_nm g1 g2) ?_
  show K 1218 [some (.inr (.inr 1)), some (.inr (.inr 64)), some (.inr (.inr 417)), some (.inl x3)] [.inl r, .inl r] h2
  refine ia_go hK ck_law_1218_95 ⟨fun _ => ?_, fun c => absurd rfl c⟩
  exact nxt h2 g2 I2
set_option maxHeartbeats 4000000 in
theorem arm_18 {w : ia_O0} {N1 W1 : Nat} {K : ia_K} {L i : Nat} {x3 : Int32} {h : ia_H} (hK : ia_isK 101 mm_law N1 W1 K) (w1 : w.1 1 = (100, L)) (hL : L ≤ 5120) (oc : OCw w) (hx : x3.toInt = i) (hi : i + 10 ≤ L) (hg : gd_ w h) (I : INV (vw h)) (nxt : ∀ u, gd_ w u → INV (vw u) → K 2759 [some (.inr (.inr 1)), some (.inr (.inr 64)), some (.inr (.inr 417)), some (.inl x3)] [] u) : K 1223 [some (.inr (.inr 1)), some (.inr (.inr 64)), some (.inr (.inr 417)), some (.inl x3)] [] h := by
  have o1 : ia_i h 1 = w.2 1 := gd_o1 hg
  obtain ⟨r, h1, h2, e1, e2, I2⟩ := j_fair (x1 := (w.2 1 (x3 + 1).toNatClampNeg)) (x2 := (w.2 1 (x3 + 2).toNatClampNeg)) (x3 := (w.2 1 (x3 + 3).toNatClampNeg)) (x4 := (w.2 1 (x3 + 4).toNatClampNeg)) (x5 := (w.2 1 (x3 + 5).toNatClampNeg)) (x6 := (w.2 1 (x3 + 6).toNatClampNeg)) (x7 := (w.2 1 (x3 + 7).toNatClampNeg)) (x8 := (zb (w.2 1 (x3 + 8).toNatClampNeg))) hg oc I
  have v1 := t_I_fair 93 hg e1
  have g1 : gd_ w h1 := g_I_fair hg e1
  have v2 := t_M_fair 89 g1 e2
  have g2 : gd_ w h2 := g_M_fair g1 e2
  have o2 : ia_i h1 1 = w.2 1 := gd_o1 g1
  refine ia_go hK ck_law_1223_96 ⟨ld_law hg w1 hL hx hi (j := 1) (by decide) (by decide), ld_law hg w1 hL hx hi (j := 2) (by decide) (by decide), ld_law hg w1 hL hx hi (j := 3) (by decide) (by decide), ld_law hg w1 hL hx hi (j := 4) (by decide) (by decide), ld_law hg w1 hL hx hi (j := 5) (by decide) (by decide), ld_law hg w1 hL hx hi (j := 6) (by decide) (by decide), ld_law hg w1 hL hx hi (j := 7) (by decide) (by decide), ld_law hg w1 hL hx hi (j := 8) (by decide) (by decide), ?_⟩
  show K 1267 [some (.inr (.inr 1)), some (.inr (.inr 64)), some (.inr (.inr 417)), some (.inl x3)] [.inl (ia_i h 1 (x3 + 8).toNatClampNeg), .inl (ia_i h 1 (x3 + 7).toNatClampNeg), .inl (ia_i h 1 (x3 + 6).toNatClampNeg), .inl (ia_i h 1 (x3 + 5).toNatClampNeg), .inl (ia_i h 1 (x3 + 4).toNatClampNeg), .inl (ia_i h 1 (x3 + 3).toNatClampNeg), .inl (ia_i h 1 (x3 + 2).toNatClampNeg), .inl (ia_i h 1 (x3 + 1).toNatClampNeg), .inr (.inr 64)] h
  rw [o1]
  have tail1 : K 1275 [some (.inr (.inr 1)), some (.inr (.inr 64)), some (.inr (.inr 417)), some (.inl x3)] [.inl (zb (w.2 1 (x3 + 8).toNatClampNeg)), .inl (w.2 1 (x3 + 7).toNatClampNeg), .inl (w.2 1 (x3 + 6).toNatClampNeg), .inl (w.2 1 (x3 + 5).toNatClampNeg), .inl (w.2 1 (x3 + 4).toNatClampNeg), .inl (w.2 1 (x3 + 3).toNatClampNeg), .inl (w.2 1 (x3 + 2).toNatClampNeg), .inl (w.2 1 (x3 + 1).toNatClampNeg), .inr (.inr 64)] h := by
    refine ia_cV hK mk_I_fair lk_13_94 dc_law_1275 64 [.inl (w.2 1 (x3 + 1).toNatClampNeg), .inl (w.2 1 (x3 + 2).toNatClampNeg), .inl (w.2 1 (x3 + 3).toNatClampNeg), .inl (w.2 1 (x3 + 4).toNatClampNeg), .inl (w.2 1 (x3 + 5).toNatClampNeg), .inl (w.2 1 (x3 + 6).toNatClampNeg), .inl (w.2 1 (x3 + 7).toNatClampNeg), .inl (zb (w.2 1 (x3 + 8).toNatClampNeg))] [] rfl rfl (Nat.le_of_ble_eq_true rfl) (by decide) rfl (gk_0 hg pk_64) v1 (gd_nm hg g1) ?_
    show K 1278 [some (.inr (.inr 1)), some (.inr (.inr 64)), some (.inr (.inr 417)), some (.inl x3)] [.inl r] h1
    refine ia_go hK ck_law_1278_101 ⟨ld_law g1 w1 hL hx hi (j := 1) (by decide) (by decide), ld_law g1 w1 hL hx hi (j := 2) (by decide) (by decide), ld_law g1 w1 hL hx hi (j := 3) (by decide) (by decide), ld_law g1 w1 hL hx hi (j := 4) (by decide) (by decide), ld_law g1 w1 hL hx hi (j := 5) (by decide) (by decide), ld_law g1 w1 hL hx hi (j := 6) (by decide) (by decide), ld_law g1 w1 hL hx hi (j := 7) (by decide) (by decide), ld_law g1 w1 hL hx hi (j := 8) (by decide) (by decide), ?_⟩
    show K 1322 [some (.inr (.inr 1)), some (.inr (.inr 64)), some (.inr (.inr 417)), some (.inl x3)] [.inl (ia_i h1 1 (x3 + 8).toNatClampNeg), .inl (ia_i h1 1 (x3 + 7).toNatClampNeg), .inl (ia_i h1 1 (x3 + 6).toNatClampNeg), .inl (ia_i h1 1 (x3 + 5).toNatClampNeg), .inl (ia_i h1 1 (x3 + 4).toNatClampNeg), .inl (ia_i h1 1 (x3 + 3).toNatClampNeg), .inl (ia_i h1 1 (x3 + 2).toNatClampNeg), .inl (ia_i h1 1 (x3 + 1).toNatClampNeg), .inr (.inr 417), .inl r] h1
    rw [o2]
    have tail2 : K 1330 [some (.inr (.inr 1)), some (.inr (.inr 64)), some (.inr (.inr 417)), some (.inl x3)] [.inl (zb (w.2 1 (x3 + 8).toNatClampNeg)), .inl (w.2 1 (x3 + 7).toNatClampNeg), .inl (w.2 1 (x3 + 6).toNatClampNeg), .inl (w.2 1 (x3 + 5).toNatClampNeg), .inl (w.2 1 (x3 + 4).toNatClampNeg), .inl (w.2 1 (x3 + 3).toNatClampNeg), .inl (w.2 1 (x3 + 2).toNatClampNeg), .inl (w.2 1 (x3 + 1).toNatClampNeg), .inr (.inr 417), .inl r] h1 := by
      refine ia_cV hK mk_M_fair lk_13_98 dc_law_1330 417 [.inl (w.2 1 (x3 + 1).toNatClampNeg), .inl (w.2 1 (x3 + 2).toNatClampNeg), .inl (w.2 1 (x3 + 3).toNatClampNeg), .inl (w.2 1 (x3 + 4).toNatClampNeg), .inl (w.2 1 (x3 + 5).toNatClampNeg), .inl (w.2 1 (x3 + 6).toNatClampNeg), .inl (w.2 1 (x3 + 7).toNatClampNeg), .inl (zb (w.2 1 (x3 + 8).toNatClampNeg))] [.inl r] rfl rfl (Nat.le_of_ble_eq_true rfl) (by decide) rfl (gk_12 g1 pk_417) v2 (gd_nm g1 g2) ?_
      show K 1333 [some (.inr (.inr 1)), some (.inr (.inr 64)), some (.inr (.inr 417)), some (.inl x3)] [.inl r, .inl r] h2
      refine ia_go hK ck_law_1333_106 ⟨fun _ => ?_, fun c => absurd rfl c⟩
      exact nxt h2 g2 I2
    refine ia_go hK ck_law_1322_102 ⟨fun c => ?_, fun c => ?_⟩
    · show K 1329 [some (.inr (.inr 1)), some (.inr (.inr 64)), some (.inr (.inr 417)), some (.inl x3)] [.inl (w.2 1 (x3 + 7).toNatClampNeg), .inl (w.2 1 (x3 + 6).toNatClampNeg), .inl (w.2 1 (x3 + 5).toNatClampNeg), .inl (w.2 1 (x3 + 4).toNatClampNeg), .inl (w.2 1 (x3 + 3).toNatClampNeg), .inl (w.2 1 (x3 + 2).toNatClampNeg), .inl (w.2 1 (x3 + 1).toNatClampNeg), .inr (.inr 417), .inl r] h1
      refine ia_go hK ck_law_1329_104 ?_
      show K 1330 [some (.inr (.inr 1)), some (.inr (.inr 64)), some (.inr (.inr 417)), some (.inl x3)] [.inl 0, .inl (w.2 1 (x3 + 7).toNatClampNeg), .inl (w.2 1 (x3 + 6).toNatClampNeg), .inl (w.2 1 (x3 + 5).toNatClampNeg), .inl (w.2 1 (x3 + 4).toNatClampNeg), .inl (w.2 1 (x3 + 3).toNatClampNeg), .inl (w.2 1 (x3 + 2).toNatClampNeg), .inl (w.2 1 (x3 + 1).toNatClampNeg), .inr (.inr 417), .inl r] h1
      rw [zb_0 c] at tail2
      exact tail2
    · show K 1325 [some (.inr (.inr 1)), some (.inr (.inr 64)), some (.inr (.inr 417)), some (.inl x3)] [.inl (w.2 1 (x3 + 7).toNatClampNeg), .inl (w.2 1 (x3 + 6).toNatClampNeg), .inl (w.2 1 (x3 + 5).toNatClampNeg), .inl (w.2 1 (x3 + 4).toNatClampNeg), .inl (w.2 1 (x3 + 3).toNatClampNeg), .inl (w.2 1 (x3 + 2).toNatClampNeg), .inl (w.2 1 (x3 + 1).toNatClampNeg), .inr (.inr 417), .inl r] h1
      refine ia_go hK ck_law_1325_103 ?_
      show K 1330 [some (.inr (.inr 1)), some (.inr (.inr 64)), some (.inr (.inr 417)), some (.inl x3)] [.inl 1, .inl (w.2 1 (x3 + 7).toNatClampNeg), .inl (w.2 1 (x3 + 6).toNatClampNeg), .inl (w.2 1 (x3 + 5).toNatClampNeg), .inl (w.2 1 (x3 + 4).toNatClampNeg), .inl (w.2 1 (x3 + 3).toNatClampNeg), .inl (w.2 1 (x3 + 2).toNatClampNeg), .inl (w.2 1 (x3 + 1).toNatClampNeg), .inr (.inr 417), .inl r] h1
      rw [zb_1 c] at tail2
      exact tail2
  refine ia_go hK ck_law_1267_97 ⟨fun c => ?_, fun c => ?_⟩
  · show K 1274 [some (.inr (.inr 1)), some (.inr (.inr 64)), some (.inr (.inr 417)), some (.inl x3)] [.inl (w.2 1 (x3 + 7).toNatClampNeg), .inl (w.2 1 (x3 + 6).toNatClampNeg), .inl (w.2 1 (x3 + 5).toNatClampNeg), .inl (w.2 1 (x3 + 4).toNatClampNeg), .inl (w.2 1 (x3 + 3).toNatClampNeg), .inl (w.2 1 (x3 + 2).toNatClampNeg), .inl (w.2 1 (x3 + 1).toNatClampNeg), .inr (.inr 64)] h
    refine ia_go hK ck_law_1274_99 ?_
    show K 1275 [some (.inr (.inr 1)), some (.inr (.inr 64)), some (.inr (.inr 417)), some (.inl x3)] [.inl 0, .inl (w.2 1 (x3 + 7).toNatClampNeg), .inl (w.2 1 (x3 + 6).toNatClampNeg), .inl (w.2 1 (x3 + 5).toNatClampNeg), .inl (w.2 1 (x3 + 4).toNatClampNeg), .inl (w.2 1 (x3 + 3).toNatClampNeg), .inl (w.2 1 (x3 + 2).toNatClampNeg), .inl (w.2 1 (x3 + 1).toNatClampNeg), .inr (.inr 64)] h
    rw [zb_0 c] at tail1
    exact tail1
  · show K 1270 [some (.inr (.inr 1)), some (.inr (.inr 64)), some (.inr (.inr 417)), some (.inl x3)] [.inl (w.2 1 (x3 + 7).toNatClampNeg), .inl (w.2 1 (x3 + 6).toNatClampNeg), .inl (w.2 1 (x3 + 5).toNatClampNeg), .inl (w.2 1 (x3 + 4).toNatClampNeg), .inl (w.2 1 (x3 + 3).toNatClampNeg), .inl (w.2 1 (x3 + 2).toNatClampNeg), .inl (w.2 1 (x3 + 1).toNatClampNeg), .inr (.inr 64)] h
    refine ia_go hK ck_law_1270_98 ?_
    show K 1275 [some (.inr (.inr 1)), some (.inr (.inr 64)), some (.inr (.inr 417)), some (.inl x3)] [.inl 1, .inl (w.2 1 (x3 + 7).toNatClampNeg), .inl (w.2 1 (x3 + 6).toNatClampNeg), .inl (w.2 1 (x3 + 5).toNatClampNeg), .inl (w.2 1 (x3 + 4).toNatClampNeg), .inl (w.2 1 (x3 + 3).toNatClampNeg), .inl (w.2 1 (x3 + 2).toNatClampNeg), .inl (w.2 1 (x3 + 1).toNatClampNeg), .inr (.inr 64)] h
    rw [zb_1 c] at tail1
    exact tail1
set_option maxHeartbeats 4000000 in
theorem arm_19 {w : ia_O0} {N1 W1 : Nat} {K : ia_K} {L i : Nat} {x3 : Int32} {h : ia_H} (hK : ia_isK 101 mm_law N1 W1 K) (w1 : w.1 1 = (100, L)) (hL : L ≤ 5120) (oc : OCw w) (hx : x3.toInt = i) (hi : i + 10 ≤ L) (hg : gd_ w h) (I : INV (vw h)) (nxt : ∀ u, gd_ w u → INV (vw u) → K 2759 [some (.inr (.inr 1)), some (.inr (.inr 64)), some (.inr (.inr 417)), some (.inl x3)] [] u) : K 1338 [some (.inr (.inr 1)), some (.inr (.inr 64)), some (.inr (.inr 417)), some (.inl x3)] [] h := by
  have o1 : ia_i h 1 = w.2 1 := gd_o1 hg
  obtain ⟨r, h1, h2, e1, e2, I2⟩ := j_drawn (x1 := (w.2 1 (x3 + 1).toNatClampNeg)) (x2 := (w.2 1 (x3 + 2).toNatClampNeg)) (x3 := (w.2 1 (x3 + 3).toNatClampNeg)) (x4 := (w.2 1 (x3 + 4).toNatClampNeg)) (x5 := (w.2 1 (x3 + 5).toNatClampNeg)) (x6 := (w.2 1 (x3 + 6).toNatClampNeg)) hg oc I
  have v1 := t_I_drawn 73 hg e1
  have g1 : gd_ w h1 := g_I_drawn hg e1
  have v2 := t_M_drawn 89 g1 e2
  have g2 : gd_ w h2 := g_M_drawn g1 e2
  have o2 : ia_i h1 1 = w.2 1 := gd_o1 g1
  refine ia_go hK ck_law_1338_107 ⟨ld_law hg w1 hL hx hi (j := 1) (by decide) (by decide), ld_law hg w1 hL hx hi (j := 2) (by decide) (by decide), ld_law hg w1 hL hx hi (j := 3) (by decide) (by decide), ld_law hg w1 hL hx hi (j := 4) (by decide) (by decide), ld_law hg w1 hL hx hi (j := 5) (by decide) (by decide), ld_law hg w1 hL hx hi (j := 6) (by decide) (by decide), ?_⟩
  show K 1370 [some (.inr (.inr 1)), some (.inr (.inr 64)), some (.inr (.inr 417)), some (.inl x3)] [.inl (ia_i h 1 (x3 + 6).toNatClampNeg), .inl (ia_i h 1 (x3 + 5).toNatClampNeg), .inl (ia_i h 1 (x3 + 4).toNatClampNeg), .inl (ia_i h 1 (x3 + 3).toNatClampNeg), .inl (ia_i h 1 (x3 + 2).toNatClampNeg), .inl (ia_i h 1 (x3 + 1).toNatClampNeg), .inr (.inr 64)] h
  rw [o1]
  refine ia_cV hK mk_I_drawn lk_13_99 dc_law_1370 64 [.inl (w.2 1 (x3 + 1).toNatClampNeg), .inl (w.2 1 (x3 + 2).toNatClampNeg), .inl (w.2 1 (x3 + 3).toNatClampNeg), .inl (w.2 1 (x3 + 4).toNatClampNeg), .inl (w.2 1 (x3 + 5).toNatClampNeg), .inl (w.2 1 (x3 + 6).toNatClampNeg)] [] rfl rfl (Nat.le_of_ble_eq_true rfl) (by decide) rfl (gk_0 hg pk_64) v1 (gd_nm hg g1) ?_
  show K 1373 [some (.inr (.inr 1)), some (.inr (.inr 64)), some (.inr (.inr 417)), some (.inl x3)] [.inl r] h1
  refine ia_go hK ck_law_1373_109 ⟨ld_law g1 w1 hL hx hi (j := 1) (by decide) (by decide), ld_law g1 w1 hL hx hi (j := 2) (by decide) (by decide), ld_law g1 w1 hL hx hi (j := 3) (by decide) (by decide), ld_law g1 w1 hL hx hi (j := 4) (by decide) (by decide), ld_law g1 w1 hL hx hi (j := 5) (by decide) (by decide), ld_law g1 w1 hL hx hi (j := 6) (by decide) (by decide), ?_⟩
  show K 1405 [some (.inr (.inr 1)), some (.inr (.inr 64)), some (.inr (.inr 417)), some (.inl x3)] [.inl (ia_i h1 1 (x3 + 6).toNatClampNeg), .inl (ia_i h1 1 (x3 + 5).toNatClampNeg), .inl (ia_i h1 1 (x3 + 4).toNatClampNeg), .inl (ia_i h1 1 (x3 + 3).toNatClampNeg), .inl (ia_i h1 1 (x3 + 2).toNatClampNeg), .inl (ia_i h1 1 (x3 + 1).toNatClampNeg), .inr (.inr 417), .inl r] h1
  rw [o2]
  refine ia_cV hK mk_M_drawn lk_13_102 dc_law_1405 417 [.inl (w.2 1 (x3 + 1).toNatClampNeg), .inl (w.2 1 (x3 + 2).toNatClampNeg), .inl (w.2 1 (x3 + 3).toNatClampNeg), .inl (w.2 1 (x3 + 4).toNatClampNeg), .inl (w.2 1 (x3 + 5).toNatClampNeg), .inl (w.2 1 (x3 + 6).toNatClampNeg)] [.inl r] rfl rfl (Nat.le_of_ble_eq_true rfl) (by decide) rfl (gk_12 g1 pk_417) v2 (gd_nm g1 g2) ?_
  show K 1408 [some (.inr (.inr 1)), some (.inr (.inr 64)), some (.inr (.inr 417)), some (.inl x3)] [.inl r, .inl r] h2
  refine ia_go hK ck_law_1408_111 ⟨fun _ => ?_, fun c => absurd rfl c⟩
  exact nxt h2 g2 I2
