/-! arms of the law -/
set_option maxHeartbeats 4000000 in
theorem arm_0 {w : ia_O0} {N1 W1 : Nat} {K : ia_K} {L i : Nat} {x3 : Int32} {h : ia_H} (hK : ia_isK 101 mm_law N1 W1 K) (w1 : w.1 1 = (100, L)) (hL : L ≤ 5120) (oc : OCw w) (hx : x3.toInt = i) (hi : i + 10 ≤ L) (hg : gd_ w h) (I : INV (vw h)) (nxt : ∀ u, gd_ w u → INV (vw u) → K 2759 [some (.inr (.inr 1)), some (.inr (.inr 64)), some (.inr (.inr 417)), some (.inl x3)] [] u) : K 200 [some (.inr (.inr 1)), some (.inr (.inr 64)), some (.inr (.inr 417)), some (.inl x3)] [] h := by
  have o1 : ia_i h 1 = w.2 1 := gd_o1 hg
  obtain ⟨r, h1, h2, e1, e2, I2⟩ := j_feed (x1 := (w.2 1 (x3 + 1).toNatClampNeg)) (x2 := (w.2 1 (x3 + 2).toNatClampNeg)) (x3 := (w.2 1 (x3 + 3).toNatClampNeg)) (x4 := (w.2 1 (x3 + 4).toNatClampNeg)) (x5 := (w.2 1 (x3 + 5).toNatClampNeg)) hg oc I
  have v1 := t_I_feed 99 hg e1
  have g1 : gd_ w h1 := g_I_feed hg e1
  have v2 := t_M_feed 100 g1 e2
  have g2 : gd_ w h2 := g_M_feed g1 e2
  have o2 : ia_i h1 1 = w.2 1 := gd_o1 g1
  refine ia_go hK ck_law_200_0 ⟨ld_law hg w1 hL hx hi (j := 1) (by decide) (by decide), ld_law hg w1 hL hx hi (j := 2) (by decide) (by decide), ld_law hg w1 hL hx hi (j := 3) (by decide) (by decide), ld_law hg w1 hL hx hi (j := 4) (by decide) (by decide), ld_law hg w1 hL hx hi (j := 5) (by decide) (by decide), ?_⟩
  show K 226 [some (.inr (.inr 1)), some (.inr (.inr 64)), some (.inr (.inr 417)), some (.inl x3)] [.inl (ia_i h 1 (x3 + 5).toNatClampNeg), .inl (ia_i h 1 (x3 + 4).toNatClampNeg), .inl (ia_i h 1 (x3 + 3).toNatClampNeg), .inl (ia_i h 1 (x3 + 2).toNatClampNeg), .inl (ia_i h 1 (x3 + 1).toNatClampNeg), .inr (.inr 64)] h
  rw [o1]
  refine ia_cV hK mk_I_feed lk_13_13 dc_law_226 64 [.inl (w.2 1 (x3 + 1).toNatClampNeg), .inl (w.2 1 (x3 + 2).toNatClampNeg), .inl (w.2 1 (x3 + 3).toNatClampNeg), .inl (w.2 1 (x3 + 4).toNatClampNeg), .inl (w.2 1 (x3 + 5).toNatClampNeg)] [] rfl rfl (Nat.le_of_ble_eq_true rfl) (by decide) rfl (gk_0 hg pk_64) v1 (gd_nm hg g1) ?_
  show K 229 [some (.inr (.inr 1)), some (.inr (.inr 64)), some (.inr (.inr 417)), some (.inl x3)] [.inl r] h1
  refine ia_go hK ck_law_229_2 ⟨ld_law g1 w1 hL hx hi (j := 1) (by decide) (by decide), ld_law g1 w1 hL hx hi (j := 2) (by decide) (by decide), ld_law g1 w1 hL hx hi (j := 3) (by decide) (by decide), ld_law g1 w1 hL hx hi (j := 4) (by decide) (by decide), ld_law g1 w1 hL hx hi (j := 5) (by decide) (by decide), ?_⟩
  show K 255 [some (.inr (.inr 1)), some (.inr (.inr 64)), some (.inr (.inr 417)), some (.inl x3)] [.inl (ia_i h1 1 (x3 + 5).toNatClampNeg), .inl (ia_i h1 1 (x3 + 4).toNatClampNeg), .inl (ia_i h1 1 (x3 + 3).toNatClampNeg), .inl (ia_i h1 1 (x3 + 2).toNatClampNeg), .inl (ia_i h1 1 (x3 + 1).toNatClampNeg), .inr (.inr 417), .inl r] h1
  rw [o2]
  refine ia_cV hK mk_M_feed lk_13_17 dc_law_255 417 [.inl (w.2 1 (x3 + 1).toNatClampNeg), .inl (w.2 1 (x3 + 2).toNatClampNeg), .inl (w.2 1 (x3 + 3).toNatClampNeg), .inl (w.2 1 (x3 + 4).toNatClampNeg), .inl (w.2 1 (x3 + 5).toNatClampNeg)] [.inl r] rfl rfl (Nat.le_of_ble_eq_true rfl) (by decide) rfl (gk_12 g1 pk_417) v2 (gd_nm g1 g2) ?_
  show K 258 [some (.inr (.inr 1)), some (.inr (.inr 64)), some (.inr (.inr 417)), some (.inl x3)] [.inl r, .inl r] h2
  refine ia_go hK ck_law_258_4 ⟨fun _ => ?_, fun c => absurd rfl c⟩
  exact nxt h2 g2 I2
set_option maxHeartbeats 4000000 in
theorem arm_1 {w : ia_O0} {N1 W1 : Nat} {K : ia_K} {L i : Nat} {x3 : Int32} {h : ia_H} (hK : ia_isK 101 mm_law N1 W1 K) (w1 : w.1 1 = (100, L)) (hL : L ≤ 5120) (oc : OCw w) (hx : x3.toInt = i) (hi : i + 10 ≤ L) (hg : gd_ w h) (I : INV (vw h)) (nxt : ∀ u, gd_ w u → INV (vw u) → K 2759 [some (.inr (.inr 1)), some (.inr (.inr 64)), some (.inr (.inr 417)), some (.inl x3)] [] u) : K 263 [some (.inr (.inr 1)), some (.inr (.inr 64)), some (.inr (.inr 417)), some (.inl x3)] [] h := by
  have o1 : ia_i h 1 = w.2 1 := gd_o1 hg
  obtain ⟨r, h1, h2, e1, e2, I2⟩ := j_end (x := (w.2 1 (x3 + 1).toNatClampNeg)) hg oc I
  have v1 := t_I_end 100 hg e1
  have g1 : gd_ w h1 := g_I_end hg e1
  have v2 := t_M_end 100 g1 e2
  have g2 : gd_ w h2 := g_M_end g1 e2
  have o2 : ia_i h1 1 = w.2 1 := gd_o1 g1
  refine ia_go hK ck_law_263_5 ⟨ld_law hg w1 hL hx hi (j := 1) (by decide) (by decide), ?_⟩
  show K 269 [some (.inr (.inr 1)), some (.inr (.inr 64)), some (.inr (.inr 417)), some (.inl x3)] [.inl (ia_i h 1 (x3 + 1).toNatClampNeg), .inr (.inr 64)] h
  rw [o1]
  refine ia_cV hK mk_I_end lk_13_18 dc_law_269 64 [.inl (w.2 1 (x3 + 1).toNatClampNeg)] [] rfl rfl (Nat.le_of_ble_eq_true rfl) (by decide) rfl (gk_0 hg pk_64) v1 (gd_nm hg g1) ?_
  show K 272 [some (.inr (.inr 1)), some (.inr (.inr 64)), some (.inr (.inr 417)), some (.inl x3)] [.inl r] h1
  refine ia_go hK ck_law_272_7 ⟨ld_law g1 w1 hL hx hi (j := 1) (by decide) (by decide), ?_⟩
  show K 278 [some (.inr (.inr 1)), some (.inr (.inr 64)), some (.inr (.inr 417)), some (.inl x3)] [.inl (ia_i h1 1 (x3 + 1).toNatClampNeg), .inr (.inr 417), .inl r] h1
  rw [o2]
  refine ia_cV hK mk_M_end lk_13_22 dc_law_278 417 [.inl (w.2 1 (x3 + 1).toNatClampNeg)] [.inl r] rfl rfl (Nat.le_of_ble_eq_true rfl) (by decide) rfl (gk_12 g1 pk_417) v2 (gd_nm g1 g2) ?_
  show K 281 [some (.inr (.inr 1)), some (.inr (.inr 64)), some (.inr (.inr 417)), some (.inl x3)] [.inl r, .inl r] h2
  refine ia_go hK ck_law_281_9 ⟨fun _ => ?_, fun c => absurd rfl c⟩
  exact nxt h2 g2 I2
set_option maxHeartbeats 4000000 in
theorem arm_2 {w : ia_O0} {N1 W1 : Nat} {K : ia_K} {L i : Nat} {x3 : Int32} {h : ia_H} (hK : ia_isK 101 mm_law N1 W1 K) (w1 : w.1 1 = (100, L)) (hL : L ≤ 5120) (oc : OCw w) (hx : x3.toInt = i) (hi : i + 10 ≤ L) (hg : gd_ w h) (I : INV (vw h)) (nxt : ∀ u, gd_ w u → INV (vw u) → K 2759 [some (.inr (.inr 1)), some (.inr (.inr 64)), some (.inr (.inr 417)), some (.inl x3)] [] u) : K 286 [some (.inr (.inr 1)), some (.inr (.inr 64)), some (.inr (.inr 417)), some (.inl x3)] [] h := by
  have o1 : ia_i h 1 = w.2 1 := gd_o1 hg
  obtain ⟨r, h1, h2, e1, e2, I2⟩ := j_text (x := (w.2 1 (x3 + 1).toNatClampNeg)) (y := (w.2 1 (x3 + 2).toNatClampNeg)) hg oc I
  have v1 := t_I_text 92 hg e1
  have g1 : gd_ w h1 := g_I_text hg e1
  have v2 := t_M_text 91 g1 e2
  have g2 : gd_ w h2 := g_M_text g1 e2
  have o2 : ia_i h1 1 = w.2 1 := gd_o1 g1
  refine ia_go hK ck_law_286_10 ⟨ld_law hg w1 hL hx hi (j := 1) (by decide) (by decide), ld_law hg w1 hL hx hi (j := 2) (by decide) (by decide), ?_⟩
  show K 297 [some (.inr (.inr 1)), some (.inr (.inr 64)), some (.inr (.inr 417)), some (.inl x3)] [.inl (ia_i h 1 (x3 + 2).toNatClampNeg), .inl (ia_i h 1 (x3 + 1).toNatClampNeg), .inr (.inr 64)] h
  rw [o1]
  refine ia_cV hK mk_I_text lk_13_23 dc_law_297 64 [.inl (w.2 1 (x3 + 1).toNatClampNeg), .inl (w.2 1 (x3 + 2).toNatClampNeg)] [] rfl rfl (Nat.le_of_ble_eq_true rfl) (by decide) rfl (gk_0 hg pk_64) v1 (gd_nm hg g1) ?_
  show K 300 [some (.inr (.inr 1)), some (.inr (.inr 64)), some (.inr (.inr 417)), some (.inl x3)] [.inl r] h1
  refine ia_go hK ck_law_300_12 ⟨ld_law g1 w1 hL hx hi (j := 1) (by decide) (by decide), ld_law g1 w1 hL hx hi (j := 2) (by decide) (by decide), ?_⟩
  show K 311 [some (.inr (.inr 1)), some (.inr (.inr 64)), some (.inr (.inr 417)), some (.inl x3)] [.inl (ia_i h1 1 (x3 + 2).toNatClampNeg), .inl (ia_i h1 1 (x3 + 1).toNatClampNeg), .inr (.inr 417), .inl r] h1
  rw [o2]
  refine ia_cV hK mk_M_text lk_13_27 dc_law_311 417 [.inl (w.2 1 (x3 + 1).toNatClampNeg), .inl (w.2 1 (x3 + 2).toNatClampNeg)] [.inl r] rfl rfl (Nat.le_of_ble_eq_true rfl) (by decide) rfl (gk_12 g1 pk_417) v2 (gd_nm g1 g2) ?_
  show K 314 [some (.inr (.inr 1)), some (.inr (.inr 64)), some (.inr (.inr 417)), some (.inl x3)] [.inl r, .inl r] h2
  refine ia_go hK ck_law_314_14 ⟨fun _ => ?_, fun c => absurd rfl c⟩
  exact nxt h2 g2 I2
set_option maxHeartbeats 4000000 in
theorem arm_3 {w : ia_O0} {N1 W1 : Nat} {K : ia_K} {L i : Nat} {x3 : Int32} {h : ia_H} (hK : ia_isK 101 mm_law N1 W1 K) (w1 : w.1 1 = (100, L)) (hL : L ≤ 5120) (oc : OCw w) (hx : x3.toInt = i) (hi : i + 10 ≤ L) (hg : gd_ w h) (I : INV (vw h)) (nxt : ∀ u, gd_ w u → INV (vw u) → K 2759 [some (.inr (.inr 1)), some (.inr (.inr 64)), some (.inr (.inr 417)), some (.inl x3)] [] u) : K 319 [some (.inr (.inr 1)), some (.inr (.inr 64)), some (.inr (.inr 417)), some (.inl x3)] [] h := by
  have o1 : ia_i h 1 = w.2 1 := gd_o1 hg
  obtain ⟨r, e1, e2⟩ := j_fault (x1 := (w.2 1 (x3 + 1).toNatClampNeg)) I
  have v1 := t_I_fault 100 hg e1
  have v2 := t_M_fault 100 hg e2
  refine ia_go hK ck_law_319_15 ⟨ld_law hg w1 hL hx hi (j := 1) (by decide) (by decide), ?_⟩
  show K 325 [some (.inr (.inr 1)), some (.inr (.inr 64)), some (.inr (.inr 417)), some (.inl x3)] [.inl (ia_i h 1 (x3 + 1).toNatClampNeg), .inr (.inr 64)] h
  rw [o1]
  refine ia_cV hK mk_I_fault lk_13_28 dc_law_325 64 [.inl (w.2 1 (x3 + 1).toNatClampNeg)] [] rfl rfl (Nat.le_of_ble_eq_true rfl) (by decide) rfl (gk_0 hg pk_64) v1 ⟨rfl, rfl⟩ ?_
  show K 328 [some (.inr (.inr 1)), some (.inr (.inr 64)), some (.inr (.inr 417)), some (.inl x3)] [.inl r] h
  refine ia_go hK ck_law_328_17 ⟨ld_law hg w1 hL hx hi (j := 1) (by decide) (by decide), ?_⟩
  show K 334 [some (.inr (.inr 1)), some (.inr (.inr 64)), some (.inr (.inr 417)), some (.inl x3)] [.inl (ia_i h 1 (x3 + 1).toNatClampNeg), .inr (.inr 417), .inl r] h
  rw [o1]
  refine ia_cV hK mk_M_fault lk_13_31 dc_law_334 417 [.inl (w.2 1 (x3 + 1).toNatClampNeg)] [.inl r] rfl rfl (Nat.le_of_ble_eq_true rfl) (by decide) rfl (gk_12 hg pk_417) v2 ⟨rfl, rfl⟩ ?_
  show K 337 [some (.inr (.inr 1)), some (.inr (.inr 64)), some (.inr (.inr 417)), some (.inl x3)] [.inl r, .inl r] h
  refine ia_go hK ck_law_337_19 ⟨fun _ => ?_, fun c => absurd rfl c⟩
  exact nxt h hg I
set_option maxHeartbeats 4000000 in
theorem arm_4 {w : ia_O0} {N1 W1 : Nat} {K : ia_K} {L i : Nat} {x3 : Int32} {h : ia_H} (hK : ia_isK 101 mm_law N1 W1 K) (w1 : w.1 1 = (100, L)) (hL : L ≤ 5120) (oc : OCw w) (hx : x3.toInt = i) (hi : i + 10 ≤ L) (hg : gd_ w h) (I : INV (vw h)) (nxt : ∀ u, gd_ w u → INV (vw u) → K 2759 [some (.inr (.inr 1)), some (.inr (.inr 64)), some (.inr (.inr 417)), some (.inl x3)] [] u) : K 342 [some (.inr (.inr 1)), some (.inr (.inr 64)), some (.inr (.inr 417)), some (.inl x3)] [] h := by
  have o1 : ia_i h 1 = w.2 1 := gd_o1 hg
  obtain ⟨r, e1, e2⟩ := j_lake (x1 := (w.2 1 (x3 + 1).toNatClampNeg)) (x2 := (w.2 1 (x3 + 2).toNatClampNeg)) I
  have v1 := t_I_lake 99 hg e1
  have v2 := t_M_lake 98 hg e2
  refine ia_go hK ck_law_342_20 ⟨ld_law hg w1 hL hx hi (j := 1) (by decide) (by decide), ld_law hg w1 hL hx hi (j := 2) (by decide) (by decide), ?_⟩
  show K 353 [some (.inr (.inr 1)), some (.inr (.inr 64)), some (.inr (.inr 417)), some (.inl x3)] [.inl (ia_i h 1 (x3 + 2).toNatClampNeg), .inl (ia_i h 1 (x3 + 1).toNatClampNeg), .inr (.inr 64)] h
  rw [o1]
  refine ia_cV hK mk_I_lake lk_13_32 dc_law_353 64 [.inl (w.2 1 (x3 + 1).toNatClampNeg), .inl (w.2 1 (x3 + 2).toNatClampNeg)] [] rfl rfl (Nat.le_of_ble_eq_true rfl) (by decide) rfl (gk_0 hg pk_64) v1 ⟨rfl, rfl⟩ ?_
  show K 356 [some (.inr (.inr 1)), some (.inr (.inr 64)), some (.inr (.inr 417)), some (.inl x3)] [.inl r] h
  refine ia_go hK ck_law_356_22 ⟨ld_law hg w1 hL hx hi (j := 1) (by decide) (by decide), ld_law hg w1 hL hx hi (j := 2) (by decide) (by decide), ?_⟩
  show K 367 [some (.inr (.inr 1)), some (.inr (.inr 64)), some (.inr (.inr 417)), some (.inl x3)] [.inl (ia_i h 1 (x3 + 2).toNatClampNeg), .inl (ia_i h 1 (x3 + 1).toNatClampNeg), .inr (.inr 417), .inl r] h
  rw [o1]
  refine ia_cV hK mk_M_lake lk_13_35 dc_law_367 417 [.inl (w.2 1 (x3 + 1).toNatClampNeg), .inl (w.2 1 (x3 + 2).toNatClampNeg)] [.inl r] rfl rfl (Nat.le_of_ble_eq_true rfl) (by decide) rfl (gk_12 hg pk_417) v2 ⟨rfl, rfl⟩ ?_
  show K 370 [some (.inr (.inr 1)), some (.inr (.inr 64)), some (.inr (.inr 417)), some (.inl x3)] [.inl r, .inl r] h
  refine ia_go hK ck_law_370_24 ⟨fun _ => ?_, fun c => absurd rfl c⟩
  exact nxt h hg I
set_option maxHeartbeats 4000000 in
theorem arm_5 {w : ia_O0} {N1 W1 : Nat} {K : ia_K} {L i : Nat} {x3 : Int32} {h : ia_H} (hK : ia_isK 101 mm_law N1 W1 K) (w1 : w.1 1 = (100, L)) (hL : L ≤ 5120) (oc : OCw w) (hx : x3.toInt = i) (hi : i + 10 ≤ L) (hg : gd_ w h) (I : INV (vw h)) (nxt : ∀ u, gd_ w u → INV (vw u) → K 2759 [some (.inr (.inr 1)), some (.inr (.inr 64)), some (.inr (.inr 417)), some (.inl x3)] [] u) : K 375 [some (.inr (.inr 1)), some (.inr (.inr 64)), some (.inr (.inr 417)), some (.inl x3)] [] h := by
  have o1 : ia_i h 1 = w.2 1 := gd_o1 hg
  obtain ⟨r, e1, e2⟩ := j_cell (x1 := (w.2 1 (x3 + 1).toNatClampNeg)) (x2 := (w.2 1 (x3 + 2).toNatClampNeg)) (x3 := (w.2 1 (x3 + 3).toNatClampNeg)) I
  have v1 := t_I_cell 99 hg e1
  have v2 := t_M_cell 98 hg e2
  refine ia_go hK ck_law_375_25 ⟨ld_law hg w1 hL hx hi (j := 1) (by decide) (by decide), ld_law hg w1 hL hx hi (j := 2) (by decide) (by decide), ld_law hg w1 hL hx hi (j := 3) (by decide) (by decide), ?_⟩
  show K 391 [some (.inr (.inr 1)), some (.inr (.inr 64)), some (.inr (.inr 417)), some (.inl x3)] [.inl (ia_i h 1 (x3 + 3).toNatClampNeg), .inl (ia_i h 1 (x3 + 2).toNatClampNeg), .inl (ia_i h 1 (x3 + 1).toNatClampNeg), .inr (.inr 64)] h
  rw [o1]
  refine ia_cV hK mk_I_cell lk_13_36 dc_law_391 64 [.inl (w.2 1 (x3 + 1).toNatClampNeg), .inl (w.2 1 (x3 + 2).toNatClampNeg), .inl (w.2 1 (x3 + 3).toNatClampNeg)] [] rfl rfl (Nat.le_of_ble_eq_true rfl) (by decide) rfl (gk_0 hg pk_64) v1 ⟨rfl, rfl⟩ ?_
  show K 394 [some (.inr (.inr 1)), some (.inr (.inr 64)), some (.inr (.inr 417)), some (.inl x3)] [.inl r] h
  refine ia_go hK ck_law_394_27 ⟨ld_law hg w1 hL hx hi (j := 1) (by decide) (by decide), ld_law hg w1 hL hx hi (j := 2) (by decide) (by decide), ld_law hg w1 hL hx hi (j := 3) (by decide) (by decide), ?_⟩
  show K 410 [some (.inr (.inr 1)), some (.inr (.inr 64)), some (.inr (.inr 417)), some (.inl x3)] [.inl (ia_i h 1 (x3 + 3).toNatClampNeg), .inl (ia_i h 1 (x3 + 2).toNatClampNeg), .inl (ia_i h 1 (x3 + 1).toNatClampNeg), .inr (.inr 417), .inl r] h
  rw [o1]
  refine ia_cV hK mk_M_cell lk_13_40 dc_law_410 417 [.inl (w.2 1 (x3 + 1).toNatClampNeg), .inl (w.2 1 (x3 + 2).toNatClampNeg), .inl (w.2 1 (x3 + 3).toNatClampNeg)] [.inl r] rfl rfl (Nat.le_of_ble_eq_true rfl) (by decide) rfl (gk_12 hg pk_417) v2 ⟨rfl, rfl⟩ ?_
  show K 413 [some (.inr (.inr 1)), some (.inr (.inr 64)), some (.inr (.inr 417)), some (.inl x3)] [.inl r, .inl r] h
  refine ia_go hK ck_law_413_29 ⟨fun _ => ?_, fun c => absurd rfl c⟩
  exact nxt h hg I
set_option maxHeartbeats 4000000 in
theorem arm_6 {w : ia_O0} {N1 W1 : Nat} {K : ia_K} {L i : Nat} {x3 : Int32} {h : ia_H} (hK : ia_isK 101 mm_law N1 W1 K) (w1 : w.1 1 = (100, L)) (hL : L ≤ 5120) (oc : OCw w) (hx : x3.toInt = i) (hi : i + 10 ≤ L) (hg : gd_ w h) (I : INV (vw h)) (nxt : ∀ u, gd_ w u → INV (vw u) → K 2759 [some (.inr (.inr 1)), some (.inr (.inr 64)), some (.inr (.inr 417)), some (.inl x3)] [] u) : K 418 [some (.inr (.inr 1)), some (.inr (.inr 64)), some (.inr (.inr 417)), some (.inl x3)] [] h := by
  have o1 : ia_i h 1 = w.2 1 := gd_o1 hg
  obtain ⟨r, e1, e2⟩ := j_shop (x1 := (w.2 1 (x3 + 1).toNatClampNeg)) (x2 := (w.2 1 (x3 + 2).toNatClampNeg)) (x3 := (w.2 1 (x3 + 3).toNatClampNeg)) I
  have v1 := t_I_shop 99 hg e1
  have v2 := t_M_shop 98 hg e2
  refine ia_go hK ck_law_418_30 ⟨ld_law hg w1 hL hx hi (j := 1) (by decide) (by decide), ld_law hg w1 hL hx hi (j := 2) (by decide) (by decide), ld_law hg w1 hL hx hi (j := 3) (by decide) (by decide), ?_⟩
  show K 434 [some (.inr (.inr 1)), some (.inr (.inr 64)), some (.inr (.inr 417)), some (.inl x3)] [.inl (ia_i h 1 (x3 + 3).toNatClampNeg), .inl (ia_i h 1 (x3 + 2).toNatClampNeg), .inl (ia_i h 1 (x3 + 1).toNatClampNeg), .inr (.inr 64)] h
  rw [o1]
  refine ia_cV hK mk_I_shop lk_13_41 dc_law_434 64 [.inl (w.2 1 (x3 + 1).toNatClampNeg), .inl (w.2 1 (x3 + 2).toNatClampNeg), .inl (w.2 1 (x3 + 3).toNatClampNeg)] [] rfl rfl (Nat.le_of_ble_eq_true rfl) (by decide) rfl (gk_0 hg pk_64) v1 ⟨rfl, rfl⟩ ?_
  show K 437 [some (.inr (.inr 1)), some (.inr (.inr 64)), some (.inr (.inr 417)), some (.inl x3)] [.inl r] h
  refine ia_go hK ck_law_437_32 ⟨ld_law hg w1 hL hx hi (j := 1) (by decide) (by decide), ld_law hg w1 hL hx hi (j := 2) (by decide) (by decide), ld_law hg w1 hL hx hi (j := 3) (by decide) (by decide), ?_⟩
  show K 453 [some (.inr (.inr 1)), some (.inr (.inr 64)), some (.inr (.inr 417)), some (.inl x3)] [.inl (ia_i h 1 (x3 + 3).toNatClampNeg), .inl (ia_i h 1 (x3 + 2).toNatClampNeg), .inl (ia_i h 1 (x3 + 1).toNatClampNeg), .inr (.inr 417), .inl r] h
  rw [o1]
  refine ia_cV hK mk_M_shop lk_13_44 dc_law_453 417 [.inl (w.2 1 (x3 + 1).toNatClampNeg), .inl (w.2 1 (x3 + 2).toNatClampNeg), .inl (w.2 1 (x3 + 3).toNatClampNeg)] [.inl r] rfl rfl (Nat.le_of_ble_eq_true rfl) (by decide) rfl (gk_12 hg pk_417) v2 ⟨rfl, rfl⟩ ?_
  show K 456 [some (.inr (.inr 1)), some (.inr (.inr 64)), some (.inr (.inr 417)), some (.inl x3)] [.inl r, .inl r] h
  refine ia_go hK ck_law_456_34 ⟨fun _ => ?_, fun c => absurd rfl c⟩
  exact nxt h hg I
set_option maxHeartbeats 4000000 in
theorem arm_7 {w : ia_O0} {N1 W1 : Nat} {K : ia_K} {L i : Nat} {x3 : Int32} {h : ia_H} (hK : ia_isK 101 mm_law N1 W1 K) (w1 : w.1 1 = (100, L)) (hL : L ≤ 5120) (oc : OCw w) (hx : x3.toInt = i) (hi : i + 10 ≤ L) (hg : gd_ w h) (I : INV (vw h)) (nxt : ∀ u, gd_ w u → INV (vw u) → K 2759 [some (.inr (.inr 1)), some (.inr (.inr 64)), some (.inr (.inr 417)), some (.inl x3)] [] u) : K 461 [some (.inr (.inr 1)), some (.inr (.inr 64)), some (.inr (.inr 417)), some (.inl x3)] [] h := by
  have o1 : ia_i h 1 = w.2 1 := gd_o1 hg
  obtain ⟨r, e1, e2⟩ := j_law (x1 := (w.2 1 (x3 + 1).toNatClampNeg)) (x2 := (w.2 1 (x3 + 2).toNatClampNeg)) I
  have v1 := t_I_law 98 hg e1
  have v2 := t_M_law 98 hg e2
  refine ia_go hK ck_law_461_35 ⟨ld_law hg w1 hL hx hi (j := 1) (by decide) (by decide), ld_law hg w1 hL hx hi (j := 2) (by decide) (by decide), ?_⟩
  show K 472 [some (.inr (.inr 1)), some (.inr (.inr 64)), some (.inr (.inr 417)), some (.inl x3)] [.inl (ia_i h 1 (x3 + 2).toNatClampNeg), .inl (ia_i h 1 (x3 + 1).toNatClampNeg), .inr (.inr 64)] h
  rw [o1]
  refine ia_cV hK mk_I_law lk_13_45 dc_law_472 64 [.inl (w.2 1 (x3 + 1).toNatClampNeg), .inl (w.2 1 (x3 + 2).toNatClampNeg)] [] rfl rfl (Nat.le_of_ble_eq_true rfl) (by decide) rfl (gk_0 hg pk_64) v1 ⟨rfl, rfl⟩ ?_
  show K 475 [some (.inr (.inr 1)), some (.inr (.inr 64)), some (.inr (.inr 417)), some (.inl x3)] [.inl r] h
  refine ia_go hK ck_law_475_37 ⟨ld_law hg w1 hL hx hi (j := 1) (by decide) (by decide), ld_law hg w1 hL hx hi (j := 2) (by decide) (by decide), ?_⟩
  show K 486 [some (.inr (.inr 1)), some (.inr (.inr 64)), some (.inr (.inr 417)), some (.inl x3)] [.inl (ia_i h 1 (x3 + 2).toNatClampNeg), .inl (ia_i h 1 (x3 + 1).toNatClampNeg), .inr (.inr 417), .inl r] h
  rw [o1]
  refine ia_cV hK mk_M_law lk_13_48 dc_law_486 417 [.inl (w.2 1 (x3 + 1).toNatClampNeg), .inl (w.2 1 (x3 + 2).toNatClampNeg)] [.inl r] rfl rfl (Nat.le_of_ble_eq_true rfl) (by decide) rfl (gk_12 hg pk_417) v2 ⟨rfl, rfl⟩ ?_
  show K 489 [some (.inr (.inr 1)), some (.inr (.inr 64)), some (.inr (.inr 417)), some (.inl x3)] [.inl r, .inl r] h
  refine ia_go hK ck_law_489_39 ⟨fun _ => ?_, fun c => absurd rfl c⟩
  exact nxt h hg I
set_option maxHeartbeats 4000000 in
theorem arm_8 {w : ia_O0} {N1 W1 : Nat} {K : ia_K} {L i : Nat} {x3 : Int32} {h : ia_H} (hK : ia_isK 101 mm_law N1 W1 K) (w1 : w.1 1 = (100, L)) (hL : L ≤ 5120) (oc : OCw w) (hx : x3.toInt = i) (hi : i + 10 ≤ L) (hg : gd_ w h) (I : INV (vw h)) (nxt : ∀ u, gd_ w u → INV (vw u) → K 2759 [some (.inr (.inr 1)), some (.inr (.inr 64)), some (.inr (.inr 417)), some (.inl x3)] [] u) : K 494 [some (.inr (.inr 1)), some (.inr (.inr 64)), some (.inr (.inr 417)), some (.inl x3)] [] h := by
  have o1 : ia_i h 1 = w.2 1 := gd_o1 hg
  obtain ⟨r, e1, e2⟩ := j_act (x1 := (w.2 1 (x3 + 1).toNatClampNeg)) (x2 := (w.2 1 (x3 + 2).toNatClampNeg)) (x3 := (w.2 1 (x3 + 3).toNatClampNeg)) I
  have v1 := t_I_act 99 hg e1
  have v2 := t_M_act 98 hg e2
  refine ia_go hK ck_law_494_40 ⟨ld_law hg w1 hL hx hi (j := 1) (by decide) (by decide), ld_law hg w1 hL hx hi (j := 2) (by decide) (by decide), ld_law hg w1 hL hx hi (j := 3) (by decide) (by decide), ?_⟩
  show K 510 [some (.inr (.inr 1)), some (.inr (.inr 64)), some (.inr (.inr 417)), some (.inl x3)] [.inl (ia_i h 1 (x3 + 3).toNatClampNeg), .inl (ia_i h 1 (x3 + 2).toNatClampNeg), .inl (ia_i h 1 (x3 + 1).toNatClampNeg), .inr (.inr 64)] h
  rw [o1]
  refine ia_cV hK mk_I_act lk_13_49 dc_law_510 64 [.inl (w.2 1 (x3 + 1).toNatClampNeg), .inl (w.2 1 (x3 + 2).toNatClampNeg), .inl (w.2 1 (x3 + 3).toNatClampNeg)] [] rfl rfl (Nat.le_of_ble_eq_true rfl) (by decide) rfl (gk_0 hg pk_64) v1 ⟨rfl, rfl⟩ ?_
  show K 513 [some (.inr (.inr 1)), some (.inr (.inr 64)), some (.inr (.inr 417)), some (.inl x3)] [.inl r] h
  refine ia_go hK ck_law_513_42 ⟨ld_law hg w1 hL hx hi (j := 1) (by decide) (by decide), ld_law hg w1 hL hx hi (j := 2) (by decide) (by decide), ld_law hg w1 hL hx hi (j := 3) (by decide) (by decide), ?_⟩
  show K 529 [some (.inr (.inr 1)), some (.inr (.inr 64)), some (.inr (.inr 417)), some (.inl x3)] [.inl (ia_i h 1 (x3 + 3).toNatClampNeg), .inl (ia_i h 1 (x3 + 2).toNatClampNeg), .inl (ia_i h 1 (x3 + 1).toNatClampNeg), .inr (.inr 417), .inl r] h
  rw [o1]
  refine ia_cV hK mk_M_act lk_13_52 dc_law_529 417 [.inl (w.2 1 (x3 + 1).toNatClampNeg), .inl (w.2 1 (x3 + 2).toNatClampNeg), .inl (w.2 1 (x3 + 3).toNatClampNeg)] [.inl r] rfl rfl (Nat.le_of_ble_eq_true rfl) (by decide) rfl (gk_12 hg pk_417) v2 ⟨rfl, rfl⟩ ?_
  show K 532 [some (.inr (.inr 1)), some (.inr (.inr 64)), some (.inr (.inr 417)), some (.inl x3)] [.inl r, .inl r] h
  refine ia_go hK ck_law_532_44 ⟨fun _ => ?_, fun c => absurd rfl c⟩
  exact nxt h hg I
set_option maxHeartbeats 4000000 in
theorem arm_9 {w : ia_O0} {N1 W1 : Nat} {K : ia_K} {L i : Nat} {x3 : Int32} {h : ia_H} (hK : ia_isK 101 mm_law N1 W1 K) (w1 : w.1 1 = (100, L)) (hL : L ≤ 5120) (oc : OCw w) (hx : x3.toInt = i) (hi : i + 10 ≤ L) (hg : gd_ w h) (I : INV (vw h)) (nxt : ∀ u, gd_ w u → INV (vw u) → K 2759 [some (.inr (.inr 1)), some (.inr (.inr 64)), some (.inr (.inr 417)), some (.inl x3)] [] u) : K 537 [some (.inr (.inr 1)), some (.inr (.inr 64)), some (.inr (.inr 417)), some (.inl x3)] [] h := by
  have o1 : ia_i h 1 = w.2 1 := gd_o1 hg
  obtain ⟨r, h1, h2, e1, e2, I2⟩ := j_stop (x1 := (w.2 1 (x3 + 1).toNatClampNeg)) (x2 := (w.2 1 (x3 + 2).toNatClampNeg)) (x3 := (w.2 1 (x3 + 3).toNatClampNeg)) hg oc I
  have v1 := t_I_stop 94 hg e1
  have g1 : gd_ w h1 := g_I_stop hg e1
  have v2 := t_M_stop 90 g1 e2
  have g2 : gd_ w h2 := g_M_stop g1 e2
  have o2 : ia_i h1 1 = w.2 1 := gd_o1 g1
  refine ia_go hK ck_law_537_45 ⟨ld_law hg w1 hL hx hi (j := 1) (by decide) (by decide), ld_law hg w1 hL hx hi (j := 2) (by decide) (by decide), ld_law hg w1 hL hx hi (j := 3) (by decide) (by decide), ?_⟩
  show K 553 [some (.inr (.inr 1)), some (.inr (.inr 64)), some (.inr (.inr 417)), some (.inl x3)] [.inl (ia_i h 1 (x3 + 3).toNatClampNeg), .inl (ia_i h 1 (x3 + 2).toNatClampNeg), .inl (ia_i h 1 (x3 + 1).toNatClampNeg), .inr (.inr 64)] h
  rw [o1]
  refine ia_cV hK mk_I_stop lk_13_53 dc_law_553 64 [.inl (w.2 1 (x3 + 1).toNatClampNeg), .inl (w.2 1 (x3 + 2).toNatClampNeg), .inl (w.2 1 (x3 + 3).toNatClampNeg)] [] rfl rfl (Nat.le_of_ble_eq_true rfl) (by decide) rfl (gk_0 hg pk_64) v1 (gd_nm hg g1) ?_
  show K 556 [some (.inr (.inr 1)), some (.inr (.inr 64)), some (.inr (.inr 417)), some (.inl x3)] [.inl r] h1
  refine ia_go hK ck_law_556_47 ⟨ld_law g1 w1 hL hx hi (j := 1) (by decide) (by decide), ld_law g1 w1 hL hx hi (j := 2) (by decide) (by decide), ld_law g1 w1 hL hx hi (j := 3) (by decide) (by decide), ?_⟩
  show K 572 [some (.inr (.inr 1)), some (.inr (.inr 64)), some (.inr (.inr 417)), some (.inl x3)] [.inl (ia_i h1 1 (x3 + 3).toNatClampNeg), .inl (ia_i h1 1 (x3 + 2).toNatClampNeg), .inl (ia_i h1 1 (x3 + 1).toNatClampNeg), .inr (.inr 417), .inl r] h1
  rw [o2]
  refine ia_cV hK mk_M_stop lk_13_56 dc_law_572 417 [.inl (w.2 1 (x3 + 1).toNatClampNeg), .inl (w.2 1 (x3 + 2).toNatClampNeg), .inl (w.2 1 (x3 + 3).toNatClampNeg)] [.inl r] rfl rfl (Nat.le_of_ble_eq_true rfl) (by decide) rfl (gk_12 g1 pk_417) v2 (gd_nm g1 g2) ?_
  show K 575 [some (.inr (.inr 1)), some (.inr (.inr 64)), some (.inr (.inr 417)), some (.inl x3)] [.inl r, .inl r] h2
  refine ia_go hK ck_law_575_49 ⟨fun _ => ?_, fun c => absurd rfl c⟩
  exact nxt h2 g2 I2
