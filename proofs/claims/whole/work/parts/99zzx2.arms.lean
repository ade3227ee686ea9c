/-! arms of the law -/
set_option maxHeartbeats 4000000 in
theorem arm_20 {w : ia_O0} {N1 W1 : Nat} {K : ia_K} {L i : Nat} {x3 : Int32} {h : ia_H} (hK : ia_isK 101 mm_law N1 W1 K) (w1 : w.1 1 = (100, L)) (hL : L ≤ 5120) (oc : OCw w) (hx : x3.toInt = i) (hi : i + 10 ≤ L) (hg : gd_ w h) (I : INV (vw h)) (nxt : ∀ u, gd_ w u → INV (vw u) → K 2759 [some (.inr (.inr 1)), some (.inr (.inr 64)), some (.inr (.inr 417)), some (.inl x3)] [] u) : K 1413 [some (.inr (.inr 1)), some (.inr (.inr 64)), some (.inr (.inr 417)), some (.inl x3)] [] h := by
  have o1 : ia_i h 1 = w.2 1 := gd_o1 hg
  obtain ⟨r, h1, h2, e1, e2, I2⟩ := j_set (x1 := (w.2 1 (x3 + 1).toNatClampNeg)) (x2 := (w.2 1 (x3 + 2).toNatClampNeg)) (x3 := (w.2 1 (x3 + 3).toNatClampNeg)) (x4 := (w.2 1 (x3 + 4).toNatClampNeg)) (x5 := (w.2 1 (x3 + 5).toNatClampNeg)) hg oc I
  have v1 := t_I_set 93 hg e1
  have g1 : gd_ w h1 := g_I_set hg e1
  have v2 := t_M_set 88 g1 e2
  have g2 : gd_ w h2 := g_M_set g1 e2
  have o2 : ia_i h1 1 = w.2 1 := gd_o1 g1
  refine ia_go hK ck_law_1413_112 ⟨ld_law hg w1 hL hx hi (j := 1) (by decide) (by decide), ld_law hg w1 hL hx hi (j := 2) (by decide) (by decide), ld_law hg w1 hL hx hi (j := 3) (by decide) (by decide), ld_law hg w1 hL hx hi (j := 4) (by decide) (by decide), ld_law hg w1 hL hx hi (j := 5) (by decide) (by decide), ?_⟩
  show K 1439 [some (.inr (.inr 1)), some (.inr (.inr 64)), some (.inr (.inr 417)), some (.inl x3)] [.inl (ia_i h 1 (x3 + 5).toNatClampNeg), .inl (ia_i h 1 (x3 + 4).toNatClampNeg), .inl (ia_i h 1 (x3 + 3).toNatClampNeg), .inl (ia_i h 1 (x3 + 2).toNatClampNeg), .inl (ia_i h 1 (x3 + 1).toNatClampNeg), .inr (.inr 64)] h
  rw [o1]
  refine ia_cV hK mk_I_set lk_13_103 dc_law_1439 64 [.inl (w.2 1 (x3 + 1).toNatClampNeg), .inl (w.2 1 (x3 + 2).toNatClampNeg), .inl (w.2 1 (x3 + 3).toNatClampNeg), .inl (w.2 1 (x3 + 4).toNatClampNeg), .inl (w.2 1 (x3 + 5).toNatClampNeg)] [] rfl rfl (Nat.le_of_ble_eq_true rfl) (by decide) rfl (gk_0 hg pk_64) v1 (gd_nm hg g1) ?_
  show K 1442 [some (.inr (.inr 1)), some (.inr (.inr 64)), some (.inr (.inr 417)), some (.inl x3)] [.inl r] h1
  refine ia_go hK ck_law_1442_114 ⟨ld_law g1 w1 hL hx hi (j := 1) (by decide) (by decide), ld_law g1 w1 hL hx hi (j := 2) (by decide) (by decide), ld_law g1 w1 hL hx hi (j := 3) (by decide) (by decide), ld_law g1 w1 hL hx hi (j := 4) (by decide) (by decide), ld_law g1 w1 hL hx hi (j := 5) (by decide) (by decide), ?_⟩
  show K 1468 [some (.inr (.inr 1)), some (.inr (.inr 64)), some (.inr (.inr 417)), some (.inl x3)] [.inl (ia_i h1 1 (x3 + 5).toNatClampNeg), .inl (ia_i h1 1 (x3 + 4).toNatClampNeg), .inl (ia_i h1 1 (x3 + 3).toNatClampNeg), .inl (ia_i h1 1 (x3 + 2).toNatClampNeg), .inl (ia_i h1 1 (x3 + 1).toNatClampNeg), .inr (.inr 417), .inl r] h1
  rw [o2]
  refine ia_cV hK mk_M_set lk_13_106 dc_law_1468 417 [.inl (w.2 1 (x3 + 1).toNatClampNeg), .inl (w.2 1 (x3 + 2).toNatClampNeg), .inl (w.2 1 (x3 + 3).toNatClampNeg), .inl (w.2 1 (x3 + 4).toNatClampNeg), .inl (w.2 1 (x3 + 5).toNatClampNeg)] [.inl r] rfl rfl (Nat.le_of_ble_eq_true rfl) (by decide) rfl (gk_12 g1 pk_417) v2 (gd_nm g1 g2) ?_
  show K 1471 [some (.inr (.inr 1)), some (.inr (.inr 64)), some (.inr (.inr 417)), some (.inl x3)] [.inl r, .inl r] h2
  refine ia_go hK ck_law_1471_116 ⟨fun _ => ?_, fun c => absurd rfl c⟩
  exact nxt h2 g2 I2
set_option maxHeartbeats 4000000 in
theorem arm_21 {w : ia_O0} {N1 W1 : Nat} {K : ia_K} {L i : Nat} {x3 : Int32} {h : ia_H} (hK : ia_isK 101 mm_law N1 W1 K) (w1 : w.1 1 = (100, L)) (hL : L ≤ 5120) (oc : OCw w) (hx : x3.toInt = i) (hi : i + 10 ≤ L) (hg : gd_ w h) (I : INV (vw h)) (nxt : ∀ u, gd_ w u → INV (vw u) → K 2759 [some (.inr (.inr 1)), some (.inr (.inr 64)), some (.inr (.inr 417)), some (.inl x3)] [] u) : K 1476 [some (.inr (.inr 1)), some (.inr (.inr 64)), some (.inr (.inr 417)), some (.inl x3)] [] h := by
  have o1 : ia_i h 1 = w.2 1 := gd_o1 hg
  obtain ⟨r, h1, h2, e1, e2, I2⟩ := j_hearth (x1 := (w.2 1 (x3 + 1).toNatClampNeg)) (x2 := (w.2 1 (x3 + 2).toNatClampNeg)) (x3 := (w.2 1 (x3 + 3).toNatClampNeg)) (x4 := (w.2 1 (x3 + 4).toNatClampNeg)) hg oc I
  have v1 := t_I_hearth 93 hg e1
  have g1 : gd_ w h1 := g_I_hearth hg e1
  have v2 := t_M_hearth 89 g1 e2
  have g2 : gd_ w h2 := g_M_hearth g1 e2
  have o2 : ia_i h1 1 = w.2 1 := gd_o1 g1
  refine ia_go hK ck_law_1476_117 ⟨ld_law hg w1 hL hx hi (j := 1) (by decide) (by decide), ld_law hg w1 hL hx hi (j := 2) (by decide) (by decide), ld_law hg w1 hL hx hi (j := 3) (by decide) (by decide), ld_law hg w1 hL hx hi (j := 4) (by decide) (by decide), ?_⟩
  show K 1497 [some (.inr (.inr 1)), some (.inr (.inr 64)), some (.inr (.inr 417)), some (.inl x3)] [.inl (ia_i h 1 (x3 + 4).toNatClampNeg), .inl (ia_i h 1 (x3 + 3).toNatClampNeg), .inl (ia_i h 1 (x3 + 2).toNatClampNeg), .inl (ia_i h 1 (x3 + 1).toNatClampNeg), .inr (.inr 64)] h
  rw [o1]
  refine ia_cV hK mk_I_hearth lk_13_107 dc_law_1497 64 [.inl (w.2 1 (x3 + 1).toNatClampNeg), .inl (w.2 1 (x3 + 2).toNatClampNeg), .inl (w.2 1 (x3 + 3).toNatClampNeg), .inl (w.2 1 (x3 + 4).toNatClampNeg)] [] rfl rfl (Nat.le_of_ble_eq_true rfl) (by decide) rfl (gk_0 hg pk_64) v1 (gd_nm hg g1) ?_
  show K 1500 [some (.inr (.inr 1)), some (.inr (.inr 64)), some (.inr (.inr 417)), some (.inl x3)] [.inl r] h1
  refine ia_go hK ck_law_1500_119 ⟨ld_law g1 w1 hL hx hi (j := 1) (by decide) (by decide), ld_law g1 w1 hL hx hi (j := 2) (by decide) (by decide), ld_law g1 w1 hL hx hi (j := 3) (by decide) (by decide), ld_law g1 w1 hL hx hi (j := 4) (by decide) (by decide), ?_⟩
  show K 1521 [some (.inr (.inr 1)), some (.inr (.inr 64)), some (.inr (.inr 417)), some (.inl x3)] [.inl (ia_i h1 1 (x3 + 4).toNatClampNeg), .inl (ia_i h1 1 (x3 + 3).toNatClampNeg), .inl (ia_i h1 1 (x3 + 2).toNatClampNeg), .inl (ia_i h1 1 (x3 + 1).toNatClampNeg), .inr (.inr 417), .inl r] h1
  rw [o2]
  refine ia_cV hK mk_M_hearth lk_13_111 dc_law_1521 417 [.inl (w.2 1 (x3 + 1).toNatClampNeg), .inl (w.2 1 (x3 + 2).toNatClampNeg), .inl (w.2 1 (x3 + 3).toNatClampNeg), .inl (w.2 1 (x3 + 4).toNatClampNeg)] [.inl r] rfl rfl (Nat.le_of_ble_eq_true rfl) (by decide) rfl (gk_12 g1 pk_417) v2 (gd_nm g1 g2) ?_
  show K 1524 [some (.inr (.inr 1)), some (.inr (.inr 64)), some (.inr (.inr 417)), some (.inl x3)] [.inl r, .inl r] h2
  refine ia_go hK ck_law_1524_121 ⟨fun _ => ?_, fun c => absurd rfl c⟩
  exact nxt h2 g2 I2
set_option maxHeartbeats 4000000 in
theorem arm_22 {w : ia_O0} {N1 W1 : Nat} {K : ia_K} {L i : Nat} {x3 : Int32} {h : ia_H} (hK : ia_isK 101 mm_law N1 W1 K) (w1 : w.1 1 = (100, L)) (hL : L ≤ 5120) (oc : OCw w) (hx : x3.toInt = i) (hi : i + 10 ≤ L) (hg : gd_ w h) (I : INV (vw h)) (nxt : ∀ u, gd_ w u → INV (vw u) → K 2759 [some (.inr (.inr 1)), some (.inr (.inr 64)), some (.inr (.inr 417)), some (.inl x3)] [] u) : K 1529 [some (.inr (.inr 1)), some (.inr (.inr 64)), some (.inr (.inr 417)), some (.inl x3)] [] h := by
  have o1 : ia_i h 1 = w.2 1 := gd_o1 hg
  obtain ⟨r, h1, h2, e1, e2, I2⟩ := j_branches (x1 := (w.2 1 (x3 + 1).toNatClampNeg)) (x2 := (w.2 1 (x3 + 2).toNatClampNeg)) (x3 := (w.2 1 (x3 + 3).toNatClampNeg)) (x4 := (w.2 1 (x3 + 4).toNatClampNeg)) (x5 := (w.2 1 (x3 + 5).toNatClampNeg)) (x6 := (w.2 1 (x3 + 6).toNatClampNeg)) (x7 := (w.2 1 (x3 + 7).toNatClampNeg)) (x8 := (w.2 1 (x3 + 8).toNatClampNeg)) hg oc I
  have v1 := t_I_branches 93 hg e1
  have g1 : gd_ w h1 := g_I_branches hg e1
  have v2 := t_M_branches 88 g1 e2
  have g2 : gd_ w h2 := g_M_branches g1 e2
  have o2 : ia_i h1 1 = w.2 1 := gd_o1 g1
  refine ia_go hK ck_law_1529_122 ⟨ld_law hg w1 hL hx hi (j := 1) (by decide) (by decide), ld_law hg w1 hL hx hi (j := 2) (by decide) (by decide), ld_law hg w1 hL hx hi (j := 3) (by decide) (by decide), ld_law hg w1 hL hx hi (j := 4) (by decide) (by decide), ld_law hg w1 hL hx hi (j := 5) (by decide) (by decide), ld_law hg w1 hL hx hi (j := 6) (by decide) (by decide), ld_law hg w1 hL hx hi (j := 7) (by decide) (by decide), ld_law hg w1 hL hx hi (j := 8) (by decide) (by decide), ?_⟩
  show K 1573 [some (.inr (.inr 1)), some (.inr (.inr 64)), some (.inr (.inr 417)), some (.inl x3)] [.inl (ia_i h 1 (x3 + 8).toNatClampNeg), .inl (ia_i h 1 (x3 + 7).toNatClampNeg), .inl (ia_i h 1 (x3 + 6).toNatClampNeg), .inl (ia_i h 1 (x3 + 5).toNatClampNeg), .inl (ia_i h 1 (x3 + 4).toNatClampNeg), .inl (ia_i h 1 (x3 + 3).toNatClampNeg), .inl (ia_i h 1 (x3 + 2).toNatClampNeg), .inl (ia_i h 1 (x3 + 1).toNatClampNeg), .inr (.inr 64)] h
  rw [o1]
  refine ia_cV hK mk_I_branches lk_13_112 dc_law_1573 64 [.inl (w.2 1 (x3 + 1).toNatClampNeg), .inl (w.2 1 (x3 + 2).toNatClampNeg), .inl (w.2 1 (x3 + 3).toNatClampNeg), .inl (w.2 1 (x3 + 4).toNatClampNeg), .inl (w.2 1 (x3 + 5).toNatClampNeg), .inl (w.2 1 (x3 + 6).toNatClampNeg), .inl (w.2 1 (x3 + 7).toNatClampNeg), .inl (w.2 1 (x3 + 8).toNatClampNeg)] [] rfl rfl (Nat.le_of_ble_eq_true rfl) (by decide) rfl (gk_0 hg pk_64) v1 (gd_nm hg g1) ?_
  show K 1576 [some (.inr (.inr 1)), some (.inr (.inr 64)), some (.inr (.inr 417)), some (.inl x3)] [.inr (.inl r)] h1
  refine ia_go hK ck_law_1576_124 ⟨ld_law g1 w1 hL hx hi (j := 1) (by decide) (by decide), ld_law g1 w1 hL hx hi (j := 2) (by decide) (by decide), ld_law g1 w1 hL hx hi (j := 3) (by decide) (by decide), ld_law g1 w1 hL hx hi (j := 4) (by decide) (by decide), ld_law g1 w1 hL hx hi (j := 5) (by decide) (by decide), ld_law g1 w1 hL hx hi (j := 6) (by decide) (by decide), ld_law g1 w1 hL hx hi (j := 7) (by decide) (by decide), ld_law g1 w1 hL hx hi (j := 8) (by decide) (by decide), ?_⟩
  show K 1620 [some (.inr (.inr 1)), some (.inr (.inr 64)), some (.inr (.inr 417)), some (.inl x3)] [.inl (ia_i h1 1 (x3 + 8).toNatClampNeg), .inl (ia_i h1 1 (x3 + 7).toNatClampNeg), .inl (ia_i h1 1 (x3 + 6).toNatClampNeg), .inl (ia_i h1 1 (x3 + 5).toNatClampNeg), .inl (ia_i h1 1 (x3 + 4).toNatClampNeg), .inl (ia_i h1 1 (x3 + 3).toNatClampNeg), .inl (ia_i h1 1 (x3 + 2).toNatClampNeg), .inl (ia_i h1 1 (x3 + 1).toNatClampNeg), .inr (.inr 417), .inr (.inl r)] h1
  rw [o2]
  refine ia_cV hK mk_M_branches lk_13_116 dc_law_1620 417 [.inl (w.2 1 (x3 + 1).toNatClampNeg), .inl (w.2 1 (x3 + 2).toNatClampNeg), .inl (w.2 1 (x3 + 3).toNatClampNeg), .inl (w.2 1 (x3 + 4).toNatClampNeg), .inl (w.2 1 (x3 + 5).toNatClampNeg), .inl (w.2 1 (x3 + 6).toNatClampNeg), .inl (w.2 1 (x3 + 7).toNatClampNeg), .inl (w.2 1 (x3 + 8).toNatClampNeg)] [.inr (.inl r)] rfl rfl (Nat.le_of_ble_eq_true rfl) (by decide) rfl (gk_12 g1 pk_417) v2 (gd_nm g1 g2) ?_
  show K 1623 [some (.inr (.inr 1)), some (.inr (.inr 64)), some (.inr (.inr 417)), some (.inl x3)] [.inr (.inl r), .inr (.inl r)] h2
  refine ia_go hK ck_law_1623_126 ⟨fun _ => ?_, fun c => absurd (lgc r) c⟩
  exact nxt h2 g2 I2
set_option maxHeartbeats 4000000 in
theorem arm_23 {w : ia_O0} {N1 W1 : Nat} {K : ia_K} {L i : Nat} {x3 : Int32} {h : ia_H} (hK : ia_isK 101 mm_law N1 W1 K) (w1 : w.1 1 = (100, L)) (hL : L ≤ 5120) (oc : OCw w) (hx : x3.toInt = i) (hi : i + 10 ≤ L) (hg : gd_ w h) (I : INV (vw h)) (nxt : ∀ u, gd_ w u → INV (vw u) → K 2759 [some (.inr (.inr 1)), some (.inr (.inr 64)), some (.inr (.inr 417)), some (.inl x3)] [] u) : K 1629 [some (.inr (.inr 1)), some (.inr (.inr 64)), some (.inr (.inr 417)), some (.inl x3)] [] h := by
  have o1 : ia_i h 1 = w.2 1 := gd_o1 hg
  obtain ⟨r, h1, h2, e1, e2, I2⟩ := j_old (x1 := (w.2 1 (x3 + 1).toNatClampNeg)) (x2 := (w.2 1 (x3 + 2).toNatClampNeg)) (x3 := (w.2 1 (x3 + 3).toNatClampNeg)) (x4 := (w.2 1 (x3 + 4).toNatClampNeg)) (x5 := (w.2 1 (x3 + 5).toNatClampNeg)) (x6 := (w.2 1 (x3 + 6).toNatClampNeg)) (x7 := (w.2 1 (x3 + 7).toNatClampNeg)) (x8 := ((((w.2 1 (x3 + 8).toNatClampNeg)).toInt64 <<< ((32 : Int32).toInt64 &&& 63)) ||| (((w.2 1 (x3 + 9).toNatClampNeg)).toInt64 &&& 4294967295))) hg oc I
  have v1 := t_I_old 93 hg e1
  have g1 : gd_ w h1 := g_I_old hg e1
  have v2 := t_M_old 88 g1 e2
  have g2 : gd_ w h2 := g_M_old g1 e2
  have o2 : ia_i h1 1 = w.2 1 := gd_o1 g1
  refine ia_go hK ck_law_1629_127 ⟨ld_law hg w1 hL hx hi (j := 1) (by decide) (by decide), ld_law hg w1 hL hx hi (j := 2) (by decide) (by decide), ld_law hg w1 hL hx hi (j := 3) (by decide) (by decide), ld_law hg w1 hL hx hi (j := 4) (by decide) (by decide), ld_law hg w1 hL hx hi (j := 5) (by decide) (by decide), ld_law hg w1 hL hx hi (j := 6) (by decide) (by decide), ld_law hg w1 hL hx hi (j := 7) (by decide) (by decide), ld_law hg w1 hL hx hi (j := 8) (by decide) (by decide), ld_law hg w1 hL hx hi (j := 9) (by decide) (by decide), ?_⟩
  show K 1684 [some (.inr (.inr 1)), some (.inr (.inr 64)), some (.inr (.inr 417)), some (.inl x3)] [.inr (.inl ((ia_i h 1 (x3 + 9).toNatClampNeg)).toInt64), .inr (.inl (((ia_i h 1 (x3 + 8).toNatClampNeg)).toInt64 <<< ((32 : Int32).toInt64 &&& 63))), .inl (ia_i h 1 (x3 + 7).toNatClampNeg), .inl (ia_i h 1 (x3 + 6).toNatClampNeg), .inl (ia_i h 1 (x3 + 5).toNatClampNeg), .inl (ia_i h 1 (x3 + 4).toNatClampNeg), .inl (ia_i h 1 (x3 + 3).toNatClampNeg), .inl (ia_i h 1 (x3 + 2).toNatClampNeg), .inl (ia_i h 1 (x3 + 1).toNatClampNeg), .inr (.inr 64)] h
  rw [o1]
  refine ia_ldc2 hK (v := 4294967295) (ia_tb_in (List.mem_of_getElem? (i := 2233) (by decide +kernel)) rfl) dc_law_1684 ?_
  show K 1687 [some (.inr (.inr 1)), some (.inr (.inr 64)), some (.inr (.inr 417)), some (.inl x3)] [.inr (.inl 4294967295), .inr (.inl ((w.2 1 (x3 + 9).toNatClampNeg)).toInt64), .inr (.inl (((w.2 1 (x3 + 8).toNatClampNeg)).toInt64 <<< ((32 : Int32).toInt64 &&& 63))), .inl (w.2 1 (x3 + 7).toNatClampNeg), .inl (w.2 1 (x3 + 6).toNatClampNeg), .inl (w.2 1 (x3 + 5).toNatClampNeg), .inl (w.2 1 (x3 + 4).toNatClampNeg), .inl (w.2 1 (x3 + 3).toNatClampNeg), .inl (w.2 1 (x3 + 2).toNatClampNeg), .inl (w.2 1 (x3 + 1).toNatClampNeg), .inr (.inr 64)] h
  refine ia_go hK ck_law_1687_129 ?_
  show K 1689 [some (.inr (.inr 1)), some (.inr (.inr 64)), some (.inr (.inr 417)), some (.inl x3)] [.inr (.inl ((((w.2 1 (x3 + 8).toNatClampNeg)).toInt64 <<< ((32 : Int32).toInt64 &&& 63)) ||| (((w.2 1 (x3 + 9).toNatClampNeg)).toInt64 &&& 4294967295))), .inl (w.2 1 (x3 + 7).toNatClampNeg), .inl (w.2 1 (x3 + 6).toNatClampNeg), .inl (w.2 1 (x3 + 5).toNatClampNeg), .inl (w.2 1 (x3 + 4).toNatClampNeg), .inl (w.2 1 (x3 + 3).toNatClampNeg), .inl (w.2 1 (x3 + 2).toNatClampNeg), .inl (w.2 1 (x3 + 1).toNatClampNeg), .inr (.inr 64)] h
  refine ia_cV hK mk_I_old lk_13_119 dc_law_1689 64 [.inl (w.2 1 (x3 + 1).toNatClampNeg), .inl (w.2 1 (x3 + 2).toNatClampNeg), .inl (w.2 1 (x3 + 3).toNatClampNeg), .inl (w.2 1 (x3 + 4).toNatClampNeg), .inl (w.2 1 (x3 + 5).toNatClampNeg), .inl (w.2 1 (x3 + 6).toNatClampNeg), .inl (w.2 1 (x3 + 7).toNatClampNeg), .inr (.inl ((((w.2 1 (x3 + 8).toNatClampNeg)).toInt64 <<< ((32 : Int32).toInt64 &&& 63)) ||| (((w.2 1 (x3 + 9).toNatClampNeg)).toInt64 &&& 4294967295)))] [] rfl rfl (Nat.le_of_ble_eq_true rfl) (by decide) rfl (gk_0 hg pk_64) v1 (gd_nm hg g1) ?_
  show K 1692 [some (.inr (.inr 1)), some (.inr (.inr 64)), some (.inr (.inr 417)), some (.inl x3)] [.inl r] h1
  refine ia_go hK ck_law_1692_131 ⟨ld_law g1 w1 hL hx hi (j := 1) (by decide) (by decide), ld_law g1 w1 hL hx hi (j := 2) (by decide) (by decide), ld_law g1 w1 hL hx hi (j := 3) (by decide) (by decide), ld_law g1 w1 hL hx hi (j := 4) (by decide) (by decide), ld_law g1 w1 hL hx hi (j := 5) (by decide) (by decide), ld_law g1 w1 hL hx hi (j := 6) (by decide) (by decide), ld_law g1 w1 hL hx hi (j := 7) (by decide) (by decide), ld_law g1 w1 hL hx hi (j := 8) (by decide) (by decide), ld_law g1 w1 hL hx hi (j := 9) (by decide) (by decide), ?_⟩
  show K 1747 [some (.inr (.inr 1)), some (.inr (.inr 64)), some (.inr (.inr 417)), some (.inl x3)] [.inr (.inl ((ia_i h1 1 (x3 + 9).toNatClampNeg)).toInt64), .inr (.inl (((ia_i h1 1 (x3 + 8).toNatClampNeg)).toInt64 <<< ((32 : Int32).toInt64 &&& 63))), .inl (ia_i h1 1 (x3 + 7).toNatClampNeg), .inl (ia_i h1 1 (x3 + 6).toNatClampNeg), .inl (ia_i h1 1 (x3 + 5).toNatClampNeg), .inl (ia_i h1 1 (x3 + 4).toNatClampNeg), .inl (ia_i h1 1 (x3 + 3).toNatClampNeg), .inl (ia_i h1 1 (x3 + 2).toNatClampNeg), .inl (ia_i h1 1 (x3 + 1).toNatClampNeg), .inr (.inr 417), .inl r] h1
  rw [o2]
  refine ia_ldc2 hK (v := 4294967295) (ia_tb_in (List.mem_of_getElem? (i := 2233) (by decide +kernel)) rfl) dc_law_1747 ?_
  show K 1750 [some (.inr (.inr 1)), some (.inr (.inr 64)), some (.inr (.inr 417)), some (.inl x3)] [.inr (.inl 4294967295), .inr (.inl ((w.2 1 (x3 + 9).toNatClampNeg)).toInt64), .inr (.inl (((w.2 1 (x3 + 8).toNatClampNeg)).toInt64 <<< ((32 : Int32).toInt64 &&& 63))), .inl (w.2 1 (x3 + 7).toNatClampNeg), .inl (w.2 1 (x3 + 6).toNatClampNeg), .inl (w.2 1 (x3 + 5).toNatClampNeg), .inl (w.2 1 (x3 + 4).toNatClampNeg), .inl (w.2 1 (x3 + 3).toNatClampNeg), .inl (w.2 1 (x3 + 2).toNatClampNeg), .inl (w.2 1 (x3 + 1).toNatClampNeg), .inr (.inr 417), .inl r] h1
  refine ia_go hK ck_law_1750_133 ?_
  show K 1752 [some (.inr (.inr 1)), some (.inr (.inr 64)), some (.inr (.inr 417)), some (.inl x3)] [.inr (.inl ((((w.2 1 (x3 + 8).toNatClampNeg)).toInt64 <<< ((32 : Int32).toInt64 &&& 63)) ||| (((w.2 1 (x3 + 9).toNatClampNeg)).toInt64 &&& 4294967295))), .inl (w.2 1 (x3 + 7).toNatClampNeg), .inl (w.2 1 (x3 + 6).toNatClampNeg), .inl (w.2 1 (x3 + 5).toNatClampNeg), .inl (w.2 1 (x3 + 4).toNatClampNeg), .inl (w.2 1 (x3 + 3).toNatClampNeg), .inl (w.2 1 (x3 + 2).toNatClampNeg), .inl (w.2 1 (x3 + 1).toNatClampNeg), .inr (.inr 417), .inl r] h1
  refine ia_cV hK mk_M_old lk_13_123 dc_law_1752 417 [.inl (w.2 1 (x3 + 1).toNatClampNeg), .inl (w.2 1 (x3 + 2).toNatClampNeg), .inl (w.2 1 (x3 + 3).toNatClampNeg), .inl (w.2 1 (x3 + 4).toNatClampNeg), .inl (w.2 1 (x3 + 5).toNatClampNeg), .inl (w.2 1 (x3 + 6).toNatClampNeg), .inl (w.2 1 (x3 + 7).toNatClampNeg), .inr (.inl ((((w.2 1 (x3 + 8).toNatClampNeg)).toInt64 <<< ((32 : Int32).toInt64 &&& 63)) ||| (((w.2 1 (x3 + 9).toNatClampNeg)).toInt64 &&& 4294967295)))] [.inl r] rfl rfl (Nat.le_of_ble_eq_true rfl) (by decide) rfl (gk_12 g1 pk_417) v2 (gd_nm g1 g2) ?_
  show K 1755 [some (.inr (.inr 1)), some (.inr (.inr 64)), some (.inr (.inr 417)), some (.inl x3)] [.inl r, .inl r] h2
  refine ia_go hK ck_law_1755_135 ⟨fun _ => ?_, fun c => absurd rfl c⟩
  exact nxt h2 g2 I2
set_option maxHeartbeats 4000000 in
theorem arm_24 {w : ia_O0} {N1 W1 : Nat} {K : ia_K} {L i : Nat} {x3 : Int32} {h : ia_H} (hK : ia_isK 101 mm_law N1 W1 K) (w1 : w.1 1 = (100, L)) (hL : L ≤ 5120) (oc : OCw w) (hx : x3.toInt = i) (hi : i + 10 ≤ L) (hg : gd_ w h) (I : INV (vw h)) (nxt : ∀ u, gd_ w u → INV (vw u) → K 2759 [some (.inr (.inr 1)), some (.inr (.inr 64)), some (.inr (.inr 417)), some (.inl x3)] [] u) : K 1760 [some (.inr (.inr 1)), some (.inr (.inr 64)), some (.inr (.inr 417)), some (.inl x3)] [] h := by
  have o1 : ia_i h 1 = w.2 1 := gd_o1 hg
  obtain ⟨r, h1, h2, e1, e2, I2⟩ := j_thaw (x1 := (w.2 1 (x3 + 1).toNatClampNeg)) (x2 := (w.2 1 (x3 + 2).toNatClampNeg)) (x3 := (w.2 1 (x3 + 3).toNatClampNeg)) (x4 := (w.2 1 (x3 + 4).toNatClampNeg)) (x5 := (w.2 1 (x3 + 5).toNatClampNeg)) (x6 := (w.2 1 (x3 + 6).toNatClampNeg)) (x7 := (w.2 1 (x3 + 7).toNatClampNeg)) hg oc I
  have v1 := t_I_thaw 93 hg e1
  have g1 : gd_ w h1 := g_I_thaw hg e1
  have v2 := t_M_thaw 88 g1 e2
  have g2 : gd_ w h2 := g_M_thaw g1 e2
  have o2 : ia_i h1 1 = w.2 1 := gd_o1 g1
  refine ia_go hK ck_law_1760_136 ⟨ld_law hg w1 hL hx hi (j := 1) (by decide) (by decide), ld_law hg w1 hL hx hi (j := 2) (by decide) (by decide), ld_law hg w1 hL hx hi (j := 3) (by decide) (by decide), ld_law hg w1 hL hx hi (j := 4) (by decide) (by decide), ld_law hg w1 hL hx hi (j := 5) (by decide) (by decide), ld_law hg w1 hL hx hi (j := 6) (by decide) (by decide), ld_law hg w1 hL hx hi (j := 7) (by decide) (by decide), ?_⟩
  show K 1798 [some (.inr (.inr 1)), some (.inr (.inr 64)), some (.inr (.inr 417)), some (.inl x3)] [.inl (ia_i h 1 (x3 + 7).toNatClampNeg), .inl (ia_i h 1 (x3 + 6).toNatClampNeg), .inl (ia_i h 1 (x3 + 5).toNatClampNeg), .inl (ia_i h 1 (x3 + 4).toNatClampNeg), .inl (ia_i h 1 (x3 + 3).toNatClampNeg), .inl (ia_i h 1 (x3 + 2).toNatClampNeg), .inl (ia_i h 1 (x3 + 1).toNatClampNeg), .inr (.inr 64)] h
  rw [o1]
  refine ia_cV hK mk_I_thaw lk_13_124 dc_law_1798 64 [.inl (w.2 1 (x3 + 1).toNatClampNeg), .inl (w.2 1 (x3 + 2).toNatClampNeg), .inl (w.2 1 (x3 + 3).toNatClampNeg), .inl (w.2 1 (x3 + 4).toNatClampNeg), .inl (w.2 1 (x3 + 5).toNatClampNeg), .inl (w.2 1 (x3 + 6).toNatClampNeg), .inl (w.2 1 (x3 + 7).toNatClampNeg)] [] rfl rfl (Nat.le_of_ble_eq_true rfl) (by decide) rfl (gk_0 hg pk_64) v1 (gd_nm hg g1) ?_
  show K 1801 [some (.inr (.inr 1)), some (.inr (.inr 64)), some (.inr (.inr 417)), some (.inl x3)] [.inl r] h1
  refine ia_go hK ck_law_1801_138 ⟨ld_law g1 w1 hL hx hi (j := 1) (by decide) (by decide), ld_law g1 w1 hL hx hi (j := 2) (by decide) (by decide), ld_law g1 w1 hL hx hi (j := 3) (by decide) (by decide), ld_law g1 w1 hL hx hi (j := 4) (by decide) (by decide), ld_law g1 w1 hL hx hi (j := 5) (by decide) (by decide), ld_law g1 w1 hL hx hi (j := 6) (by decide) (by decide), ld_law g1 w1 hL hx hi (j := 7) (by decide) (by decide), ?_⟩
  show K 1839 [some (.inr (.inr 1)), some (.inr (.inr 64)), some (.inr (.inr 417)), some (.inl x3)] [.inl (ia_i h1 1 (x3 + 7).toNatClampNeg), .inl (ia_i h1 1 (x3 + 6).toNatClampNeg), .inl (ia_i h1 1 (x3 + 5).toNatClampNeg), .inl (ia_i h1 1 (x3 + 4).toNatClampNeg), .inl (ia_i h1 1 (x3 + 3).toNatClampNeg), .inl (ia_i h1 1 (x3 + 2).toNatClampNeg), .inl (ia_i h1 1 (x3 + 1).toNatClampNeg), .inr (.inr 417), .inl r] h1
  rw [o2]
  refine ia_cV hK mk_M_thaw lk_13_128 dc_law_1839 417 [.inl (w.2 1 (x3 + 1).toNatClampNeg), .inl (w.2 1 (x3 + 2).toNatClampNeg), .inl (w.2 1 (x3 + 3).toNatClampNeg), .inl (w.2 1 (x3 + 4).toNatClampNeg), .inl (w.2 1 (x3 + 5).toNatClampNeg), .inl (w.2 1 (x3 + 6).toNatClampNeg), .inl (w.2 1 (x3 + 7).toNatClampNeg)] [.inl r] rfl rfl (Nat.le_of_ble_eq_true rfl) (by decide) rfl (gk_12 g1 pk_417) v2 (gd_nm g1 g2) ?_
  show K 1842 [some (.inr (.inr 1)), some (.inr (.inr 64)), some (.inr (.inr 417)), some (.inl x3)] [.inl r, .inl r] h2
  refine ia_go hK ck_law_1842_140 ⟨fun _ => ?_, fun c => absurd rfl c⟩
  exact nxt h2 g2 I2
set_option maxHeartbeats 4000000 in
theorem arm_25 {w : ia_O0} {N1 W1 : Nat} {K : ia_K} {L i : Nat} {x3 : Int32} {h : ia_H} (hK : ia_isK 101 mm_law N1 W1 K) (w1 : w.1 1 = (100, L)) (hL : L ≤ 5120) (oc : OCw w) (hx : x3.toInt = i) (hi : i + 10 ≤ L) (hg : gd_ w h) (I : INV (vw h)) (nxt : ∀ u, gd_ w u → INV (vw u) → K 2759 [some (.inr (.inr 1)), some (.inr (.inr 64)), some (.inr (.inr 417)), some (.inl x3)] [] u) : K 1847 [some (.inr (.inr 1)), some (.inr (.inr 64)), some (.inr (.inr 417)), some (.inl x3)] [] h := by
  have o1 : ia_i h 1 = w.2 1 := gd_o1 hg
  obtain ⟨r, h1, h2, e1, e2, I2⟩ := j_gulls (x1 := (w.2 1 (x3 + 1).toNatClampNeg)) (x2 := (w.2 1 (x3 + 2).toNatClampNeg)) (x3 := (w.2 1 (x3 + 3).toNatClampNeg)) (x4 := (w.2 1 (x3 + 4).toNatClampNeg)) hg oc I
  have v1 := t_I_gulls 93 hg e1
  have g1 : gd_ w h1 := g_I_gulls hg e1
  have v2 := t_M_gulls 89 g1 e2
  have g2 : gd_ w h2 := g_M_gulls g1 e2
  have o2 : ia_i h1 1 = w.2 1 := gd_o1 g1
  refine ia_go hK ck_law_1847_141 ⟨ld_law hg w1 hL hx hi (j := 1) (by decide) (by decide), ld_law hg w1 hL hx hi (j := 2) (by decide) (by decide), ld_law hg w1 hL hx hi (j := 3) (by decide) (by decide), ld_law hg w1 hL hx hi (j := 4) (by decide) (by decide), ?_⟩
  show K 1868 [some (.inr (.inr 1)), some (.inr (.inr 64)), some (.inr (.inr 417)), some (.inl x3)] [.inl (ia_i h 1 (x3 + 4).toNatClampNeg), .inl (ia_i h 1 (x3 + 3).toNatClampNeg), .inl (ia_i h 1 (x3 + 2).toNatClampNeg), .inl (ia_i h 1 (x3 + 1).toNatClampNeg), .inr (.inr 64)] h
  rw [o1]
  refine ia_cV hK mk_I_gulls lk_13_129 dc_law_1868 64 [.inl (w.2 1 (x3 + 1).toNatClampNeg), .inl (w.2 1 (x3 + 2).toNatClampNeg), .inl (w.2 1 (x3 + 3).toNatClampNeg), .inl (w.2 1 (x3 + 4).toNatClampNeg)] [] rfl rfl (Nat.le_of_ble_eq_true rfl) (by decide) rfl (gk_0 hg pk_64) v1 (gd_nm hg g1) ?_
  show K 1871 [some (.inr (.inr 1)), some (.inr (.inr 64)), some (.inr (.inr 417)), some (.inl x3)] [.inl r] h1
  refine ia_go hK ck_law_1871_143 ⟨ld_law g1 w1 hL hx hi (j := 1) (by decide) (by decide), ld_law g1 w1 hL hx hi (j := 2) (by decide) (by decide), ld_law g1 w1 hL hx hi (j := 3) (by decide) (by decide), ld_law g1 w1 hL hx hi (j := 4) (by decide) (by decide), ?_⟩
  show K 1892 [some (.inr (.inr 1)), some (.inr (.inr 64)), some (.inr (.inr 417)), some (.inl x3)] [.inl (ia_i h1 1 (x3 + 4).toNatClampNeg), .inl (ia_i h1 1 (x3 + 3).toNatClampNeg), .inl (ia_i h1 1 (x3 + 2).toNatClampNeg), .inl (ia_i h1 1 (x3 + 1).toNatClampNeg), .inr (.inr 417), .inl r] h1
  rw [o2]
  refine ia_cV hK mk_M_gulls lk_13_132 dc_law_1892 417 [.inl (w.2 1 (x3 + 1).toNatClampNeg), .inl (w.2 1 (x3 + 2).toNatClampNeg), .inl (w.2 1 (x3 + 3).toNatClampNeg), .inl (w.2 1 (x3 + 4).toNatClampNeg)] [.inl r] rfl rfl (Nat.le_of_ble_eq_true rfl) (by decide) rfl (gk_12 g1 pk_417) v2 (gd_nm g1 g2) ?_
  show K 1895 [some (.inr (.inr 1)), some (.inr (.inr 64)), some (.inr (.inr 417)), some (.inl x3)] [.inl r, .inl r] h2
  refine ia_go hK ck_law_1895_145 ⟨fun _ => ?_, fun c => absurd rfl c⟩
  exact nxt h2 g2 I2
set_option maxHeartbeats 4000000 in
theorem arm_26 {w : ia_O0} {N1 W1 : Nat} {K : ia_K} {L i : Nat} {x3 : Int32} {h : ia_H} (hK : ia_isK 101 mm_law N1 W1 K) (w1 : w.1 1 = (100, L)) (hL : L ≤ 5120) (oc : OCw w) (hx : x3.toInt = i) (hi : i + 10 ≤ L) (hg : gd_ w h) (I : INV (vw h)) (nxt : ∀ u, gd_ w u → INV (vw u) → K 2759 [some (.inr (.inr 1)), some (.inr (.inr 64)), some (.inr (.inr 417)), some (.inl x3)] [] u) : K 1900 [some (.inr (.inr 1)), some (.inr (.inr 64)), some (.inr (.inr 417)), some (.inl x3)] [] h := by
  have o1 : ia_i h 1 = w.2 1 := gd_o1 hg
  obtain ⟨r, h1, h2, e1, e2, I2⟩ := j_sawn (x1 := (w.2 1 (x3 + 1).toNatClampNeg)) (x2 := (w.2 1 (x3 + 2).toNatClampNeg)) (x3 := (w.2 1 (x3 + 3).toNatClampNeg)) (x4 := (w.2 1 (x3 + 4).toNatClampNeg)) (x5 := (w.2 1 (x3 + 5).toNatClampNeg)) (x6 := (w.2 1 (x3 + 6).toNatClampNeg)) (x7 := (w.2 1 (x3 + 7).toNatClampNeg)) hg oc I
  have v1 := t_I_sawn 74 hg e1
  have g1 : gd_ w h1 := g_I_sawn hg e1
  have v2 := t_M_sawn 88 g1 e2
  have g2 : gd_ w h2 := g_M_sawn g1 e2
  have o2 : ia_i h1 1 = w.2 1 := gd_o1 g1
  refine ia_go hK ck_law_1900_146 ⟨ld_law hg w1 hL hx hi (j := 1) (by decide) (by decide), ld_law hg w1 hL hx hi (j := 2) (by decide) (by decide), ld_law hg w1 hL hx hi (j := 3) (by decide) (by decide), ld_law hg w1 hL hx hi (j := 4) (by decide) (by decide), ld_law hg w1 hL hx hi (j := 5) (by decide) (by decide), ld_law hg w1 hL hx hi (j := 6) (by decide) (by decide), ld_law hg w1 hL hx hi (j := 7) (by decide) (by decide), ?_⟩
  show K 1938 [some (.inr (.inr 1)), some (.inr (.inr 64)), some (.inr (.inr 417)), some (.inl x3)] [.inl (ia_i h 1 (x3 + 7).toNatClampNeg), .inl (ia_i h 1 (x3 + 6).toNatClampNeg), .inl (ia_i h 1 (x3 + 5).toNatClampNeg), .inl (ia_i h 1 (x3 + 4).toNatClampNeg), .inl (ia_i h 1 (x3 + 3).toNatClampNeg), .inl (ia_i h 1 (x3 + 2).toNatClampNeg), .inl (ia_i h 1 (x3 + 1).toNatClampNeg), .inr (.inr 64)] h
  rw [o1]
  refine ia_cV hK mk_I_sawn lk_13_133 dc_law_1938 64 [.inl (w.2 1 (x3 + 1).toNatClampNeg), .inl (w.2 1 (x3 + 2).toNatClampNeg), .inl (w.2 1 (x3 + 3).toNatClampNeg), .inl (w.2 1 (x3 + 4).toNatClampNeg), .inl (w.2 1 (x3 + 5).toNatClampNeg), .inl (w.2 1 (x3 + 6).toNatClampNeg), .inl (w.2 1 (x3 + 7).toNatClampNeg)] [] rfl rfl (Nat.le_of_ble_eq_true rfl) (by decide) rfl (gk_0 hg pk_64) v1 (gd_nm hg g1) ?_
  show K 1941 [some (.inr (.inr 1)), some (.inr (.inr 64)), some (.inr (.inr 417)), some (.inl x3)] [.inl r] h1
  refine ia_go hK ck_law_1941_148 ⟨ld_law g1 w1 hL hx hi (j := 1) (by decide) (by decide), ld_law g1 w1 hL hx hi (j := 2) (by decide) (by decide), ld_law g1 w1 hL hx hi (j := 3) (by decide) (by decide), ld_law g1 w1 hL hx hi (j := 4) (by decide) (by decide), ld_law g1 w1 hL hx hi (j := 5) (by decide) (by decide), ld_law g1 w1 hL hx hi (j := 6) (by decide) (by decide), ld_law g1 w1 hL hx hi (j := 7) (by decide) (by decide), ?_⟩
  show K 1979 [some (.inr (.inr 1)), some (.inr (.inr 64)), some (.inr (.inr 417)), some (.inl x3)] [.inl (ia_i h1 1 (x3 + 7).toNatClampNeg), .inl (ia_i h1 1 (x3 + 6).toNatClampNeg), .inl (ia_i h1 1 (x3 + 5).toNatClampNeg), .inl (ia_i h1 1 (x3 + 4).toNatClampNeg), .inl (ia_i h1 1 (x3 + 3).toNatClampNeg), .inl (ia_i h1 1 (x3 + 2).toNatClampNeg), .inl (ia_i h1 1 (x3 + 1).toNatClampNeg), .inr (.inr 417), .inl r] h1
  rw [o2]
  refine ia_cV hK mk_M_sawn lk_13_136 dc_law_1979 417 [.inl (w.2 1 (x3 + 1).toNatClampNeg), .inl (w.2 1 (x3 + 2).toNatClampNeg), .inl (w.2 1 (x3 + 3).toNatClampNeg), .inl (w.2 1 (x3 + 4).toNatClampNeg), .inl (w.2 1 (x3 + 5).toNatClampNeg), .inl (w.2 1 (x3 + 6).toNatClampNeg), .inl (w.2 1 (x3 + 7).toNatClampNeg)] [.inl r] rfl rfl (Nat.le_of_ble_eq_true rfl) (by decide) rfl (gk_12 g1 pk_417) v2 (gd_nm g1 g2) ?_
  show K 1982 [some (.inr (.inr 1)), some (.inr (.inr 64)), some (.inr (.inr 417)), some (.inl x3)] [.inl r, .inl r] h2
  refine ia_go hK ck_law_1982_150 ⟨fun _ => ?_, fun c => absurd rfl c⟩
  exact nxt h2 g2 I2
set_option maxHeartbeats 4000000 in
theorem arm_27 {w : ia_O0} {N1 W1 : Nat} {K : ia_K} {L i : Nat} {x3 : Int32} {h : ia_H} (hK : ia_isK 101 mm_law N1 W1 K) (w1 : w.1 1 = (100, L)) (hL : L ≤ 5120) (oc : OCw w) (hx : x3.toInt = i) (hi : i + 10 ≤ L) (hg : gd_ w h) (I : INV (vw h)) (nxt : ∀ u, gd_ w u → INV (vw u) → K 2759 [some (.inr (.inr 1)), some (.inr (.inr 64)), some (.inr (.inr 417)), some (.inl x3)] [] u) : K 1987 [some (.inr (.inr 1)), some (.inr (.inr 64)), some (.inr (.inr 417)), some (.inl x3)] [] h := by
  have o1 : ia_i h 1 = w.2 1 := gd_o1 hg
  obtain ⟨r, h1, h2, e1, e2, I2⟩ := j_meet (x1 := (w.2 1 (x3 + 1).toNatClampNeg)) (x2 := (w.2 1 (x3 + 2).toNatClampNeg)) (x3 := (w.2 1 (x3 + 3).toNatClampNeg)) (x4 := (w.2 1 (x3 + 4).toNatClampNeg)) (x5 := (w.2 1 (x3 + 5).toNatClampNeg)) (x6 := (w.2 1 (x3 + 6).toNatClampNeg)) (x7 := (w.2 1 (x3 + 7).toNatClampNeg)) (x8 := (w.2 1 (x3 + 8).toNatClampNeg)) (x9 := (zb (w.2 1 (x3 + 9).toNatClampNeg))) hg oc I
  have v1 := t_I_meet 93 hg e1
  have g1 : gd_ w h1 := g_I_meet hg e1
  have v2 := t_M_meet 88 g1 e2
  have g2 : gd_ w h2 := g_M_meet g1 e2
  have o2 : ia_i h1 1 = w.2 1 := gd_o1 g1
  refine ia_go hK ck_law_1987_151 ⟨ld_law hg w1 hL hx hi (j := 1) (by decide) (by decide), ld_law hg w1 hL hx hi (j := 2) (by decide) (by decide), ld_law hg w1 hL hx hi (j := 3) (by decide) (by decide), ld_law hg w1 hL hx hi (j := 4) (by decide) (by decide), ld_law hg w1 hL hx hi (j := 5) (by decide) (by decide), ld_law hg w1 hL hx hi (j := 6) (by decide) (by decide), ld_law hg w1 hL hx hi (j := 7) (by decide) (by decide), ld_law hg w1 hL hx hi (j := 8) (by decide) (by decide), ld_law hg w1 hL hx hi (j := 9) (by decide) (by decide), ?_⟩
  show K 2037 [some (.inr (.inr 1)), some (.inr (.inr 64)), some (.inr (.inr 417)), some (.inl x3)] [.inl (ia_i h 1 (x3 + 9).toNatClampNeg), .inl (ia_i h 1 (x3 + 8).toNatClampNeg), .inl (ia_i h 1 (x3 + 7).toNatClampNeg), .inl (ia_i h 1 (x3 + 6).toNatClampNeg), .inl (ia_i h 1 (x3 + 5).toNatClampNeg), .inl (ia_i h 1 (x3 + 4).toNatClampNeg), .inl (ia_i h 1 (x3 + 3).toNatClampNeg), .inl (ia_i h 1 (x3 + 2).toNatClampNeg), .inl (ia_i h 1 (x3 + 1).toNatClampNeg), .inr (.inr 64)] h
  rw [o1]
  have tail1 : K 2045 [some (.inr (.inr 1)), some (.inr (.inr 64)), some (.inr (.inr 417)), some (.inl x3)] [.inl (zb (w.2 1 (x3 + 9).toNatClampNeg)), .inl (w.2 1 (x3 + 8).toNatClampNeg), .inl (w.2 1 (x3 + 7).toNatClampNeg), .inl (w.2 1 (x3 + 6).toNatClampNeg), .inl (w.2 1 (x3 + 5).toNatClampNeg), .inl (w.2 1 (x3 + 4).toNatClampNeg), .inl (w.2 1 (x3 + 3).toNatClampNeg), .inl (w.2 1 (x3 + 2).toNatClampNeg), .inl (w.2 1 (x3 + 1).toNatClampNeg), .inr (.inr 64)] h := by
    refine ia_cV hK mk_I_meet lk_13_137 dc_law_2045 64 [.inl (w.2 1 (x3 + 1).toNatClampNeg), .inl (w.2 1 (x3 + 2).toNatClampNeg), .inl (w.2 1 (x3 + 3).toNatClampNeg), .inl (w.2 1 (x3 + 4).toNatClampNeg), .inl (w.2 1 (x3 + 5).toNatClampNeg), .inl (w.2 1 (x3 + 6).toNatClampNeg), .inl (w.2 1 (x3 + 7).toNatClampNeg), .inl (w.2 1 (x3 + 8).toNatClampNeg), .inl (zb (w.2 1 (x3 + 9).toNatClampNeg))] [] rfl rfl (Nat.le_of_ble_eq_true rfl) (by decide) rfl (gk_0 hg pk_64) v1 (gd_nm hg g1) ?_
    show K 2048 [some (.inr (.inr 1)), some (.inr (.inr 64)), some (.inr (.inr 417)), some (.inl x3)] [.inl r] h1
    refine ia_go hK ck_law_2048_156 ⟨ld_law g1 w1 hL hx hi (j := 1) (by decide) (by decide), ld_law g1 w1 hL hx hi (j := 2) (by decide) (by decide), ld_law g1 w1 hL hx hi (j := 3) (by decide) (by decide), ld_law g1 w1 hL hx hi (j := 4) (by decide) (by decide), ld_law g1 w1 hL hx hi (j := 5) (by decide) (by decide), ld_law g1 w1 hL hx hi (j := 6) (by decide) (by decide), ld_law g1 w1 hL hx hi (j := 7) (by decide) (by decide), ld_law g1 w1 hL hx hi (j := 8) (by decide) (by decide), ld_law g1 w1 hL hx hi (j := 9) (by decide) (by decide), ?_⟩
    show K 2098 [some (.inr (.inr 1)), some (.inr (.inr 64)), some (.inr (.inr 417)), some (.inl x3)] [.inl (ia_i h1 1 (x3 + 9).toNatClampNeg), .inl (ia_i h1 1 (x3 + 8).toNatClampNeg), .inl (ia_i h1 1 (x3 + 7).toNatClampNeg), .inl (ia_i h1 1 (x3 + 6).toNatClampNeg), .inl (ia_i h1 1 (x3 + 5).toNatClampNeg), .inl (ia_i h1 1 (x3 + 4).toNatClampNeg), .inl (ia_i h1 1 (x3 + 3).toNatClampNeg), .inl (ia_i h1 1 (x3 + 2).toNatClampNeg), .inl (ia_i h1 1 (x3 + 1).toNatClampNeg), .inr (.inr 417), .inl r] h1
    rw [o2]
    have tail2 : K 2106 [some (.inr (.inr 1)), some (.inr (.inr 64)), some (.inr (.inr 417)), some (.inl x3)] [.inl (zb (w.2 1 (x3 + 9).toNatClampNeg)), .inl (w.2 1 (x3 + 8).toNatClampNeg), .inl (w.2 1 (x3 + 7).toNatClampNeg), .inl (w.2 1 (x3 + 6).toNatClampNeg), .inl (w.2 1 (x3 + 5).toNatClampNeg), .inl (w.2 1 (x3 + 4).toNatClampNeg), .inl (w.2 1 (x3 + 3).toNatClampNeg), .inl (w.2 1 (x3 + 2).toNatClampNeg), .inl (w.2 1 (x3 + 1).toNatClampNeg), .inr (.inr 417), .inl r] h1 := by
      refine ia_cV hK mk_M_meet lk_13_141 dc_law_2106 417 [.inl (w.2 1 (x3 + 1).toNatClampNeg), .inl (w.2 1 (x3 + 2).toNatClampNeg), .inl (w.2 1 (x3 + 3).toNatClampNeg), .inl (w.2 1 (x3 + 4).toNatClampNeg), .inl (w.2 1 (x3 + 5).toNatClampNeg), .inl (w.2 1 (x3 + 6).toNatClampNeg), .inl (w.2 1 (x3 + 7).toNatClampNeg), .inl (w.2 1 (x3 + 8).toNatClampNeg), .inl (zb (w.2 1 (x3 + 9).toNatClampNeg))] [.inl r] rfl rfl (Nat.le_of_ble_eq_true rfl) (by decide) rfl (gk_12 g1 pk_417) v2 (gd_nm g1 g2) ?_
      show K 2109 [some (.inr (.inr 1)), some (.inr (.inr 64)), some (.inr (.inr 417)), some (.inl x3)] [.inl r, .inl r] h2
      refine ia_go hK ck_law_2109_161 ⟨fun _ => ?_, fun c => absurd rfl c⟩
      exact nxt h2 g2 I2
    refine ia_go hK ck_law_2098_157 ⟨fun c => ?_, fun c => ?_⟩
    · show K 2105 [some (.inr (.inr 1)), some (.inr (.inr 64)), some (.inr (.inr 417)), some (.inl x3)] [.inl (w.2 1 (x3 + 8).toNatClampNeg), .inl (w.2 1 (x3 + 7).toNatClampNeg), .inl (w.2 1 (x3 + 6).toNatClampNeg), .inl (w.2 1 (x3 + 5).toNatClampNeg), .inl (w.2 1 (x3 + 4).toNatClampNeg), .inl (w.2 1 (x3 + 3).toNatClampNeg), .inl (w.2 1 (x3 + 2).toNatClampNeg), .inl (w.2 1 (x3 + 1).toNatClampNeg), .inr (.inr 417), .inl r] h1
      refine ia_go hK ck_law_2105_159 ?_
      show K 2106 [some (.inr (.inr 1)), some (.inr (.inr 64)), some (.inr (.inr 417)), some (.inl x3)] [.inl 0, .inl (w.2 1 (x3 + 8).toNatClampNeg), .inl (w.2 1 (x3 + 7).toNatClampNeg), .inl (w.2 1 (x3 + 6).toNatClampNeg), .inl (w.2 1 (x3 + 5).toNatClampNeg), .inl (w.2 1 (x3 + 4).toNatClampNeg), .inl (w.2 1 (x3 + 3).toNatClampNeg), .inl (w.2 1 (x3 + 2).toNatClampNeg), .inl (w.2 1 (x3 + 1).toNatClampNeg), .inr (.inr 417), .inl r] h1
      rw [zb_0 c] at tail2
      exact tail2
    · show K 2101 [some (.inr (.inr 1)), some (.inr (.inr 64)), some (.inr (.inr 417)), some (.inl x3)] [.inl (w.2 1 (x3 + 8).toNatClampNeg), .inl (w.2 1 (x3 + 7).toNatClampNeg), .inl (w.2 1 (x3 + 6).toNatClampNeg), .inl (w.2 1 (x3 + 5).toNatClampNeg), .inl (w.2 1 (x3 + 4).toNatClampNeg), .inl (w.2 1 (x3 + 3).toNatClampNeg), .inl (w.2 1 (x3 + 2).toNatClampNeg), .inl (w.2 1 (x3 + 1).toNatClampNeg), .inr (.inr 417), .inl r] h1
      refine ia_go hK ck_law_2101_158 ?_
      show K 2106 [some (.inr (.inr 1)), some (.inr (.inr 64)), some (.inr (.inr 417)), some (.inl x3)] [.inl 1, .inl (w.2 1 (x3 + 8).toNatClampNeg), .inl (w.2 1 (x3 + 7).toNatClampNeg), .inl (w.2 1 (x3 + 6).toNatClampNeg), .inl (w.2 1 (x3 + 5).toNatClampNeg), .inl (w.2 1 (x3 + 4).toNatClampNeg), .inl (w.2 1 (x3 + 3).toNatClampNeg), .inl (w.2 1 (x3 + 2).toNatClampNeg), .inl (w.2 1 (x3 + 1).toNatClampNeg), .inr (.inr 417), .inl r] h1
      rw [zb_1 c] at tail2
      exact tail2
  refine ia_go hK ck_law_2037_152 ⟨fun c => ?_, fun c => ?_⟩
  · show K 2044 [some (.inr (.inr 1)), some (.inr (.inr 64)), some (.inr (.inr 417)), some (.inl x3)] [.inl (w.2 1 (x3 + 8).toNatClampNeg), .inl (w.2 1 (x3 + 7).toNatClampNeg), .inl (w.2 1 (x3 + 6).toNatClampNeg), .inl (w.2 1 (x3 + 5).toNatClampNeg), .inl (w.2 1 (x3 + 4).toNatClampNeg), .inl (w.2 1 (x3 + 3).toNatClampNeg), .inl (w.2 1 (x3 + 2).toNatClampNeg), .inl (w.2 1 (x3 + 1).toNatClampNeg), .inr (.inr 64)] h
    refine ia_go hK ck_law_2044_154 ?_
    show K 2045 [some (.inr (.inr 1)), some (.inr (.inr 64)), some (.inr (.inr 417)), some (.inl x3)] [.inl 0, .inl (w.2 1 (x3 + 8).toNatClampNeg), .inl (w.2 1 (x3 + 7).toNatClampNeg), .inl (w.2 1 (x3 + 6).toNatClampNeg), .inl (w.2 1 (x3 + 5).toNatClampNeg), .inl (w.2 1 (x3 + 4).toNatClampNeg), .inl (w.2 1 (x3 + 3).toNatClampNeg), .inl (w.2 1 (x3 + 2).toNatClampNeg), .inl (w.2 1 (x3 + 1).toNatClampNeg), .inr (.inr 64)] h
    rw [zb_0 c] at tail1
    exact tail1
  · show K 2040 [some (.inr (.inr 1)), some (.inr (.inr 64)), some (.inr (.inr 417)), some (.inl x3)] [.inl (w.2 1 (x3 + 8).toNatClampNeg), .inl (w.2 1 (x3 + 7).toNatClampNeg), .inl (w.2 1 (x3 + 6).toNatClampNeg), .inl (w.2 1 (x3 + 5).toNatClampNeg), .inl (w.2 1 (x3 + 4).toNatClampNeg), .inl (w.2 1 (x3 + 3).toNatClampNeg), .inl (w.2 1 (x3 + 2).toNatClampNeg), .inl (w.2 1 (x3 + 1).toNatClampNeg), .inr (.inr 64)] h
    refine ia_go hK ck_law_2040_153 ?_
    show K 2045 [some (.inr (.inr 1)), some (.inr (.inr 64)), some (.inr (.inr 417)), some (.inl x3)] [.inl 1, .inl (w.2 1 (x3 + 8).toNatClampNeg), .inl (w.2 1 (x3 + 7).toNatClampNeg), .inl (w.2 1 (x3 + 6).toNatClampNeg), .inl (w.2 1 (x3 + 5).toNatClampNeg), .inl (w.2 1 (x3 + 4).toNatClampNeg), .inl (w.2 1 (x3 + 3).toNatClampNeg), .inl (w.2 1 (x3 + 2).toNatClampNeg), .inl (w.2 1 (x3 + 1).toNatClampNeg), .inr (.inr 64)] h
    rw [zb_1 c] at tail1
    exact tail1
set_option maxHeartbeats 4000000 in
theorem arm_28 {w : ia_O0} {N1 W1 : Nat} {K : ia_K} {L i : Nat} {x3 : Int32} {h : ia_H} (hK : ia_isK 101 mm_law N1 W1 K) (w1 : w.1 1 = (100, L)) (hL : L ≤ 5120) (oc : OCw w) (hx : x3.toInt = i) (hi : i + 10 ≤ L) (hg : gd_ w h) (I : INV (vw h)) (nxt : ∀ u, gd_ w u → INV (vw u) → K 2759 [some (.inr (.inr 1)), some (.inr (.inr 64)), some (.inr (.inr 417)), some (.inl x3)] [] u) : K 2114 [some (.inr (.inr 1)), some (.inr (.inr 64)), some (.inr (.inr 417)), some (.inl x3)] [] h := by
  have o1 : ia_i h 1 = w.2 1 := gd_o1 hg
  obtain ⟨r, h1, h2, e1, e2, I2⟩ := j_winter (x1 := (w.2 1 (x3 + 1).toNatClampNeg)) (x2 := (w.2 1 (x3 + 2).toNatClampNeg)) (x3 := (w.2 1 (x3 + 3).toNatClampNeg)) (x4 := (w.2 1 (x3 + 4).toNatClampNeg)) (x5 := (w.2 1 (x3 + 5).toNatClampNeg)) (x6 := (w.2 1 (x3 + 6).toNatClampNeg)) (x7 := (w.2 1 (x3 + 7).toNatClampNeg)) hg oc I
  have v1 := t_I_winter 93 hg e1
  have g1 : gd_ w h1 := g_I_winter hg e1
  have v2 := t_M_winter 89 g1 e2
  have g2 : gd_ w h2 := g_M_winter g1 e2
  have o2 : ia_i h1 1 = w.2 1 := gd_o1 g1
  refine ia_go hK ck_law_2114_162 ⟨ld_law hg w1 hL hx hi (j := 1) (by decide) (by decide), ld_law hg w1 hL hx hi (j := 2) (by decide) (by decide), ld_law hg w1 hL hx hi (j := 3) (by decide) (by decide), ld_law hg w1 hL hx hi (j := 4) (by decide) (by decide), ld_law hg w1 hL hx hi (j := 5) (by decide) (by decide), ld_law hg w1 hL hx hi (j := 6) (by decide) (by decide), ld_law hg w1 hL hx hi (j := 7) (by decide) (by decide), ?_⟩
  show K 2152 [some (.inr (.inr 1)), some (.inr (.inr 64)), some (.inr (.inr 417)), some (.inl x3)] [.inl (ia_i h 1 (x3 + 7).toNatClampNeg), .inl (ia_i h 1 (x3 + 6).toNatClampNeg), .inl (ia_i h 1 (x3 + 5).toNatClampNeg), .inl (ia_i h 1 (x3 + 4).toNatClampNeg), .inl (ia_i h 1 (x3 + 3).toNatClampNeg), .inl (ia_i h 1 (x3 + 2).toNatClampNeg), .inl (ia_i h 1 (x3 + 1).toNatClampNeg), .inr (.inr 64)] h
  rw [o1]
  refine ia_cV hK mk_I_winter lk_13_142 dc_law_2152 64 [.inl (w.2 1 (x3 + 1).toNatClampNeg), .inl (w.2 1 (x3 + 2).toNatClampNeg), .inl (w.2 1 (x3 + 3).toNatClampNeg), .inl (w.2 1 (x3 + 4).toNatClampNeg), .inl (w.2 1 (x3 + 5).toNatClampNeg), .inl (w.2 1 (x3 + 6).toNatClampNeg), .inl (w.2 1 (x3 + 7).toNatClampNeg)] [] rfl rfl (Nat.le_of_ble_eq_true rfl) (by decide) rfl (gk_0 hg pk_64) v1 (gd_nm hg g1) ?_
  show K 2155 [some (.inr (.inr 1)), some (.inr (.inr 64)), some (.inr (.inr 417)), some (.inl x3)] [.inl r] h1
  refine ia_go hK ck_law_2155_164 ⟨ld_law g1 w1 hL hx hi (j := 1) (by decide) (by decide), ld_law g1 w1 hL hx hi (j := 2) (by decide) (by decide), ld_law g1 w1 hL hx hi (j := 3) (by decide) (by decide), ld_law g1 w1 hL hx hi (j := 4) (by decide) (by decide), ld_law g1 w1 hL hx hi (j := 5) (by decide) (by decide), ld_law g1 w1 hL hx hi (j := 6) (by decide) (by decide), ld_law g1 w1 hL hx hi (j := 7) (by decide) (by decide), ?_⟩
  show K 2193 [some (.inr (.inr 1)), some (.inr (.inr 64)), some (.inr (.inr 417)), some (.inl x3)] [.inl (ia_i h1 1 (x3 + 7).toNatClampNeg), .inl (ia_i h1 1 (x3 + 6).toNatClampNeg), .inl (ia_i h1 1 (x3 + 5).toNatClampNeg), .inl (ia_i h1 1 (x3 + 4).toNatClampNeg), .inl (ia_i h1 1 (x3 + 3).toNatClampNeg), .inl (ia_i h1 1 (x3 + 2).toNatClampNeg), .inl (ia_i h1 1 (x3 + 1).toNatClampNeg), .inr (.inr 417), .inl r] h1
  rw [o2]
  refine ia_cV hK mk_M_winter lk_13_145 dc_law_2193 417 [.inl (w.2 1 (x3 + 1).toNatClampNeg), .inl (w.2 1 (x3 + 2).toNatClampNeg), .inl (w.2 1 (x3 + 3).toNatClampNeg), .inl (w.2 1 (x3 + 4).toNatClampNeg), .inl (w.2 1 (x3 + 5).toNatClampNeg), .inl (w.2 1 (x3 + 6).toNatClampNeg), .inl (w.2 1 (x3 + 7).toNatClampNeg)] [.inl r] rfl rfl (Nat.le_of_ble_eq_true rfl) (by decide) rfl (gk_12 g1 pk_417) v2 (gd_nm g1 g2) ?_
  show K 2196 [some (.inr (.inr 1)), some (.inr (.inr 64)), some (.inr (.inr 417)), some (.inl x3)] [.inl r, .inl r] h2
  refine ia_go hK ck_law_2196_166 ⟨fun _ => ?_, fun c => absurd rfl c⟩
  exact nxt h2 g2 I2
set_option maxHeartbeats 4000000 in
theorem arm_29 {w : ia_O0} {N1 W1 : Nat} {K : ia_K} {L i : Nat} {x3 : Int32} {h : ia_H} (hK : ia_isK 101 mm_law N1 W1 K) (w1 : w.1 1 = (100, L)) (hL : L ≤ 5120) (oc : OCw w) (hx : x3.toInt = i) (hi : i + 10 ≤ L) (hg : gd_ w h) (I : INV (vw h)) (nxt : ∀ u, gd_ w u → INV (vw u) → K 2759 [some (.inr (.inr 1)), some (.inr (.inr 64)), some (.inr (.inr 417)), some (.inl x3)] [] u) : K 2201 [some (.inr (.inr 1)), some (.inr (.inr 64)), some (.inr (.inr 417)), some (.inl x3)] [] h := by
  have o1 : ia_i h 1 = w.2 1 := gd_o1 hg
  obtain ⟨r, h1, h2, e1, e2, I2⟩ := j_fallen (x1 := (w.2 1 (x3 + 1).toNatClampNeg)) (x2 := (w.2 1 (x3 + 2).toNatClampNeg)) (x3 := (w.2 1 (x3 + 3).toNatClampNeg)) (x4 := (w.2 1 (x3 + 4).toNatClampNeg)) (x5 := (w.2 1 (x3 + 5).toNatClampNeg)) (x6 := (w.2 1 (x3 + 6).toNatClampNeg)) (x7 := (w.2 1 (x3 + 7).toNatClampNeg)) (x8 := (w.2 1 (x3 + 8).toNatClampNeg)) hg oc I
  have v1 := t_I_fallen 93 hg e1
  have g1 : gd_ w h1 := g_I_fallen hg e1
  have v2 := t_M_fallen 88 g1 e2
  have g2 : gd_ w h2 := g_M_fallen g1 e2
  have o2 : ia_i h1 1 = w.2 1 := gd_o1 g1
  refine ia_go hK ck_law_2201_167 ⟨ld_law hg w1 hL hx hi (j := 1) (by decide) (by decide), ld_law hg w1 hL hx hi (j := 2) (by decide) (by decide), ld_law hg w1 hL hx hi (j := 3) (by decide) (by decide), ld_law hg w1 hL hx hi (j := 4) (by decide) (by decide), ld_law hg w1 hL hx hi (j := 5) (by decide) (by decide), ld_law hg w1 hL hx hi (j := 6) (by decide) (by decide), ld_law hg w1 hL hx hi (j := 7) (by decide) (by decide), ld_law hg w1 hL hx hi (j := 8) (by decide) (by decide), ?_⟩
  show K 2245 [some (.inr (.inr 1)), some (.inr (.inr 64)), some (.inr (.inr 417)), some (.inl x3)] [.inl (ia_i h 1 (x3 + 8).toNatClampNeg), .inl (ia_i h 1 (x3 + 7).toNatClampNeg), .inl (ia_i h 1 (x3 + 6).toNatClampNeg), .inl (ia_i h 1 (x3 + 5).toNatClampNeg), .inl (ia_i h 1 (x3 + 4).toNatClampNeg), .inl (ia_i h 1 (x3 + 3).toNatClampNeg), .inl (ia_i h 1 (x3 + 2).toNatClampNeg), .inl (ia_i h 1 (x3 + 1).toNatClampNeg), .inr (.inr 64)] h
  rw [o1]
  refine ia_cV hK mk_I_fallen lk_13_146 dc_law_2245 64 [.inl (w.2 1 (x3 + 1).toNatClampNeg), .inl (w.2 1 (x3 + 2).toNatClampNeg), .inl (w.2 1 (x3 + 3).toNatClampNeg), .inl (w.2 1 (x3 + 4).toNatClampNeg), .inl (w.2 1 (x3 + 5).toNatClampNeg), .inl (w.2 1 (x3 + 6).toNatClampNeg), .inl (w.2 1 (x3 + 7).toNatClampNeg), .inl (w.2 1 (x3 + 8).toNatClampNeg)] [] rfl rfl (Nat.le_of_ble_eq_true rfl) (by decide) rfl (gk_0 hg pk_64) v1 (gd_nm hg g1) ?_
  show K 2248 [some (.inr (.inr 1)), some (.inr (.inr 64)), some (.inr (.inr 417)), some (.inl x3)] [.inl r] h1
  refine ia_go hK ck_law_2248_169 ⟨ld_law g1 w1 hL hx hi (j := 1) (by decide) (by decide), ld_law g1 w1 hL hx hi (j := 2) (by decide) (by decide), ld_law g1 w1 hL hx hi (j := 3) (by decide) (by decide), ld_law g1 w1 hL hx hi (j := 4) (by decide) (by decide), ld_law g1 w1 hL hx hi (j := 5) (by decide) (by decide), ld_law g1 w1 hL hx hi (j := 6) (by decide) (by decide), ld_law g1 w1 hL hx hi (j := 7) (by decide) (by decide), ld_law g1 w1 hL hx hi (j := 8) (by decide) (by decide), ?_⟩
  show K 2292 [some (.inr (.inr 1)), some (.inr (.inr 64)), some (.inr (.inr 417)), some (.inl x3)] [.inl (ia_i h1 1 (x3 + 8).toNatClampNeg), .inl (ia_i h1 1 (x3 + 7).toNatClampNeg), .inl (ia_i h1 1 (x3 + 6).toNatClampNeg), .inl (ia_i h1 1 (x3 + 5).toNatClampNeg), .inl (ia_i h1 1 (x3 + 4).toNatClampNeg), .inl (ia_i h1 1 (x3 + 3).toNatClampNeg), .inl (ia_i h1 1 (x3 + 2).toNatClampNeg), .inl (ia_i h1 1 (x3 + 1).toNatClampNeg), .inr (.inr 417), .inl r] h1
  rw [o2]
  refine ia_cV hK mk_M_fallen lk_13_150 dc_law_2292 417 [.inl (w.2 1 (x3 + 1).toNatClampNeg), .inl (w.2 1 (x3 + 2).toNatClampNeg), .inl (w.2 1 (x3 + 3).toNatClampNeg), .inl (w.2 1 (x3 + 4).toNatClampNeg), .inl (w.2 1 (x3 + 5).toNatClampNeg), .inl (w.2 1 (x3 + 6).toNatClampNeg), .inl (w.2 1 (x3 + 7).toNatClampNeg), .inl (w.2 1 (x3 + 8).toNatClampNeg)] [.inl r] rfl rfl (Nat.le_of_ble_eq_true rfl) (by decide) rfl (gk_12 g1 pk_417) v2 (gd_nm g1 g2) ?_
  show K 2295 [some (.inr (.inr 1)), some (.inr (.inr 64)), some (.inr (.inr 417)), some (.inl x3)] [.inl r, .inl r] h2
  refine ia_go hK ck_law_2295_171 ⟨fun _ => ?_, fun c => absurd rfl c⟩
  exact nxt h2 g2 I2
