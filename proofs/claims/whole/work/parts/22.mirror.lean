def mm_La_crackBetween : ia_M := (⟨"IceStreet$Lake", "crackBetween", "(II)V"⟩, prog_4_method_6_code, 3, none, 3, false)
theorem ok_La_crackBetween : ia_mok mm_La_crackBetween := ⟨by decide +kernel, by decide +kernel, by decide +kernel, by decide +kernel⟩
theorem mk_La_crackBetween : ia_mkn mm_La_crackBetween 1 2 := ⟨ia_tb_in (List.mem_of_getElem? (i := 934) (by decide +kernel)) rfl, ia_tb_in (List.mem_of_getElem? (i := 135) (by decide +kernel)) rfl, by decide +kernel, by decide +kernel, ⟨ia_tb_in (List.mem_of_getElem? (i := 932) (by decide +kernel)) rfl, ia_tb_in (List.mem_of_getElem? (i := 933) (by decide +kernel)) rfl⟩⟩
theorem ck_La_crackBetween_0 : ia_cks 3 3 false prog_4_method_6_code 0 [(.aload_n 0, 0, 0, 0, 0), (.getfield 21, 3, 6, 3, 4), (.iload_n 1, 0, 0, 0, 0), (.dup2, 0, 0, 0, 0), (.laload, 0, 0, 0, 0), (.iload_n 2, 0, 0, 0, 0)] = true := by decide +kernel
theorem ck_La_crackBetween_11 : ia_cks 3 3 false prog_4_method_6_code 11 [(.lor, 0, 0, 0, 0), (.lastore, 0, 0, 0, 0), (.aload_n 0, 0, 0, 0, 0), (.getfield 21, 3, 6, 3, 4), (.iload_n 2, 0, 0, 0, 0), (.dup2, 0, 0, 0, 0), (.laload, 0, 0, 0, 0), (.iload_n 1, 0, 0, 0, 0)] = true := by decide +kernel
theorem ck_La_crackBetween_24 : ia_cks 3 3 false prog_4_method_6_code 24 [(.lor, 0, 0, 0, 0), (.lastore, 0, 0, 0, 0)] = true := by decide +kernel
theorem dc_La_crackBetween_8 : decode prog_4_method_6_code 8 = .ok (.invokestatic 90, 3) := by decide +kernel
theorem dc_La_crackBetween_21 : decode prog_4_method_6_code 21 = .ok (.invokestatic 90, 3) := by decide +kernel
theorem dc_La_crackBetween_26 : decode prog_4_method_6_code 26 = .ok (.return_, 1) := by decide +kernel
def f_La_crackBetween (a0 : Nat) (x1 : Int32) (x2 : Int32) (h : ia_H) : Option ia_H := ia_gd (ia_ib x1 36) ((f_I_bit x2 h).bind fun v2 => (ia_gd (ia_ib x1 36) (ia_gd (ia_ib x2 36) ((f_I_bit x1 (ia_wL h (a0 + 4) ((x1).toNatClampNeg) ((ia_l h (a0 + 4) ((x1).toNatClampNeg)) ||| v2))).bind fun v5 => (ia_gd (ia_ib x2 36) (some (ia_wL (ia_wL h (a0 + 4) ((x1).toNatClampNeg) ((ia_l h (a0 + 4) ((x1).toNatClampNeg)) ||| v2)) (a0 + 4) ((x2).toNatClampNeg) ((ia_l (ia_wL h (a0 + 4) ((x1).toNatClampNeg) ((ia_l h (a0 + 4) ((x1).toNatClampNeg)) ||| v2)) (a0 + 4) ((x2).toNatClampNeg)) ||| v5))))))))
theorem g_La_crackBetween {w : ia_O0} {a0 : Nat} {x1 : Int32} {x2 : Int32} {h : ia_H} (hg : gd_ w h) (p0 : (kd_D a0).1 = 3) {q : ia_H} (hm : f_La_crackBetween a0 x1 x2 h = some q) : gd_ w q := by
  obtain ⟨h1, e1⟩ : ∃ x, x = q := ⟨_, rfl⟩
  subst e1
  unfold f_La_crackBetween at hm
  obtain ⟨c1, hm⟩ := ia_gd_some hm
  obtain ⟨v2, hv2, hm⟩ := ia_bnd hm
  obtain ⟨c3, hm⟩ := ia_gd_some hm
  obtain ⟨c4, hm⟩ := ia_gd_some hm
  obtain ⟨v5, hv5, hm⟩ := ia_bnd hm
  obtain ⟨c6, hm⟩ := ia_gd_some hm
  obtain rfl := Option.some.inj hm
  exact (gd_wL (gd_wL hg))
theorem t_La_crackBetween {w : ia_O0} (d : Nat) {a0 : Nat} {x1 : Int32} {x2 : Int32} {h : ia_H} (hg : gd_ w h) (p0 : (kd_D a0).1 = 3) {q : ia_H} (hm : f_La_crackBetween a0 x1 x2 h = some q) : ia_Ev (d + 1) mm_La_crackBetween [.inr (.inr a0), .inl x1, .inl x2] h none q := by
  have gq := g_La_crackBetween hg p0 hm
  refine ia_Ev_intro ok_La_crackBetween (gd_le hg gq).1 (gd_le hg gq).2 (Nat.le_of_ble_eq_true rfl) (fun K hK hret => ?_)
  obtain ⟨h1, e1⟩ : ∃ x, x = q := ⟨_, rfl⟩
  subst e1
  show K 0 [some (.inr (.inr a0)), some (.inl x1), some (.inl x2)] [] h
  unfold f_La_crackBetween at hm
  obtain ⟨c1, hm⟩ := ia_gd_some hm
  refine ia_go hK ck_La_crackBetween_0 ⟨gk_3 hg p0, gr_3_6 hg p0, ga_s103 hg (ka_3_6 p0) c1, ?_⟩
  show K 8 [some (.inr (.inr a0)), some (.inl x1), some (.inl x2)] [.inl x2, .inr (.inl (ia_l h (a0 + 4) ((x1).toNatClampNeg))), .inl x1, .inr (.inr (a0 + 4))] h
  obtain ⟨v2, hv2, hm⟩ := ia_bnd hm
  have ev2 := t_I_bit (d + 0) hg hv2
  refine ia_cS hK mk_I_bit lk_3_90 dc_La_crackBetween_8 [.inl x2] [.inr (.inl (ia_l h (a0 + 4) ((x1).toNatClampNeg))), .inl x1, .inr (.inr (a0 + 4))] rfl rfl (Nat.le_of_ble_eq_true rfl) ev2 ⟨rfl, rfl⟩ ?_
  show K 11 [some (.inr (.inr a0)), some (.inl x1), some (.inl x2)] [.inr (.inl v2), .inr (.inl (ia_l h (a0 + 4) ((x1).toNatClampNeg))), .inl x1, .inr (.inr (a0 + 4))] h
  obtain ⟨c3, hm⟩ := ia_gd_some hm
  obtain ⟨c4, hm⟩ := ia_gd_some hm
  refine ia_go hK ck_La_crackBetween_11 ⟨ga_s103 hg (ka_3_6 p0) c3, gk_3 (gd_wL hg) p0, gr_3_6 (gd_wL hg) p0, ga_s103 (gd_wL hg) (ka_3_6 p0) c4, ?_⟩
  show K 21 [some (.inr (.inr a0)), some (.inl x1), some (.inl x2)] [.inl x1, .inr (.inl (ia_l (ia_wL h (a0 + 4) ((x1).toNatClampNeg) ((ia_l h (a0 + 4) ((x1).toNatClampNeg)) ||| v2)) (a0 + 4) ((x2).toNatClampNeg))), .inl x2, .inr (.inr (a0 + 4))] (ia_wL h (a0 + 4) ((x1).toNatClampNeg) ((ia_l h (a0 + 4) ((x1).toNatClampNeg)) ||| v2))
  obtain ⟨v5, hv5, hm⟩ := ia_bnd hm
  have ev5 := t_I_bit (d + 0) (gd_wL hg) hv5
  refine ia_cS hK mk_I_bit lk_3_90 dc_La_crackBetween_21 [.inl x1] [.inr (.inl (ia_l (ia_wL h (a0 + 4) ((x1).toNatClampNeg) ((ia_l h (a0 + 4) ((x1).toNatClampNeg)) ||| v2)) (a0 + 4) ((x2).toNatClampNeg))), .inl x2, .inr (.inr (a0 + 4))] rfl rfl (Nat.le_of_ble_eq_true rfl) ev5 ⟨rfl, rfl⟩ ?_
  show K 24 [some (.inr (.inr a0)), some (.inl x1), some (.inl x2)] [.inr (.inl v5), .inr (.inl (ia_l (ia_wL h (a0 + 4) ((x1).toNatClampNeg) ((ia_l h (a0 + 4) ((x1).toNatClampNeg)) ||| v2)) (a0 + 4) ((x2).toNatClampNeg))), .inl x2, .inr (.inr (a0 + 4))] (ia_wL h (a0 + 4) ((x1).toNatClampNeg) ((ia_l h (a0 + 4) ((x1).toNatClampNeg)) ||| v2))
  obtain ⟨c6, hm⟩ := ia_gd_some hm
  refine ia_go hK ck_La_crackBetween_24 ⟨ga_s103 (gd_wL hg) (ka_3_6 p0) c6, ?_⟩
  show K 26 [some (.inr (.inr a0)), some (.inl x1), some (.inl x2)] [] (ia_wL (ia_wL h (a0 + 4) ((x1).toNatClampNeg) ((ia_l h (a0 + 4) ((x1).toNatClampNeg)) ||| v2)) (a0 + 4) ((x2).toNatClampNeg) ((ia_l (ia_wL h (a0 + 4) ((x1).toNatClampNeg) ((ia_l h (a0 + 4) ((x1).toNatClampNeg)) ||| v2)) (a0 + 4) ((x2).toNatClampNeg)) ||| v5))
  obtain rfl := Option.some.inj hm
  exact hret 26 _ dc_La_crackBetween_26
def mm_La_addShop : ia_M := (⟨"IceStreet$Lake", "addShop", "(IIII)V"⟩, prog_4_method_7_code, 5, none, 3, false)
theorem ok_La_addShop : ia_mok mm_La_addShop := ⟨by decide +kernel, by decide +kernel, by decide +kernel, by decide +kernel⟩
theorem mk_La_addShop : ia_mkn mm_La_addShop 1 4 := ⟨ia_tb_in (List.mem_of_getElem? (i := 939) (by decide +kernel)) rfl, ia_tb_in (List.mem_of_getElem? (i := 135) (by decide +kernel)) rfl, by decide +kernel, by decide +kernel, ⟨ia_tb_in (List.mem_of_getElem? (i := 937) (by decide +kernel)) rfl, ia_tb_in (List.mem_of_getElem? (i := 938) (by decide +kernel)) rfl⟩⟩
theorem ck_La_addShop_0 : ia_cks 3 5 false prog_4_method_7_code 0 [(.aload_n 0, 0, 0, 0, 0), (.getfield 78, 3, 11, 0, 0), (.bipush 6, 0, 0, 0, 0), (.if_icmp .ge 54, 0, 0, 0, 0)] = true := by decide +kernel
theorem ck_La_addShop_9 : ia_cks 3 5 false prog_4_method_7_code 9 [(.aload_n 0, 0, 0, 0, 0), (.getfield 28, 3, 12, 3, 6), (.aload_n 0, 0, 0, 0, 0), (.getfield 78, 3, 11, 0, 0), (.iload_n 1, 0, 0, 0, 0), (.iastore, 0, 0, 0, 0), (.aload_n 0, 0, 0, 0, 0), (.getfield 31, 3, 13, 3, 7), (.aload_n 0, 0, 0, 0, 0), (.getfield 78, 3, 11, 0, 0), (.iload_n 2, 0, 0, 0, 0), (.iastore, 0, 0, 0, 0), (.aload_n 0, 0, 0, 0, 0), (.getfield 34, 3, 14, 3, 8), (.aload_n 0, 0, 0, 0, 0), (.getfield 78, 3, 11, 0, 0), (.iload_n 3, 0, 0, 0, 0), (.iastore, 0, 0, 0, 0)] = true := by decide +kernel
theorem ck_La_addShop_39 : ia_cks 3 5 false prog_4_method_7_code 39 [(.aload_n 0, 0, 0, 0, 0), (.getfield 37, 3, 15, 3, 9), (.aload_n 0, 0, 0, 0, 0), (.getfield 78, 3, 11, 0, 0), (.iload 4, 0, 0, 0, 0), (.iastore, 0, 0, 0, 0), (.aload_n 0, 0, 0, 0, 0), (.dup, 0, 0, 0, 0), (.getfield 78, 3, 11, 0, 0), (.iconst 1, 0, 0, 0, 0), (.iadd, 0, 0, 0, 0), (.putfield 78, 3, 11, 0, 0)] = true := by decide +kernel
theorem dc_La_addShop_60 : decode prog_4_method_7_code 60 = .ok (.return_, 1) := by decide +kernel
def j_La_addShop_39 (a0 : Nat) (x1 : Int32) (x2 : Int32) (x3 : Int32) (x4 : Int32) (h : ia_H) : Option ia_H := ia_gd (ia_ib (ia_i h a0 11) 6) (some (ia_wI (ia_wI h (a0 + 9) ((ia_i h a0 11).toNatClampNeg) x4) a0 11 ((ia_i (ia_wI h (a0 + 9) ((ia_i h a0 11).toNatClampNeg) x4) a0 11) + 1)))
theorem tj_La_addShop_39 {w : ia_O0} {d N1 W1 : Nat} {K : ia_K} (hK : ia_isK (d + 0) mm_La_addShop N1 W1 K) {a0 : Nat} {x1 : Int32} {x2 : Int32} {x3 : Int32} {x4 : Int32} (p0 : (kd_D a0).1 = 3) {h1 : ia_H} (hret : ∀ (pc : Nat) (lv : ia_L), ia_ret mm_La_addShop pc none → K pc lv (none : Option ia_V).toList h1) : ∀ (h : ia_H), gd_ w h → j_La_addShop_39 a0 x1 x2 x3 x4 h = some h1 → K 39 [some (.inr (.inr a0)), none, none, none, some (.inl x4)] [] h := by
  intro h hg hm
  unfold j_La_addShop_39 at hm
  obtain ⟨c4, hm⟩ := ia_gd_some hm
  refine ia_go hK ck_La_addShop_39 ⟨gk_3 hg p0, gr_3_15 hg p0, gk_3 hg p0, ga_s100 hg (ka_3_15 p0) c4, gk_3 (gd_wI hg (kx_100 (ka_3_15 p0))) p0, gk_3 (gd_wI hg (kx_100 (ka_3_15 p0))) p0, ?_⟩
  show K 60 [some (.inr (.inr a0)), none, none, none, some (.inl x4)] [] (ia_wI (ia_wI h (a0 + 9) ((ia_i h a0 11).toNatClampNeg) x4) a0 11 ((ia_i (ia_wI h (a0 + 9) ((ia_i h a0 11).toNatClampNeg) x4) a0 11) + 1))
  obtain rfl := Option.some.inj hm
  exact hret 60 _ dc_La_addShop_60
theorem gj_La_addShop_39 {w : ia_O0} {a0 : Nat} {x1 : Int32} {x2 : Int32} {x3 : Int32} {x4 : Int32} (p0 : (kd_D a0).1 = 3) {h1 : ia_H} : ∀ (h : ia_H), gd_ w h → j_La_addShop_39 a0 x1 x2 x3 x4 h = some h1 → gd_ w h1 := by
  intro h hg hm
  unfold j_La_addShop_39 at hm
  obtain ⟨c4, hm⟩ := ia_gd_some hm
  obtain rfl := Option.some.inj hm
  exact (gd_wI (gd_wI hg (kx_100 (ka_3_15 p0))) (ko_3 p0))
def f_La_addShop (a0 : Nat) (x1 : Int32) (x2 : Int32) (x3 : Int32) (x4 : Int32) (h : ia_H) : Option ia_H := if 6 ≤ (ia_i h a0 11) then (some h) else (ia_gd (ia_ib (ia_i h a0 11) 6) (ia_gd (ia_ib (ia_i (ia_wI h (a0 + 6) ((ia_i h a0 11).toNatClampNeg) x1) a0 11) 6) (ia_gd (ia_ib (ia_i (ia_wI (ia_wI h (a0 + 6) ((ia_i h a0 11).toNatClampNeg) x1) (a0 + 7) ((ia_i (ia_wI h (a0 + 6) ((ia_i h a0 11).toNatClampNeg) x1) a0 11).toNatClampNeg) x2) a0 11) 6) (j_La_addShop_39 a0 x1 x2 x3 x4 (ia_wI (ia_wI (ia_wI h (a0 + 6) ((ia_i h a0 11).toNatClampNeg) x1) (a0 + 7) ((ia_i (ia_wI h (a0 + 6) ((ia_i h a0 11).toNatClampNeg) x1) a0 11).toNatClampNeg) x2) (a0 + 8) ((ia_i (ia_wI (ia_wI h (a0 + 6) ((ia_i h a0 11).toNatClampNeg) x1) (a0 + 7) ((ia_i (ia_wI h (a0 + 6) ((ia_i h a0 11).toNatClampNeg) x1) a0 11).toNatClampNeg) x2) a0 11).toNatClampNeg) x3)))))
theorem g_La_addShop {w : ia_O0} {a0 : Nat} {x1 : Int32} {x2 : Int32} {x3 : Int32} {x4 : Int32} {h : ia_H} (hg : gd_ w h) (p0 : (kd_D a0).1 = 3) {q : ia_H} (hm : f_La_addShop a0 x1 x2 x3 x4 h = some q) : gd_ w q := by
  obtain ⟨h1, e1⟩ : ∃ x, x = q := ⟨_, rfl⟩
  subst e1
  unfold f_La_addShop at hm
  by_cases c : 6 ≤ (ia_i h a0 11)
  · replace hm := ia_ifp hm c
    obtain rfl := Option.some.inj hm
    exact hg
  · replace hm := ia_ifn hm c
    obtain ⟨c1, hm⟩ := ia_gd_some hm
    obtain ⟨c2, hm⟩ := ia_gd_some hm
    obtain ⟨c3, hm⟩ := ia_gd_some hm
    exact gj_La_addShop_39 p0 (ia_wI (ia_wI (ia_wI h (a0 + 6) ((ia_i h a0 11).toNatClampNeg) x1) (a0 + 7) ((ia_i (ia_wI h (a0 + 6) ((ia_i h a0 11).toNatClampNeg) x1) a0 11).toNatClampNeg) x2) (a0 + 8) ((ia_i (ia_wI (ia_wI h (a0 + 6) ((ia_i h a0 11).toNatClampNeg) x1) (a0 + 7) ((ia_i (ia_wI h (a0 + 6) ((ia_i h a0 11).toNatClampNeg) x1) a0 11).toNatClampNeg) x2) a0 11).toNatClampNeg) x3) (gd_wI (gd_wI (gd_wI hg (kx_100 (ka_3_12 p0))) (kx_100 (ka_3_13 p0))) (kx_100 (ka_3_14 p0))) hm
theorem t_La_addShop {w : ia_O0} (d : Nat) {a0 : Nat} {x1 : Int32} {x2 : Int32} {x3 : Int32} {x4 : Int32} {h : ia_H} (hg : gd_ w h) (p0 : (kd_D a0).1 = 3) {q : ia_H} (hm : f_La_addShop a0 x1 x2 x3 x4 h = some q) : ia_Ev (d + 0) mm_La_addShop [.inr (.inr a0), .inl x1, .inl x2, .inl x3, .inl x4] h none q := by
  have gq := g_La_addShop hg p0 hm
  refine ia_Ev_intro ok_La_addShop (gd_le hg gq).1 (gd_le hg gq).2 (Nat.le_of_ble_eq_true rfl) (fun K hK hret => ?_)
  obtain ⟨h1, e1⟩ : ∃ x, x = q := ⟨_, rfl⟩
  subst e1
  show K 0 [some (.inr (.inr a0)), some (.inl x1), some (.inl x2), some (.inl x3), some (.inl x4)] [] h
  unfold f_La_addShop at hm
  refine ia_go hK ck_La_addShop_0 ⟨gk_3 hg p0, fun c => ?_, fun c => ?_⟩
  · replace hm := ia_ifp hm c
    show K 60 [some (.inr (.inr a0)), some (.inl x1), some (.inl x2), some (.inl x3), some (.inl x4)] [] h
    obtain rfl := Option.some.inj hm
    exact hret 60 _ dc_La_addShop_60
  · replace hm := ia_ifn hm c
    show K 9 [some (.inr (.inr a0)), some (.inl x1), some (.inl x2), some (.inl x3), some (.inl x4)] [] h
    obtain ⟨c1, hm⟩ := ia_gd_some hm
    obtain ⟨c2, hm⟩ := ia_gd_some hm
    obtain ⟨c3, hm⟩ := ia_gd_some hm
    refine ia_go hK ck_La_addShop_9 ⟨gk_3 hg p0, gr_3_12 hg p0, gk_3 hg p0, ga_s100 hg (ka_3_12 p0) c1, gk_3 (gd_wI hg (kx_100 (ka_3_12 p0))) p0, gr_3_13 (gd_wI hg (kx_100 (ka_3_12 p0))) p0, gk_3 (gd_wI hg (kx_100 (ka_3_12 p0))) p0, ga_s100 (gd_wI hg (kx_100 (ka_3_12 p0))) (ka_3_13 p0) c2, gk_3 (gd_wI (gd_wI hg (kx_100 (ka_3_12 p0))) (kx_100 (ka_3_13 p0))) p0, gr_3_14 (gd_wI (gd_wI hg (kx_100 (ka_3_12 p0))) (kx_100 (ka_3_13 p0))) p0, gk_3 (gd_wI (gd_wI hg (kx_100 (ka_3_12 p0))) (kx_100 (ka_3_13 p0))) p0, ga_s100 (gd_wI (gd_wI hg (kx_100 (ka_3_12 p0))) (kx_100 (ka_3_13 p0))) (ka_3_14 p0) c3, ?_⟩
    show K 39 [some (.inr (.inr a0)), some (.inl x1), some (.inl x2), some (.inl x3), some (.inl x4)] [] (ia_wI (ia_wI (ia_wI h (a0 + 6) ((ia_i h a0 11).toNatClampNeg) x1) (a0 + 7) ((ia_i (ia_wI h (a0 + 6) ((ia_i h a0 11).toNatClampNeg) x1) a0 11).toNatClampNeg) x2) (a0 + 8) ((ia_i (ia_wI (ia_wI h (a0 + 6) ((ia_i h a0 11).toNatClampNeg) x1) (a0 + 7) ((ia_i (ia_wI h (a0 + 6) ((ia_i h a0 11).toNatClampNeg) x1) a0 11).toNatClampNeg) x2) a0 11).toNatClampNeg) x3)
    refine ia_fg hK (lv' := [some (.inr (.inr a0)), none, none, none, some (.inl x4)]) ⟨rfl, rfl, trivial⟩ ?_
    exact tj_La_addShop_39 hK p0 hret (ia_wI (ia_wI (ia_wI h (a0 + 6) ((ia_i h a0 11).toNatClampNeg) x1) (a0 + 7) ((ia_i (ia_wI h (a0 + 6) ((ia_i h a0 11).toNatClampNeg) x1) a0 11).toNatClampNeg) x2) (a0 + 8) ((ia_i (ia_wI (ia_wI h (a0 + 6) ((ia_i h a0 11).toNatClampNeg) x1) (a0 + 7) ((ia_i (ia_wI h (a0 + 6) ((ia_i h a0 11).toNatClampNeg) x1) a0 11).toNatClampNeg) x2) a0 11).toNatClampNeg) x3) (gd_wI (gd_wI (gd_wI hg (kx_100 (ka_3_12 p0))) (kx_100 (ka_3_13 p0))) (kx_100 (ka_3_14 p0))) hm
def mm_Re_tellLake : ia_M := (⟨"IceStreet$Reader", "tellLake", "(I)V"⟩, prog_8_method_24_code, 4, none, 7, false)
theorem ok_Re_tellLake : ia_mok mm_Re_tellLake := ⟨by decide +kernel, by decide +kernel, by decide +kernel, by decide +kernel⟩
theorem mk_Re_tellLake : ia_mkn mm_Re_tellLake 1 1 := ⟨ia_tb_in (List.mem_of_getElem? (i := 929) (by decide +kernel)) rfl, ia_tb_in (List.mem_of_getElem? (i := 139) (by decide +kernel)) rfl, by decide +kernel, by decide +kernel, ⟨ia_tb_in (List.mem_of_getElem? (i := 928) (by decide +kernel)) rfl, ia_tb_in (List.mem_of_getElem? (i := 18) (by decide +kernel)) rfl⟩⟩
theorem ck_Re_tellLake_0 : ia_cks 7 4 false prog_8_method_24_code 0 [(.aload_n 0, 0, 0, 0, 0), (.getfield 32, 7, 5, 3, 22), (.iconst 0, 0, 0, 0, 0), (.iaload, 0, 0, 0, 0), (.istore_n 2, 0, 0, 0, 0), (.aload_n 0, 0, 0, 0, 0), (.getfield 32, 7, 5, 3, 22), (.iconst 1, 0, 0, 0, 0), (.iaload, 0, 0, 0, 0), (.istore_n 3, 0, 0, 0, 0), (.iload_n 1, 0, 0, 0, 0), (.tableswitch 172 0 9 #[53, 72, 86, 99, 112, 125, 172, 137, 172, 148], 0, 0, 0, 0)] = true := by decide +kernel
theorem ck_Re_tellLake_68 : ia_cks 7 4 false prog_8_method_24_code 68 [(.aload_n 0, 0, 0, 0, 0), (.getfield 12, 7, 0, 3, 1), (.iload_n 2, 0, 0, 0, 0), (.putfield 275, 3, 0, 0, 0), (.aload_n 0, 0, 0, 0, 0), (.getfield 12, 7, 0, 3, 1), (.iload_n 3, 0, 0, 0, 0), (.putfield 278, 3, 1, 0, 0), (.goto 103, 0, 0, 0, 0)] = true := by decide +kernel
theorem ck_Re_tellLake_87 : ia_cks 7 4 false prog_8_method_24_code 87 [(.aload_n 0, 0, 0, 0, 0), (.getfield 12, 7, 0, 3, 1), (.getfield 281, 3, 3, 3, 1), (.iload_n 2, 0, 0, 0, 0)] = true := by decide +kernel
theorem ck_Re_tellLake_98 : ia_cks 7 4 false prog_8_method_24_code 98 [(.goto 89, 0, 0, 0, 0)] = true := by decide +kernel
theorem ck_Re_tellLake_101 : ia_cks 7 4 false prog_8_method_24_code 101 [(.aload_n 0, 0, 0, 0, 0), (.getfield 12, 7, 0, 3, 1), (.getfield 281, 3, 3, 3, 1), (.iload_n 2, 0, 0, 0, 0), (.iload_n 3, 0, 0, 0, 0), (.iastore, 0, 0, 0, 0), (.goto 76, 0, 0, 0, 0)] = true := by decide +kernel
theorem ck_Re_tellLake_114 : ia_cks 7 4 false prog_8_method_24_code 114 [(.aload_n 0, 0, 0, 0, 0), (.getfield 12, 7, 0, 3, 1), (.getfield 290, 3, 4, 3, 2), (.iload_n 2, 0, 0, 0, 0), (.iload_n 3, 0, 0, 0, 0), (.iastore, 0, 0, 0, 0), (.goto 63, 0, 0, 0, 0)] = true := by decide +kernel
theorem ck_Re_tellLake_127 : ia_cks 7 4 false prog_8_method_24_code 127 [(.aload_n 0, 0, 0, 0, 0), (.getfield 12, 7, 0, 3, 1), (.getfield 292, 3, 5, 3, 3), (.iload_n 2, 0, 0, 0, 0), (.iload_n 3, 0, 0, 0, 0), (.iastore, 0, 0, 0, 0), (.goto 50, 0, 0, 0, 0)] = true := by decide +kernel
theorem ck_Re_tellLake_140 : ia_cks 7 4 false prog_8_method_24_code 140 [(.aload_n 0, 0, 0, 0, 0), (.getfield 12, 7, 0, 3, 1), (.iload_n 2, 0, 0, 0, 0), (.iload_n 3, 0, 0, 0, 0)] = true := by decide +kernel
theorem ck_Re_tellLake_149 : ia_cks 7 4 false prog_8_method_24_code 149 [(.goto 38, 0, 0, 0, 0)] = true := by decide +kernel
theorem ck_Re_tellLake_152 : ia_cks 7 4 false prog_8_method_24_code 152 [(.aload_n 0, 0, 0, 0, 0), (.getfield 12, 7, 0, 3, 1), (.iload_n 2, 0, 0, 0, 0), (.putfield 297, 3, 2, 0, 0), (.goto 27, 0, 0, 0, 0)] = true := by decide +kernel
theorem ck_Re_tellLake_163 : ia_cks 7 4 false prog_8_method_24_code 163 [(.aload_n 0, 0, 0, 0, 0), (.getfield 12, 7, 0, 3, 1), (.iload_n 2, 0, 0, 0, 0), (.iload_n 3, 0, 0, 0, 0), (.aload_n 0, 0, 0, 0, 0), (.getfield 32, 7, 5, 3, 22), (.iconst 2, 0, 0, 0, 0), (.iaload, 0, 0, 0, 0), (.aload_n 0, 0, 0, 0, 0), (.getfield 32, 7, 5, 3, 22), (.iconst 3, 0, 0, 0, 0), (.iaload, 0, 0, 0, 0)] = true := by decide +kernel
theorem ck_Re_tellLake_184 : ia_cks 7 4 false prog_8_method_24_code 184 [(.goto 3, 0, 0, 0, 0)] = true := by decide +kernel
theorem dc_Re_tellLake_187 : decode prog_8_method_24_code 187 = .ok (.return_, 1) := by decide +kernel
theorem dc_Re_tellLake_95 : decode prog_8_method_24_code 95 = .ok (.invokestatic 284, 3) := by decide +kernel
theorem dc_Re_tellLake_146 : decode prog_8_method_24_code 146 = .ok (.invokevirtual 294, 3) := by decide +kernel
theorem dc_Re_tellLake_181 : decode prog_8_method_24_code 181 = .ok (.invokevirtual 299, 3) := by decide +kernel
def f_Re_tellLake (x1 : Int32) (h : ia_H) : Option ia_H := if x1 = 0 then (some (ia_wI (ia_wI h 280 0 (ia_i h 301 0)) 280 1 (ia_i h 301 1))) else if x1 = 1 then ((f_Ar_fill 281 (ia_i h 301 0) h).bind fun v2 => (some v2)) else if x1 = 2 then (ia_gd (ia_ib (ia_i h 301 0) 36) (some (ia_wI h 281 ((ia_i h 301 0).toNatClampNeg) (ia_i h 301 1)))) else if x1 = 3 then (ia_gd (ia_ib (ia_i h 301 0) 36) (some (ia_wI h 282 ((ia_i h 301 0).toNatClampNeg) (ia_i h 301 1)))) else if x1 = 4 then (ia_gd (ia_ib (ia_i h 301 0) 36) (some (ia_wI h 283 ((ia_i h 301 0).toNatClampNeg) (ia_i h 301 1)))) else if x1 = 5 then ((f_La_crackBetween 280 (ia_i h 301 0) (ia_i h 301 1) h).bind fun v10 => (some v10)) else if x1 = 6 then (some h) else if x1 = 7 then (some (ia_wI h 280 2 (ia_i h 301 0))) else if x1 = 8 then (some h) else if x1 = 9 then ((f_La_addShop 280 (ia_i h 301 0) (ia_i h 301 1) (ia_i h 301 2) (ia_i h 301 3) h).bind fun v15 => (some v15)) else (some h)
theorem g_Re_tellLake {w : ia_O0} {x1 : Int32} {h : ia_H} (hg : gd_ w h) {q : ia_H} (hm : f_Re_tellLake x1 h = some q) : gd_ w q := by
  obtain ⟨h1, e1⟩ : ∃ x, x = q := ⟨_, rfl⟩
  subst e1
  unfold f_Re_tellLake at hm
  by_cases c1 : x1 = 0
  · replace hm := ia_ifp hm c1
    obtain rfl := Option.some.inj hm
    exact (gd_wI (gd_wI hg (ko_3 (ka_7_0 pk_279))) (ko_3 (ka_7_0 pk_279)))
  · replace hm := ia_ifn hm c1
    by_cases c3 : x1 = 1
    · replace hm := ia_ifp hm c3
      obtain ⟨v2, hv2, hm⟩ := ia_bnd hm
      have gv2 := g_Ar_fill hg (congrArg Prod.fst (ka_3_3 (ka_7_0 pk_279))) hv2
      obtain rfl := Option.some.inj hm
      exact gv2
    · replace hm := ia_ifn hm c3
      by_cases c5 : x1 = 2
      · replace hm := ia_ifp hm c5
        obtain ⟨c4, hm⟩ := ia_gd_some hm
        obtain rfl := Option.some.inj hm
        exact (gd_wI hg (kx_100 (ka_3_3 (ka_7_0 pk_279))))
      · replace hm := ia_ifn hm c5
        by_cases c7 : x1 = 3
        · replace hm := ia_ifp hm c7
          obtain ⟨c6, hm⟩ := ia_gd_some hm
          obtain rfl := Option.some.inj hm
          exact (gd_wI hg (kx_100 (ka_3_4 (ka_7_0 pk_279))))
        · replace hm := ia_ifn hm c7
          by_cases c9 : x1 = 4
          · replace hm := ia_ifp hm c9
            obtain ⟨c8, hm⟩ := ia_gd_some hm
            obtain rfl := Option.some.inj hm
            exact (gd_wI hg (kx_100 (ka_3_5 (ka_7_0 pk_279))))
          · replace hm := ia_ifn hm c9
            by_cases c11 : x1 = 5
            · replace hm := ia_ifp hm c11
              obtain ⟨v10, hv10, hm⟩ := ia_bnd hm
              have gv10 := g_La_crackBetween hg (ka_7_0 pk_279) hv10
              obtain rfl := Option.some.inj hm
              exact gv10
            · replace hm := ia_ifn hm c11
              by_cases c12 : x1 = 6
              · replace hm := ia_ifp hm c12
                obtain rfl := Option.some.inj hm
                exact hg
              · replace hm := ia_ifn hm c12
                by_cases c13 : x1 = 7
                · replace hm := ia_ifp hm c13
                  obtain rfl := Option.some.inj hm
                  exact (gd_wI hg (ko_3 (ka_7_0 pk_279)))
                · replace hm := ia_ifn hm c13
                  by_cases c14 : x1 = 8
                  · replace hm := ia_ifp hm c14
                    obtain rfl := Option.some.inj hm
                    exact hg
                  · replace hm := ia_ifn hm c14
                    by_cases c16 : x1 = 9
                    · replace hm := ia_ifp hm c16
                      obtain ⟨v15, hv15, hm⟩ := ia_bnd hm
                      have gv15 := g_La_addShop hg (ka_7_0 pk_279) hv15
                      obtain rfl := Option.some.inj hm
                      exact gv15
                    · replace hm := ia_ifn hm c16
                      obtain rfl := Option.some.inj hm
                      exact hg
theorem t_Re_tellLake {w : ia_O0} (d : Nat) {x1 : Int32} {h : ia_H} (hg : gd_ w h) {q : ia_H} (hm : f_Re_tellLake x1 h = some q) : ia_Ev (d + 2) mm_Re_tellLake [.inr (.inr 279), .inl x1] h none q := by
  have gq := g_Re_tellLake hg hm
  refine ia_Ev_intro ok_Re_tellLake (gd_le hg gq).1 (gd_le hg gq).2 (Nat.le_of_ble_eq_true rfl) (fun K hK hret => ?_)
  obtain ⟨h1, e1⟩ : ∃ x, x = q := ⟨_, rfl⟩
  subst e1
  show K 0 [some (.inr (.inr 279)), some (.inl x1), none, none] [] h
  unfold f_Re_tellLake at hm
  refine ia_go hK ck_Re_tellLake_0 ⟨gk_7 hg pk_279, gr_7_5 hg pk_279, ga_i100 hg (ka_7_5 pk_279) (by decide), gk_7 hg pk_279, gr_7_5 hg pk_279, ga_i100 hg (ka_7_5 pk_279) (by decide), ?_⟩
  show K (ia_tsw 15 172 0 9 #[53, 72, 86, 99, 112, 125, 172, 137, 172, 148] x1) [some (.inr (.inr 279)), some (.inl x1), some (.inl (ia_i h 301 0)), some (.inl (ia_i h 301 1))] [] h
  by_cases c1 : x1 = 0
  · replace hm := ia_ifp hm c1
    rw [show ia_tsw 15 172 0 9 #[53, 72, 86, 99, 112, 125, 172, 137, 172, 148] x1 = 68 from by rw [c1]; decide]
    refine ia_go hK ck_Re_tellLake_68 ⟨gk_7 hg pk_279, gr_7_0 hg pk_279, gk_3 hg (ka_7_0 pk_279), gk_7 (gd_wI hg (ko_3 (ka_7_0 pk_279))) pk_279, gr_7_0 (gd_wI hg (ko_3 (ka_7_0 pk_279))) pk_279, gk_3 (gd_wI hg (ko_3 (ka_7_0 pk_279))) (ka_7_0 pk_279), ?_⟩
    show K 187 [some (.inr (.inr 279)), some (.inl x1), some (.inl (ia_i h 301 0)), some (.inl (ia_i h 301 1))] [] (ia_wI (ia_wI h 280 0 (ia_i h 301 0)) 280 1 (ia_i h 301 1))
    obtain rfl := Option.some.inj hm
    exact hret 187 _ dc_Re_tellLake_187
  · replace hm := ia_ifn hm c1
    by_cases c3 : x1 = 1
    · replace hm := ia_ifp hm c3
      rw [show ia_tsw 15 172 0 9 #[53, 72, 86, 99, 112, 125, 172, 137, 172, 148] x1 = 87 from by rw [c3]; decide]
      refine ia_go hK ck_Re_tellLake_87 ⟨gk_7 hg pk_279, gr_7_0 hg pk_279, gk_3 hg (ka_7_0 pk_279), gr_3_3 hg (ka_7_0 pk_279), ?_⟩
      show K 95 [some (.inr (.inr 279)), some (.inl x1), some (.inl (ia_i h 301 0)), some (.inl (ia_i h 301 1))] [.inl (ia_i h 301 0), .inr (.inr 281)] h
      obtain ⟨v2, hv2, hm⟩ := ia_bnd hm
      have ev2 := t_Ar_fill (d + 1) hg (congrArg Prod.fst (ka_3_3 (ka_7_0 pk_279))) hv2
      have gv2 := g_Ar_fill hg (congrArg Prod.fst (ka_3_3 (ka_7_0 pk_279))) hv2
      refine ia_cS hK mk_Ar_fill lk_7_284 dc_Re_tellLake_95 [.inr (.inr 281), .inl (ia_i h 301 0)] [] rfl rfl (Nat.le_of_ble_eq_true rfl) ev2 (gd_nm hg gv2) ?_
      show K 98 [some (.inr (.inr 279)), some (.inl x1), some (.inl (ia_i h 301 0)), some (.inl (ia_i h 301 1))] [] v2
      refine ia_go hK ck_Re_tellLake_98 ?_
      show K 187 [some (.inr (.inr 279)), some (.inl x1), some (.inl (ia_i h 301 0)), some (.inl (ia_i h 301 1))] [] v2
      obtain rfl := Option.some.inj hm
      exact hret 187 _ dc_Re_tellLake_187
    · replace hm := ia_ifn hm c3
      by_cases c5 : x1 = 2
      · replace hm := ia_ifp hm c5
        rw [show ia_tsw 15 172 0 9 #[53, 72, 86, 99, 112, 125, 172, 137, 172, 148] x1 = 101 from by rw [c5]; decide]
        obtain ⟨c4, hm⟩ := ia_gd_some hm
        refine ia_go hK ck_Re_tellLake_101 ⟨gk_7 hg pk_279, gr_7_0 hg pk_279, gk_3 hg (ka_7_0 pk_279), gr_3_3 hg (ka_7_0 pk_279), ga_s100 hg (ka_3_3 (ka_7_0 pk_279)) c4, ?_⟩
        show K 187 [some (.inr (.inr 279)), some (.inl x1), some (.inl (ia_i h 301 0)), some (.inl (ia_i h 301 1))] [] (ia_wI h 281 ((ia_i h 301 0).toNatClampNeg) (ia_i h 301 1))
        obtain rfl := Option.some.inj hm
        exact hret 187 _ dc_Re_tellLake_187
      · replace hm := ia_ifn hm c5
        by_cases c7 : x1 = 3
        · replace hm := ia_ifp hm c7
          rw [show ia_tsw 15 172 0 9 #[53, 72, 86, 99, 112, 125, 172, 137, 172, 148] x1 = 114 from by rw [c7]; decide]
          obtain ⟨c6, hm⟩ := ia_gd_some hm
          refine ia_go hK ck_Re_tellLake_114 ⟨gk_7 hg pk_279, gr_7_0 hg pk_279, gk_3 hg (ka_7_0 pk_279), gr_3_4 hg (ka_7_0 pk_279), ga_s100 hg (ka_3_4 (ka_7_0 pk_279)) c6, ?_⟩
          show K 187 [some (.inr (.inr 279)), some (.inl x1), some (.inl (ia_i h 301 0)), some (.inl (ia_i h 301 1))] [] (ia_wI h 282 ((ia_i h 301 0).toNatClampNeg) (ia_i h 301 1))
          obtain rfl := Option.some.inj hm
          exact hret 187 _ dc_Re_tellLake_187
        · replace hm := ia_ifn hm c7
          by_cases c9 : x1 = 4
          · replace hm := ia_ifp hm c9
            rw [show ia_tsw 15 172 0 9 #[53, 72, 86, 99, 112, 125, 172, 137, 172, 148] x1 = 127 from by rw [c9]; decide]
            obtain ⟨c8, hm⟩ := ia_gd_some hm
            refine ia_go hK ck_Re_tellLake_127 ⟨gk_7 hg pk_279, gr_7_0 hg pk_279, gk_3 hg (ka_7_0 pk_279), gr_3_5 hg (ka_7_0 pk_279), ga_s100 hg (ka_3_5 (ka_7_0 pk_279)) c8, ?_⟩
            show K 187 [some (.inr (.inr 279)), some (.inl x1), some (.inl (ia_i h 301 0)), some (.inl (ia_i h 301 1))] [] (ia_wI h 283 ((ia_i h 301 0).toNatClampNeg) (ia_i h 301 1))
            obtain rfl := Option.some.inj hm
            exact hret 187 _ dc_Re_tellLake_187
          · replace hm := ia_ifn hm c9
            by_cases c11 : x1 = 5
            · replace hm := ia_ifp hm c11
              rw [show ia_tsw 15 172 0 9 #[53, 72, 86, 99, 112, 125, 172, 137, 172, 148] x1 = 140 from by rw [c11]; decide]
              refine ia_go hK ck_Re_tellLake_140 ⟨gk_7 hg pk_279, gr_7_0 hg pk_279, ?_⟩
              show K 146 [some (.inr (.inr 279)), some (.inl x1), some (.inl (ia_i h 301 0)), some (.inl (ia_i h 301 1))] [.inl (ia_i h 301 1), .inl (ia_i h 301 0), .inr (.inr 280)] h
              obtain ⟨v10, hv10, hm⟩ := ia_bnd hm
              have ev10 := t_La_crackBetween (d + 0) hg (ka_7_0 pk_279) hv10
              have gv10 := g_La_crackBetween hg (ka_7_0 pk_279) hv10
              refine ia_cV hK mk_La_crackBetween lk_7_294 dc_Re_tellLake_146 280 [.inl (ia_i h 301 0), .inl (ia_i h 301 1)] [] rfl rfl (Nat.le_of_ble_eq_true rfl) (by decide) rfl (gk_3 hg (ka_7_0 pk_279)) ev10 (gd_nm hg gv10) ?_
              show K 149 [some (.inr (.inr 279)), some (.inl x1), some (.inl (ia_i h 301 0)), some (.inl (ia_i h 301 1))] [] v10
              refine ia_go hK ck_Re_tellLake_149 ?_
              show K 187 [some (.inr (.inr 279)), some (.inl x1), some (.inl (ia_i h 301 0)), some (.inl (ia_i h 301 1))] [] v10
              obtain rfl := Option.some.inj hm
              exact hret 187 _ dc_Re_tellLake_187
            · replace hm := ia_ifn hm c11
              by_cases c12 : x1 = 6
              · replace hm := ia_ifp hm c12
                rw [show ia_tsw 15 172 0 9 #[53, 72, 86, 99, 112, 125, 172, 137, 172, 148] x1 = 187 from by rw [c12]; decide]
                obtain rfl := Option.some.inj hm
                exact hret 187 _ dc_Re_tellLake_187
              · replace hm := ia_ifn hm c12
                by_cases c13 : x1 = 7
                · replace hm := ia_ifp hm c13
                  rw [show ia_tsw 15 172 0 9 #[53, 72, 86, 99, 112, 125, 172, 137, 172, 148] x1 = 152 from by rw [c13]; decide]
                  refine ia_go hK ck_Re_tellLake_152 ⟨gk_7 hg pk_279, gr_7_0 hg pk_279, gk_3 hg (ka_7_0 pk_279), ?_⟩
                  show K 187 [some (.inr (.inr 279)), some (.inl x1), some (.inl (ia_i h 301 0)), some (.inl (ia_i h 301 1))] [] (ia_wI h 280 2 (ia_i h 301 0))
                  obtain rfl := Option.some.inj hm
                  exact hret 187 _ dc_Re_tellLake_187
                · replace hm := ia_ifn hm c13
                  by_cases c14 : x1 = 8
                  · replace hm := ia_ifp hm c14
                    rw [show ia_tsw 15 172 0 9 #[53, 72, 86, 99, 112, 125, 172, 137, 172, 148] x1 = 187 from by rw [c14]; decide]
                    obtain rfl := Option.some.inj hm
                    exact hret 187 _ dc_Re_tellLake_187
                  · replace hm := ia_ifn hm c14
                    by_cases c16 : x1 = 9
                    · replace hm := ia_ifp hm c16
                      rw [show ia_tsw 15 172 0 9 #[53, 72, 86, 99, 112, 125, 172, 137, 172, 148] x1 = 163 from by rw [c16]; decide]
                      refine ia_go hK ck_Re_tellLake_163 ⟨gk_7 hg pk_279, gr_7_0 hg pk_279, gk_7 hg pk_279, gr_7_5 hg pk_279, ga_i100 hg (ka_7_5 pk_279) (by decide), gk_7 hg pk_279, gr_7_5 hg pk_279, ga_i100 hg (ka_7_5 pk_279) (by decide), ?_⟩
                      show K 181 [some (.inr (.inr 279)), some (.inl x1), some (.inl (ia_i h 301 0)), some (.inl (ia_i h 301 1))] [.inl (ia_i h 301 3), .inl (ia_i h 301 2), .inl (ia_i h 301 1), .inl (ia_i h 301 0), .inr (.inr 280)] h
                      obtain ⟨v15, hv15, hm⟩ := ia_bnd hm
                      have ev15 := t_La_addShop (d + 1) hg (ka_7_0 pk_279) hv15
                      have gv15 := g_La_addShop hg (ka_7_0 pk_279) hv15
                      refine ia_cV hK mk_La_addShop lk_7_299 dc_Re_tellLake_181 280 [.inl (ia_i h 301 0), .inl (ia_i h 301 1), .inl (ia_i h 301 2), .inl (ia_i h 301 3)] [] rfl rfl (Nat.le_of_ble_eq_true rfl) (by decide) rfl (gk_3 hg (ka_7_0 pk_279)) ev15 (gd_nm hg gv15) ?_
                      show K 184 [some (.inr (.inr 279)), some (.inl x1), some (.inl (ia_i h 301 0)), some (.inl (ia_i h 301 1))] [] v15
                      refine ia_go hK ck_Re_tellLake_184 ?_
                      show K 187 [some (.inr (.inr 279)), some (.inl x1), some (.inl (ia_i h 301 0)), some (.inl (ia_i h 301 1))] [] v15
                      obtain rfl := Option.some.inj hm
                      exact hret 187 _ dc_Re_tellLake_187
                    · replace hm := ia_ifn hm c16
                      rw [show ia_tsw 15 172 0 9 #[53, 72, 86, 99, 112, 125, 172, 137, 172, 148] x1 = 187 from (ia_tsw_d (fun k h1 h2 => by
                          rcases (show k = 0 ∨ k = 1 ∨ k = 2 ∨ k = 3 ∨ k = 4 ∨ k = 5 ∨ k = 6 ∨ k = 7 ∨ k = 8 ∨ k = 9 by omega) with rfl | rfl | rfl | rfl | rfl | rfl | rfl | rfl | rfl | rfl
                          · exact c1
                          · exact c3
                          · exact c5
                          · exact c7
                          · exact c9
                          · exact c11
                          · exact c12
                          · exact c13
                          · exact c14
                          · exact c16
                          )).trans (by decide)]
                      obtain rfl := Option.some.inj hm
                      exact hret 187 _ dc_Re_tellLake_187
def mm_Lw_addLane : ia_M := (⟨"IceStreet$Law", "addLane", "(II)V"⟩, prog_5_method_4_code, 3, none, 4, false)
theorem ok_Lw_addLane : ia_mok mm_Lw_addLane := ⟨by decide +kernel, by decide +kernel, by decide +kernel, by decide +kernel⟩
theorem mk_Lw_addLane : ia_mkn mm_Lw_addLane 1 2 := ⟨ia_tb_in (List.mem_of_getElem? (i := 947) (by decide +kernel)) rfl, ia_tb_in (List.mem_of_getElem? (i := 137) (by decide +kernel)) rfl, by decide +kernel, by decide +kernel, ⟨ia_tb_in (List.mem_of_getElem? (i := 945) (by decide +kernel)) rfl, ia_tb_in (List.mem_of_getElem? (i := 946) (by decide +kernel)) rfl⟩⟩
theorem ck_Lw_addLane_0 : ia_cks 4 3 false prog_5_method_4_code 0 [(.aload_n 0, 0, 0, 0, 0), (.getfield 38, 4, 4, 0, 0), (.bipush 12, 0, 0, 0, 0), (.if_icmp .ge 46, 0, 0, 0, 0)] = true := by decide +kernel
theorem ck_Lw_addLane_9 : ia_cks 4 3 false prog_5_method_4_code 9 [(.aload_n 0, 0, 0, 0, 0), (.getfield 9, 4, 5, 3, 1), (.aload_n 0, 0, 0, 0, 0), (.getfield 38, 4, 4, 0, 0), (.iload_n 1, 0, 0, 0, 0), (.iastore, 0, 0, 0, 0), (.aload_n 0, 0, 0, 0, 0), (.getfield 15, 4, 6, 3, 2), (.aload_n 0, 0, 0, 0, 0), (.getfield 38, 4, 4, 0, 0), (.iload_n 2, 0, 0, 0, 0), (.iastore, 0, 0, 0, 0), (.aload_n 0, 0, 0, 0, 0), (.dup, 0, 0, 0, 0), (.getfield 38, 4, 4, 0, 0), (.iconst 1, 0, 0, 0, 0), (.iadd, 0, 0, 0, 0), (.putfield 38, 4, 4, 0, 0)] = true := by decide +kernel
theorem ck_Lw_addLane_39 : ia_cks 4 3 false prog_5_method_4_code 39 [(.aload_n 0, 0, 0, 0, 0), (.getfield 18, 4, 8, 3, 3), (.iload_n 2, 0, 0, 0, 0), (.dup2, 0, 0, 0, 0), (.laload, 0, 0, 0, 0), (.iload_n 1, 0, 0, 0, 0)] = true := by decide +kernel
theorem ck_Lw_addLane_50 : ia_cks 4 3 false prog_5_method_4_code 50 [(.lor, 0, 0, 0, 0), (.lastore, 0, 0, 0, 0)] = true := by decide +kernel
theorem dc_Lw_addLane_52 : decode prog_5_method_4_code 52 = .ok (.return_, 1) := by decide +kernel
theorem dc_Lw_addLane_47 : decode prog_5_method_4_code 47 = .ok (.invokestatic 57, 3) := by decide +kernel
def j_Lw_addLane_39 (a0 : Nat) (x1 : Int32) (x2 : Int32) (h : ia_H) : Option ia_H := ia_gd (ia_ib x2 36) ((f_I_bit x1 h).bind fun v4 => (ia_gd (ia_ib x2 36) (some (ia_wL h (a0 + 3) ((x2).toNatClampNeg) ((ia_l h (a0 + 3) ((x2).toNatClampNeg)) ||| v4)))))
theorem tj_Lw_addLane_39 {w : ia_O0} {d N1 W1 : Nat} {K : ia_K} (hK : ia_isK (d + 1) mm_Lw_addLane N1 W1 K) {a0 : Nat} {x1 : Int32} {x2 : Int32} (p0 : (kd_D a0).1 = 4) {h1 : ia_H} (hret : ∀ (pc : Nat) (lv : ia_L), ia_ret mm_Lw_addLane pc none → K pc lv (none : Option ia_V).toList h1) : ∀ (h : ia_H), gd_ w h → j_Lw_addLane_39 a0 x1 x2 h = some h1 → K 39 [some (.inr (.inr a0)), some (.inl x1), some (.inl x2)] [] h := by
  intro h hg hm
  unfold j_Lw_addLane_39 at hm
  obtain ⟨c3, hm⟩ := ia_gd_some hm
  refine ia_go hK ck_Lw_addLane_39 ⟨gk_4 hg p0, gr_4_8 hg p0, ga_s103 hg (ka_4_8 p0) c3, ?_⟩
  show K 47 [some (.inr (.inr a0)), some (.inl x1), some (.inl x2)] [.inl x1, .inr (.inl (ia_l h (a0 + 3) ((x2).toNatClampNeg))), .inl x2, .inr (.inr (a0 + 3))] h
  obtain ⟨v4, hv4, hm⟩ := ia_bnd hm
  have ev4 := t_I_bit (d + 0) hg hv4
  refine ia_cS hK mk_I_bit lk_4_57 dc_Lw_addLane_47 [.inl x1] [.inr (.inl (ia_l h (a0 + 3) ((x2).toNatClampNeg))), .inl x2, .inr (.inr (a0 + 3))] rfl rfl (Nat.le_of_ble_eq_true rfl) ev4 ⟨rfl, rfl⟩ ?_
  show K 50 [some (.inr (.inr a0)), some (.inl x1), some (.inl x2)] [.inr (.inl v4), .inr (.inl (ia_l h (a0 + 3) ((x2).toNatClampNeg))), .inl x2, .inr (.inr (a0 + 3))] h
  obtain ⟨c5, hm⟩ := ia_gd_some hm
  refine ia_go hK ck_Lw_addLane_50 ⟨ga_s103 hg (ka_4_8 p0) c5, ?_⟩
  show K 52 [some (.inr (.inr a0)), some (.inl x1), some (.inl x2)] [] (ia_wL h (a0 + 3) ((x2).toNatClampNeg) ((ia_l h (a0 + 3) ((x2).toNatClampNeg)) ||| v4))
  obtain rfl := Option.some.inj hm
  exact hret 52 _ dc_Lw_addLane_52
theorem gj_Lw_addLane_39 {w : ia_O0} {a0 : Nat} {x1 : Int32} {x2 : Int32} (p0 : (kd_D a0).1 = 4) {h1 : ia_H} : ∀ (h : ia_H), gd_ w h → j_Lw_addLane_39 a0 x1 x2 h = some h1 → gd_ w h1 := by
  intro h hg hm
  unfold j_Lw_addLane_39 at hm
  obtain ⟨c3, hm⟩ := ia_gd_some hm
  obtain ⟨v4, hv4, hm⟩ := ia_bnd hm
  obtain ⟨c5, hm⟩ := ia_gd_some hm
  obtain rfl := Option.some.inj hm
  exact (gd_wL hg)
def f_Lw_addLane (a0 : Nat) (x1 : Int32) (x2 : Int32) (h : ia_H) : Option ia_H := if 12 ≤ (ia_i h a0 4) then (some h) else (ia_gd (ia_ib (ia_i h a0 4) 12) (ia_gd (ia_ib (ia_i (ia_wI h (a0 + 1) ((ia_i h a0 4).toNatClampNeg) x1) a0 4) 12) (j_Lw_addLane_39 a0 x1 x2 (ia_wI (ia_wI (ia_wI h (a0 + 1) ((ia_i h a0 4).toNatClampNeg) x1) (a0 + 2) ((ia_i (ia_wI h (a0 + 1) ((ia_i h a0 4).toNatClampNeg) x1) a0 4).toNatClampNeg) x2) a0 4 ((ia_i (ia_wI (ia_wI h (a0 + 1) ((ia_i h a0 4).toNatClampNeg) x1) (a0 + 2) ((ia_i (ia_wI h (a0 + 1) ((ia_i h a0 4).toNatClampNeg) x1) a0 4).toNatClampNeg) x2) a0 4) + 1)))))
theorem g_Lw_addLane {w : ia_O0} {a0 : Nat} {x1 : Int32} {x2 : Int32} {h : ia_H} (hg : gd_ w h) (p0 : (kd_D a0).1 = 4) {q : ia_H} (hm : f_Lw_addLane a0 x1 x2 h = some q) : gd_ w q := by
  obtain ⟨h1, e1⟩ : ∃ x, x = q := ⟨_, rfl⟩
  subst e1
  unfold f_Lw_addLane at hm
  by_cases c : 12 ≤ (ia_i h a0 4)
  · replace hm := ia_ifp hm c
    obtain rfl := Option.some.inj hm
    exact hg
  · replace hm := ia_ifn hm c
    obtain ⟨c1, hm⟩ := ia_gd_some hm
    obtain ⟨c2, hm⟩ := ia_gd_some hm
    exact gj_Lw_addLane_39 p0 (ia_wI (ia_wI (ia_wI h (a0 + 1) ((ia_i h a0 4).toNatClampNeg) x1) (a0 + 2) ((ia_i (ia_wI h (a0 + 1) ((ia_i h a0 4).toNatClampNeg) x1) a0 4).toNatClampNeg) x2) a0 4 ((ia_i (ia_wI (ia_wI h (a0 + 1) ((ia_i h a0 4).toNatClampNeg) x1) (a0 + 2) ((ia_i (ia_wI h (a0 + 1) ((ia_i h a0 4).toNatClampNeg) x1) a0 4).toNatClampNeg) x2) a0 4) + 1)) (gd_wI (gd_wI (gd_wI hg (kx_100 (ka_4_5 p0))) (kx_100 (ka_4_6 p0))) (ko_4 p0)) hm
theorem t_Lw_addLane {w : ia_O0} (d : Nat) {a0 : Nat} {x1 : Int32} {x2 : Int32} {h : ia_H} (hg : gd_ w h) (p0 : (kd_D a0).1 = 4) {q : ia_H} (hm : f_Lw_addLane a0 x1 x2 h = some q) : ia_Ev (d + 1) mm_Lw_addLane [.inr (.inr a0), .inl x1, .inl x2] h none q := by
  have gq := g_Lw_addLane hg p0 hm
  refine ia_Ev_intro ok_Lw_addLane (gd_le hg gq).1 (gd_le hg gq).2 (Nat.le_of_ble_eq_true rfl) (fun K hK hret => ?_)
  obtain ⟨h1, e1⟩ : ∃ x, x = q := ⟨_, rfl⟩
  subst e1
  show K 0 [some (.inr (.inr a0)), some (.inl x1), some (.inl x2)] [] h
  unfold f_Lw_addLane at hm
  refine ia_go hK ck_Lw_addLane_0 ⟨gk_4 hg p0, fun c => ?_, fun c => ?_⟩
  · replace hm := ia_ifp hm c
    show K 52 [some (.inr (.inr a0)), some (.inl x1), some (.inl x2)] [] h
    obtain rfl := Option.some.inj hm
    exact hret 52 _ dc_Lw_addLane_52
  · replace hm := ia_ifn hm c
    show K 9 [some (.inr (.inr a0)), some (.inl x1), some (.inl x2)] [] h
    obtain ⟨c1, hm⟩ := ia_gd_some hm
    obtain ⟨c2, hm⟩ := ia_gd_some hm
    refine ia_go hK ck_Lw_addLane_9 ⟨gk_4 hg p0, gr_4_5 hg p0, gk_4 hg p0, ga_s100 hg (ka_4_5 p0) c1, gk_4 (gd_wI hg (kx_100 (ka_4_5 p0))) p0, gr_4_6 (gd_wI hg (kx_100 (ka_4_5 p0))) p0, gk_4 (gd_wI hg (kx_100 (ka_4_5 p0))) p0, ga_s100 (gd_wI hg (kx_100 (ka_4_5 p0))) (ka_4_6 p0) c2, gk_4 (gd_wI (gd_wI hg (kx_100 (ka_4_5 p0))) (kx_100 (ka_4_6 p0))) p0, gk_4 (gd_wI (gd_wI hg (kx_100 (ka_4_5 p0))) (kx_100 (ka_4_6 p0))) p0, ?_⟩
    show K 39 [some (.inr (.inr a0)), some (.inl x1), some (.inl x2)] [] (ia_wI (ia_wI (ia_wI h (a0 + 1) ((ia_i h a0 4).toNatClampNeg) x1) (a0 + 2) ((ia_i (ia_wI h (a0 + 1) ((ia_i h a0 4).toNatClampNeg) x1) a0 4).toNatClampNeg) x2) a0 4 ((ia_i (ia_wI (ia_wI h (a0 + 1) ((ia_i h a0 4).toNatClampNeg) x1) (a0 + 2) ((ia_i (ia_wI h (a0 + 1) ((ia_i h a0 4).toNatClampNeg) x1) a0 4).toNatClampNeg) x2) a0 4) + 1))
    exact tj_Lw_addLane_39 hK p0 hret (ia_wI (ia_wI (ia_wI h (a0 + 1) ((ia_i h a0 4).toNatClampNeg) x1) (a0 + 2) ((ia_i (ia_wI h (a0 + 1) ((ia_i h a0 4).toNatClampNeg) x1) a0 4).toNatClampNeg) x2) a0 4 ((ia_i (ia_wI (ia_wI h (a0 + 1) ((ia_i h a0 4).toNatClampNeg) x1) (a0 + 2) ((ia_i (ia_wI h (a0 + 1) ((ia_i h a0 4).toNatClampNeg) x1) a0 4).toNatClampNeg) x2) a0 4) + 1)) (gd_wI (gd_wI (gd_wI hg (kx_100 (ka_4_5 p0))) (kx_100 (ka_4_6 p0))) (ko_4 p0)) hm
def mm_Re_tellLaw : ia_M := (⟨"IceStreet$Reader", "tellLaw", "(I)V"⟩, prog_8_method_25_code, 2, none, 7, false)
theorem ok_Re_tellLaw : ia_mok mm_Re_tellLaw := ⟨by decide +kernel, by decide +kernel, by decide +kernel, by decide +kernel⟩
theorem mk_Re_tellLaw : ia_mkn mm_Re_tellLaw 1 1 := ⟨ia_tb_in (List.mem_of_getElem? (i := 943) (by decide +kernel)) rfl, ia_tb_in (List.mem_of_getElem? (i := 139) (by decide +kernel)) rfl, by decide +kernel, by decide +kernel, ⟨ia_tb_in (List.mem_of_getElem? (i := 942) (by decide +kernel)) rfl, ia_tb_in (List.mem_of_getElem? (i := 19) (by decide +kernel)) rfl⟩⟩
theorem ck_Re_tellLaw_0 : ia_cks 7 2 false prog_8_method_25_code 0 [(.iload_n 1, 0, 0, 0, 0), (.tableswitch 121 10 14 #[35, 51, 67, 83, 99], 0, 0, 0, 0)] = true := by decide +kernel
theorem ck_Re_tellLaw_36 : ia_cks 7 2 false prog_8_method_25_code 36 [(.aload_n 0, 0, 0, 0, 0), (.getfield 21, 7, 1, 3, 13), (.aload_n 0, 0, 0, 0, 0), (.getfield 32, 7, 5, 3, 22), (.iconst 0, 0, 0, 0, 0), (.iaload, 0, 0, 0, 0), (.putfield 302, 4, 0, 0, 0), (.goto 73, 0, 0, 0, 0)] = true := by decide +kernel
theorem ck_Re_tellLaw_52 : ia_cks 7 2 false prog_8_method_25_code 52 [(.aload_n 0, 0, 0, 0, 0), (.getfield 21, 7, 1, 3, 13), (.aload_n 0, 0, 0, 0, 0), (.getfield 32, 7, 5, 3, 22), (.iconst 0, 0, 0, 0, 0), (.iaload, 0, 0, 0, 0), (.putfield 304, 4, 1, 0, 0), (.goto 57, 0, 0, 0, 0)] = true := by decide +kernel
theorem ck_Re_tellLaw_68 : ia_cks 7 2 false prog_8_method_25_code 68 [(.aload_n 0, 0, 0, 0, 0), (.getfield 21, 7, 1, 3, 13), (.aload_n 0, 0, 0, 0, 0), (.getfield 32, 7, 5, 3, 22), (.iconst 0, 0, 0, 0, 0), (.iaload, 0, 0, 0, 0), (.putfield 306, 4, 2, 0, 0), (.goto 41, 0, 0, 0, 0)] = true := by decide +kernel
theorem ck_Re_tellLaw_84 : ia_cks 7 2 false prog_8_method_25_code 84 [(.aload_n 0, 0, 0, 0, 0), (.getfield 21, 7, 1, 3, 13), (.aload_n 0, 0, 0, 0, 0), (.getfield 32, 7, 5, 3, 22), (.iconst 0, 0, 0, 0, 0), (.iaload, 0, 0, 0, 0), (.putfield 308, 4, 3, 0, 0), (.goto 25, 0, 0, 0, 0)] = true := by decide +kernel
theorem ck_Re_tellLaw_100 : ia_cks 7 2 false prog_8_method_25_code 100 [(.aload_n 0, 0, 0, 0, 0), (.getfield 21, 7, 1, 3, 13), (.aload_n 0, 0, 0, 0, 0), (.getfield 32, 7, 5, 3, 22), (.iconst 0, 0, 0, 0, 0), (.iaload, 0, 0, 0, 0), (.aload_n 0, 0, 0, 0, 0), (.getfield 32, 7, 5, 3, 22), (.iconst 1, 0, 0, 0, 0), (.iaload, 0, 0, 0, 0)] = true := by decide +kernel
theorem ck_Re_tellLaw_119 : ia_cks 7 2 false prog_8_method_25_code 119 [(.goto 3, 0, 0, 0, 0)] = true := by decide +kernel
theorem dc_Re_tellLaw_122 : decode prog_8_method_25_code 122 = .ok (.return_, 1) := by decide +kernel
theorem dc_Re_tellLaw_116 : decode prog_8_method_25_code 116 = .ok (.invokevirtual 310, 3) := by decide +kernel
def f_Re_tellLaw (x1 : Int32) (h : ia_H) : Option ia_H := if x1 = 10 then (some (ia_wI h 292 0 (ia_i h 301 0))) else if x1 = 11 then (some (ia_wI h 292 1 (ia_i h 301 0))) else if x1 = 12 then (some (ia_wI h 292 2 (ia_i h 301 0))) else if x1 = 13 then (some (ia_wI h 292 3 (ia_i h 301 0))) else if x1 = 14 then ((f_Lw_addLane 292 (ia_i h 301 0) (ia_i h 301 1) h).bind fun v5 => (some v5)) else (some h)
theorem g_Re_tellLaw {w : ia_O0} {x1 : Int32} {h : ia_H} (hg : gd_ w h) {q : ia_H} (hm : f_Re_tellLaw x1 h = some q) : gd_ w q := by
  obtain ⟨h1, e1⟩ : ∃ x, x = q := ⟨_, rfl⟩
  subst e1
  unfold f_Re_tellLaw at hm
  by_cases c1 : x1 = 10
  · replace hm := ia_ifp hm c1
    obtain rfl := Option.some.inj hm
    exact (gd_wI hg (ko_4 (ka_7_1 pk_279)))
  · replace hm := ia_ifn hm c1
    by_cases c2 : x1 = 11
    · replace hm := ia_ifp hm c2
      obtain rfl := Option.some.inj hm
      exact (gd_wI hg (ko_4 (ka_7_1 pk_279)))
    · replace hm := ia_ifn hm c2
      by_cases c3 : x1 = 12
      · replace hm := ia_ifp hm c3
        obtain rfl := Option.some.inj hm
        exact (gd_wI hg (ko_4 (ka_7_1 pk_279)))
      · replace hm := ia_ifn hm c3
        by_cases c4 : x1 = 13
        · replace hm := ia_ifp hm c4
          obtain rfl := Option.some.inj hm
          exact (gd_wI hg (ko_4 (ka_7_1 pk_279)))
        · replace hm := ia_ifn hm c4
          by_cases c6 : x1 = 14
          · replace hm := ia_ifp hm c6
            obtain ⟨v5, hv5, hm⟩ := ia_bnd hm
            have gv5 := g_Lw_addLane hg (ka_7_1 pk_279) hv5
            obtain rfl := Option.some.inj hm
            exact gv5
          · replace hm := ia_ifn hm c6
            obtain rfl := Option.some.inj hm
            exact hg
theorem t_Re_tellLaw {w : ia_O0} (d : Nat) {x1 : Int32} {h : ia_H} (hg : gd_ w h) {q : ia_H} (hm : f_Re_tellLaw x1 h = some q) : ia_Ev (d + 2) mm_Re_tellLaw [.inr (.inr 279), .inl x1] h none q := by
  have gq := g_Re_tellLaw hg hm
  refine ia_Ev_intro ok_Re_tellLaw (gd_le hg gq).1 (gd_le hg gq).2 (Nat.le_of_ble_eq_true rfl) (fun K hK hret => ?_)
  obtain ⟨h1, e1⟩ : ∃ x, x = q := ⟨_, rfl⟩
  subst e1
  show K 0 [some (.inr (.inr 279)), some (.inl x1)] [] h
  unfold f_Re_tellLaw at hm
  refine ia_go hK ck_Re_tellLaw_0 ?_
  show K (ia_tsw 1 121 10 14 #[35, 51, 67, 83, 99] x1) [some (.inr (.inr 279)), some (.inl x1)] [] h
  by_cases c1 : x1 = 10
  · replace hm := ia_ifp hm c1
    rw [show ia_tsw 1 121 10 14 #[35, 51, 67, 83, 99] x1 = 36 from by rw [c1]; decide]
    refine ia_go hK ck_Re_tellLaw_36 ⟨gk_7 hg pk_279, gr_7_1 hg pk_279, gk_7 hg pk_279, gr_7_5 hg pk_279, ga_i100 hg (ka_7_5 pk_279) (by decide), gk_4 hg (ka_7_1 pk_279), ?_⟩
    show K 122 [some (.inr (.inr 279)), some (.inl x1)] [] (ia_wI h 292 0 (ia_i h 301 0))
    obtain rfl := Option.some.inj hm
    exact hret 122 _ dc_Re_tellLaw_122
  · replace hm := ia_ifn hm c1
    by_cases c2 : x1 = 11
    · replace hm := ia_ifp hm c2
      rw [show ia_tsw 1 121 10 14 #[35, 51, 67, 83, 99] x1 = 52 from by rw [c2]; decide]
      refine ia_go hK ck_Re_tellLaw_52 ⟨gk_7 hg pk_279, gr_7_1 hg pk_279, gk_7 hg pk_279, gr_7_5 hg pk_279, ga_i100 hg (ka_7_5 pk_279) (by decide), gk_4 hg (ka_7_1 pk_279), ?_⟩
      show K 122 [some (.inr (.inr 279)), some (.inl x1)] [] (ia_wI h 292 1 (ia_i h 301 0))
      obtain rfl := Option.some.inj hm
      exact hret 122 _ dc_Re_tellLaw_122
    · replace hm := ia_ifn hm c2
      by_cases c3 : x1 = 12
      · replace hm := ia_ifp hm c3
        rw [show ia_tsw 1 121 10 14 #[35, 51, 67, 83, 99] x1 = 68 from by rw [c3]; decide]
        refine ia_go hK ck_Re_tellLaw_68 ⟨gk_7 hg pk_279, gr_7_1 hg pk_279, gk_7 hg pk_279, gr_7_5 hg pk_279, ga_i100 hg (ka_7_5 pk_279) (by decide), gk_4 hg (ka_7_1 pk_279), ?_⟩
        show K 122 [some (.inr (.inr 279)), some (.inl x1)] [] (ia_wI h 292 2 (ia_i h 301 0))
        obtain rfl := Option.some.inj hm
        exact hret 122 _ dc_Re_tellLaw_122
      · replace hm := ia_ifn hm c3
        by_cases c4 : x1 = 13
        · replace hm := ia_ifp hm c4
          rw [show ia_tsw 1 121 10 14 #[35, 51, 67, 83, 99] x1 = 84 from by rw [c4]; decide]
          refine ia_go hK ck_Re_tellLaw_84 ⟨gk_7 hg pk_279, gr_7_1 hg pk_279, gk_7 hg pk_279, gr_7_5 hg pk_279, ga_i100 hg (ka_7_5 pk_279) (by decide), gk_4 hg (ka_7_1 pk_279), ?_⟩
          show K 122 [some (.inr (.inr 279)), some (.inl x1)] [] (ia_wI h 292 3 (ia_i h 301 0))
          obtain rfl := Option.some.inj hm
          exact hret 122 _ dc_Re_tellLaw_122
        · replace hm := ia_ifn hm c4
          by_cases c6 : x1 = 14
          · replace hm := ia_ifp hm c6
            rw [show ia_tsw 1 121 10 14 #[35, 51, 67, 83, 99] x1 = 100 from by rw [c6]; decide]
            refine ia_go hK ck_Re_tellLaw_100 ⟨gk_7 hg pk_279, gr_7_1 hg pk_279, gk_7 hg pk_279, gr_7_5 hg pk_279, ga_i100 hg (ka_7_5 pk_279) (by decide), gk_7 hg pk_279, gr_7_5 hg pk_279, ga_i100 hg (ka_7_5 pk_279) (by decide), ?_⟩
            show K 116 [some (.inr (.inr 279)), some (.inl x1)] [.inl (ia_i h 301 1), .inl (ia_i h 301 0), .inr (.inr 292)] h
            obtain ⟨v5, hv5, hm⟩ := ia_bnd hm
            have ev5 := t_Lw_addLane (d + 0) hg (ka_7_1 pk_279) hv5
            have gv5 := g_Lw_addLane hg (ka_7_1 pk_279) hv5
            refine ia_cV hK mk_Lw_addLane lk_7_310 dc_Re_tellLaw_116 292 [.inl (ia_i h 301 0), .inl (ia_i h 301 1)] [] rfl rfl (Nat.le_of_ble_eq_true rfl) (by decide) rfl (gk_4 hg (ka_7_1 pk_279)) ev5 (gd_nm hg gv5) ?_
            show K 119 [some (.inr (.inr 279)), some (.inl x1)] [] v5
            refine ia_go hK ck_Re_tellLaw_119 ?_
            show K 122 [some (.inr (.inr 279)), some (.inl x1)] [] v5
            obtain rfl := Option.some.inj hm
            exact hret 122 _ dc_Re_tellLaw_122
          · replace hm := ia_ifn hm c6
            rw [show ia_tsw 1 121 10 14 #[35, 51, 67, 83, 99] x1 = 122 from (ia_tsw_d (fun k h1 h2 => by
                rcases (show k = 10 ∨ k = 11 ∨ k = 12 ∨ k = 13 ∨ k = 14 by omega) with rfl | rfl | rfl | rfl | rfl
                · exact c1
                · exact c2
                · exact c3
                · exact c4
                · exact c6
                )).trans (by decide)]
            obtain rfl := Option.some.inj hm
            exact hret 122 _ dc_Re_tellLaw_122
def mm_Pl_addAct : ia_M := (⟨"IceStreet$Plan", "addAct", "(IIII)V"⟩, prog_7_method_3_code, 5, none, 6, false)
theorem ok_Pl_addAct : ia_mok mm_Pl_addAct := ⟨by decide +kernel, by decide +kernel, by decide +kernel, by decide +kernel⟩
theorem mk_Pl_addAct : ia_mkn mm_Pl_addAct 1 4 := ⟨ia_tb_in (List.mem_of_getElem? (i := 952) (by decide +kernel)) rfl, ia_tb_in (List.mem_of_getElem? (i := 138) (by decide +kernel)) rfl, by decide +kernel, by decide +kernel, ⟨ia_tb_in (List.mem_of_getElem? (i := 950) (by decide +kernel)) rfl, ia_tb_in (List.mem_of_getElem? (i := 951) (by decide +kernel)) rfl⟩⟩
theorem ck_Pl_addAct_0 : ia_cks 6 5 false prog_7_method_3_code 0 [(.aload_n 0, 0, 0, 0, 0), (.getfield 24, 6, 0, 0, 0), (.bipush 30, 0, 0, 0, 0), (.if_icmp .ge 54, 0, 0, 0, 0)] = true := by decide +kernel
theorem ck_Pl_addAct_9 : ia_cks 6 5 false prog_7_method_3_code 9 [(.aload_n 0, 0, 0, 0, 0), (.getfield 9, 6, 1, 3, 1), (.aload_n 0, 0, 0, 0, 0), (.getfield 24, 6, 0, 0, 0), (.iload_n 1, 0, 0, 0, 0), (.iastore, 0, 0, 0, 0), (.aload_n 0, 0, 0, 0, 0), (.getfield 15, 6, 2, 3, 2), (.aload_n 0, 0, 0, 0, 0), (.getfield 24, 6, 0, 0, 0), (.iload_n 2, 0, 0, 0, 0), (.iastore, 0, 0, 0, 0), (.aload_n 0, 0, 0, 0, 0), (.getfield 18, 6, 3, 3, 3), (.aload_n 0, 0, 0, 0, 0), (.getfield 24, 6, 0, 0, 0), (.iload_n 3, 0, 0, 0, 0), (.iastore, 0, 0, 0, 0)] = true := by decide +kernel
theorem ck_Pl_addAct_39 : ia_cks 6 5 false prog_7_method_3_code 39 [(.aload_n 0, 0, 0, 0, 0), (.getfield 21, 6, 4, 3, 4), (.aload_n 0, 0, 0, 0, 0), (.getfield 24, 6, 0, 0, 0), (.iload 4, 0, 0, 0, 0), (.iastore, 0, 0, 0, 0), (.aload_n 0, 0, 0, 0, 0), (.dup, 0, 0, 0, 0), (.getfield 24, 6, 0, 0, 0), (.iconst 1, 0, 0, 0, 0), (.iadd, 0, 0, 0, 0), (.putfield 24, 6, 0, 0, 0)] = true := by decide +kernel
theorem dc_Pl_addAct_60 : decode prog_7_method_3_code 60 = .ok (.return_, 1) := by decide +kernel
def j_Pl_addAct_39 (a0 : Nat) (x1 : Int32) (x2 : Int32) (x3 : Int32) (x4 : Int32) (h : ia_H) : Option ia_H := ia_gd (ia_ib (ia_i h a0 0) 30) (some (ia_wI (ia_wI h (a0 + 4) ((ia_i h a0 0).toNatClampNeg) x4) a0 0 ((ia_i (ia_wI h (a0 + 4) ((ia_i h a0 0).toNatClampNeg) x4) a0 0) + 1)))
theorem tj_Pl_addAct_39 {w : ia_O0} {d N1 W1 : Nat} {K : ia_K} (hK : ia_isK (d + 0) mm_Pl_addAct N1 W1 K) {a0 : Nat} {x1 : Int32} {x2 : Int32} {x3 : Int32} {x4 : Int32} (p0 : (kd_D a0).1 = 6) {h1 : ia_H} (hret : ∀ (pc : Nat) (lv : ia_L), ia_ret mm_Pl_addAct pc none → K pc lv (none : Option ia_V).toList h1) : ∀ (h : ia_H), gd_ w h → j_Pl_addAct_39 a0 x1 x2 x3 x4 h = some h1 → K 39 [some (.inr (.inr a0)), none, none, none, some (.inl x4)] [] h := by
  intro h hg hm
  unfold j_Pl_addAct_39 at hm
  obtain ⟨c4, hm⟩ := ia_gd_some hm
  refine ia_go hK ck_Pl_addAct_39 ⟨gk_6 hg p0, gr_6_4 hg p0, gk_6 hg p0, ga_s100 hg (ka_6_4 p0) c4, gk_6 (gd_wI hg (kx_100 (ka_6_4 p0))) p0, gk_6 (gd_wI hg (kx_100 (ka_6_4 p0))) p0, ?_⟩
  show K 60 [some (.inr (.inr a0)), none, none, none, some (.inl x4)] [] (ia_wI (ia_wI h (a0 + 4) ((ia_i h a0 0).toNatClampNeg) x4) a0 0 ((ia_i (ia_wI h (a0 + 4) ((ia_i h a0 0).toNatClampNeg) x4) a0 0) + 1))
  obtain rfl := Option.some.inj hm
  exact hret 60 _ dc_Pl_addAct_60
theorem gj_Pl_addAct_39 {w : ia_O0} {a0 : Nat} {x1 : Int32} {x2 : Int32} {x3 : Int32} {x4 : Int32} (p0 : (kd_D a0).1 = 6) {h1 : ia_H} : ∀ (h : ia_H), gd_ w h → j_Pl_addAct_39 a0 x1 x2 x3 x4 h = some h1 → gd_ w h1 := by
  intro h hg hm
  unfold j_Pl_addAct_39 at hm
  obtain ⟨c4, hm⟩ := ia_gd_some hm
  obtain rfl := Option.some.inj hm
  exact (gd_wI (gd_wI hg (kx_100 (ka_6_4 p0))) (ko_6 p0))
def f_Pl_addAct (a0 : Nat) (x1 : Int32) (x2 : Int32) (x3 : Int32) (x4 : Int32) (h : ia_H) : Option ia_H := if 30 ≤ (ia_i h a0 0) then (some h) else (ia_gd (ia_ib (ia_i h a0 0) 30) (ia_gd (ia_ib (ia_i (ia_wI h (a0 + 1) ((ia_i h a0 0).toNatClampNeg) x1) a0 0) 30) (ia_gd (ia_ib (ia_i (ia_wI (ia_wI h (a0 + 1) ((ia_i h a0 0).toNatClampNeg) x1) (a0 + 2) ((ia_i (ia_wI h (a0 + 1) ((ia_i h a0 0).toNatClampNeg) x1) a0 0).toNatClampNeg) x2) a0 0) 30) (j_Pl_addAct_39 a0 x1 x2 x3 x4 (ia_wI (ia_wI (ia_wI h (a0 + 1) ((ia_i h a0 0).toNatClampNeg) x1) (a0 + 2) ((ia_i (ia_wI h (a0 + 1) ((ia_i h a0 0).toNatClampNeg) x1) a0 0).toNatClampNeg) x2) (a0 + 3) ((ia_i (ia_wI (ia_wI h (a0 + 1) ((ia_i h a0 0).toNatClampNeg) x1) (a0 + 2) ((ia_i (ia_wI h (a0 + 1) ((ia_i h a0 0).toNatClampNeg) x1) a0 0).toNatClampNeg) x2) a0 0).toNatClampNeg) x3)))))
theorem g_Pl_addAct {w : ia_O0} {a0 : Nat} {x1 : Int32} {x2 : Int32} {x3 : Int32} {x4 : Int32} {h : ia_H} (hg : gd_ w h) (p0 : (kd_D a0).1 = 6) {q : ia_H} (hm : f_Pl_addAct a0 x1 x2 x3 x4 h = some q) : gd_ w q := by
  obtain ⟨h1, e1⟩ : ∃ x, x = q := ⟨_, rfl⟩
  subst e1
  unfold f_Pl_addAct at hm
  by_cases c : 30 ≤ (ia_i h a0 0)
  · replace hm := ia_ifp hm c
    obtain rfl := Option.some.inj hm
    exact hg
  · replace hm := ia_ifn hm c
    obtain ⟨c1, hm⟩ := ia_gd_some hm
    obtain ⟨c2, hm⟩ := ia_gd_some hm
    obtain ⟨c3, hm⟩ := ia_gd_some hm
    exact gj_Pl_addAct_39 p0 (ia_wI (ia_wI (ia_wI h (a0 + 1) ((ia_i h a0 0).toNatClampNeg) x1) (a0 + 2) ((ia_i (ia_wI h (a0 + 1) ((ia_i h a0 0).toNatClampNeg) x1) a0 0).toNatClampNeg) x2) (a0 + 3) ((ia_i (ia_wI (ia_wI h (a0 + 1) ((ia_i h a0 0).toNatClampNeg) x1) (a0 + 2) ((ia_i (ia_wI h (a0 + 1) ((ia_i h a0 0).toNatClampNeg) x1) a0 0).toNatClampNeg) x2) a0 0).toNatClampNeg) x3) (gd_wI (gd_wI (gd_wI hg (kx_100 (ka_6_1 p0))) (kx_100 (ka_6_2 p0))) (kx_100 (ka_6_3 p0))) hm
theorem t_Pl_addAct {w : ia_O0} (d : Nat) {a0 : Nat} {x1 : Int32} {x2 : Int32} {x3 : Int32} {x4 : Int32} {h : ia_H} (hg : gd_ w h) (p0 : (kd_D a0).1 = 6) {q : ia_H} (hm : f_Pl_addAct a0 x1 x2 x3 x4 h = some q) : ia_Ev (d + 0) mm_Pl_addAct [.inr (.inr a0), .inl x1, .inl x2, .inl x3, .inl x4] h none q := by
  have gq := g_Pl_addAct hg p0 hm
  refine ia_Ev_intro ok_Pl_addAct (gd_le hg gq).1 (gd_le hg gq).2 (Nat.le_of_ble_eq_true rfl) (fun K hK hret => ?_)
  obtain ⟨h1, e1⟩ : ∃ x, x = q := ⟨_, rfl⟩
  subst e1
  show K 0 [some (.inr (.inr a0)), some (.inl x1), some (.inl x2), some (.inl x3), some (.inl x4)] [] h
  unfold f_Pl_addAct at hm
  refine ia_go hK ck_Pl_addAct_0 ⟨gk_6 hg p0, fun c => ?_, fun c => ?_⟩
  · replace hm := ia_ifp hm c
    show K 60 [some (.inr (.inr a0)), some (.inl x1), some (.inl x2), some (.inl x3), some (.inl x4)] [] h
    obtain rfl := Option.some.inj hm
    exact hret 60 _ dc_Pl_addAct_60
  · replace hm := ia_ifn hm c
    show K 9 [some (.inr (.inr a0)), some (.inl x1), some (.inl x2), some (.inl x3), some (.inl x4)] [] h
    obtain ⟨c1, hm⟩ := ia_gd_some hm
    obtain ⟨c2, hm⟩ := ia_gd_some hm
    obtain ⟨c3, hm⟩ := ia_gd_some hm
    refine ia_go hK ck_Pl_addAct_9 ⟨gk_6 hg p0, gr_6_1 hg p0, gk_6 hg p0, ga_s100 hg (ka_6_1 p0) c1, gk_6 (gd_wI hg (kx_100 (ka_6_1 p0))) p0, gr_6_2 (gd_wI hg (kx_100 (ka_6_1 p0))) p0, gk_6 (gd_wI hg (kx_100 (ka_6_1 p0))) p0, ga_s100 (gd_wI hg (kx_100 (ka_6_1 p0))) (ka_6_2 p0) c2, gk_6 (gd_wI (gd_wI hg (kx_100 (ka_6_1 p0))) (kx_100 (ka_6_2 p0))) p0, gr_6_3 (gd_wI (gd_wI hg (kx_100 (ka_6_1 p0))) (kx_100 (ka_6_2 p0))) p0, gk_6 (gd_wI (gd_wI hg (kx_100 (ka_6_1 p0))) (kx_100 (ka_6_2 p0))) p0, ga_s100 (gd_wI (gd_wI hg (kx_100 (ka_6_1 p0))) (kx_100 (ka_6_2 p0))) (ka_6_3 p0) c3, ?_⟩
    show K 39 [some (.inr (.inr a0)), some (.inl x1), some (.inl x2), some (.inl x3), some (.inl x4)] [] (ia_wI (ia_wI (ia_wI h (a0 + 1) ((ia_i h a0 0).toNatClampNeg) x1) (a0 + 2) ((ia_i (ia_wI h (a0 + 1) ((ia_i h a0 0).toNatClampNeg) x1) a0 0).toNatClampNeg) x2) (a0 + 3) ((ia_i (ia_wI (ia_wI h (a0 + 1) ((ia_i h a0 0).toNatClampNeg) x1) (a0 + 2) ((ia_i (ia_wI h (a0 + 1) ((ia_i h a0 0).toNatClampNeg) x1) a0 0).toNatClampNeg) x2) a0 0).toNatClampNeg) x3)
    refine ia_fg hK (lv' := [some (.inr (.inr a0)), none, none, none, some (.inl x4)]) ⟨rfl, rfl, trivial⟩ ?_
    exact tj_Pl_addAct_39 hK p0 hret (ia_wI (ia_wI (ia_wI h (a0 + 1) ((ia_i h a0 0).toNatClampNeg) x1) (a0 + 2) ((ia_i (ia_wI h (a0 + 1) ((ia_i h a0 0).toNatClampNeg) x1) a0 0).toNatClampNeg) x2) (a0 + 3) ((ia_i (ia_wI (ia_wI h (a0 + 1) ((ia_i h a0 0).toNatClampNeg) x1) (a0 + 2) ((ia_i (ia_wI h (a0 + 1) ((ia_i h a0 0).toNatClampNeg) x1) a0 0).toNatClampNeg) x2) a0 0).toNatClampNeg) x3) (gd_wI (gd_wI (gd_wI hg (kx_100 (ka_6_1 p0))) (kx_100 (ka_6_2 p0))) (kx_100 (ka_6_3 p0))) hm
def mm_Re_tellLine : ia_M := (⟨"IceStreet$Reader", "tellLine", "(I)V"⟩, prog_8_method_23_code, 3, none, 7, false)
theorem ok_Re_tellLine : ia_mok mm_Re_tellLine := ⟨by decide +kernel, by decide +kernel, by decide +kernel, by decide +kernel⟩
theorem mk_Re_tellLine : ia_mkn mm_Re_tellLine 1 1 := ⟨ia_tb_in (List.mem_of_getElem? (i := 925) (by decide +kernel)) rfl, ia_tb_in (List.mem_of_getElem? (i := 139) (by decide +kernel)) rfl, by decide +kernel, by decide +kernel, ⟨ia_tb_in (List.mem_of_getElem? (i := 924) (by decide +kernel)) rfl, ia_tb_in (List.mem_of_getElem? (i := 17) (by decide +kernel)) rfl⟩⟩
theorem ck_Re_tellLine_0 : ia_cks 7 3 false prog_8_method_23_code 0 [(.aload_n 0, 0, 0, 0, 0), (.getfield 50, 7, 8, 0, 0), (.ifCond .ne 11, 0, 0, 0, 0)] = true := by decide +kernel
theorem ck_Re_tellLine_15 : ia_cks 7 3 false prog_8_method_23_code 15 [(.aload_n 0, 0, 0, 0, 0), (.getfield 50, 7, 8, 0, 0), (.iconst 1, 0, 0, 0, 0), (.if_icmp .ne 11, 0, 0, 0, 0)] = true := by decide +kernel
theorem ck_Re_tellLine_31 : ia_cks 7 3 false prog_8_method_23_code 31 [(.iload_n 1, 0, 0, 0, 0)] = true := by decide +kernel
theorem ck_Re_tellLine_38 : ia_cks 7 3 false prog_8_method_23_code 38 [(.istore_n 2, 0, 0, 0, 0), (.aload_n 0, 0, 0, 0, 0), (.getfield 28, 7, 2, 3, 17), (.iload_n 1, 0, 0, 0, 0), (.bipush 16, 0, 0, 0, 0), (.isub, 0, 0, 0, 0), (.iload_n 2, 0, 0, 0, 0), (.ifCond .le 12, 0, 0, 0, 0)] = true := by decide +kernel
theorem ck_Re_tellLine_60 : ia_cks 7 3 false prog_8_method_23_code 60 [(.iconst (-1), 0, 0, 0, 0)] = true := by decide +kernel
theorem ck_Re_tellLine_61 : ia_cks 7 3 false prog_8_method_23_code 61 [(.iload_n 2, 0, 0, 0, 0), (.iconst 1, 0, 0, 0, 0), (.if_icmp .le 12, 0, 0, 0, 0)] = true := by decide +kernel
theorem ck_Re_tellLine_75 : ia_cks 7 3 false prog_8_method_23_code 75 [(.iconst (-1), 0, 0, 0, 0)] = true := by decide +kernel
theorem ck_Re_tellLine_76 : ia_cks 7 3 false prog_8_method_23_code 76 [(.iload_n 2, 0, 0, 0, 0), (.iconst 2, 0, 0, 0, 0), (.if_icmp .le 12, 0, 0, 0, 0)] = true := by decide +kernel
theorem ck_Re_tellLine_90 : ia_cks 7 3 false prog_8_method_23_code 90 [(.iconst (-1), 0, 0, 0, 0)] = true := by decide +kernel
theorem ck_Re_tellLine_81 : ia_cks 7 3 false prog_8_method_23_code 81 [(.aload_n 0, 0, 0, 0, 0), (.getfield 32, 7, 5, 3, 22), (.iconst 2, 0, 0, 0, 0), (.iaload, 0, 0, 0, 0), (.goto 4, 0, 0, 0, 0)] = true := by decide +kernel
theorem ck_Re_tellLine_66 : ia_cks 7 3 false prog_8_method_23_code 66 [(.aload_n 0, 0, 0, 0, 0), (.getfield 32, 7, 5, 3, 22), (.iconst 1, 0, 0, 0, 0), (.iaload, 0, 0, 0, 0), (.goto 4, 0, 0, 0, 0)] = true := by decide +kernel
theorem ck_Re_tellLine_51 : ia_cks 7 3 false prog_8_method_23_code 51 [(.aload_n 0, 0, 0, 0, 0), (.getfield 32, 7, 5, 3, 22), (.iconst 0, 0, 0, 0, 0), (.iaload, 0, 0, 0, 0), (.goto 4, 0, 0, 0, 0)] = true := by decide +kernel
theorem ck_Re_tellLine_23 : ia_cks 7 3 false prog_8_method_23_code 23 [(.aload_n 0, 0, 0, 0, 0), (.iload_n 1, 0, 0, 0, 0)] = true := by decide +kernel
theorem ck_Re_tellLine_28 : ia_cks 7 3 false prog_8_method_23_code 28 [(.goto 66, 0, 0, 0, 0)] = true := by decide +kernel
theorem ck_Re_tellLine_7 : ia_cks 7 3 false prog_8_method_23_code 7 [(.aload_n 0, 0, 0, 0, 0), (.iload_n 1, 0, 0, 0, 0)] = true := by decide +kernel
theorem ck_Re_tellLine_12 : ia_cks 7 3 false prog_8_method_23_code 12 [(.goto 82, 0, 0, 0, 0)] = true := by decide +kernel
theorem dc_Re_tellLine_32 : decode prog_8_method_23_code 32 = .ok (.invokestatic 229, 3) := by decide +kernel
theorem dc_Re_tellLine_35 : decode prog_8_method_23_code 35 = .ok (.invokevirtual 146, 3) := by decide +kernel
theorem dc_Re_tellLine_91 : decode prog_8_method_23_code 91 = .ok (.invokevirtual 271, 3) := by decide +kernel
theorem dc_Re_tellLine_94 : decode prog_8_method_23_code 94 = .ok (.return_, 1) := by decide +kernel
theorem dc_Re_tellLine_25 : decode prog_8_method_23_code 25 = .ok (.invokevirtual 268, 3) := by decide +kernel
theorem dc_Re_tellLine_9 : decode prog_8_method_23_code 9 = .ok (.invokevirtual 265, 3) := by decide +kernel
def j_Re_tellLine_91 (x1 : Int32) (b0 : Nat) (s1 : Int32) (s2 : Int32) (s3 : Int32) (s4 : Int32) (h : ia_H) : Option ia_H := (f_Pl_addAct b0 s1 s2 s3 s4 h).bind fun v2 => (some v2)
theorem tj_Re_tellLine_91 {w : ia_O0} {d N1 W1 : Nat} {K : ia_K} (hK : ia_isK (d + 3) mm_Re_tellLine N1 W1 K) {x1 : Int32} {h1 : ia_H} (hret : ∀ (pc : Nat) (lv : ia_L), ia_ret mm_Re_tellLine pc none → K pc lv (none : Option ia_V).toList h1) : ∀ (b0 : Nat) (s1 : Int32) (s2 : Int32) (s3 : Int32) (s4 : Int32) (h : ia_H), gd_ w h → (kd_D b0).1 = 6 → j_Re_tellLine_91 x1 b0 s1 s2 s3 s4 h = some h1 → K 91 [none, none, none] [.inl s4, .inl s3, .inl s2, .inl s1, .inr (.inr b0)] h := by
  intro b0 s1 s2 s3 s4 h hg q_b0 hm
  unfold j_Re_tellLine_91 at hm
  obtain ⟨v2, hv2, hm⟩ := ia_bnd hm
  have ev2 := t_Pl_addAct (d + 2) hg q_b0 hv2
  have gv2 := g_Pl_addAct hg q_b0 hv2
  refine ia_cV hK mk_Pl_addAct lk_7_271 dc_Re_tellLine_91 b0 [.inl s1, .inl s2, .inl s3, .inl s4] [] rfl rfl (Nat.le_of_ble_eq_true rfl) (by decide) rfl (gk_6 hg q_b0) ev2 (gd_nm hg gv2) ?_
  show K 94 [none, none, none] [] v2
  obtain rfl := Option.some.inj hm
  exact hret 94 _ dc_Re_tellLine_94
theorem gj_Re_tellLine_91 {w : ia_O0} {x1 : Int32} {h1 : ia_H} : ∀ (b0 : Nat) (s1 : Int32) (s2 : Int32) (s3 : Int32) (s4 : Int32) (h : ia_H), gd_ w h → (kd_D b0).1 = 6 → j_Re_tellLine_91 x1 b0 s1 s2 s3 s4 h = some h1 → gd_ w h1 := by
  intro b0 s1 s2 s3 s4 h hg q_b0 hm
  unfold j_Re_tellLine_91 at hm
  obtain ⟨v2, hv2, hm⟩ := ia_bnd hm
  have gv2 := g_Pl_addAct hg q_b0 hv2
  obtain rfl := Option.some.inj hm
  exact gv2
def j_Re_tellLine_76 (x1 : Int32) (x2 : Int32) (b0 : Nat) (s1 : Int32) (s2 : Int32) (s3 : Int32) (h : ia_H) : Option ia_H := if x2 ≤ 2 then (j_Re_tellLine_91 x1 b0 s1 s2 s3 (-1) h) else (j_Re_tellLine_91 x1 b0 s1 s2 s3 (ia_i h 301 2) h)
theorem tj_Re_tellLine_76 {w : ia_O0} {d N1 W1 : Nat} {K : ia_K} (hK : ia_isK (d + 3) mm_Re_tellLine N1 W1 K) {x1 : Int32} {h1 : ia_H} (hret : ∀ (pc : Nat) (lv : ia_L), ia_ret mm_Re_tellLine pc none → K pc lv (none : Option ia_V).toList h1) : ∀ (x2 : Int32) (b0 : Nat) (s1 : Int32) (s2 : Int32) (s3 : Int32) (h : ia_H), gd_ w h → (kd_D b0).1 = 6 → j_Re_tellLine_76 x1 x2 b0 s1 s2 s3 h = some h1 → K 76 [some (.inr (.inr 279)), none, some (.inl x2)] [.inl s3, .inl s2, .inl s1, .inr (.inr b0)] h := by
  intro x2 b0 s1 s2 s3 h hg q_b0 hm
  unfold j_Re_tellLine_76 at hm
  refine ia_go hK ck_Re_tellLine_76 ⟨fun c => ?_, fun c => ?_⟩
  · replace hm := ia_ifp hm c
    show K 90 [some (.inr (.inr 279)), none, some (.inl x2)] [.inl s3, .inl s2, .inl s1, .inr (.inr b0)] h
    refine ia_go hK ck_Re_tellLine_90 ?_
    show K 91 [some (.inr (.inr 279)), none, some (.inl x2)] [.inl (-1), .inl s3, .inl s2, .inl s1, .inr (.inr b0)] h
    refine ia_fg hK (lv' := [none, none, none]) trivial ?_
    exact tj_Re_tellLine_91 hK hret b0 s1 s2 s3 (-1) h hg q_b0 hm
  · replace hm := ia_ifn hm c
    show K 81 [some (.inr (.inr 279)), none, some (.inl x2)] [.inl s3, .inl s2, .inl s1, .inr (.inr b0)] h
    refine ia_go hK ck_Re_tellLine_81 ⟨gk_7 hg pk_279, gr_7_5 hg pk_279, ga_i100 hg (ka_7_5 pk_279) (by decide), ?_⟩
    show K 91 [some (.inr (.inr 279)), none, some (.inl x2)] [.inl (ia_i h 301 2), .inl s3, .inl s2, .inl s1, .inr (.inr b0)] h
    refine ia_fg hK (lv' := [none, none, none]) trivial ?_
    exact tj_Re_tellLine_91 hK hret b0 s1 s2 s3 (ia_i h 301 2) h hg q_b0 hm
theorem gj_Re_tellLine_76 {w : ia_O0} {x1 : Int32} {h1 : ia_H} : ∀ (x2 : Int32) (b0 : Nat) (s1 : Int32) (s2 : Int32) (s3 : Int32) (h : ia_H), gd_ w h → (kd_D b0).1 = 6 → j_Re_tellLine_76 x1 x2 b0 s1 s2 s3 h = some h1 → gd_ w h1 := by
  intro x2 b0 s1 s2 s3 h hg q_b0 hm
  unfold j_Re_tellLine_76 at hm
  by_cases c : x2 ≤ 2
  · replace hm := ia_ifp hm c
    exact gj_Re_tellLine_91 b0 s1 s2 s3 (-1) h hg q_b0 hm
  · replace hm := ia_ifn hm c
    exact gj_Re_tellLine_91 b0 s1 s2 s3 (ia_i h 301 2) h hg q_b0 hm
def j_Re_tellLine_61 (x1 : Int32) (x2 : Int32) (b0 : Nat) (s1 : Int32) (s2 : Int32) (h : ia_H) : Option ia_H := if x2 ≤ 1 then (j_Re_tellLine_76 x1 x2 b0 s1 s2 (-1) h) else (j_Re_tellLine_76 x1 x2 b0 s1 s2 (ia_i h 301 1) h)
theorem tj_Re_tellLine_61 {w : ia_O0} {d N1 W1 : Nat} {K : ia_K} (hK : ia_isK (d + 3) mm_Re_tellLine N1 W1 K) {x1 : Int32} {h1 : ia_H} (hret : ∀ (pc : Nat) (lv : ia_L), ia_ret mm_Re_tellLine pc none → K pc lv (none : Option ia_V).toList h1) : ∀ (x2 : Int32) (b0 : Nat) (s1 : Int32) (s2 : Int32) (h : ia_H), gd_ w h → (kd_D b0).1 = 6 → j_Re_tellLine_61 x1 x2 b0 s1 s2 h = some h1 → K 61 [some (.inr (.inr 279)), none, some (.inl x2)] [.inl s2, .inl s1, .inr (.inr b0)] h := by
  intro x2 b0 s1 s2 h hg q_b0 hm
  unfold j_Re_tellLine_61 at hm
  refine ia_go hK ck_Re_tellLine_61 ⟨fun c => ?_, fun c => ?_⟩
  · replace hm := ia_ifp hm c
    show K 75 [some (.inr (.inr 279)), none, some (.inl x2)] [.inl s2, .inl s1, .inr (.inr b0)] h
    refine ia_go hK ck_Re_tellLine_75 ?_
    show K 76 [some (.inr (.inr 279)), none, some (.inl x2)] [.inl (-1), .inl s2, .inl s1, .inr (.inr b0)] h
    exact tj_Re_tellLine_76 hK hret x2 b0 s1 s2 (-1) h hg q_b0 hm
  · replace hm := ia_ifn hm c
    show K 66 [some (.inr (.inr 279)), none, some (.inl x2)] [.inl s2, .inl s1, .inr (.inr b0)] h
    refine ia_go hK ck_Re_tellLine_66 ⟨gk_7 hg pk_279, gr_7_5 hg pk_279, ga_i100 hg (ka_7_5 pk_279) (by decide), ?_⟩
    show K 76 [some (.inr (.inr 279)), none, some (.inl x2)] [.inl (ia_i h 301 1), .inl s2, .inl s1, .inr (.inr b0)] h
    exact tj_Re_tellLine_76 hK hret x2 b0 s1 s2 (ia_i h 301 1) h hg q_b0 hm
theorem gj_Re_tellLine_61 {w : ia_O0} {x1 : Int32} {h1 : ia_H} : ∀ (x2 : Int32) (b0 : Nat) (s1 : Int32) (s2 : Int32) (h : ia_H), gd_ w h → (kd_D b0).1 = 6 → j_Re_tellLine_61 x1 x2 b0 s1 s2 h = some h1 → gd_ w h1 := by
  intro x2 b0 s1 s2 h hg q_b0 hm
  unfold j_Re_tellLine_61 at hm
  by_cases c : x2 ≤ 1
  · replace hm := ia_ifp hm c
    exact gj_Re_tellLine_76 x2 b0 s1 s2 (-1) h hg q_b0 hm
  · replace hm := ia_ifn hm c
    exact gj_Re_tellLine_76 x2 b0 s1 s2 (ia_i h 301 1) h hg q_b0 hm
def f_Re_tellLine (x1 : Int32) (h : ia_H) : Option ia_H := if (ia_i h 279 8) = 0 then ((f_Re_tellLake x1 h).bind fun v4 => (some v4)) else (if (ia_i h 279 8) = 1 then ((f_Re_tellLaw x1 h).bind fun v3 => (some v3)) else ((f_Re_numbersOf x1 h).bind fun v1 => (if (Int32.ofNat (sl_n v1)) ≤ 0 then (j_Re_tellLine_61 x1 (Int32.ofNat (sl_n v1)) 296 (x1 - 16) (-1) h) else (j_Re_tellLine_61 x1 (Int32.ofNat (sl_n v1)) 296 (x1 - 16) (ia_i h 301 0) h))))
theorem g_Re_tellLine {w : ia_O0} {x1 : Int32} {h : ia_H} (hg : gd_ w h) {q : ia_H} (hm : f_Re_tellLine x1 h = some q) : gd_ w q := by
  obtain ⟨h1, e1⟩ : ∃ x, x = q := ⟨_, rfl⟩
  subst e1
  unfold f_Re_tellLine at hm
  by_cases c : (ia_i h 279 8) = 0
  · replace hm := ia_ifp hm c
    obtain ⟨v4, hv4, hm⟩ := ia_bnd hm
    have gv4 := g_Re_tellLake hg hv4
    obtain rfl := Option.some.inj hm
    exact gv4
  · replace hm := ia_ifn hm c
    by_cases c : (ia_i h 279 8) = 1
    · replace hm := ia_ifp hm c
      obtain ⟨v3, hv3, hm⟩ := ia_bnd hm
      have gv3 := g_Re_tellLaw hg hv3
      obtain rfl := Option.some.inj hm
      exact gv3
    · replace hm := ia_ifn hm c
      obtain ⟨v1, hv1, hm⟩ := ia_bnd hm
      have gv1 := g_Re_numbersOf  hv1
      by_cases c : (Int32.ofNat (sl_n v1)) ≤ 0
      · replace hm := ia_ifp hm c
        exact gj_Re_tellLine_61 (Int32.ofNat (sl_n v1)) 296 (x1 - 16) (-1) h hg (ka_7_2 pk_279) hm
      · replace hm := ia_ifn hm c
        exact gj_Re_tellLine_61 (Int32.ofNat (sl_n v1)) 296 (x1 - 16) (ia_i h 301 0) h hg (ka_7_2 pk_279) hm
theorem t_Re_tellLine {w : ia_O0} (d : Nat) {x1 : Int32} {h : ia_H} (hg : gd_ w h) {q : ia_H} (hm : f_Re_tellLine x1 h = some q) : ia_Ev (d + 3) mm_Re_tellLine [.inr (.inr 279), .inl x1] h none q := by
  have gq := g_Re_tellLine hg hm
  refine ia_Ev_intro ok_Re_tellLine (gd_le hg gq).1 (gd_le hg gq).2 (Nat.le_of_ble_eq_true rfl) (fun K hK hret => ?_)
  obtain ⟨h1, e1⟩ : ∃ x, x = q := ⟨_, rfl⟩
  subst e1
  show K 0 [some (.inr (.inr 279)), some (.inl x1), none] [] h
  unfold f_Re_tellLine at hm
  refine ia_go hK ck_Re_tellLine_0 ⟨gk_7 hg pk_279, fun c => ?_, fun c => ?_⟩
  · replace hm := ia_ifn hm c
    show K 15 [some (.inr (.inr 279)), some (.inl x1), none] [] h
    refine ia_go hK ck_Re_tellLine_15 ⟨gk_7 hg pk_279, fun c => ?_, fun c => ?_⟩
    · replace hm := ia_ifn hm c
      show K 31 [some (.inr (.inr 279)), some (.inl x1), none] [] h
      refine ia_go hK ck_Re_tellLine_31 ?_
      show K 32 [some (.inr (.inr 279)), some (.inl x1), none] [.inl x1] h
      obtain ⟨v1, hv1, hm⟩ := ia_bnd hm
      have ev1 := t_Re_numbersOf (d + 2) hg hv1
      have gv1 := g_Re_numbersOf  hv1
      refine ia_cS hK mk_Re_numbersOf lk_7_229 dc_Re_tellLine_32 [.inl x1] [] rfl rfl (Nat.le_of_ble_eq_true rfl) ev1 ⟨rfl, rfl⟩ ?_
      show K 35 [some (.inr (.inr 279)), some (.inl x1), none] [.inr (.inr v1)] h
      refine ia_slen hK gv1 (ia_tb_in (List.mem_of_getElem? (i := 817) (by decide +kernel)) rfl) dc_Re_tellLine_35 (Nat.le_of_ble_eq_true rfl) ?_
      show K 38 [some (.inr (.inr 279)), some (.inl x1), none] [.inl (Int32.ofNat (sl_n v1))] h
      refine ia_go hK ck_Re_tellLine_38 ⟨gk_7 hg pk_279, gr_7_2 hg pk_279, fun c => ?_, fun c => ?_⟩
      · replace hm := ia_ifp hm c
        show K 60 [some (.inr (.inr 279)), some (.inl x1), some (.inl (Int32.ofNat (sl_n v1)))] [.inl (x1 - 16), .inr (.inr 296)] h
        refine ia_go hK ck_Re_tellLine_60 ?_
        show K 61 [some (.inr (.inr 279)), some (.inl x1), some (.inl (Int32.ofNat (sl_n v1)))] [.inl (-1), .inl (x1 - 16), .inr (.inr 296)] h
        refine ia_fg hK (lv' := [some (.inr (.inr 279)), none, some (.inl (Int32.ofNat (sl_n v1)))]) ⟨rfl, rfl, trivial⟩ ?_
        exact tj_Re_tellLine_61 hK hret (Int32.ofNat (sl_n v1)) 296 (x1 - 16) (-1) h hg (ka_7_2 pk_279) hm
      · replace hm := ia_ifn hm c
        show K 51 [some (.inr (.inr 279)), some (.inl x1), some (.inl (Int32.ofNat (sl_n v1)))] [.inl (x1 - 16), .inr (.inr 296)] h
        refine ia_go hK ck_Re_tellLine_51 ⟨gk_7 hg pk_279, gr_7_5 hg pk_279, ga_i100 hg (ka_7_5 pk_279) (by decide), ?_⟩
        show K 61 [some (.inr (.inr 279)), some (.inl x1), some (.inl (Int32.ofNat (sl_n v1)))] [.inl (ia_i h 301 0), .inl (x1 - 16), .inr (.inr 296)] h
        refine ia_fg hK (lv' := [some (.inr (.inr 279)), none, some (.inl (Int32.ofNat (sl_n v1)))]) ⟨rfl, rfl, trivial⟩ ?_
        exact tj_Re_tellLine_61 hK hret (Int32.ofNat (sl_n v1)) 296 (x1 - 16) (ia_i h 301 0) h hg (ka_7_2 pk_279) hm
    · replace hm := ia_ifp hm c
      show K 23 [some (.inr (.inr 279)), some (.inl x1), none] [] h
      refine ia_go hK ck_Re_tellLine_23 ?_
      show K 25 [some (.inr (.inr 279)), some (.inl x1), none] [.inl x1, .inr (.inr 279)] h
      obtain ⟨v3, hv3, hm⟩ := ia_bnd hm
      have ev3 := t_Re_tellLaw (d + 0) hg hv3
      have gv3 := g_Re_tellLaw hg hv3
      refine ia_cV hK mk_Re_tellLaw lk_7_268 dc_Re_tellLine_25 279 [.inl x1] [] rfl rfl (Nat.le_of_ble_eq_true rfl) (by decide) rfl (gk_7 hg pk_279) ev3 (gd_nm hg gv3) ?_
      show K 28 [some (.inr (.inr 279)), some (.inl x1), none] [] v3
      refine ia_go hK ck_Re_tellLine_28 ?_
      show K 94 [some (.inr (.inr 279)), some (.inl x1), none] [] v3
      obtain rfl := Option.some.inj hm
      exact hret 94 _ dc_Re_tellLine_94
  · replace hm := ia_ifp hm c
    show K 7 [some (.inr (.inr 279)), some (.inl x1), none] [] h
    refine ia_go hK ck_Re_tellLine_7 ?_
    show K 9 [some (.inr (.inr 279)), some (.inl x1), none] [.inl x1, .inr (.inr 279)] h
    obtain ⟨v4, hv4, hm⟩ := ia_bnd hm
    have ev4 := t_Re_tellLake (d + 0) hg hv4
    have gv4 := g_Re_tellLake hg hv4
    refine ia_cV hK mk_Re_tellLake lk_7_265 dc_Re_tellLine_9 279 [.inl x1] [] rfl rfl (Nat.le_of_ble_eq_true rfl) (by decide) rfl (gk_7 hg pk_279) ev4 (gd_nm hg gv4) ?_
    show K 12 [some (.inr (.inr 279)), some (.inl x1), none] [] v4
    refine ia_go hK ck_Re_tellLine_12 ?_
    show K 94 [some (.inr (.inr 279)), some (.inl x1), none] [] v4
    obtain rfl := Option.some.inj hm
    exact hret 94 _ dc_Re_tellLine_94
def mm_Re_readLine : ia_M := (⟨"IceStreet$Reader", "readLine", "()Z"⟩, prog_8_method_11_code, 2, (some .boolean), 7, false)
theorem ok_Re_readLine : ia_mok mm_Re_readLine := ⟨by decide +kernel, by decide +kernel, by decide +kernel, by decide +kernel⟩
theorem mk_Re_readLine : ia_mkn mm_Re_readLine 1 0 := ⟨ia_tb_in (List.mem_of_getElem? (i := 781) (by decide +kernel)) rfl, ia_tb_in (List.mem_of_getElem? (i := 139) (by decide +kernel)) rfl, by decide +kernel, by decide +kernel, ⟨ia_tb_in (List.mem_of_getElem? (i := 780) (by decide +kernel)) rfl, ia_tb_in (List.mem_of_getElem? (i := 8) (by decide +kernel)) rfl⟩⟩
theorem ck_Re_readLine_0 : ia_cks 7 2 false prog_8_method_11_code 0 [(.aload_n 0, 0, 0, 0, 0)] = true := by decide +kernel
theorem ck_Re_readLine_4 : ia_cks 7 2 false prog_8_method_11_code 4 [(.istore_n 1, 0, 0, 0, 0), (.iload_n 1, 0, 0, 0, 0), (.iconst (-1), 0, 0, 0, 0), (.if_icmp .ne 8, 0, 0, 0, 0)] = true := by decide +kernel
theorem ck_Re_readLine_15 : ia_cks 7 2 false prog_8_method_11_code 15 [(.aload_n 0, 0, 0, 0, 0), (.iload_n 1, 0, 0, 0, 0)] = true := by decide +kernel
theorem ck_Re_readLine_20 : ia_cks 7 2 false prog_8_method_11_code 20 [(.aload_n 0, 0, 0, 0, 0)] = true := by decide +kernel
theorem ck_Re_readLine_24 : ia_cks 7 2 false prog_8_method_11_code 24 [(.aload_n 0, 0, 0, 0, 0), (.iload_n 1, 0, 0, 0, 0)] = true := by decide +kernel
theorem ck_Re_readLine_29 : ia_cks 7 2 false prog_8_method_11_code 29 [(.ifCond .ne 5, 0, 0, 0, 0)] = true := by decide +kernel
theorem ck_Re_readLine_34 : ia_cks 7 2 false prog_8_method_11_code 34 [(.aload_n 0, 0, 0, 0, 0), (.getfield 59, 7, 9, 0, 0), (.iconst 4, 0, 0, 0, 0), (.if_icmp .eq 8, 0, 0, 0, 0)] = true := by decide +kernel
theorem ck_Re_readLine_47 : ia_cks 7 2 false prog_8_method_11_code 47 [(.aload_n 0, 0, 0, 0, 0), (.getfield 66, 7, 3, 0, 0), (.ifCond .ne 8, 0, 0, 0, 0)] = true := by decide +kernel
theorem ck_Re_readLine_59 : ia_cks 7 2 false prog_8_method_11_code 59 [(.aload_n 0, 0, 0, 0, 0)] = true := by decide +kernel
theorem ck_Re_readLine_63 : ia_cks 7 2 false prog_8_method_11_code 63 [(.iconst 1, 0, 0, 0, 0)] = true := by decide +kernel
theorem ck_Re_readLine_54 : ia_cks 7 2 false prog_8_method_11_code 54 [(.aload_n 0, 0, 0, 0, 0), (.iload_n 1, 0, 0, 0, 0)] = true := by decide +kernel
theorem ck_Re_readLine_42 : ia_cks 7 2 false prog_8_method_11_code 42 [(.aload_n 0, 0, 0, 0, 0)] = true := by decide +kernel
theorem ck_Re_readLine_32 : ia_cks 7 2 false prog_8_method_11_code 32 [(.iconst 0, 0, 0, 0, 0)] = true := by decide +kernel
theorem ck_Re_readLine_10 : ia_cks 7 2 false prog_8_method_11_code 10 [(.aload_n 0, 0, 0, 0, 0)] = true := by decide +kernel
theorem dc_Re_readLine_1 : decode prog_8_method_11_code 1 = .ok (.invokevirtual 118, 3) := by decide +kernel
theorem dc_Re_readLine_17 : decode prog_8_method_11_code 17 = .ok (.invokevirtual 125, 3) := by decide +kernel
theorem dc_Re_readLine_21 : decode prog_8_method_11_code 21 = .ok (.invokevirtual 56, 3) := by decide +kernel
theorem dc_Re_readLine_26 : decode prog_8_method_11_code 26 = .ok (.invokevirtual 129, 3) := by decide +kernel
theorem dc_Re_readLine_60 : decode prog_8_method_11_code 60 = .ok (.invokevirtual 56, 3) := by decide +kernel
theorem dc_Re_readLine_64 : decode prog_8_method_11_code 64 = .ok (.ireturn, 1) := by decide +kernel
theorem dc_Re_readLine_56 : decode prog_8_method_11_code 56 = .ok (.invokevirtual 132, 3) := by decide +kernel
theorem dc_Re_readLine_43 : decode prog_8_method_11_code 43 = .ok (.invokevirtual 122, 3) := by decide +kernel
theorem dc_Re_readLine_46 : decode prog_8_method_11_code 46 = .ok (.ireturn, 1) := by decide +kernel
theorem dc_Re_readLine_33 : decode prog_8_method_11_code 33 = .ok (.ireturn, 1) := by decide +kernel
theorem dc_Re_readLine_11 : decode prog_8_method_11_code 11 = .ok (.invokevirtual 122, 3) := by decide +kernel
theorem dc_Re_readLine_14 : decode prog_8_method_11_code 14 = .ok (.ireturn, 1) := by decide +kernel
def j_Re_readLine_59 (h : ia_H) : Option (Int32 × ia_H) := (f_Re_advance h).bind fun v5 => (some (1, v5))
theorem tj_Re_readLine_59 {w : ia_O0} {d N1 W1 : Nat} {K : ia_K} (hK : ia_isK (d + 6) mm_Re_readLine N1 W1 K) {r : Int32} {h1 : ia_H} (hret : ∀ (pc : Nat) (lv : ia_L), ia_ret mm_Re_readLine pc (some (.inl r)) → K pc lv ((some (.inl r)) : Option ia_V).toList h1) : ∀ (h : ia_H), gd_ w h → j_Re_readLine_59 h = some (r, h1) → K 59 [some (.inr (.inr 279)), none] [] h := by
  intro h hg hm
  unfold j_Re_readLine_59 at hm
  refine ia_go hK ck_Re_readLine_59 ?_
  show K 60 [some (.inr (.inr 279)), none] [.inr (.inr 279)] h
  obtain ⟨v5, hv5, hm⟩ := ia_bnd hm
  have ev5 := t_Re_advance (d + 3) hg hv5
  have gv5 := g_Re_advance hg hv5
  refine ia_cV hK mk_Re_advance lk_7_56 dc_Re_readLine_60 279 [] [] rfl rfl (Nat.le_of_ble_eq_true rfl) (by decide) rfl (gk_7 hg pk_279) ev5 (gd_nm hg gv5) ?_
  show K 63 [some (.inr (.inr 279)), none] [] v5
  refine ia_go hK ck_Re_readLine_63 ?_
  show K 64 [some (.inr (.inr 279)), none] [.inl 1] v5
  obtain ⟨rfl, rfl⟩ := Prod.mk.inj (Option.some.inj hm)
  exact hret 64 _ ⟨Or.inr rfl, dc_Re_readLine_64⟩
theorem gj_Re_readLine_59 {w : ia_O0} {r : Int32} {h1 : ia_H} : ∀ (h : ia_H), gd_ w h → j_Re_readLine_59 h = some (r, h1) → gd_ w h1 := by
  intro h hg hm
  unfold j_Re_readLine_59 at hm
  obtain ⟨v5, hv5, hm⟩ := ia_bnd hm
  have gv5 := g_Re_advance hg hv5
  obtain ⟨rfl, rfl⟩ := Prod.mk.inj (Option.some.inj hm)
  exact gv5
def f_Re_readLine (h : ia_H) : Option (Int32 × ia_H) := (f_Re_lineOfWord h).bind fun v1 => (if v1 = (-1) then ((f_Re_refuse h).bind fun v9 => (ia_gd (ia_z1 v9.1) (some (v9.1, v9.2)))) else ((f_Re_openLine v1 h).bind fun v2 => ((f_Re_advance v2).bind fun v3 => ((f_Re_readNumbers v1 v3).bind fun v4 => (if v4.1 = 0 then (some (0, v4.2)) else (if (ia_i v4.2 279 9) = 4 then (if (ia_i v4.2 279 3) = 0 then ((f_Re_tellLine v1 v4.2).bind fun v6 => (j_Re_readLine_59 v6)) else (j_Re_readLine_59 v4.2)) else ((f_Re_refuse v4.2).bind fun v7 => (ia_gd (ia_z1 v7.1) (some (v7.1, v7.2))))))))))
theorem g_Re_readLine {w : ia_O0} {h : ia_H} (hg : gd_ w h) {q : (Int32 × ia_H)} (hm : f_Re_readLine h = some q) : gd_ w q.2 := by
  obtain ⟨r, h1⟩ := q
  unfold f_Re_readLine at hm
  obtain ⟨v1, hv1, hm⟩ := ia_bnd hm
  by_cases c : v1 = (-1)
  · replace hm := ia_ifp hm c
    obtain ⟨v9, hv9, hm⟩ := ia_bnd hm
    have gv9 := g_Re_refuse hg hv9
    obtain ⟨c10, hm⟩ := ia_gd_some hm
    obtain ⟨rfl, rfl⟩ := Prod.mk.inj (Option.some.inj hm)
    exact gv9
  · replace hm := ia_ifn hm c
    obtain ⟨v2, hv2, hm⟩ := ia_bnd hm
    have gv2 := g_Re_openLine hg hv2
    obtain ⟨v3, hv3, hm⟩ := ia_bnd hm
    have gv3 := g_Re_advance gv2 hv3
    obtain ⟨v4, hv4, hm⟩ := ia_bnd hm
    have gv4 := g_Re_readNumbers gv3 hv4
    by_cases c : v4.1 = 0
    · replace hm := ia_ifp hm c
      obtain ⟨rfl, rfl⟩ := Prod.mk.inj (Option.some.inj hm)
      exact gv4
    · replace hm := ia_ifn hm c
      by_cases c : (ia_i v4.2 279 9) = 4
      · replace hm := ia_ifp hm c
        by_cases c : (ia_i v4.2 279 3) = 0
        · replace hm := ia_ifp hm c
          obtain ⟨v6, hv6, hm⟩ := ia_bnd hm
          have gv6 := g_Re_tellLine gv4 hv6
          exact gj_Re_readLine_59 v6 gv6 hm
        · replace hm := ia_ifn hm c
          exact gj_Re_readLine_59 v4.2 gv4 hm
      · replace hm := ia_ifn hm c
        obtain ⟨v7, hv7, hm⟩ := ia_bnd hm
        have gv7 := g_Re_refuse gv4 hv7
        obtain ⟨c8, hm⟩ := ia_gd_some hm
        obtain ⟨rfl, rfl⟩ := Prod.mk.inj (Option.some.inj hm)
        exact gv7
theorem t_Re_readLine {w : ia_O0} (d : Nat) {h : ia_H} (hg : gd_ w h) {q : (Int32 × ia_H)} (hm : f_Re_readLine h = some q) : ia_Ev (d + 6) mm_Re_readLine [.inr (.inr 279)] h (some (.inl q.1)) q.2 := by
  have gq := g_Re_readLine hg hm
  refine ia_Ev_intro ok_Re_readLine (gd_le hg gq).1 (gd_le hg gq).2 (Nat.le_of_ble_eq_true rfl) (fun K hK hret => ?_)
  obtain ⟨r, h1⟩ := q
  show K 0 [some (.inr (.inr 279)), none] [] h
  unfold f_Re_readLine at hm
  refine ia_go hK ck_Re_readLine_0 ?_
  show K 1 [some (.inr (.inr 279)), none] [.inr (.inr 279)] h
  obtain ⟨v1, hv1, hm⟩ := ia_bnd hm
  have ev1 := t_Re_lineOfWord (d + 0) hg hv1
  refine ia_cV hK mk_Re_lineOfWord lk_7_118 dc_Re_readLine_1 279 [] [] rfl rfl (Nat.le_of_ble_eq_true rfl) (by decide) rfl (gk_7 hg pk_279) ev1 ⟨rfl, rfl⟩ ?_
  show K 4 [some (.inr (.inr 279)), none] [.inl v1] h
  refine ia_go hK ck_Re_readLine_4 ⟨fun c => ?_, fun c => ?_⟩
  · replace hm := ia_ifn hm c
    show K 15 [some (.inr (.inr 279)), some (.inl v1)] [] h
    refine ia_go hK ck_Re_readLine_15 ?_
    show K 17 [some (.inr (.inr 279)), some (.inl v1)] [.inl v1, .inr (.inr 279)] h
    obtain ⟨v2, hv2, hm⟩ := ia_bnd hm
    have ev2 := t_Re_openLine (d + 4) hg hv2
    have gv2 := g_Re_openLine hg hv2
    refine ia_cV hK mk_Re_openLine lk_7_125 dc_Re_readLine_17 279 [.inl v1] [] rfl rfl (Nat.le_of_ble_eq_true rfl) (by decide) rfl (gk_7 hg pk_279) ev2 (gd_nm hg gv2) ?_
    show K 20 [some (.inr (.inr 279)), some (.inl v1)] [] v2
    refine ia_go hK ck_Re_readLine_20 ?_
    show K 21 [some (.inr (.inr 279)), some (.inl v1)] [.inr (.inr 279)] v2
    obtain ⟨v3, hv3, hm⟩ := ia_bnd hm
    have ev3 := t_Re_advance (d + 3) gv2 hv3
    have gv3 := g_Re_advance gv2 hv3
    refine ia_cV hK mk_Re_advance lk_7_56 dc_Re_readLine_21 279 [] [] rfl rfl (Nat.le_of_ble_eq_true rfl) (by decide) rfl (gk_7 gv2 pk_279) ev3 (gd_nm gv2 gv3) ?_
    show K 24 [some (.inr (.inr 279)), some (.inl v1)] [] v3
    refine ia_go hK ck_Re_readLine_24 ?_
    show K 26 [some (.inr (.inr 279)), some (.inl v1)] [.inl v1, .inr (.inr 279)] v3
    obtain ⟨v4, hv4, hm⟩ := ia_bnd hm
    have ev4 := t_Re_readNumbers (d + 1) gv3 hv4
    have gv4 := g_Re_readNumbers gv3 hv4
    refine ia_cV hK mk_Re_readNumbers lk_7_129 dc_Re_readLine_26 279 [.inl v1] [] rfl rfl (Nat.le_of_ble_eq_true rfl) (by decide) rfl (gk_7 gv3 pk_279) ev4 (gd_nm gv3 gv4) ?_
    show K 29 [some (.inr (.inr 279)), some (.inl v1)] [.inl v4.1] v4.2
    refine ia_go hK ck_Re_readLine_29 ⟨fun c => ?_, fun c => ?_⟩
    · replace hm := ia_ifn hm c
      show K 34 [some (.inr (.inr 279)), some (.inl v1)] [] v4.2
      refine ia_go hK ck_Re_readLine_34 ⟨gk_7 gv4 pk_279, fun c => ?_, fun c => ?_⟩
      · replace hm := ia_ifp hm c
        show K 47 [some (.inr (.inr 279)), some (.inl v1)] [] v4.2
        refine ia_go hK ck_Re_readLine_47 ⟨gk_7 gv4 pk_279, fun c => ?_, fun c => ?_⟩
        · replace hm := ia_ifn hm c
          show K 59 [some (.inr (.inr 279)), some (.inl v1)] [] v4.2
          refine ia_fg hK (lv' := [some (.inr (.inr 279)), none]) ⟨rfl, trivial⟩ ?_
          exact tj_Re_readLine_59 hK hret v4.2 gv4 hm
        · replace hm := ia_ifp hm c
          show K 54 [some (.inr (.inr 279)), some (.inl v1)] [] v4.2
          refine ia_go hK ck_Re_readLine_54 ?_
          show K 56 [some (.inr (.inr 279)), some (.inl v1)] [.inl v1, .inr (.inr 279)] v4.2
          obtain ⟨v6, hv6, hm⟩ := ia_bnd hm
          have ev6 := t_Re_tellLine (d + 2) gv4 hv6
          have gv6 := g_Re_tellLine gv4 hv6
          refine ia_cV hK mk_Re_tellLine lk_7_132 dc_Re_readLine_56 279 [.inl v1] [] rfl rfl (Nat.le_of_ble_eq_true rfl) (by decide) rfl (gk_7 gv4 pk_279) ev6 (gd_nm gv4 gv6) ?_
          show K 59 [some (.inr (.inr 279)), some (.inl v1)] [] v6
          refine ia_fg hK (lv' := [some (.inr (.inr 279)), none]) ⟨rfl, trivial⟩ ?_
          exact tj_Re_readLine_59 hK hret v6 gv6 hm
      · replace hm := ia_ifn hm c
        show K 42 [some (.inr (.inr 279)), some (.inl v1)] [] v4.2
        refine ia_go hK ck_Re_readLine_42 ?_
        show K 43 [some (.inr (.inr 279)), some (.inl v1)] [.inr (.inr 279)] v4.2
        obtain ⟨v7, hv7, hm⟩ := ia_bnd hm
        have ev7 := t_Re_refuse (d + 5) gv4 hv7
        have gv7 := g_Re_refuse gv4 hv7
        refine ia_cV hK mk_Re_refuse lk_7_122 dc_Re_readLine_43 279 [] [] rfl rfl (Nat.le_of_ble_eq_true rfl) (by decide) rfl (gk_7 gv4 pk_279) ev7 (gd_nm gv4 gv7) ?_
        show K 46 [some (.inr (.inr 279)), some (.inl v1)] [.inl v7.1] v7.2
        obtain ⟨c8, hm⟩ := ia_gd_some hm
        obtain ⟨rfl, rfl⟩ := Prod.mk.inj (Option.some.inj hm)
        exact hret 46 _ ⟨ia_z1_spec c8, dc_Re_readLine_46⟩
    · replace hm := ia_ifp hm c
      show K 32 [some (.inr (.inr 279)), some (.inl v1)] [] v4.2
      refine ia_go hK ck_Re_readLine_32 ?_
      show K 33 [some (.inr (.inr 279)), some (.inl v1)] [.inl 0] v4.2
      obtain ⟨rfl, rfl⟩ := Prod.mk.inj (Option.some.inj hm)
      exact hret 33 _ ⟨Or.inl rfl, dc_Re_readLine_33⟩
  · replace hm := ia_ifp hm c
    show K 10 [some (.inr (.inr 279)), some (.inl v1)] [] h
    refine ia_go hK ck_Re_readLine_10 ?_
    show K 11 [some (.inr (.inr 279)), some (.inl v1)] [.inr (.inr 279)] h
    obtain ⟨v9, hv9, hm⟩ := ia_bnd hm
    have ev9 := t_Re_refuse (d + 5) hg hv9
    have gv9 := g_Re_refuse hg hv9
    refine ia_cV hK mk_Re_refuse lk_7_122 dc_Re_readLine_11 279 [] [] rfl rfl (Nat.le_of_ble_eq_true rfl) (by decide) rfl (gk_7 hg pk_279) ev9 (gd_nm hg gv9) ?_
    show K 14 [some (.inr (.inr 279)), some (.inl v1)] [.inl v9.1] v9.2
    obtain ⟨c10, hm⟩ := ia_gd_some hm
    obtain ⟨rfl, rfl⟩ := Prod.mk.inj (Option.some.inj hm)
    exact hret 14 _ ⟨ia_z1_spec c10, dc_Re_readLine_14⟩
def mm_La_cells : ia_M := (⟨"IceStreet$Lake", "cells", "()I"⟩, prog_4_method_4_code, 1, (some .int), 3, false)
theorem ok_La_cells : ia_mok mm_La_cells := ⟨by decide +kernel, by decide +kernel, by decide +kernel, by decide +kernel⟩
theorem mk_La_cells : ia_mkn mm_La_cells 1 0 := ⟨ia_tb_in (List.mem_of_getElem? (i := 960) (by decide +kernel)) rfl, ia_tb_in (List.mem_of_getElem? (i := 135) (by decide +kernel)) rfl, by decide +kernel, by decide +kernel, ⟨ia_tb_in (List.mem_of_getElem? (i := 958) (by decide +kernel)) rfl, ia_tb_in (List.mem_of_getElem? (i := 959) (by decide +kernel)) rfl⟩⟩
theorem ck_La_cells_0 : ia_cks 3 1 false prog_4_method_4_code 0 [(.aload_n 0, 0, 0, 0, 0), (.getfield 49, 3, 0, 0, 0), (.aload_n 0, 0, 0, 0, 0), (.getfield 53, 3, 1, 0, 0), (.imul, 0, 0, 0, 0)] = true := by decide +kernel
theorem dc_La_cells_9 : decode prog_4_method_4_code 9 = .ok (.ireturn, 1) := by decide +kernel
def f_La_cells (a0 : Nat) (h : ia_H) : Option Int32 := some ((ia_i h a0 0) * (ia_i h a0 1))
theorem t_La_cells {w : ia_O0} (d : Nat) {a0 : Nat} {h : ia_H} (hg : gd_ w h) (p0 : (kd_D a0).1 = 3) {r : Int32} (hm : f_La_cells a0 h = some r) : ia_Ev (d + 0) mm_La_cells [.inr (.inr a0)] h (some (.inl r)) h := by
  refine ia_Ev_intro ok_La_cells (Nat.le_refl _) (Nat.le_refl _) (Nat.le_of_ble_eq_true rfl) (fun K hK hret => ?_)
  show K 0 [some (.inr (.inr a0))] [] h
  unfold f_La_cells at hm
  refine ia_go hK ck_La_cells_0 ⟨gk_3 hg p0, gk_3 hg p0, ?_⟩
  show K 9 [some (.inr (.inr a0))] [.inl ((ia_i h a0 0) * (ia_i h a0 1))] h
  obtain rfl := Option.some.inj hm
  exact hret 9 _ dc_La_cells_9
def mm_La_steps : ia_M := (⟨"IceStreet$Lake", "steps", "(II)I"⟩, prog_4_method_9_code, 4, (some .int), 3, false)
theorem ok_La_steps : ia_mok mm_La_steps := ⟨by decide +kernel, by decide +kernel, by decide +kernel, by decide +kernel⟩
theorem mk_La_steps : ia_mkn mm_La_steps 1 2 := ⟨ia_tb_in (List.mem_of_getElem? (i := 964) (by decide +kernel)) rfl, ia_tb_in (List.mem_of_getElem? (i := 135) (by decide +kernel)) rfl, by decide +kernel, by decide +kernel, ⟨ia_tb_in (List.mem_of_getElem? (i := 962) (by decide +kernel)) rfl, ia_tb_in (List.mem_of_getElem? (i := 963) (by decide +kernel)) rfl⟩⟩
theorem ck_La_steps_0 : ia_cks 3 4 false prog_4_method_9_code 0 [(.aload_n 0, 0, 0, 0, 0), (.getfield 49, 3, 0, 0, 0), (.iconst 1, 0, 0, 0, 0), (.if_icmp .ge 7, 0, 0, 0, 0)] = true := by decide +kernel
theorem ck_La_steps_12 : ia_cks 3 4 false prog_4_method_9_code 12 [(.aload_n 0, 0, 0, 0, 0), (.getfield 49, 3, 0, 0, 0)] = true := by decide +kernel
theorem ck_La_steps_16 : ia_cks 3 4 false prog_4_method_9_code 16 [(.istore_n 3, 0, 0, 0, 0), (.iload_n 1, 0, 0, 0, 0), (.iload_n 3, 0, 0, 0, 0), (.irem, 0, 0, 0, 0), (.iload_n 2, 0, 0, 0, 0), (.iload_n 3, 0, 0, 0, 0), (.irem, 0, 0, 0, 0), (.isub, 0, 0, 0, 0)] = true := by decide +kernel
theorem ck_La_steps_27 : ia_cks 3 4 false prog_4_method_9_code 27 [(.iload_n 1, 0, 0, 0, 0), (.iload_n 3, 0, 0, 0, 0), (.idiv, 0, 0, 0, 0), (.iload_n 2, 0, 0, 0, 0), (.iload_n 3, 0, 0, 0, 0), (.idiv, 0, 0, 0, 0), (.isub, 0, 0, 0, 0)] = true := by decide +kernel
theorem ck_La_steps_37 : ia_cks 3 4 false prog_4_method_9_code 37 [(.iadd, 0, 0, 0, 0)] = true := by decide +kernel
theorem ck_La_steps_8 : ia_cks 3 4 false prog_4_method_9_code 8 [(.iconst 1, 0, 0, 0, 0), (.goto 7, 0, 0, 0, 0)] = true := by decide +kernel
theorem dc_La_steps_24 : decode prog_4_method_9_code 24 = .ok (.invokestatic 94, 3) := by decide +kernel
theorem dc_La_steps_34 : decode prog_4_method_9_code 34 = .ok (.invokestatic 94, 3) := by decide +kernel
theorem dc_La_steps_38 : decode prog_4_method_9_code 38 = .ok (.ireturn, 1) := by decide +kernel
def j_La_steps_16 (a0 : Nat) (x1 : Int32) (x2 : Int32) (h : ia_H) (s0 : Int32) : Option Int32 := ia_gd (ia_nz s0) (ia_gd (ia_nz s0) (ia_gd (ia_nz s0) (ia_gd (ia_nz s0) (some ((ia_abs ((x1 - x1 / s0 * s0) - (x2 - x2 / s0 * s0))) + (ia_abs ((x1 / s0) - (x2 / s0))))))))
theorem tj_La_steps_16 {w : ia_O0} {d N1 W1 : Nat} {K : ia_K} (hK : ia_isK (d + 0) mm_La_steps N1 W1 K) {a0 : Nat} {x1 : Int32} {x2 : Int32} {h : ia_H} (hg : gd_ w h) (p0 : (kd_D a0).1 = 3) {r : Int32} (hret : ∀ (pc : Nat) (lv : ia_L), ia_ret mm_La_steps pc (some (.inl r)) → K pc lv ((some (.inl r)) : Option ia_V).toList h) : ∀ (s0 : Int32), j_La_steps_16 a0 x1 x2 h s0 = some r → K 16 [none, some (.inl x1), some (.inl x2), none] [.inl s0] h := by
  intro s0 hm
  unfold j_La_steps_16 at hm
  obtain ⟨c1, hm⟩ := ia_gd_some hm
  obtain ⟨c2, hm⟩ := ia_gd_some hm
  refine ia_go hK ck_La_steps_16 ⟨ia_nz_spec c1, ia_nz_spec c2, ?_⟩
  show K 24 [none, some (.inl x1), some (.inl x2), some (.inl s0)] [.inl ((x1 - x1 / s0 * s0) - (x2 - x2 / s0 * s0))] h
  refine ia_mabs hK (ia_tb_in (List.mem_of_getElem? (i := 965) (by decide +kernel)) rfl) dc_La_steps_24 (Nat.le_of_ble_eq_true rfl) ?_
  show K 27 [none, some (.inl x1), some (.inl x2), some (.inl s0)] [.inl (ia_abs ((x1 - x1 / s0 * s0) - (x2 - x2 / s0 * s0)))] h
  obtain ⟨c3, hm⟩ := ia_gd_some hm
  obtain ⟨c4, hm⟩ := ia_gd_some hm
  refine ia_go hK ck_La_steps_27 ⟨ia_nz_spec c3, ia_nz_spec c4, ?_⟩
  show K 34 [none, some (.inl x1), some (.inl x2), some (.inl s0)] [.inl ((x1 / s0) - (x2 / s0)), .inl (ia_abs ((x1 - x1 / s0 * s0) - (x2 - x2 / s0 * s0)))] h
  refine ia_mabs hK (ia_tb_in (List.mem_of_getElem? (i := 965) (by decide +kernel)) rfl) dc_La_steps_34 (Nat.le_of_ble_eq_true rfl) ?_
  show K 37 [none, some (.inl x1), some (.inl x2), some (.inl s0)] [.inl (ia_abs ((x1 / s0) - (x2 / s0))), .inl (ia_abs ((x1 - x1 / s0 * s0) - (x2 - x2 / s0 * s0)))] h
  refine ia_go hK ck_La_steps_37 ?_
  show K 38 [none, some (.inl x1), some (.inl x2), some (.inl s0)] [.inl ((ia_abs ((x1 - x1 / s0 * s0) - (x2 - x2 / s0 * s0))) + (ia_abs ((x1 / s0) - (x2 / s0))))] h
  obtain rfl := Option.some.inj hm
  exact hret 38 _ dc_La_steps_38
def f_La_steps (a0 : Nat) (x1 : Int32) (x2 : Int32) (h : ia_H) : Option Int32 := if 1 ≤ (ia_i h a0 0) then (j_La_steps_16 a0 x1 x2 h (ia_i h a0 0)) else (j_La_steps_16 a0 x1 x2 h 1)
theorem t_La_steps {w : ia_O0} (d : Nat) {a0 : Nat} {x1 : Int32} {x2 : Int32} {h : ia_H} (hg : gd_ w h) (p0 : (kd_D a0).1 = 3) {r : Int32} (hm : f_La_steps a0 x1 x2 h = some r) : ia_Ev (d + 0) mm_La_steps [.inr (.inr a0), .inl x1, .inl x2] h (some (.inl r)) h := by
  refine ia_Ev_intro ok_La_steps (Nat.le_refl _) (Nat.le_refl _) (Nat.le_of_ble_eq_true rfl) (fun K hK hret => ?_)
  show K 0 [some (.inr (.inr a0)), some (.inl x1), some (.inl x2), none] [] h
  unfold f_La_steps at hm
  refine ia_go hK ck_La_steps_0 ⟨gk_3 hg p0, fun c => ?_, fun c => ?_⟩
  · replace hm := ia_ifp hm c
    show K 12 [some (.inr (.inr a0)), some (.inl x1), some (.inl x2), none] [] h
    refine ia_go hK ck_La_steps_12 ⟨gk_3 hg p0, ?_⟩
    show K 16 [some (.inr (.inr a0)), some (.inl x1), some (.inl x2), none] [.inl (ia_i h a0 0)] h
    refine ia_fg hK (lv' := [none, some (.inl x1), some (.inl x2), none]) ⟨rfl, rfl, trivial⟩ ?_
    exact tj_La_steps_16 hK hg p0 hret (ia_i h a0 0) hm
  · replace hm := ia_ifn hm c
    show K 8 [some (.inr (.inr a0)), some (.inl x1), some (.inl x2), none] [] h
    refine ia_go hK ck_La_steps_8 ?_
    show K 16 [some (.inr (.inr a0)), some (.inl x1), some (.inl x2), none] [.inl 1] h
    refine ia_fg hK (lv' := [none, some (.inl x1), some (.inl x2), none]) ⟨rfl, rfl, trivial⟩ ?_
    exact tj_La_steps_16 hK hg p0 hret 1 hm
def mm_La_isAmiss : ia_M := (⟨"IceStreet$Lake", "isAmiss", "()Z"⟩, prog_4_method_11_code, 3, (some .boolean), 3, false)
theorem ok_La_isAmiss : ia_mok mm_La_isAmiss := ⟨by decide +kernel, by decide +kernel, by decide +kernel, by decide +kernel⟩
theorem mk_La_isAmiss : ia_mkn mm_La_isAmiss 1 0 := ⟨ia_tb_in (List.mem_of_getElem? (i := 956) (by decide +kernel)) rfl, ia_tb_in (List.mem_of_getElem? (i := 135) (by decide +kernel)) rfl, by decide +kernel, by decide +kernel, ⟨ia_tb_in (List.mem_of_getElem? (i := 954) (by decide +kernel)) rfl, ia_tb_in (List.mem_of_getElem? (i := 955) (by decide +kernel)) rfl⟩⟩
theorem ck_La_isAmiss_0 : ia_cks 3 3 false prog_4_method_11_code 0 [(.aload_n 0, 0, 0, 0, 0), (.getfield 72, 3, 8, 1, 0), (.aload_n 0, 0, 0, 0, 0)] = true := by decide +kernel
theorem ck_La_isAmiss_8 : ia_cks 3 3 false prog_4_method_11_code 8 [(.lushr, 0, 0, 0, 0), (.lconst 0, 0, 0, 0, 0), (.lcmp, 0, 0, 0, 0), (.ifCond .eq 5, 0, 0, 0, 0)] = true := by decide +kernel
theorem ck_La_isAmiss_16 : ia_cks 3 3 false prog_4_method_11_code 16 [(.iconst 0, 0, 0, 0, 0), (.istore_n 1, 0, 0, 0, 0)] = true := by decide +kernel
theorem ck_La_isAmiss_18 : ia_cks 3 3 false prog_4_method_11_code 18 [(.iload_n 1, 0, 0, 0, 0), (.bipush 36, 0, 0, 0, 0), (.if_icmp .ge 47, 0, 0, 0, 0)] = true := by decide +kernel
theorem ck_La_isAmiss_24 : ia_cks 3 3 false prog_4_method_11_code 24 [(.iconst 0, 0, 0, 0, 0), (.istore_n 2, 0, 0, 0, 0)] = true := by decide +kernel
theorem ck_La_isAmiss_26 : ia_cks 3 3 false prog_4_method_11_code 26 [(.iload_n 2, 0, 0, 0, 0), (.iload_n 1, 0, 0, 0, 0), (.if_icmp .ge 34, 0, 0, 0, 0)] = true := by decide +kernel
theorem ck_La_isAmiss_31 : ia_cks 3 3 false prog_4_method_11_code 31 [(.aload_n 0, 0, 0, 0, 0), (.getfield 21, 3, 6, 3, 4), (.iload_n 1, 0, 0, 0, 0), (.laload, 0, 0, 0, 0), (.iload_n 2, 0, 0, 0, 0)] = true := by decide +kernel
theorem ck_La_isAmiss_41 : ia_cks 3 3 false prog_4_method_11_code 41 [(.ifCond .eq 15, 0, 0, 0, 0)] = true := by decide +kernel
theorem ck_La_isAmiss_56 : ia_cks 3 3 false prog_4_method_11_code 56 [(.iinc 2 1, 0, 0, 0, 0), (.goto (-33), 0, 0, 0, 0)] = true := by decide +kernel
theorem ck_La_isAmiss_44 : ia_cks 3 3 false prog_4_method_11_code 44 [(.aload_n 0, 0, 0, 0, 0), (.iload_n 1, 0, 0, 0, 0), (.iload_n 2, 0, 0, 0, 0)] = true := by decide +kernel
theorem ck_La_isAmiss_50 : ia_cks 3 3 false prog_4_method_11_code 50 [(.iconst 1, 0, 0, 0, 0), (.if_icmp .eq 5, 0, 0, 0, 0)] = true := by decide +kernel
theorem ck_La_isAmiss_62 : ia_cks 3 3 false prog_4_method_11_code 62 [(.iinc 1 1, 0, 0, 0, 0), (.goto (-47), 0, 0, 0, 0)] = true := by decide +kernel
theorem ck_La_isAmiss_54 : ia_cks 3 3 false prog_4_method_11_code 54 [(.iconst 1, 0, 0, 0, 0)] = true := by decide +kernel
theorem ck_La_isAmiss_68 : ia_cks 3 3 false prog_4_method_11_code 68 [(.iconst 0, 0, 0, 0, 0), (.istore_n 1, 0, 0, 0, 0)] = true := by decide +kernel
theorem ck_La_isAmiss_70 : ia_cks 3 3 false prog_4_method_11_code 70 [(.iload_n 1, 0, 0, 0, 0), (.aload_n 0, 0, 0, 0, 0), (.getfield 78, 3, 11, 0, 0), (.if_icmp .ge 39, 0, 0, 0, 0)] = true := by decide +kernel
theorem ck_La_isAmiss_78 : ia_cks 3 3 false prog_4_method_11_code 78 [(.iconst 0, 0, 0, 0, 0), (.istore_n 2, 0, 0, 0, 0)] = true := by decide +kernel
theorem ck_La_isAmiss_80 : ia_cks 3 3 false prog_4_method_11_code 80 [(.iload_n 2, 0, 0, 0, 0), (.iload_n 1, 0, 0, 0, 0), (.if_icmp .ge 26, 0, 0, 0, 0)] = true := by decide +kernel
theorem ck_La_isAmiss_85 : ia_cks 3 3 false prog_4_method_11_code 85 [(.aload_n 0, 0, 0, 0, 0), (.getfield 28, 3, 12, 3, 6), (.iload_n 1, 0, 0, 0, 0), (.iaload, 0, 0, 0, 0), (.aload_n 0, 0, 0, 0, 0), (.getfield 28, 3, 12, 3, 6), (.iload_n 2, 0, 0, 0, 0), (.iaload, 0, 0, 0, 0), (.if_icmp .ne 5, 0, 0, 0, 0)] = true := by decide +kernel
theorem ck_La_isAmiss_102 : ia_cks 3 3 false prog_4_method_11_code 102 [(.iinc 2 1, 0, 0, 0, 0), (.goto (-25), 0, 0, 0, 0)] = true := by decide +kernel
theorem ck_La_isAmiss_108 : ia_cks 3 3 false prog_4_method_11_code 108 [(.iinc 1 1, 0, 0, 0, 0), (.goto (-41), 0, 0, 0, 0)] = true := by decide +kernel
theorem ck_La_isAmiss_100 : ia_cks 3 3 false prog_4_method_11_code 100 [(.iconst 1, 0, 0, 0, 0)] = true := by decide +kernel
theorem ck_La_isAmiss_114 : ia_cks 3 3 false prog_4_method_11_code 114 [(.iconst 0, 0, 0, 0, 0)] = true := by decide +kernel
theorem ck_La_isAmiss_14 : ia_cks 3 3 false prog_4_method_11_code 14 [(.iconst 1, 0, 0, 0, 0)] = true := by decide +kernel
theorem dc_La_isAmiss_5 : decode prog_4_method_11_code 5 = .ok (.invokevirtual 100, 3) := by decide +kernel
theorem dc_La_isAmiss_38 : decode prog_4_method_11_code 38 = .ok (.invokestatic 104, 3) := by decide +kernel
theorem dc_La_isAmiss_47 : decode prog_4_method_11_code 47 = .ok (.invokevirtual 108, 3) := by decide +kernel
theorem dc_La_isAmiss_55 : decode prog_4_method_11_code 55 = .ok (.ireturn, 1) := by decide +kernel
theorem dc_La_isAmiss_101 : decode prog_4_method_11_code 101 = .ok (.ireturn, 1) := by decide +kernel
theorem dc_La_isAmiss_115 : decode prog_4_method_11_code 115 = .ok (.ireturn, 1) := by decide +kernel
theorem dc_La_isAmiss_15 : decode prog_4_method_11_code 15 = .ok (.ireturn, 1) := by decide +kernel
def l_La_isAmiss_26 (a0 : Nat) (h : ia_H) (k54 : Option Int32) (k62 : Int32 → Option Int32) (n : Nat) (x1 : Int32) (x2 : Int32) : Option Int32 := match n with
  | 0 => none
  | n + 1 => if x1 ≤ x2 then (k62 x1) else (ia_gd (ia_ib x1 36) ((f_I_hasBit (ia_l h (a0 + 4) ((x1).toNatClampNeg)) x2 h).bind fun v3 => (if v3 = 0 then (l_La_isAmiss_26 a0 h k54 k62 n x1 (x2 + 1)) else ((f_La_steps a0 x1 x2 h).bind fun v4 => (if v4 = 1 then (l_La_isAmiss_26 a0 h k54 k62 n x1 (x2 + 1)) else k54)))))
theorem tl_La_isAmiss_26 {w : ia_O0} {d N1 W1 : Nat} {K : ia_K} (hK : ia_isK (d + 1) mm_La_isAmiss N1 W1 K) {a0 : Nat} {h : ia_H} (hg : gd_ w h) (p0 : (kd_D a0).1 = 3) {r : Int32} (hret : ∀ (pc : Nat) (lv : ia_L), ia_ret mm_La_isAmiss pc (some (.inl r)) → K pc lv ((some (.inl r)) : Option ia_V).toList h) {k54 : Option Int32} {k62 : Int32 → Option Int32} (hk54 : k54 = some r → K 54 [none, none, none] [] h) (hk62 : ∀ (x1 : Int32), k62 x1 = some r → K 62 [some (.inr (.inr a0)), some (.inl x1), none] [] h) : ∀ (n : Nat) (x1 : Int32) (x2 : Int32), l_La_isAmiss_26 a0 h k54 k62 n x1 x2 = some r → K 26 [some (.inr (.inr a0)), some (.inl x1), some (.inl x2)] [] h := by
  intro n
  induction n with
  | zero =>
    intro x1 x2 hm
    cases (show (none : Option Int32) = some _ from hm)
  | succ n ih =>
    intro x1 x2 hm
    rw [l_La_isAmiss_26] at hm
    refine ia_go hK ck_La_isAmiss_26 ⟨fun c => ?_, fun c => ?_⟩
    · replace hm := ia_ifp hm c
      show K 62 [some (.inr (.inr a0)), some (.inl x1), some (.inl x2)] [] h
      refine ia_fg hK (lv' := [some (.inr (.inr a0)), some (.inl x1), none]) ⟨rfl, rfl, trivial⟩ ?_
      exact hk62 x1 hm
    · replace hm := ia_ifn hm c
      show K 31 [some (.inr (.inr a0)), some (.inl x1), some (.inl x2)] [] h
      obtain ⟨c2, hm⟩ := ia_gd_some hm
      refine ia_go hK ck_La_isAmiss_31 ⟨gk_3 hg p0, gr_3_6 hg p0, ga_s103 hg (ka_3_6 p0) c2, ?_⟩
      show K 38 [some (.inr (.inr a0)), some (.inl x1), some (.inl x2)] [.inl x2, .inr (.inl (ia_l h (a0 + 4) ((x1).toNatClampNeg)))] h
      obtain ⟨v3, hv3, hm⟩ := ia_bnd hm
      have ev3 := t_I_hasBit (d + 0) hg hv3
      refine ia_cS hK mk_I_hasBit lk_3_104 dc_La_isAmiss_38 [.inr (.inl (ia_l h (a0 + 4) ((x1).toNatClampNeg))), .inl x2] [] rfl rfl (Nat.le_of_ble_eq_true rfl) ev3 ⟨rfl, rfl⟩ ?_
      show K 41 [some (.inr (.inr a0)), some (.inl x1), some (.inl x2)] [.inl v3] h
      refine ia_go hK ck_La_isAmiss_41 ⟨fun c => ?_, fun c => ?_⟩
      · replace hm := ia_ifp hm c
        show K 56 [some (.inr (.inr a0)), some (.inl x1), some (.inl x2)] [] h
        refine ia_go hK ck_La_isAmiss_56 ?_
        show K 26 [some (.inr (.inr a0)), some (.inl x1), some (.inl (x2 + 1))] [] h
        exact ih x1 (x2 + 1) hm
      · replace hm := ia_ifn hm c
        show K 44 [some (.inr (.inr a0)), some (.inl x1), some (.inl x2)] [] h
        refine ia_go hK ck_La_isAmiss_44 ?_
        show K 47 [some (.inr (.inr a0)), some (.inl x1), some (.inl x2)] [.inl x2, .inl x1, .inr (.inr a0)] h
        obtain ⟨v4, hv4, hm⟩ := ia_bnd hm
        have ev4 := t_La_steps (d + 0) hg p0 hv4
        refine ia_cV hK mk_La_steps lk_3_108 dc_La_isAmiss_47 a0 [.inl x1, .inl x2] [] rfl rfl (Nat.le_of_ble_eq_true rfl) (by decide) rfl (gk_3 hg p0) ev4 ⟨rfl, rfl⟩ ?_
        show K 50 [some (.inr (.inr a0)), some (.inl x1), some (.inl x2)] [.inl v4] h
        refine ia_go hK ck_La_isAmiss_50 ⟨fun c => ?_, fun c => ?_⟩
        · replace hm := ia_ifp hm c
          show K 56 [some (.inr (.inr a0)), some (.inl x1), some (.inl x2)] [] h
          refine ia_go hK ck_La_isAmiss_56 ?_
          show K 26 [some (.inr (.inr a0)), some (.inl x1), some (.inl (x2 + 1))] [] h
          exact ih x1 (x2 + 1) hm
        · replace hm := ia_ifn hm c
          show K 54 [some (.inr (.inr a0)), some (.inl x1), some (.inl x2)] [] h
          refine ia_fg hK (lv' := [none, none, none]) trivial ?_
          exact hk54 hm
def l_La_isAmiss_18 (a0 : Nat) (h : ia_H) (k54 : Option Int32) (k68 : Option Int32) (n : Nat) (x1 : Int32) : Option Int32 := match n with
  | 0 => none
  | n + 1 => if 36 ≤ x1 then k68 else (l_La_isAmiss_26 a0 h k54 (fun x1 => l_La_isAmiss_18 a0 h k54 k68 n (x1 + 1)) fu_ x1 0)
theorem tl_La_isAmiss_18 {w : ia_O0} {d N1 W1 : Nat} {K : ia_K} (hK : ia_isK (d + 1) mm_La_isAmiss N1 W1 K) {a0 : Nat} {h : ia_H} (hg : gd_ w h) (p0 : (kd_D a0).1 = 3) {r : Int32} (hret : ∀ (pc : Nat) (lv : ia_L), ia_ret mm_La_isAmiss pc (some (.inl r)) → K pc lv ((some (.inl r)) : Option ia_V).toList h) {k54 : Option Int32} {k68 : Option Int32} (hk54 : k54 = some r → K 54 [none, none, none] [] h) (hk68 : k68 = some r → K 68 [some (.inr (.inr a0)), none, none] [] h) : ∀ (n : Nat) (x1 : Int32), l_La_isAmiss_18 a0 h k54 k68 n x1 = some r → K 18 [some (.inr (.inr a0)), some (.inl x1), none] [] h := by
  intro n
  induction n with
  | zero =>
    intro x1 hm
    cases (show (none : Option Int32) = some _ from hm)
  | succ n ih =>
    intro x1 hm
    rw [l_La_isAmiss_18] at hm
    refine ia_go hK ck_La_isAmiss_18 ⟨fun c => ?_, fun c => ?_⟩
    · replace hm := ia_ifp hm c
      show K 68 [some (.inr (.inr a0)), some (.inl x1), none] [] h
      refine ia_fg hK (lv' := [some (.inr (.inr a0)), none, none]) ⟨rfl, trivial⟩ ?_
      exact hk68 hm
    · replace hm := ia_ifn hm c
      show K 24 [some (.inr (.inr a0)), some (.inl x1), none] [] h
      refine ia_go hK ck_La_isAmiss_24 ?_
      show K 26 [some (.inr (.inr a0)), some (.inl x1), some (.inl 0)] [] h
      refine tl_La_isAmiss_26 hK hg p0 hret ?_ ?_ fu_ x1 0 hm
      · exact hk54
      · intro x1 hm
        refine ia_go hK ck_La_isAmiss_62 ?_
        show K 18 [some (.inr (.inr a0)), some (.inl (x1 + 1)), none] [] h
        exact ih (x1 + 1) hm
def l_La_isAmiss_80 (a0 : Nat) (h : ia_H) (k100 : Option Int32) (k108 : Int32 → Option Int32) (n : Nat) (x1 : Int32) (x2 : Int32) : Option Int32 := match n with
  | 0 => none
  | n + 1 => if x1 ≤ x2 then (k108 x1) else (ia_gd (ia_ib x1 6) (ia_gd (ia_ib x2 6) (if (ia_i h (a0 + 6) ((x1).toNatClampNeg)) = (ia_i h (a0 + 6) ((x2).toNatClampNeg)) then k100 else (l_La_isAmiss_80 a0 h k100 k108 n x1 (x2 + 1)))))
theorem tl_La_isAmiss_80 {w : ia_O0} {d N1 W1 : Nat} {K : ia_K} (hK : ia_isK (d + 1) mm_La_isAmiss N1 W1 K) {a0 : Nat} {h : ia_H} (hg : gd_ w h) (p0 : (kd_D a0).1 = 3) {r : Int32} (hret : ∀ (pc : Nat) (lv : ia_L), ia_ret mm_La_isAmiss pc (some (.inl r)) → K pc lv ((some (.inl r)) : Option ia_V).toList h) {k100 : Option Int32} {k108 : Int32 → Option Int32} (hk100 : k100 = some r → K 100 [none, none, none] [] h) (hk108 : ∀ (x1 : Int32), k108 x1 = some r → K 108 [some (.inr (.inr a0)), some (.inl x1), none] [] h) : ∀ (n : Nat) (x1 : Int32) (x2 : Int32), l_La_isAmiss_80 a0 h k100 k108 n x1 x2 = some r → K 80 [some (.inr (.inr a0)), some (.inl x1), some (.inl x2)] [] h := by
  intro n
  induction n with
  | zero =>
    intro x1 x2 hm
    cases (show (none : Option Int32) = some _ from hm)
  | succ n ih =>
    intro x1 x2 hm
    rw [l_La_isAmiss_80] at hm
    refine ia_go hK ck_La_isAmiss_80 ⟨fun c => ?_, fun c => ?_⟩
    · replace hm := ia_ifp hm c
      show K 108 [some (.inr (.inr a0)), some (.inl x1), some (.inl x2)] [] h
      refine ia_fg hK (lv' := [some (.inr (.inr a0)), some (.inl x1), none]) ⟨rfl, rfl, trivial⟩ ?_
      exact hk108 x1 hm
    · replace hm := ia_ifn hm c
      show K 85 [some (.inr (.inr a0)), some (.inl x1), some (.inl x2)] [] h
      obtain ⟨c5, hm⟩ := ia_gd_some hm
      obtain ⟨c6, hm⟩ := ia_gd_some hm
      refine ia_go hK ck_La_isAmiss_85 ⟨gk_3 hg p0, gr_3_12 hg p0, ga_i100 hg (ka_3_12 p0) c5, gk_3 hg p0, gr_3_12 hg p0, ga_i100 hg (ka_3_12 p0) c6, fun c => ?_, fun c => ?_⟩
      · replace hm := ia_ifn hm c
        show K 102 [some (.inr (.inr a0)), some (.inl x1), some (.inl x2)] [] h
        refine ia_go hK ck_La_isAmiss_102 ?_
        show K 80 [some (.inr (.inr a0)), some (.inl x1), some (.inl (x2 + 1))] [] h
        exact ih x1 (x2 + 1) hm
      · replace hm := ia_ifp hm c
        show K 100 [some (.inr (.inr a0)), some (.inl x1), some (.inl x2)] [] h
        refine ia_fg hK (lv' := [none, none, none]) trivial ?_
        exact hk100 hm
def l_La_isAmiss_70 (a0 : Nat) (h : ia_H) (k100 : Option Int32) (k114 : Option Int32) (n : Nat) (x1 : Int32) : Option Int32 := match n with
  | 0 => none
  | n + 1 => if (ia_i h a0 11) ≤ x1 then k114 else (l_La_isAmiss_80 a0 h k100 (fun x1 => l_La_isAmiss_70 a0 h k100 k114 n (x1 + 1)) fu_ x1 0)
theorem tl_La_isAmiss_70 {w : ia_O0} {d N1 W1 : Nat} {K : ia_K} (hK : ia_isK (d + 1) mm_La_isAmiss N1 W1 K) {a0 : Nat} {h : ia_H} (hg : gd_ w h) (p0 : (kd_D a0).1 = 3) {r : Int32} (hret : ∀ (pc : Nat) (lv : ia_L), ia_ret mm_La_isAmiss pc (some (.inl r)) → K pc lv ((some (.inl r)) : Option ia_V).toList h) {k100 : Option Int32} {k114 : Option Int32} (hk100 : k100 = some r → K 100 [none, none, none] [] h) (hk114 : k114 = some r → K 114 [none, none, none] [] h) : ∀ (n : Nat) (x1 : Int32), l_La_isAmiss_70 a0 h k100 k114 n x1 = some r → K 70 [some (.inr (.inr a0)), some (.inl x1), none] [] h := by
  intro n
  induction n with
  | zero =>
    intro x1 hm
    cases (show (none : Option Int32) = some _ from hm)
  | succ n ih =>
    intro x1 hm
    rw [l_La_isAmiss_70] at hm
    refine ia_go hK ck_La_isAmiss_70 ⟨gk_3 hg p0, fun c => ?_, fun c => ?_⟩
    · replace hm := ia_ifp hm c
      show K 114 [some (.inr (.inr a0)), some (.inl x1), none] [] h
      refine ia_fg hK (lv' := [none, none, none]) trivial ?_
      exact hk114 hm
    · replace hm := ia_ifn hm c
      show K 78 [some (.inr (.inr a0)), some (.inl x1), none] [] h
      refine ia_go hK ck_La_isAmiss_78 ?_
      show K 80 [some (.inr (.inr a0)), some (.inl x1), some (.inl 0)] [] h
      refine tl_La_isAmiss_80 hK hg p0 hret ?_ ?_ fu_ x1 0 hm
      · exact hk100
      · intro x1 hm
        refine ia_go hK ck_La_isAmiss_108 ?_
        show K 70 [some (.inr (.inr a0)), some (.inl (x1 + 1)), none] [] h
        exact ih (x1 + 1) hm
def f_La_isAmiss (a0 : Nat) (h : ia_H) : Option Int32 := (f_La_cells a0 h).bind fun v1 => (if (lg_cmp (((ia_l h a0 8).toUInt64 >>> (v1.toInt64.toUInt64 &&& Int64.toUInt64 63)).toInt64) 0) = 0 then (l_La_isAmiss_18 a0 h (some 1) (l_La_isAmiss_70 a0 h (some 1) (some 0) fu_ 0) fu_ 0) else (some 1))
theorem t_La_isAmiss {w : ia_O0} (d : Nat) {a0 : Nat} {h : ia_H} (hg : gd_ w h) (p0 : (kd_D a0).1 = 3) {r : Int32} (hm : f_La_isAmiss a0 h = some r) : ia_Ev (d + 1) mm_La_isAmiss [.inr (.inr a0)] h (some (.inl r)) h := by
  refine ia_Ev_intro ok_La_isAmiss (Nat.le_refl _) (Nat.le_refl _) (Nat.le_of_ble_eq_true rfl) (fun K hK hret => ?_)
  show K 0 [some (.inr (.inr a0)), none, none] [] h
  unfold f_La_isAmiss at hm
  refine ia_go hK ck_La_isAmiss_0 ⟨gk_3 hg p0, ?_⟩
  show K 5 [some (.inr (.inr a0)), none, none] [.inr (.inr a0), .inr (.inl (ia_l h a0 8))] h
  obtain ⟨v1, hv1, hm⟩ := ia_bnd hm
  have ev1 := t_La_cells (d + 0) hg p0 hv1
  refine ia_cV hK mk_La_cells lk_3_100 dc_La_isAmiss_5 a0 [] [.inr (.inl (ia_l h a0 8))] rfl rfl (Nat.le_of_ble_eq_true rfl) (by decide) rfl (gk_3 hg p0) ev1 ⟨rfl, rfl⟩ ?_
  show K 8 [some (.inr (.inr a0)), none, none] [.inl v1, .inr (.inl (ia_l h a0 8))] h
  refine ia_go hK ck_La_isAmiss_8 ⟨fun c => ?_, fun c => ?_⟩
  · replace hm := ia_ifp hm c
    show K 16 [some (.inr (.inr a0)), none, none] [] h
    refine ia_go hK ck_La_isAmiss_16 ?_
    show K 18 [some (.inr (.inr a0)), some (.inl 0), none] [] h
    refine tl_La_isAmiss_18 hK hg p0 hret ?_ ?_ fu_ 0 hm
    · intro hm
      refine ia_go hK ck_La_isAmiss_54 ?_
      show K 55 [none, none, none] [.inl 1] h
      obtain rfl := Option.some.inj hm
      exact hret 55 _ ⟨Or.inr rfl, dc_La_isAmiss_55⟩
    · intro hm
      refine ia_go hK ck_La_isAmiss_68 ?_
      show K 70 [some (.inr (.inr a0)), some (.inl 0), none] [] h
      refine tl_La_isAmiss_70 hK hg p0 hret ?_ ?_ fu_ 0 hm
      · intro hm
        refine ia_go hK ck_La_isAmiss_100 ?_
        show K 101 [none, none, none] [.inl 1] h
        obtain rfl := Option.some.inj hm
        exact hret 101 _ ⟨Or.inr rfl, dc_La_isAmiss_101⟩
      · intro hm
        refine ia_go hK ck_La_isAmiss_114 ?_
        show K 115 [none, none, none] [.inl 0] h
        obtain rfl := Option.some.inj hm
        exact hret 115 _ ⟨Or.inl rfl, dc_La_isAmiss_115⟩
  · replace hm := ia_ifn hm c
    show K 14 [some (.inr (.inr a0)), none, none] [] h
    refine ia_go hK ck_La_isAmiss_14 ?_
    show K 15 [some (.inr (.inr a0)), none, none] [.inl 1] h
    obtain rfl := Option.some.inj hm
    exact hret 15 _ ⟨Or.inr rfl, dc_La_isAmiss_15⟩
def mm_Re_read : ia_M := (⟨"IceStreet$Reader", "read", "([BII)Z"⟩, prog_8_method_2_code, 5, (some .boolean), 7, false)
theorem ok_Re_read : ia_mok mm_Re_read := ⟨by decide +kernel, by decide +kernel, by decide +kernel, by decide +kernel⟩
theorem mk_Re_read : ia_mkn mm_Re_read 1 3 := ⟨ia_tb_in (List.mem_of_getElem? (i := 748) (by decide +kernel)) rfl, ia_tb_in (List.mem_of_getElem? (i := 139) (by decide +kernel)) rfl, by decide +kernel, by decide +kernel, ⟨ia_tb_in (List.mem_of_getElem? (i := 746) (by decide +kernel)) rfl, ia_tb_in (List.mem_of_getElem? (i := 747) (by decide +kernel)) rfl⟩⟩
theorem ck_Re_read_0 : ia_cks 7 5 false prog_8_method_2_code 0 [(.aload_n 0, 0, 0, 0, 0), (.aload_n 1, 0, 0, 0, 0), (.putfield 36, 7, 6, 2, 0), (.aload_n 0, 0, 0, 0, 0), (.iload_n 2, 0, 0, 0, 0), (.aload_n 1, 0, 0, 0, 0), (.arraylength, 0, 0, 0, 0)] = true := by decide +kernel
theorem ck_Re_read_12 : ia_cks 7 5 false prog_8_method_2_code 12 [(.putfield 46, 7, 7, 0, 0), (.aload_n 0, 0, 0, 0, 0), (.iload_n 3, 0, 0, 0, 0), (.putfield 50, 7, 8, 0, 0), (.aload_n 0, 0, 0, 0, 0)] = true := by decide +kernel
theorem ck_Re_read_24 : ia_cks 7 5 false prog_8_method_2_code 24 [(.aload_n 0, 0, 0, 0, 0)] = true := by decide +kernel
theorem ck_Re_read_28 : ia_cks 7 5 false prog_8_method_2_code 28 [(.iconst 0, 0, 0, 0, 0), (.istore 4, 0, 0, 0, 0)] = true := by decide +kernel
theorem ck_Re_read_31 : ia_cks 7 5 false prog_8_method_2_code 31 [(.iload 4, 0, 0, 0, 0), (.sipush 600, 0, 0, 0, 0), (.if_icmp .gt 25, 0, 0, 0, 0)] = true := by decide +kernel
theorem ck_Re_read_39 : ia_cks 7 5 false prog_8_method_2_code 39 [(.aload_n 0, 0, 0, 0, 0), (.getfield 59, 7, 9, 0, 0), (.ifCond .eq 18, 0, 0, 0, 0)] = true := by decide +kernel
theorem ck_Re_read_46 : ia_cks 7 5 false prog_8_method_2_code 46 [(.aload_n 0, 0, 0, 0, 0)] = true := by decide +kernel
theorem ck_Re_read_50 : ia_cks 7 5 false prog_8_method_2_code 50 [(.ifCond .ne 5, 0, 0, 0, 0)] = true := by decide +kernel
theorem ck_Re_read_55 : ia_cks 7 5 false prog_8_method_2_code 55 [(.iinc 4 1, 0, 0, 0, 0), (.goto (-27), 0, 0, 0, 0)] = true := by decide +kernel
theorem ck_Re_read_53 : ia_cks 7 5 false prog_8_method_2_code 53 [(.iconst 0, 0, 0, 0, 0)] = true := by decide +kernel
theorem ck_Re_read_61 : ia_cks 7 5 false prog_8_method_2_code 61 [(.aload_n 0, 0, 0, 0, 0), (.getfield 50, 7, 8, 0, 0), (.ifCond .ne 36, 0, 0, 0, 0)] = true := by decide +kernel
theorem ck_Re_read_101 : ia_cks 7 5 false prog_8_method_2_code 101 [(.aload_n 0, 0, 0, 0, 0), (.getfield 66, 7, 3, 0, 0), (.ifCond .ne 7, 0, 0, 0, 0)] = true := by decide +kernel
theorem ck_Re_read_112 : ia_cks 7 5 false prog_8_method_2_code 112 [(.iconst 0, 0, 0, 0, 0)] = true := by decide +kernel
theorem ck_Re_read_108 : ia_cks 7 5 false prog_8_method_2_code 108 [(.iconst 1, 0, 0, 0, 0), (.goto 4, 0, 0, 0, 0)] = true := by decide +kernel
theorem ck_Re_read_68 : ia_cks 7 5 false prog_8_method_2_code 68 [(.aload_n 0, 0, 0, 0, 0), (.getfield 66, 7, 3, 0, 0), (.ifCond .ne 29, 0, 0, 0, 0)] = true := by decide +kernel
theorem ck_Re_read_75 : ia_cks 7 5 false prog_8_method_2_code 75 [(.aload_n 0, 0, 0, 0, 0), (.getfield 12, 7, 0, 3, 1)] = true := by decide +kernel
theorem ck_Re_read_82 : ia_cks 7 5 false prog_8_method_2_code 82 [(.ifCond .eq 12, 0, 0, 0, 0)] = true := by decide +kernel
theorem ck_Re_read_94 : ia_cks 7 5 false prog_8_method_2_code 94 [(.aload_n 0, 0, 0, 0, 0), (.getfield 12, 7, 0, 3, 1)] = true := by decide +kernel
theorem ck_Re_read_85 : ia_cks 7 5 false prog_8_method_2_code 85 [(.aload_n 0, 0, 0, 0, 0), (.iconst 4, 0, 0, 0, 0), (.aload_n 0, 0, 0, 0, 0), (.getfield 46, 7, 7, 0, 0)] = true := by decide +kernel
theorem dc_Re_read_9 : decode prog_8_method_2_code 9 = .ok (.invokestatic 40, 3) := by decide +kernel
theorem dc_Re_read_21 : decode prog_8_method_2_code 21 = .ok (.invokevirtual 53, 3) := by decide +kernel
theorem dc_Re_read_25 : decode prog_8_method_2_code 25 = .ok (.invokevirtual 56, 3) := by decide +kernel
theorem dc_Re_read_47 : decode prog_8_method_2_code 47 = .ok (.invokevirtual 62, 3) := by decide +kernel
theorem dc_Re_read_54 : decode prog_8_method_2_code 54 = .ok (.ireturn, 1) := by decide +kernel
theorem dc_Re_read_113 : decode prog_8_method_2_code 113 = .ok (.ireturn, 1) := by decide +kernel
theorem dc_Re_read_79 : decode prog_8_method_2_code 79 = .ok (.invokevirtual 69, 3) := by decide +kernel
theorem dc_Re_read_98 : decode prog_8_method_2_code 98 = .ok (.invokevirtual 76, 3) := by decide +kernel
theorem dc_Re_read_91 : decode prog_8_method_2_code 91 = .ok (.invokevirtual 72, 3) := by decide +kernel
def l_Re_read_31 (a1 : Nat) (x2 : Int32) (x3 : Int32) (k53 : ia_H → Option (Int32 × ia_H)) (k61 : ia_H → Option (Int32 × ia_H)) (n : Nat) (x4 : Int32) (h : ia_H) : Option (Int32 × ia_H) := match n with
  | 0 => none
  | n + 1 => if 600 < x4 then (k61 h) else (if (ia_i h 279 9) = 0 then (k61 h) else ((f_Re_readLine h).bind fun v3 => (if v3.1 = 0 then (k53 v3.2) else (l_Re_read_31 a1 x2 x3 k53 k61 n (x4 + 1) v3.2))))
theorem tl_Re_read_31 {w : ia_O0} {d N1 W1 : Nat} {K : ia_K} (hK : ia_isK (d + 7) mm_Re_read N1 W1 K) {a1 : Nat} {x2 : Int32} {x3 : Int32} (p1 : (kd_D a1).1 = 102) {r : Int32} {h1 : ia_H} (hret : ∀ (pc : Nat) (lv : ia_L), ia_ret mm_Re_read pc (some (.inl r)) → K pc lv ((some (.inl r)) : Option ia_V).toList h1) {k53 : ia_H → Option (Int32 × ia_H)} {k61 : ia_H → Option (Int32 × ia_H)} (hk53 : ∀ (h : ia_H), gd_ w h → k53 h = some (r, h1) → K 53 [none, none, none, none, none] [] h) (hk61 : ∀ (h : ia_H), gd_ w h → k61 h = some (r, h1) → K 61 [some (.inr (.inr 279)), none, none, none, none] [] h) : ∀ (n : Nat) (x4 : Int32) (h : ia_H), gd_ w h → l_Re_read_31 a1 x2 x3 k53 k61 n x4 h = some (r, h1) → K 31 [some (.inr (.inr 279)), none, none, none, some (.inl x4)] [] h := by
  intro n
  induction n with
  | zero =>
    intro x4 h hg hm
    cases (show (none : Option (Int32 × ia_H)) = some _ from hm)
  | succ n ih =>
    intro x4 h hg hm
    rw [l_Re_read_31] at hm
    refine ia_go hK ck_Re_read_31 ⟨fun c => ?_, fun c => ?_⟩
    · replace hm := ia_ifp hm c
      show K 61 [some (.inr (.inr 279)), none, none, none, some (.inl x4)] [] h
      refine ia_fg hK (lv' := [some (.inr (.inr 279)), none, none, none, none]) ⟨rfl, trivial⟩ ?_
      exact hk61 h hg hm
    · replace hm := ia_ifn hm c
      show K 39 [some (.inr (.inr 279)), none, none, none, some (.inl x4)] [] h
      refine ia_go hK ck_Re_read_39 ⟨gk_7 hg pk_279, fun c => ?_, fun c => ?_⟩
      · replace hm := ia_ifp hm c
        show K 61 [some (.inr (.inr 279)), none, none, none, some (.inl x4)] [] h
        refine ia_fg hK (lv' := [some (.inr (.inr 279)), none, none, none, none]) ⟨rfl, trivial⟩ ?_
        exact hk61 h hg hm
      · replace hm := ia_ifn hm c
        show K 46 [some (.inr (.inr 279)), none, none, none, some (.inl x4)] [] h
        refine ia_go hK ck_Re_read_46 ?_
        show K 47 [some (.inr (.inr 279)), none, none, none, some (.inl x4)] [.inr (.inr 279)] h
        obtain ⟨v3, hv3, hm⟩ := ia_bnd hm
        have ev3 := t_Re_readLine (d + 0) hg hv3
        have gv3 := g_Re_readLine hg hv3
        refine ia_cV hK mk_Re_readLine lk_7_62 dc_Re_read_47 279 [] [] rfl rfl (Nat.le_of_ble_eq_true rfl) (by decide) rfl (gk_7 hg pk_279) ev3 (gd_nm hg gv3) ?_
        show K 50 [some (.inr (.inr 279)), none, none, none, some (.inl x4)] [.inl v3.1] v3.2
        refine ia_go hK ck_Re_read_50 ⟨fun c => ?_, fun c => ?_⟩
        · replace hm := ia_ifn hm c
          show K 55 [some (.inr (.inr 279)), none, none, none, some (.inl x4)] [] v3.2
          refine ia_go hK ck_Re_read_55 ?_
          show K 31 [some (.inr (.inr 279)), none, none, none, some (.inl (x4 + 1))] [] v3.2
          exact ih (x4 + 1) v3.2 gv3 hm
        · replace hm := ia_ifp hm c
          show K 53 [some (.inr (.inr 279)), none, none, none, some (.inl x4)] [] v3.2
          refine ia_fg hK (lv' := [none, none, none, none, none]) trivial ?_
          exact hk53 v3.2 gv3 hm
theorem gl_Re_read_31 {w : ia_O0} {a1 : Nat} {x2 : Int32} {x3 : Int32} (p1 : (kd_D a1).1 = 102) {r : Int32} {h1 : ia_H} {k53 : ia_H → Option (Int32 × ia_H)} {k61 : ia_H → Option (Int32 × ia_H)} (hk53 : ∀ (h : ia_H), gd_ w h → k53 h = some (r, h1) → gd_ w h1) (hk61 : ∀ (h : ia_H), gd_ w h → k61 h = some (r, h1) → gd_ w h1) : ∀ (n : Nat) (x4 : Int32) (h : ia_H), gd_ w h → l_Re_read_31 a1 x2 x3 k53 k61 n x4 h = some (r, h1) → gd_ w h1 := by
  intro n
  induction n with
  | zero =>
    intro x4 h hg hm
    cases (show (none : Option (Int32 × ia_H)) = some _ from hm)
  | succ n ih =>
    intro x4 h hg hm
    rw [l_Re_read_31] at hm
    by_cases c : 600 < x4
    · replace hm := ia_ifp hm c
      exact hk61 h hg hm
    · replace hm := ia_ifn hm c
      by_cases c : (ia_i h 279 9) = 0
      · replace hm := ia_ifp hm c
        exact hk61 h hg hm
      · replace hm := ia_ifn hm c
        obtain ⟨v3, hv3, hm⟩ := ia_bnd hm
        have gv3 := g_Re_readLine hg hv3
        by_cases c : v3.1 = 0
        · replace hm := ia_ifp hm c
          exact hk53 v3.2 gv3 hm
        · replace hm := ia_ifn hm c
          exact ih (x4 + 1) v3.2 gv3 hm
def j_Re_read_101 (a1 : Nat) (x2 : Int32) (x3 : Int32) (h : ia_H) : Option (Int32 × ia_H) := if (ia_i h 279 3) = 0 then (some (1, h)) else (some (0, h))
theorem tj_Re_read_101 {w : ia_O0} {d N1 W1 : Nat} {K : ia_K} (hK : ia_isK (d + 7) mm_Re_read N1 W1 K) {a1 : Nat} {x2 : Int32} {x3 : Int32} (p1 : (kd_D a1).1 = 102) {r : Int32} {h1 : ia_H} (hret : ∀ (pc : Nat) (lv : ia_L), ia_ret mm_Re_read pc (some (.inl r)) → K pc lv ((some (.inl r)) : Option ia_V).toList h1) : ∀ (h : ia_H), gd_ w h → j_Re_read_101 a1 x2 x3 h = some (r, h1) → K 101 [some (.inr (.inr 279)), none, none, none, none] [] h := by
  intro h hg hm
  unfold j_Re_read_101 at hm
  refine ia_go hK ck_Re_read_101 ⟨gk_7 hg pk_279, fun c => ?_, fun c => ?_⟩
  · replace hm := ia_ifn hm c
    show K 112 [some (.inr (.inr 279)), none, none, none, none] [] h
    refine ia_go hK ck_Re_read_112 ?_
    show K 113 [some (.inr (.inr 279)), none, none, none, none] [.inl 0] h
    obtain ⟨rfl, rfl⟩ := Prod.mk.inj (Option.some.inj hm)
    exact hret 113 _ ⟨Or.inl rfl, dc_Re_read_113⟩
  · replace hm := ia_ifp hm c
    show K 108 [some (.inr (.inr 279)), none, none, none, none] [] h
    refine ia_go hK ck_Re_read_108 ?_
    show K 113 [some (.inr (.inr 279)), none, none, none, none] [.inl 1] h
    obtain ⟨rfl, rfl⟩ := Prod.mk.inj (Option.some.inj hm)
    exact hret 113 _ ⟨Or.inr rfl, dc_Re_read_113⟩
theorem gj_Re_read_101 {w : ia_O0} {a1 : Nat} {x2 : Int32} {x3 : Int32} (p1 : (kd_D a1).1 = 102) {r : Int32} {h1 : ia_H} : ∀ (h : ia_H), gd_ w h → j_Re_read_101 a1 x2 x3 h = some (r, h1) → gd_ w h1 := by
  intro h hg hm
  unfold j_Re_read_101 at hm
  by_cases c : (ia_i h 279 3) = 0
  · replace hm := ia_ifp hm c
    obtain ⟨rfl, rfl⟩ := Prod.mk.inj (Option.some.inj hm)
    exact hg
  · replace hm := ia_ifn hm c
    obtain ⟨rfl, rfl⟩ := Prod.mk.inj (Option.some.inj hm)
    exact hg
def j_Re_read_94 (a1 : Nat) (x2 : Int32) (x3 : Int32) (h : ia_H) : Option (Int32 × ia_H) := (f_La_chart 280 h).bind fun v5 => (j_Re_read_101 a1 x2 x3 v5)
theorem tj_Re_read_94 {w : ia_O0} {d N1 W1 : Nat} {K : ia_K} (hK : ia_isK (d + 7) mm_Re_read N1 W1 K) {a1 : Nat} {x2 : Int32} {x3 : Int32} (p1 : (kd_D a1).1 = 102) {r : Int32} {h1 : ia_H} (hret : ∀ (pc : Nat) (lv : ia_L), ia_ret mm_Re_read pc (some (.inl r)) → K pc lv ((some (.inl r)) : Option ia_V).toList h1) : ∀ (h : ia_H), gd_ w h → j_Re_read_94 a1 x2 x3 h = some (r, h1) → K 94 [some (.inr (.inr 279)), none, none, none, none] [] h := by
  intro h hg hm
  unfold j_Re_read_94 at hm
  refine ia_go hK ck_Re_read_94 ⟨gk_7 hg pk_279, gr_7_0 hg pk_279, ?_⟩
  show K 98 [some (.inr (.inr 279)), none, none, none, none] [.inr (.inr 280)] h
  obtain ⟨v5, hv5, hm⟩ := ia_bnd hm
  have ev5 := t_La_chart (d + 4) hg (ka_7_0 pk_279) hv5
  have gv5 := g_La_chart hg (ka_7_0 pk_279) hv5
  refine ia_cV hK mk_La_chart lk_7_76 dc_Re_read_98 280 [] [] rfl rfl (Nat.le_of_ble_eq_true rfl) (by decide) rfl (gk_3 hg (ka_7_0 pk_279)) ev5 (gd_nm hg gv5) ?_
  show K 101 [some (.inr (.inr 279)), none, none, none, none] [] v5
  exact tj_Re_read_101 hK p1 hret v5 gv5 hm
theorem gj_Re_read_94 {w : ia_O0} {a1 : Nat} {x2 : Int32} {x3 : Int32} (p1 : (kd_D a1).1 = 102) {r : Int32} {h1 : ia_H} : ∀ (h : ia_H), gd_ w h → j_Re_read_94 a1 x2 x3 h = some (r, h1) → gd_ w h1 := by
  intro h hg hm
  unfold j_Re_read_94 at hm
  obtain ⟨v5, hv5, hm⟩ := ia_bnd hm
  have gv5 := g_La_chart hg (ka_7_0 pk_279) hv5
  exact gj_Re_read_101 p1 v5 gv5 hm
def j_Re_read_61 (a1 : Nat) (x2 : Int32) (x3 : Int32) (h : ia_H) : Option (Int32 × ia_H) := if (ia_i h 279 8) = 0 then (if (ia_i h 279 3) = 0 then ((f_La_isAmiss 280 h).bind fun v4 => (if v4 = 0 then (j_Re_read_94 a1 x2 x3 h) else ((f_Re_note 4 (ia_i h 279 7) h).bind fun v6 => (j_Re_read_94 a1 x2 x3 v6)))) else (j_Re_read_101 a1 x2 x3 h)) else (j_Re_read_101 a1 x2 x3 h)
theorem tj_Re_read_61 {w : ia_O0} {d N1 W1 : Nat} {K : ia_K} (hK : ia_isK (d + 7) mm_Re_read N1 W1 K) {a1 : Nat} {x2 : Int32} {x3 : Int32} (p1 : (kd_D a1).1 = 102) {r : Int32} {h1 : ia_H} (hret : ∀ (pc : Nat) (lv : ia_L), ia_ret mm_Re_read pc (some (.inl r)) → K pc lv ((some (.inl r)) : Option ia_V).toList h1) : ∀ (h : ia_H), gd_ w h → j_Re_read_61 a1 x2 x3 h = some (r, h1) → K 61 [some (.inr (.inr 279)), none, none, none, none] [] h := by
  intro h hg hm
  unfold j_Re_read_61 at hm
  refine ia_go hK ck_Re_read_61 ⟨gk_7 hg pk_279, fun c => ?_, fun c => ?_⟩
  · replace hm := ia_ifn hm c
    show K 101 [some (.inr (.inr 279)), none, none, none, none] [] h
    exact tj_Re_read_101 hK p1 hret h hg hm
  · replace hm := ia_ifp hm c
    show K 68 [some (.inr (.inr 279)), none, none, none, none] [] h
    refine ia_go hK ck_Re_read_68 ⟨gk_7 hg pk_279, fun c => ?_, fun c => ?_⟩
    · replace hm := ia_ifn hm c
      show K 101 [some (.inr (.inr 279)), none, none, none, none] [] h
      exact tj_Re_read_101 hK p1 hret h hg hm
    · replace hm := ia_ifp hm c
      show K 75 [some (.inr (.inr 279)), none, none, none, none] [] h
      refine ia_go hK ck_Re_read_75 ⟨gk_7 hg pk_279, gr_7_0 hg pk_279, ?_⟩
      show K 79 [some (.inr (.inr 279)), none, none, none, none] [.inr (.inr 280)] h
      obtain ⟨v4, hv4, hm⟩ := ia_bnd hm
      have ev4 := t_La_isAmiss (d + 5) hg (ka_7_0 pk_279) hv4
      refine ia_cV hK mk_La_isAmiss lk_7_69 dc_Re_read_79 280 [] [] rfl rfl (Nat.le_of_ble_eq_true rfl) (by decide) rfl (gk_3 hg (ka_7_0 pk_279)) ev4 ⟨rfl, rfl⟩ ?_
      show K 82 [some (.inr (.inr 279)), none, none, none, none] [.inl v4] h
      refine ia_go hK ck_Re_read_82 ⟨fun c => ?_, fun c => ?_⟩
      · replace hm := ia_ifp hm c
        show K 94 [some (.inr (.inr 279)), none, none, none, none] [] h
        exact tj_Re_read_94 hK p1 hret h hg hm
      · replace hm := ia_ifn hm c
        show K 85 [some (.inr (.inr 279)), none, none, none, none] [] h
        refine ia_go hK ck_Re_read_85 ⟨gk_7 hg pk_279, ?_⟩
        show K 91 [some (.inr (.inr 279)), none, none, none, none] [.inl (ia_i h 279 7), .inl 4, .inr (.inr 279)] h
        obtain ⟨v6, hv6, hm⟩ := ia_bnd hm
        have ev6 := t_Re_note (d + 6) hg hv6
        have gv6 := g_Re_note hg hv6
        refine ia_cV hK mk_Re_note lk_7_72 dc_Re_read_91 279 [.inl 4, .inl (ia_i h 279 7)] [] rfl rfl (Nat.le_of_ble_eq_true rfl) (by decide) rfl (gk_7 hg pk_279) ev6 (gd_nm hg gv6) ?_
        show K 94 [some (.inr (.inr 279)), none, none, none, none] [] v6
        exact tj_Re_read_94 hK p1 hret v6 gv6 hm
theorem gj_Re_read_61 {w : ia_O0} {a1 : Nat} {x2 : Int32} {x3 : Int32} (p1 : (kd_D a1).1 = 102) {r : Int32} {h1 : ia_H} : ∀ (h : ia_H), gd_ w h → j_Re_read_61 a1 x2 x3 h = some (r, h1) → gd_ w h1 := by
  intro h hg hm
  unfold j_Re_read_61 at hm
  by_cases c : (ia_i h 279 8) = 0
  · replace hm := ia_ifp hm c
    by_cases c : (ia_i h 279 3) = 0
    · replace hm := ia_ifp hm c
      obtain ⟨v4, hv4, hm⟩ := ia_bnd hm
      by_cases c : v4 = 0
      · replace hm := ia_ifp hm c
        exact gj_Re_read_94 p1 h hg hm
      · replace hm := ia_ifn hm c
        obtain ⟨v6, hv6, hm⟩ := ia_bnd hm
        have gv6 := g_Re_note hg hv6
        exact gj_Re_read_94 p1 v6 gv6 hm
    · replace hm := ia_ifn hm c
      exact gj_Re_read_101 p1 h hg hm
  · replace hm := ia_ifn hm c
    exact gj_Re_read_101 p1 h hg hm
def f_Re_read (a1 : Nat) (x2 : Int32) (x3 : Int32) (h : ia_H) : Option (Int32 × ia_H) := (f_Re_clear (ia_wI (ia_wI (ia_wR h 279 6 a1) 279 7 (ia_min x2 (Int32.ofNat ((kd_D a1).2)))) 279 8 x3)).bind fun v1 => ((f_Re_advance v1).bind fun v2 => (l_Re_read_31 a1 x2 x3 (fun h => some (0, h)) (fun h => j_Re_read_61 a1 x2 x3 h) fu_ 0 v2))
theorem g_Re_read {w : ia_O0} {a1 : Nat} {x2 : Int32} {x3 : Int32} {h : ia_H} (hg : gd_ w h) (p1 : (kd_D a1).1 = 102) {q : (Int32 × ia_H)} (hm : f_Re_read a1 x2 x3 h = some q) : gd_ w q.2 := by
  obtain ⟨r, h1⟩ := q
  unfold f_Re_read at hm
  obtain ⟨v1, hv1, hm⟩ := ia_bnd hm
  have gv1 := g_Re_clear (gd_wI (gd_wI (gw_tape hg pk_279) (ko_7 pk_279)) (ko_7 pk_279)) hv1
  obtain ⟨v2, hv2, hm⟩ := ia_bnd hm
  have gv2 := g_Re_advance gv1 hv2
  refine gl_Re_read_31 p1 ?_ ?_ fu_ 0 v2 gv2 hm
  · intro h hg hm
    obtain ⟨rfl, rfl⟩ := Prod.mk.inj (Option.some.inj hm)
    exact hg
  · intro h hg hm
    exact gj_Re_read_61 p1 h hg hm
theorem t_Re_read {w : ia_O0} (d : Nat) {a1 : Nat} {x2 : Int32} {x3 : Int32} {h : ia_H} (hg : gd_ w h) (p1 : (kd_D a1).1 = 102) {q : (Int32 × ia_H)} (hm : f_Re_read a1 x2 x3 h = some q) : ia_Ev (d + 7) mm_Re_read [.inr (.inr 279), .inr (.inr a1), .inl x2, .inl x3] h (some (.inl q.1)) q.2 := by
  have gq := g_Re_read hg p1 hm
  refine ia_Ev_intro ok_Re_read (gd_le hg gq).1 (gd_le hg gq).2 (Nat.le_of_ble_eq_true rfl) (fun K hK hret => ?_)
  obtain ⟨r, h1⟩ := q
  show K 0 [some (.inr (.inr 279)), some (.inr (.inr a1)), some (.inl x2), some (.inl x3), none] [] h
  unfold f_Re_read at hm
  refine ia_go hK ck_Re_read_0 ⟨gk_7 hg pk_279, ga_len (gw_tape hg pk_279) (kd_pr p1) ⟨by decide, by decide⟩, ?_⟩
  show K 9 [some (.inr (.inr 279)), some (.inr (.inr a1)), some (.inl x2), some (.inl x3), none] [.inl (Int32.ofNat (ia_k (ia_wR h 279 6 a1) a1).2), .inl x2, .inr (.inr 279)] (ia_wR h 279 6 a1)
  rw [ga_ln (gw_tape hg pk_279) (kd_pr p1) ⟨by decide, by decide⟩]
  refine ia_mmin hK (ia_tb_in (List.mem_of_getElem? (i := 749) (by decide +kernel)) rfl) dc_Re_read_9 (Nat.le_of_ble_eq_true rfl) ?_
  show K 12 [some (.inr (.inr 279)), some (.inr (.inr a1)), some (.inl x2), some (.inl x3), none] [.inl (ia_min x2 (Int32.ofNat ((kd_D a1).2))), .inr (.inr 279)] (ia_wR h 279 6 a1)
  refine ia_go hK ck_Re_read_12 ⟨gk_7 (gw_tape hg pk_279) pk_279, gk_7 (gd_wI (gw_tape hg pk_279) (ko_7 pk_279)) pk_279, ?_⟩
  show K 21 [some (.inr (.inr 279)), some (.inr (.inr a1)), some (.inl x2), some (.inl x3), none] [.inr (.inr 279)] (ia_wI (ia_wI (ia_wR h 279 6 a1) 279 7 (ia_min x2 (Int32.ofNat ((kd_D a1).2)))) 279 8 x3)
  obtain ⟨v1, hv1, hm⟩ := ia_bnd hm
  have ev1 := t_Re_clear (d + 2) (gd_wI (gd_wI (gw_tape hg pk_279) (ko_7 pk_279)) (ko_7 pk_279)) hv1
  have gv1 := g_Re_clear (gd_wI (gd_wI (gw_tape hg pk_279) (ko_7 pk_279)) (ko_7 pk_279)) hv1
  refine ia_cV hK mk_Re_clear lk_7_53 dc_Re_read_21 279 [] [] rfl rfl (Nat.le_of_ble_eq_true rfl) (by decide) rfl (gk_7 (gd_wI (gd_wI (gw_tape hg pk_279) (ko_7 pk_279)) (ko_7 pk_279)) pk_279) ev1 (gd_nm (gd_wI (gd_wI (gw_tape hg pk_279) (ko_7 pk_279)) (ko_7 pk_279)) gv1) ?_
  show K 24 [some (.inr (.inr 279)), some (.inr (.inr a1)), some (.inl x2), some (.inl x3), none] [] v1
  refine ia_go hK ck_Re_read_24 ?_
  show K 25 [some (.inr (.inr 279)), some (.inr (.inr a1)), some (.inl x2), some (.inl x3), none] [.inr (.inr 279)] v1
  obtain ⟨v2, hv2, hm⟩ := ia_bnd hm
  have ev2 := t_Re_advance (d + 4) gv1 hv2
  have gv2 := g_Re_advance gv1 hv2
  refine ia_cV hK mk_Re_advance lk_7_56 dc_Re_read_25 279 [] [] rfl rfl (Nat.le_of_ble_eq_true rfl) (by decide) rfl (gk_7 gv1 pk_279) ev2 (gd_nm gv1 gv2) ?_
  show K 28 [some (.inr (.inr 279)), some (.inr (.inr a1)), some (.inl x2), some (.inl x3), none] [] v2
  refine ia_go hK ck_Re_read_28 ?_
  show K 31 [some (.inr (.inr 279)), some (.inr (.inr a1)), some (.inl x2), some (.inl x3), some (.inl 0)] [] v2
  refine ia_fg hK (lv' := [some (.inr (.inr 279)), none, none, none, some (.inl 0)]) ⟨rfl, rfl, trivial⟩ ?_
  refine tl_Re_read_31 hK p1 hret ?_ ?_ fu_ 0 v2 gv2 hm
  · intro h hg hm
    refine ia_go hK ck_Re_read_53 ?_
    show K 54 [none, none, none, none, none] [.inl 0] h
    obtain ⟨rfl, rfl⟩ := Prod.mk.inj (Option.some.inj hm)
    exact hret 54 _ ⟨Or.inl rfl, dc_Re_read_54⟩
  · intro h hg hm
    exact tj_Re_read_61 hK p1 hret h hg hm
def mm_La_become : ia_M := (⟨"IceStreet$Lake", "become", "(LIceStreet$Lake;)V"⟩, prog_4_method_3_code, 2, none, 3, false)
theorem ok_La_become : ia_mok mm_La_become := ⟨by decide +kernel, by decide +kernel, by decide +kernel, by decide +kernel⟩
theorem mk_La_become : ia_mkn mm_La_become 1 1 := ⟨ia_tb_in (List.mem_of_getElem? (i := 976) (by decide +kernel)) rfl, ia_tb_in (List.mem_of_getElem? (i := 135) (by decide +kernel)) rfl, by decide +kernel, by decide +kernel, ⟨ia_tb_in (List.mem_of_getElem? (i := 974) (by decide +kernel)) rfl, ia_tb_in (List.mem_of_getElem? (i := 975) (by decide +kernel)) rfl⟩⟩
theorem ck_La_become_0 : ia_cks 3 2 false prog_4_method_3_code 0 [(.aload_n 0, 0, 0, 0, 0), (.aload_n 1, 0, 0, 0, 0), (.getfield 49, 3, 0, 0, 0), (.putfield 49, 3, 0, 0, 0), (.aload_n 0, 0, 0, 0, 0), (.aload_n 1, 0, 0, 0, 0), (.getfield 53, 3, 1, 0, 0), (.putfield 53, 3, 1, 0, 0), (.aload_n 0, 0, 0, 0, 0), (.aload_n 1, 0, 0, 0, 0), (.getfield 56, 3, 2, 0, 0), (.putfield 56, 3, 2, 0, 0), (.aload_n 1, 0, 0, 0, 0), (.getfield 9, 3, 3, 3, 1), (.iconst 0, 0, 0, 0, 0), (.aload_n 0, 0, 0, 0, 0), (.getfield 9, 3, 3, 3, 1), (.iconst 0, 0, 0, 0, 0), (.bipush 36, 0, 0, 0, 0)] = true := by decide +kernel
theorem ck_La_become_39 : ia_cks 3 2 false prog_4_method_3_code 39 [(.aload_n 1, 0, 0, 0, 0), (.getfield 15, 3, 4, 3, 2), (.iconst 0, 0, 0, 0, 0), (.aload_n 0, 0, 0, 0, 0), (.getfield 15, 3, 4, 3, 2), (.iconst 0, 0, 0, 0, 0), (.bipush 36, 0, 0, 0, 0)] = true := by decide +kernel
theorem ck_La_become_54 : ia_cks 3 2 false prog_4_method_3_code 54 [(.aload_n 1, 0, 0, 0, 0), (.getfield 18, 3, 5, 3, 3), (.iconst 0, 0, 0, 0, 0), (.aload_n 0, 0, 0, 0, 0), (.getfield 18, 3, 5, 3, 3), (.iconst 0, 0, 0, 0, 0), (.bipush 36, 0, 0, 0, 0)] = true := by decide +kernel
theorem ck_La_become_69 : ia_cks 3 2 false prog_4_method_3_code 69 [(.aload_n 1, 0, 0, 0, 0), (.getfield 21, 3, 6, 3, 4), (.iconst 0, 0, 0, 0, 0), (.aload_n 0, 0, 0, 0, 0), (.getfield 21, 3, 6, 3, 4), (.iconst 0, 0, 0, 0, 0), (.bipush 36, 0, 0, 0, 0)] = true := by decide +kernel
theorem ck_La_become_84 : ia_cks 3 2 false prog_4_method_3_code 84 [(.aload_n 0, 0, 0, 0, 0), (.aload_n 1, 0, 0, 0, 0), (.getfield 68, 3, 7, 1, 0), (.putfield 68, 3, 7, 1, 0), (.aload_n 0, 0, 0, 0, 0), (.aload_n 1, 0, 0, 0, 0), (.getfield 72, 3, 8, 1, 0), (.putfield 72, 3, 8, 1, 0), (.aload_n 1, 0, 0, 0, 0), (.getfield 25, 3, 9, 3, 5), (.iconst 0, 0, 0, 0, 0), (.aload_n 0, 0, 0, 0, 0), (.getfield 25, 3, 9, 3, 5), (.iconst 0, 0, 0, 0, 0), (.bipush 12, 0, 0, 0, 0)] = true := by decide +kernel
theorem ck_La_become_115 : ia_cks 3 2 false prog_4_method_3_code 115 [(.aload_n 0, 0, 0, 0, 0), (.aload_n 1, 0, 0, 0, 0), (.getfield 75, 3, 10, 0, 0), (.putfield 75, 3, 10, 0, 0), (.aload_n 0, 0, 0, 0, 0), (.aload_n 1, 0, 0, 0, 0), (.getfield 78, 3, 11, 0, 0), (.putfield 78, 3, 11, 0, 0)] = true := by decide +kernel
theorem ck_La_become_131 : ia_cks 3 2 false prog_4_method_3_code 131 [(.aload_n 1, 0, 0, 0, 0), (.getfield 28, 3, 12, 3, 6), (.iconst 0, 0, 0, 0, 0), (.aload_n 0, 0, 0, 0, 0), (.getfield 28, 3, 12, 3, 6), (.iconst 0, 0, 0, 0, 0), (.bipush 6, 0, 0, 0, 0)] = true := by decide +kernel
theorem ck_La_become_146 : ia_cks 3 2 false prog_4_method_3_code 146 [(.aload_n 1, 0, 0, 0, 0), (.getfield 31, 3, 13, 3, 7), (.iconst 0, 0, 0, 0, 0), (.aload_n 0, 0, 0, 0, 0), (.getfield 31, 3, 13, 3, 7), (.iconst 0, 0, 0, 0, 0), (.bipush 6, 0, 0, 0, 0)] = true := by decide +kernel
theorem ck_La_become_161 : ia_cks 3 2 false prog_4_method_3_code 161 [(.aload_n 1, 0, 0, 0, 0), (.getfield 34, 3, 14, 3, 8), (.iconst 0, 0, 0, 0, 0), (.aload_n 0, 0, 0, 0, 0), (.getfield 34, 3, 14, 3, 8), (.iconst 0, 0, 0, 0, 0), (.bipush 6, 0, 0, 0, 0)] = true := by decide +kernel
theorem ck_La_become_176 : ia_cks 3 2 false prog_4_method_3_code 176 [(.aload_n 1, 0, 0, 0, 0), (.getfield 37, 3, 15, 3, 9), (.iconst 0, 0, 0, 0, 0), (.aload_n 0, 0, 0, 0, 0), (.getfield 37, 3, 15, 3, 9), (.iconst 0, 0, 0, 0, 0), (.bipush 6, 0, 0, 0, 0)] = true := by decide +kernel
theorem ck_La_become_191 : ia_cks 3 2 false prog_4_method_3_code 191 [(.aload_n 1, 0, 0, 0, 0), (.getfield 40, 3, 16, 3, 10), (.iconst 0, 0, 0, 0, 0), (.aload_n 0, 0, 0, 0, 0), (.getfield 40, 3, 16, 3, 10), (.iconst 0, 0, 0, 0, 0), (.aload_n 0, 0, 0, 0, 0), (.getfield 40, 3, 16, 3, 10), (.arraylength, 0, 0, 0, 0)] = true := by decide +kernel
theorem ck_La_become_209 : ia_cks 3 2 false prog_4_method_3_code 209 [(.aload_n 1, 0, 0, 0, 0), (.getfield 43, 3, 17, 3, 11), (.iconst 0, 0, 0, 0, 0), (.aload_n 0, 0, 0, 0, 0), (.getfield 43, 3, 17, 3, 11), (.iconst 0, 0, 0, 0, 0), (.aload_n 0, 0, 0, 0, 0), (.getfield 43, 3, 17, 3, 11), (.arraylength, 0, 0, 0, 0)] = true := by decide +kernel
theorem dc_La_become_36 : decode prog_4_method_3_code 36 = .ok (.invokestatic 84, 3) := by decide +kernel
theorem dc_La_become_51 : decode prog_4_method_3_code 51 = .ok (.invokestatic 84, 3) := by decide +kernel
theorem dc_La_become_66 : decode prog_4_method_3_code 66 = .ok (.invokestatic 84, 3) := by decide +kernel
theorem dc_La_become_81 : decode prog_4_method_3_code 81 = .ok (.invokestatic 84, 3) := by decide +kernel
theorem dc_La_become_112 : decode prog_4_method_3_code 112 = .ok (.invokestatic 84, 3) := by decide +kernel
theorem dc_La_become_143 : decode prog_4_method_3_code 143 = .ok (.invokestatic 84, 3) := by decide +kernel
theorem dc_La_become_158 : decode prog_4_method_3_code 158 = .ok (.invokestatic 84, 3) := by decide +kernel
theorem dc_La_become_173 : decode prog_4_method_3_code 173 = .ok (.invokestatic 84, 3) := by decide +kernel
theorem dc_La_become_188 : decode prog_4_method_3_code 188 = .ok (.invokestatic 84, 3) := by decide +kernel
theorem dc_La_become_206 : decode prog_4_method_3_code 206 = .ok (.invokestatic 84, 3) := by decide +kernel
theorem dc_La_become_224 : decode prog_4_method_3_code 224 = .ok (.invokestatic 84, 3) := by decide +kernel
theorem dc_La_become_227 : decode prog_4_method_3_code 227 = .ok (.return_, 1) := by decide +kernel
def j_La_become_131 (a0 : Nat) (a1 : Nat) (h : ia_H) : Option ia_H := ia_gd (ia_cb 0 0 (Int32.ofNat 144) 144 144) (ia_gd (ia_cb 0 0 (Int32.ofNat 144) 144 144) (some (ia_cpI (ia_cpI (ia_cpI (ia_cpI (ia_cpI (ia_cpI h (a1 + 6) (a0 + 6) 0 0 6) (a1 + 7) (a0 + 7) 0 0 6) (a1 + 8) (a0 + 8) 0 0 6) (a1 + 9) (a0 + 9) 0 0 6) (a1 + 10) (a0 + 10) 0 0 ((Int32.ofNat 144).toNatClampNeg)) (a1 + 11) (a0 + 11) 0 0 ((Int32.ofNat 144).toNatClampNeg))))
theorem tj_La_become_131 {w : ia_O0} {d N1 W1 : Nat} {K : ia_K} (hK : ia_isK (d + 0) mm_La_become N1 W1 K) {a0 : Nat} {a1 : Nat} (p0 : (kd_D a0).1 = 3) (p1 : (kd_D a1).1 = 3) {h1 : ia_H} (hret : ∀ (pc : Nat) (lv : ia_L), ia_ret mm_La_become pc none → K pc lv (none : Option ia_V).toList h1) : ∀ (h : ia_H), gd_ w h → j_La_become_131 a0 a1 h = some h1 → K 131 [some (.inr (.inr a0)), some (.inr (.inr a1))] [] h := by
  intro h hg hm
  unfold j_La_become_131 at hm
  refine ia_go hK ck_La_become_131 ⟨gk_3 hg p1, gr_3_12 hg p1, gk_3 hg p0, gr_3_12 hg p0, ?_⟩
  show K 143 [some (.inr (.inr a0)), some (.inr (.inr a1))] [.inl 6, .inl 0, .inr (.inr (a0 + 6)), .inl 0, .inr (.inr (a1 + 6))] h
  refine gd_cI hK (ia_tb_in (List.mem_of_getElem? (i := 977) (by decide +kernel)) rfl) dc_La_become_143 (Nat.le_of_ble_eq_true rfl) (Or.inl rfl) hg (ka_3_12 p1) (ka_3_12 p0) (by decide) rfl ?_
  show K 146 [some (.inr (.inr a0)), some (.inr (.inr a1))] [] (ia_cpI h (a1 + 6) (a0 + 6) 0 0 6)
  refine ia_go hK ck_La_become_146 ⟨gk_3 (gd_cpI hg (kx_100 (ka_3_12 p0))) p1, gr_3_13 (gd_cpI hg (kx_100 (ka_3_12 p0))) p1, gk_3 (gd_cpI hg (kx_100 (ka_3_12 p0))) p0, gr_3_13 (gd_cpI hg (kx_100 (ka_3_12 p0))) p0, ?_⟩
  show K 158 [some (.inr (.inr a0)), some (.inr (.inr a1))] [.inl 6, .inl 0, .inr (.inr (a0 + 7)), .inl 0, .inr (.inr (a1 + 7))] (ia_cpI h (a1 + 6) (a0 + 6) 0 0 6)
  refine gd_cI hK (ia_tb_in (List.mem_of_getElem? (i := 977) (by decide +kernel)) rfl) dc_La_become_158 (Nat.le_of_ble_eq_true rfl) (Or.inl rfl) (gd_cpI hg (kx_100 (ka_3_12 p0))) (ka_3_13 p1) (ka_3_13 p0) (by decide) rfl ?_
  show K 161 [some (.inr (.inr a0)), some (.inr (.inr a1))] [] (ia_cpI (ia_cpI h (a1 + 6) (a0 + 6) 0 0 6) (a1 + 7) (a0 + 7) 0 0 6)
  refine ia_go hK ck_La_become_161 ⟨gk_3 (gd_cpI (gd_cpI hg (kx_100 (ka_3_12 p0))) (kx_100 (ka_3_13 p0))) p1, gr_3_14 (gd_cpI (gd_cpI hg (kx_100 (ka_3_12 p0))) (kx_100 (ka_3_13 p0))) p1, gk_3 (gd_cpI (gd_cpI hg (kx_100 (ka_3_12 p0))) (kx_100 (ka_3_13 p0))) p0, gr_3_14 (gd_cpI (gd_cpI hg (kx_100 (ka_3_12 p0))) (kx_100 (ka_3_13 p0))) p0, ?_⟩
  show K 173 [some (.inr (.inr a0)), some (.inr (.inr a1))] [.inl 6, .inl 0, .inr (.inr (a0 + 8)), .inl 0, .inr (.inr (a1 + 8))] (ia_cpI (ia_cpI h (a1 + 6) (a0 + 6) 0 0 6) (a1 + 7) (a0 + 7) 0 0 6)
  refine gd_cI hK (ia_tb_in (List.mem_of_getElem? (i := 977) (by decide +kernel)) rfl) dc_La_become_173 (Nat.le_of_ble_eq_true rfl) (Or.inl rfl) (gd_cpI (gd_cpI hg (kx_100 (ka_3_12 p0))) (kx_100 (ka_3_13 p0))) (ka_3_14 p1) (ka_3_14 p0) (by decide) rfl ?_
  show K 176 [some (.inr (.inr a0)), some (.inr (.inr a1))] [] (ia_cpI (ia_cpI (ia_cpI h (a1 + 6) (a0 + 6) 0 0 6) (a1 + 7) (a0 + 7) 0 0 6) (a1 + 8) (a0 + 8) 0 0 6)
  refine ia_go hK ck_La_become_176 ⟨gk_3 (gd_cpI (gd_cpI (gd_cpI hg (kx_100 (ka_3_12 p0))) (kx_100 (ka_3_13 p0))) (kx_100 (ka_3_14 p0))) p1, gr_3_15 (gd_cpI (gd_cpI (gd_cpI hg (kx_100 (ka_3_12 p0))) (kx_100 (ka_3_13 p0))) (kx_100 (ka_3_14 p0))) p1, gk_3 (gd_cpI (gd_cpI (gd_cpI hg (kx_100 (ka_3_12 p0))) (kx_100 (ka_3_13 p0))) (kx_100 (ka_3_14 p0))) p0, gr_3_15 (gd_cpI (gd_cpI (gd_cpI hg (kx_100 (ka_3_12 p0))) (kx_100 (ka_3_13 p0))) (kx_100 (ka_3_14 p0))) p0, ?_⟩
  show K 188 [some (.inr (.inr a0)), some (.inr (.inr a1))] [.inl 6, .inl 0, .inr (.inr (a0 + 9)), .inl 0, .inr (.inr (a1 + 9))] (ia_cpI (ia_cpI (ia_cpI h (a1 + 6) (a0 + 6) 0 0 6) (a1 + 7) (a0 + 7) 0 0 6) (a1 + 8) (a0 + 8) 0 0 6)
  refine gd_cI hK (ia_tb_in (List.mem_of_getElem? (i := 977) (by decide +kernel)) rfl) dc_La_become_188 (Nat.le_of_ble_eq_true rfl) (Or.inl rfl) (gd_cpI (gd_cpI (gd_cpI hg (kx_100 (ka_3_12 p0))) (kx_100 (ka_3_13 p0))) (kx_100 (ka_3_14 p0))) (ka_3_15 p1) (ka_3_15 p0) (by decide) rfl ?_
  show K 191 [some (.inr (.inr a0)), some (.inr (.inr a1))] [] (ia_cpI (ia_cpI (ia_cpI (ia_cpI h (a1 + 6) (a0 + 6) 0 0 6) (a1 + 7) (a0 + 7) 0 0 6) (a1 + 8) (a0 + 8) 0 0 6) (a1 + 9) (a0 + 9) 0 0 6)
  refine ia_go hK ck_La_become_191 ⟨gk_3 (gd_cpI (gd_cpI (gd_cpI (gd_cpI hg (kx_100 (ka_3_12 p0))) (kx_100 (ka_3_13 p0))) (kx_100 (ka_3_14 p0))) (kx_100 (ka_3_15 p0))) p1, gr_3_16 (gd_cpI (gd_cpI (gd_cpI (gd_cpI hg (kx_100 (ka_3_12 p0))) (kx_100 (ka_3_13 p0))) (kx_100 (ka_3_14 p0))) (kx_100 (ka_3_15 p0))) p1, gk_3 (gd_cpI (gd_cpI (gd_cpI (gd_cpI hg (kx_100 (ka_3_12 p0))) (kx_100 (ka_3_13 p0))) (kx_100 (ka_3_14 p0))) (kx_100 (ka_3_15 p0))) p0, gr_3_16 (gd_cpI (gd_cpI (gd_cpI (gd_cpI hg (kx_100 (ka_3_12 p0))) (kx_100 (ka_3_13 p0))) (kx_100 (ka_3_14 p0))) (kx_100 (ka_3_15 p0))) p0, gk_3 (gd_cpI (gd_cpI (gd_cpI (gd_cpI hg (kx_100 (ka_3_12 p0))) (kx_100 (ka_3_13 p0))) (kx_100 (ka_3_14 p0))) (kx_100 (ka_3_15 p0))) p0, gr_3_16 (gd_cpI (gd_cpI (gd_cpI (gd_cpI hg (kx_100 (ka_3_12 p0))) (kx_100 (ka_3_13 p0))) (kx_100 (ka_3_14 p0))) (kx_100 (ka_3_15 p0))) p0, ga_len (gd_cpI (gd_cpI (gd_cpI (gd_cpI hg (kx_100 (ka_3_12 p0))) (kx_100 (ka_3_13 p0))) (kx_100 (ka_3_14 p0))) (kx_100 (ka_3_15 p0))) (ka_3_16 p0) ⟨by decide, by decide⟩, ?_⟩
  show K 206 [some (.inr (.inr a0)), some (.inr (.inr a1))] [.inl (Int32.ofNat (ia_k (ia_cpI (ia_cpI (ia_cpI (ia_cpI h (a1 + 6) (a0 + 6) 0 0 6) (a1 + 7) (a0 + 7) 0 0 6) (a1 + 8) (a0 + 8) 0 0 6) (a1 + 9) (a0 + 9) 0 0 6) (a0 + 10)).2), .inl 0, .inr (.inr (a0 + 10)), .inl 0, .inr (.inr (a1 + 10))] (ia_cpI (ia_cpI (ia_cpI (ia_cpI h (a1 + 6) (a0 + 6) 0 0 6) (a1 + 7) (a0 + 7) 0 0 6) (a1 + 8) (a0 + 8) 0 0 6) (a1 + 9) (a0 + 9) 0 0 6)
  rw [ga_ln (gd_cpI (gd_cpI (gd_cpI (gd_cpI hg (kx_100 (ka_3_12 p0))) (kx_100 (ka_3_13 p0))) (kx_100 (ka_3_14 p0))) (kx_100 (ka_3_15 p0))) (ka_3_16 p0) ⟨by decide, by decide⟩]
  obtain ⟨c1, hm⟩ := ia_gd_some hm
  refine gd_cI hK (ia_tb_in (List.mem_of_getElem? (i := 977) (by decide +kernel)) rfl) dc_La_become_206 (Nat.le_of_ble_eq_true rfl) (Or.inl rfl) (gd_cpI (gd_cpI (gd_cpI (gd_cpI hg (kx_100 (ka_3_12 p0))) (kx_100 (ka_3_13 p0))) (kx_100 (ka_3_14 p0))) (kx_100 (ka_3_15 p0))) (ka_3_16 p1) (ka_3_16 p0) c1 rfl ?_
  show K 209 [some (.inr (.inr a0)), some (.inr (.inr a1))] [] (ia_cpI (ia_cpI (ia_cpI (ia_cpI (ia_cpI h (a1 + 6) (a0 + 6) 0 0 6) (a1 + 7) (a0 + 7) 0 0 6) (a1 + 8) (a0 + 8) 0 0 6) (a1 + 9) (a0 + 9) 0 0 6) (a1 + 10) (a0 + 10) 0 0 ((Int32.ofNat 144).toNatClampNeg))
  refine ia_go hK ck_La_become_209 ⟨gk_3 (gd_cpI (gd_cpI (gd_cpI (gd_cpI (gd_cpI hg (kx_100 (ka_3_12 p0))) (kx_100 (ka_3_13 p0))) (kx_100 (ka_3_14 p0))) (kx_100 (ka_3_15 p0))) (kx_100 (ka_3_16 p0))) p1, gr_3_17 (gd_cpI (gd_cpI (gd_cpI (gd_cpI (gd_cpI hg (kx_100 (ka_3_12 p0))) (kx_100 (ka_3_13 p0))) (kx_100 (ka_3_14 p0))) (kx_100 (ka_3_15 p0))) (kx_100 (ka_3_16 p0))) p1, gk_3 (gd_cpI (gd_cpI (gd_cpI (gd_cpI (gd_cpI hg (kx_100 (ka_3_12 p0))) (kx_100 (ka_3_13 p0))) (kx_100 (ka_3_14 p0))) (kx_100 (ka_3_15 p0))) (kx_100 (ka_3_16 p0))) p0, gr_3_17 (gd_cpI (gd_cpI (gd_cpI (gd_cpI (gd_cpI hg (kx_100 (ka_3_12 p0))) (kx_100 (ka_3_13 p0))) (kx_100 (ka_3_14 p0))) (kx_100 (ka_3_15 p0))) (kx_100 (ka_3_16 p0))) p0, gk_3 (gd_cpI (gd_cpI (gd_cpI (gd_cpI (gd_cpI hg (kx_100 (ka_3_12 p0))) (kx_100 (ka_3_13 p0))) (kx_100 (ka_3_14 p0))) (kx_100 (ka_3_15 p0))) (kx_100 (ka_3_16 p0))) p0, gr_3_17 (gd_cpI (gd_cpI (gd_cpI (gd_cpI (gd_cpI hg (kx_100 (ka_3_12 p0))) (kx_100 (ka_3_13 p0))) (kx_100 (ka_3_14 p0))) (kx_100 (ka_3_15 p0))) (kx_100 (ka_3_16 p0))) p0, ga_len (gd_cpI (gd_cpI (gd_cpI (gd_cpI (gd_cpI hg (kx_100 (ka_3_12 p0))) (kx_100 (ka_3_13 p0))) (kx_100 (ka_3_14 p0))) (kx_100 (ka_3_15 p0))) (kx_100 (ka_3_16 p0))) (ka_3_17 p0) ⟨by decide, by decide⟩, ?_⟩
  show K 224 [some (.inr (.inr a0)), some (.inr (.inr a1))] [.inl (Int32.ofNat (ia_k (ia_cpI (ia_cpI (ia_cpI (ia_cpI (ia_cpI h (a1 + 6) (a0 + 6) 0 0 6) (a1 + 7) (a0 + 7) 0 0 6) (a1 + 8) (a0 + 8) 0 0 6) (a1 + 9) (a0 + 9) 0 0 6) (a1 + 10) (a0 + 10) 0 0 ((Int32.ofNat 144).toNatClampNeg)) (a0 + 11)).2), .inl 0, .inr (.inr (a0 + 11)), .inl 0, .inr (.inr (a1 + 11))] (ia_cpI (ia_cpI (ia_cpI (ia_cpI (ia_cpI h (a1 + 6) (a0 + 6) 0 0 6) (a1 + 7) (a0 + 7) 0 0 6) (a1 + 8) (a0 + 8) 0 0 6) (a1 + 9) (a0 + 9) 0 0 6) (a1 + 10) (a0 + 10) 0 0 ((Int32.ofNat 144).toNatClampNeg))
  rw [ga_ln (gd_cpI (gd_cpI (gd_cpI (gd_cpI (gd_cpI hg (kx_100 (ka_3_12 p0))) (kx_100 (ka_3_13 p0))) (kx_100 (ka_3_14 p0))) (kx_100 (ka_3_15 p0))) (kx_100 (ka_3_16 p0))) (ka_3_17 p0) ⟨by decide, by decide⟩]
  obtain ⟨c2, hm⟩ := ia_gd_some hm
  refine gd_cI hK (ia_tb_in (List.mem_of_getElem? (i := 977) (by decide +kernel)) rfl) dc_La_become_224 (Nat.le_of_ble_eq_true rfl) (Or.inl rfl) (gd_cpI (gd_cpI (gd_cpI (gd_cpI (gd_cpI hg (kx_100 (ka_3_12 p0))) (kx_100 (ka_3_13 p0))) (kx_100 (ka_3_14 p0))) (kx_100 (ka_3_15 p0))) (kx_100 (ka_3_16 p0))) (ka_3_17 p1) (ka_3_17 p0) c2 rfl ?_
  show K 227 [some (.inr (.inr a0)), some (.inr (.inr a1))] [] (ia_cpI (ia_cpI (ia_cpI (ia_cpI (ia_cpI (ia_cpI h (a1 + 6) (a0 + 6) 0 0 6) (a1 + 7) (a0 + 7) 0 0 6) (a1 + 8) (a0 + 8) 0 0 6) (a1 + 9) (a0 + 9) 0 0 6) (a1 + 10) (a0 + 10) 0 0 ((Int32.ofNat 144).toNatClampNeg)) (a1 + 11) (a0 + 11) 0 0 ((Int32.ofNat 144).toNatClampNeg))
  obtain rfl := Option.some.inj hm
  exact hret 227 _ dc_La_become_227
theorem gj_La_become_131 {w : ia_O0} {a0 : Nat} {a1 : Nat} (p0 : (kd_D a0).1 = 3) (p1 : (kd_D a1).1 = 3) {h1 : ia_H} : ∀ (h : ia_H), gd_ w h → j_La_become_131 a0 a1 h = some h1 → gd_ w h1 := by
  intro h hg hm
  unfold j_La_become_131 at hm
  obtain ⟨c1, hm⟩ := ia_gd_some hm
  obtain ⟨c2, hm⟩ := ia_gd_some hm
  obtain rfl := Option.some.inj hm
  exact (gd_cpI (gd_cpI (gd_cpI (gd_cpI (gd_cpI (gd_cpI hg (kx_100 (ka_3_12 p0))) (kx_100 (ka_3_13 p0))) (kx_100 (ka_3_14 p0))) (kx_100 (ka_3_15 p0))) (kx_100 (ka_3_16 p0))) (kx_100 (ka_3_17 p0)))
def j_La_become_84 (a0 : Nat) (a1 : Nat) (h : ia_H) : Option ia_H := j_La_become_131 a0 a1 (ia_wI (ia_wI (ia_cpI (ia_wL (ia_wL h a0 7 (ia_l h a1 7)) a0 8 (ia_l (ia_wL h a0 7 (ia_l h a1 7)) a1 8)) (a1 + 5) (a0 + 5) 0 0 12) a0 10 (ia_i (ia_cpI (ia_wL (ia_wL h a0 7 (ia_l h a1 7)) a0 8 (ia_l (ia_wL h a0 7 (ia_l h a1 7)) a1 8)) (a1 + 5) (a0 + 5) 0 0 12) a1 10)) a0 11 (ia_i (ia_wI (ia_cpI (ia_wL (ia_wL h a0 7 (ia_l h a1 7)) a0 8 (ia_l (ia_wL h a0 7 (ia_l h a1 7)) a1 8)) (a1 + 5) (a0 + 5) 0 0 12) a0 10 (ia_i (ia_cpI (ia_wL (ia_wL h a0 7 (ia_l h a1 7)) a0 8 (ia_l (ia_wL h a0 7 (ia_l h a1 7)) a1 8)) (a1 + 5) (a0 + 5) 0 0 12) a1 10)) a1 11))
theorem tj_La_become_84 {w : ia_O0} {d N1 W1 : Nat} {K : ia_K} (hK : ia_isK (d + 0) mm_La_become N1 W1 K) {a0 : Nat} {a1 : Nat} (p0 : (kd_D a0).1 = 3) (p1 : (kd_D a1).1 = 3) {h1 : ia_H} (hret : ∀ (pc : Nat) (lv : ia_L), ia_ret mm_La_become pc none → K pc lv (none : Option ia_V).toList h1) : ∀ (h : ia_H), gd_ w h → j_La_become_84 a0 a1 h = some h1 → K 84 [some (.inr (.inr a0)), some (.inr (.inr a1))] [] h := by
  intro h hg hm
  unfold j_La_become_84 at hm
  refine ia_go hK ck_La_become_84 ⟨gk_3 hg p1, gk_3 hg p0, gk_3 (gd_wL hg) p1, gk_3 (gd_wL hg) p0, gk_3 (gd_wL (gd_wL hg)) p1, gr_3_9 (gd_wL (gd_wL hg)) p1, gk_3 (gd_wL (gd_wL hg)) p0, gr_3_9 (gd_wL (gd_wL hg)) p0, ?_⟩
  show K 112 [some (.inr (.inr a0)), some (.inr (.inr a1))] [.inl 12, .inl 0, .inr (.inr (a0 + 5)), .inl 0, .inr (.inr (a1 + 5))] (ia_wL (ia_wL h a0 7 (ia_l h a1 7)) a0 8 (ia_l (ia_wL h a0 7 (ia_l h a1 7)) a1 8))
  refine gd_cI hK (ia_tb_in (List.mem_of_getElem? (i := 977) (by decide +kernel)) rfl) dc_La_become_112 (Nat.le_of_ble_eq_true rfl) (Or.inl rfl) (gd_wL (gd_wL hg)) (ka_3_9 p1) (ka_3_9 p0) (by decide) rfl ?_
  show K 115 [some (.inr (.inr a0)), some (.inr (.inr a1))] [] (ia_cpI (ia_wL (ia_wL h a0 7 (ia_l h a1 7)) a0 8 (ia_l (ia_wL h a0 7 (ia_l h a1 7)) a1 8)) (a1 + 5) (a0 + 5) 0 0 12)
  refine ia_go hK ck_La_become_115 ⟨gk_3 (gd_cpI (gd_wL (gd_wL hg)) (kx_100 (ka_3_9 p0))) p1, gk_3 (gd_cpI (gd_wL (gd_wL hg)) (kx_100 (ka_3_9 p0))) p0, gk_3 (gd_wI (gd_cpI (gd_wL (gd_wL hg)) (kx_100 (ka_3_9 p0))) (ko_3 p0)) p1, gk_3 (gd_wI (gd_cpI (gd_wL (gd_wL hg)) (kx_100 (ka_3_9 p0))) (ko_3 p0)) p0, ?_⟩
  show K 131 [some (.inr (.inr a0)), some (.inr (.inr a1))] [] (ia_wI (ia_wI (ia_cpI (ia_wL (ia_wL h a0 7 (ia_l h a1 7)) a0 8 (ia_l (ia_wL h a0 7 (ia_l h a1 7)) a1 8)) (a1 + 5) (a0 + 5) 0 0 12) a0 10 (ia_i (ia_cpI (ia_wL (ia_wL h a0 7 (ia_l h a1 7)) a0 8 (ia_l (ia_wL h a0 7 (ia_l h a1 7)) a1 8)) (a1 + 5) (a0 + 5) 0 0 12) a1 10)) a0 11 (ia_i (ia_wI (ia_cpI (ia_wL (ia_wL h a0 7 (ia_l h a1 7)) a0 8 (ia_l (ia_wL h a0 7 (ia_l h a1 7)) a1 8)) (a1 + 5) (a0 + 5) 0 0 12) a0 10 (ia_i (ia_cpI (ia_wL (ia_wL h a0 7 (ia_l h a1 7)) a0 8 (ia_l (ia_wL h a0 7 (ia_l h a1 7)) a1 8)) (a1 + 5) (a0 + 5) 0 0 12) a1 10)) a1 11))
  exact tj_La_become_131 hK p0 p1 hret (ia_wI (ia_wI (ia_cpI (ia_wL (ia_wL h a0 7 (ia_l h a1 7)) a0 8 (ia_l (ia_wL h a0 7 (ia_l h a1 7)) a1 8)) (a1 + 5) (a0 + 5) 0 0 12) a0 10 (ia_i (ia_cpI (ia_wL (ia_wL h a0 7 (ia_l h a1 7)) a0 8 (ia_l (ia_wL h a0 7 (ia_l h a1 7)) a1 8)) (a1 + 5) (a0 + 5) 0 0 12) a1 10)) a0 11 (ia_i (ia_wI (ia_cpI (ia_wL (ia_wL h a0 7 (ia_l h a1 7)) a0 8 (ia_l (ia_wL h a0 7 (ia_l h a1 7)) a1 8)) (a1 + 5) (a0 + 5) 0 0 12) a0 10 (ia_i (ia_cpI (ia_wL (ia_wL h a0 7 (ia_l h a1 7)) a0 8 (ia_l (ia_wL h a0 7 (ia_l h a1 7)) a1 8)) (a1 + 5) (a0 + 5) 0 0 12) a1 10)) a1 11)) (gd_wI (gd_wI (gd_cpI (gd_wL (gd_wL hg)) (kx_100 (ka_3_9 p0))) (ko_3 p0)) (ko_3 p0)) hm
theorem gj_La_become_84 {w : ia_O0} {a0 : Nat} {a1 : Nat} (p0 : (kd_D a0).1 = 3) (p1 : (kd_D a1).1 = 3) {h1 : ia_H} : ∀ (h : ia_H), gd_ w h → j_La_become_84 a0 a1 h = some h1 → gd_ w h1 := by
  intro h hg hm
  unfold j_La_become_84 at hm
  exact gj_La_become_131 p0 p1 (ia_wI (ia_wI (ia_cpI (ia_wL (ia_wL h a0 7 (ia_l h a1 7)) a0 8 (ia_l (ia_wL h a0 7 (ia_l h a1 7)) a1 8)) (a1 + 5) (a0 + 5) 0 0 12) a0 10 (ia_i (ia_cpI (ia_wL (ia_wL h a0 7 (ia_l h a1 7)) a0 8 (ia_l (ia_wL h a0 7 (ia_l h a1 7)) a1 8)) (a1 + 5) (a0 + 5) 0 0 12) a1 10)) a0 11 (ia_i (ia_wI (ia_cpI (ia_wL (ia_wL h a0 7 (ia_l h a1 7)) a0 8 (ia_l (ia_wL h a0 7 (ia_l h a1 7)) a1 8)) (a1 + 5) (a0 + 5) 0 0 12) a0 10 (ia_i (ia_cpI (ia_wL (ia_wL h a0 7 (ia_l h a1 7)) a0 8 (ia_l (ia_wL h a0 7 (ia_l h a1 7)) a1 8)) (a1 + 5) (a0 + 5) 0 0 12) a1 10)) a1 11)) (gd_wI (gd_wI (gd_cpI (gd_wL (gd_wL hg)) (kx_100 (ka_3_9 p0))) (ko_3 p0)) (ko_3 p0)) hm
def f_La_become (a0 : Nat) (a1 : Nat) (h : ia_H) : Option ia_H := j_La_become_84 a0 a1 (ia_cpL (ia_cpI (ia_cpI (ia_cpI (ia_wI (ia_wI (ia_wI h a0 0 (ia_i h a1 0)) a0 1 (ia_i (ia_wI h a0 0 (ia_i h a1 0)) a1 1)) a0 2 (ia_i (ia_wI (ia_wI h a0 0 (ia_i h a1 0)) a0 1 (ia_i (ia_wI h a0 0 (ia_i h a1 0)) a1 1)) a1 2)) (a1 + 1) (a0 + 1) 0 0 36) (a1 + 2) (a0 + 2) 0 0 36) (a1 + 3) (a0 + 3) 0 0 36) (a1 + 4) (a0 + 4) 0 0 36)
theorem g_La_become {w : ia_O0} {a0 : Nat} {a1 : Nat} {h : ia_H} (hg : gd_ w h) (p0 : (kd_D a0).1 = 3) (p1 : (kd_D a1).1 = 3) {q : ia_H} (hm : f_La_become a0 a1 h = some q) : gd_ w q := by
  obtain ⟨h1, e1⟩ : ∃ x, x = q := ⟨_, rfl⟩
  subst e1
  unfold f_La_become at hm
  exact gj_La_become_84 p0 p1 (ia_cpL (ia_cpI (ia_cpI (ia_cpI (ia_wI (ia_wI (ia_wI h a0 0 (ia_i h a1 0)) a0 1 (ia_i (ia_wI h a0 0 (ia_i h a1 0)) a1 1)) a0 2 (ia_i (ia_wI (ia_wI h a0 0 (ia_i h a1 0)) a0 1 (ia_i (ia_wI h a0 0 (ia_i h a1 0)) a1 1)) a1 2)) (a1 + 1) (a0 + 1) 0 0 36) (a1 + 2) (a0 + 2) 0 0 36) (a1 + 3) (a0 + 3) 0 0 36) (a1 + 4) (a0 + 4) 0 0 36) (gd_cpL (gd_cpI (gd_cpI (gd_cpI (gd_wI (gd_wI (gd_wI hg (ko_3 p0)) (ko_3 p0)) (ko_3 p0)) (kx_100 (ka_3_3 p0))) (kx_100 (ka_3_4 p0))) (kx_100 (ka_3_5 p0)))) hm
theorem t_La_become {w : ia_O0} (d : Nat) {a0 : Nat} {a1 : Nat} {h : ia_H} (hg : gd_ w h) (p0 : (kd_D a0).1 = 3) (p1 : (kd_D a1).1 = 3) {q : ia_H} (hm : f_La_become a0 a1 h = some q) : ia_Ev (d + 0) mm_La_become [.inr (.inr a0), .inr (.inr a1)] h none q := by
  have gq := g_La_become hg p0 p1 hm
  refine ia_Ev_intro ok_La_become (gd_le hg gq).1 (gd_le hg gq).2 (Nat.le_of_ble_eq_true rfl) (fun K hK hret => ?_)
  obtain ⟨h1, e1⟩ : ∃ x, x = q := ⟨_, rfl⟩
  subst e1
  show K 0 [some (.inr (.inr a0)), some (.inr (.inr a1))] [] h
  unfold f_La_become at hm
  refine ia_go hK ck_La_become_0 ⟨gk_3 hg p1, gk_3 hg p0, gk_3 (gd_wI hg (ko_3 p0)) p1, gk_3 (gd_wI hg (ko_3 p0)) p0, gk_3 (gd_wI (gd_wI hg (ko_3 p0)) (ko_3 p0)) p1, gk_3 (gd_wI (gd_wI hg (ko_3 p0)) (ko_3 p0)) p0, gk_3 (gd_wI (gd_wI (gd_wI hg (ko_3 p0)) (ko_3 p0)) (ko_3 p0)) p1, gr_3_3 (gd_wI (gd_wI (gd_wI hg (ko_3 p0)) (ko_3 p0)) (ko_3 p0)) p1, gk_3 (gd_wI (gd_wI (gd_wI hg (ko_3 p0)) (ko_3 p0)) (ko_3 p0)) p0, gr_3_3 (gd_wI (gd_wI (gd_wI hg (ko_3 p0)) (ko_3 p0)) (ko_3 p0)) p0, ?_⟩
  show K 36 [some (.inr (.inr a0)), some (.inr (.inr a1))] [.inl 36, .inl 0, .inr (.inr (a0 + 1)), .inl 0, .inr (.inr (a1 + 1))] (ia_wI (ia_wI (ia_wI h a0 0 (ia_i h a1 0)) a0 1 (ia_i (ia_wI h a0 0 (ia_i h a1 0)) a1 1)) a0 2 (ia_i (ia_wI (ia_wI h a0 0 (ia_i h a1 0)) a0 1 (ia_i (ia_wI h a0 0 (ia_i h a1 0)) a1 1)) a1 2))
  refine gd_cI hK (ia_tb_in (List.mem_of_getElem? (i := 977) (by decide +kernel)) rfl) dc_La_become_36 (Nat.le_of_ble_eq_true rfl) (Or.inl rfl) (gd_wI (gd_wI (gd_wI hg (ko_3 p0)) (ko_3 p0)) (ko_3 p0)) (ka_3_3 p1) (ka_3_3 p0) (by decide) rfl ?_
  show K 39 [some (.inr (.inr a0)), some (.inr (.inr a1))] [] (ia_cpI (ia_wI (ia_wI (ia_wI h a0 0 (ia_i h a1 0)) a0 1 (ia_i (ia_wI h a0 0 (ia_i h a1 0)) a1 1)) a0 2 (ia_i (ia_wI (ia_wI h a0 0 (ia_i h a1 0)) a0 1 (ia_i (ia_wI h a0 0 (ia_i h a1 0)) a1 1)) a1 2)) (a1 + 1) (a0 + 1) 0 0 36)
  refine ia_go hK ck_La_become_39 ⟨gk_3 (gd_cpI (gd_wI (gd_wI (gd_wI hg (ko_3 p0)) (ko_3 p0)) (ko_3 p0)) (kx_100 (ka_3_3 p0))) p1, gr_3_4 (gd_cpI (gd_wI (gd_wI (gd_wI hg (ko_3 p0)) (ko_3 p0)) (ko_3 p0)) (kx_100 (ka_3_3 p0))) p1, gk_3 (gd_cpI (gd_wI (gd_wI (gd_wI hg (ko_3 p0)) (ko_3 p0)) (ko_3 p0)) (kx_100 (ka_3_3 p0))) p0, gr_3_4 (gd_cpI (gd_wI (gd_wI (gd_wI hg (ko_3 p0)) (ko_3 p0)) (ko_3 p0)) (kx_100 (ka_3_3 p0))) p0, ?_⟩
  show K 51 [some (.inr (.inr a0)), some (.inr (.inr a1))] [.inl 36, .inl 0, .inr (.inr (a0 + 2)), .inl 0, .inr (.inr (a1 + 2))] (ia_cpI (ia_wI (ia_wI (ia_wI h a0 0 (ia_i h a1 0)) a0 1 (ia_i (ia_wI h a0 0 (ia_i h a1 0)) a1 1)) a0 2 (ia_i (ia_wI (ia_wI h a0 0 (ia_i h a1 0)) a0 1 (ia_i (ia_wI h a0 0 (ia_i h a1 0)) a1 1)) a1 2)) (a1 + 1) (a0 + 1) 0 0 36)
  refine gd_cI hK (ia_tb_in (List.mem_of_getElem? (i := 977) (by decide +kernel)) rfl) dc_La_become_51 (Nat.le_of_ble_eq_true rfl) (Or.inl rfl) (gd_cpI (gd_wI (gd_wI (gd_wI hg (ko_3 p0)) (ko_3 p0)) (ko_3 p0)) (kx_100 (ka_3_3 p0))) (ka_3_4 p1) (ka_3_4 p0) (by decide) rfl ?_
  show K 54 [some (.inr (.inr a0)), some (.inr (.inr a1))] [] (ia_cpI (ia_cpI (ia_wI (ia_wI (ia_wI h a0 0 (ia_i h a1 0)) a0 1 (ia_i (ia_wI h a0 0 (ia_i h a1 0)) a1 1)) a0 2 (ia_i (ia_wI (ia_wI h a0 0 (ia_i h a1 0)) a0 1 (ia_i (ia_wI h a0 0 (ia_i h a1 0)) a1 1)) a1 2)) (a1 + 1) (a0 + 1) 0 0 36) (a1 + 2) (a0 + 2) 0 0 36)
  refine ia_go hK ck_La_become_54 ⟨gk_3 (gd_cpI (gd_cpI (gd_wI (gd_wI (gd_wI hg (ko_3 p0)) (ko_3 p0)) (ko_3 p0)) (kx_100 (ka_3_3 p0))) (kx_100 (ka_3_4 p0))) p1, gr_3_5 (gd_cpI (gd_cpI (gd_wI (gd_wI (gd_wI hg (ko_3 p0)) (ko_3 p0)) (ko_3 p0)) (kx_100 (ka_3_3 p0))) (kx_100 (ka_3_4 p0))) p1, gk_3 (gd_cpI (gd_cpI (gd_wI (gd_wI (gd_wI hg (ko_3 p0)) (ko_3 p0)) (ko_3 p0)) (kx_100 (ka_3_3 p0))) (kx_100 (ka_3_4 p0))) p0, gr_3_5 (gd_cpI (gd_cpI (gd_wI (gd_wI (gd_wI hg (ko_3 p0)) (ko_3 p0)) (ko_3 p0)) (kx_100 (ka_3_3 p0))) (kx_100 (ka_3_4 p0))) p0, ?_⟩
  show K 66 [some (.inr (.inr a0)), some (.inr (.inr a1))] [.inl 36, .inl 0, .inr (.inr (a0 + 3)), .inl 0, .inr (.inr (a1 + 3))] (ia_cpI (ia_cpI (ia_wI (ia_wI (ia_wI h a0 0 (ia_i h a1 0)) a0 1 (ia_i (ia_wI h a0 0 (ia_i h a1 0)) a1 1)) a0 2 (ia_i (ia_wI (ia_wI h a0 0 (ia_i h a1 0)) a0 1 (ia_i (ia_wI h a0 0 (ia_i h a1 0)) a1 1)) a1 2)) (a1 + 1) (a0 + 1) 0 0 36) (a1 + 2) (a0 + 2) 0 0 36)
  refine gd_cI hK (ia_tb_in (List.mem_of_getElem? (i := 977) (by decide +kernel)) rfl) dc_La_become_66 (Nat.le_of_ble_eq_true rfl) (Or.inl rfl) (gd_cpI (gd_cpI (gd_wI (gd_wI (gd_wI hg (ko_3 p0)) (ko_3 p0)) (ko_3 p0)) (kx_100 (ka_3_3 p0))) (kx_100 (ka_3_4 p0))) (ka_3_5 p1) (ka_3_5 p0) (by decide) rfl ?_
  show K 69 [some (.inr (.inr a0)), some (.inr (.inr a1))] [] (ia_cpI (ia_cpI (ia_cpI (ia_wI (ia_wI (ia_wI h a0 0 (ia_i h a1 0)) a0 1 (ia_i (ia_wI h a0 0 (ia_i h a1 0)) a1 1)) a0 2 (ia_i (ia_wI (ia_wI h a0 0 (ia_i h a1 0)) a0 1 (ia_i (ia_wI h a0 0 (ia_i h a1 0)) a1 1)) a1 2)) (a1 + 1) (a0 + 1) 0 0 36) (a1 + 2) (a0 + 2) 0 0 36) (a1 + 3) (a0 + 3) 0 0 36)
  refine ia_go hK ck_La_become_69 ⟨gk_3 (gd_cpI (gd_cpI (gd_cpI (gd_wI (gd_wI (gd_wI hg (ko_3 p0)) (ko_3 p0)) (ko_3 p0)) (kx_100 (ka_3_3 p0))) (kx_100 (ka_3_4 p0))) (kx_100 (ka_3_5 p0))) p1, gr_3_6 (gd_cpI (gd_cpI (gd_cpI (gd_wI (gd_wI (gd_wI hg (ko_3 p0)) (ko_3 p0)) (ko_3 p0)) (kx_100 (ka_3_3 p0))) (kx_100 (ka_3_4 p0))) (kx_100 (ka_3_5 p0))) p1, gk_3 (gd_cpI (gd_cpI (gd_cpI (gd_wI (gd_wI (gd_wI hg (ko_3 p0)) (ko_3 p0)) (ko_3 p0)) (kx_100 (ka_3_3 p0))) (kx_100 (ka_3_4 p0))) (kx_100 (ka_3_5 p0))) p0, gr_3_6 (gd_cpI (gd_cpI (gd_cpI (gd_wI (gd_wI (gd_wI hg (ko_3 p0)) (ko_3 p0)) (ko_3 p0)) (kx_100 (ka_3_3 p0))) (kx_100 (ka_3_4 p0))) (kx_100 (ka_3_5 p0))) p0, ?_⟩
  show K 81 [some (.inr (.inr a0)), some (.inr (.inr a1))] [.inl 36, .inl 0, .inr (.inr (a0 + 4)), .inl 0, .inr (.inr (a1 + 4))] (ia_cpI (ia_cpI (ia_cpI (ia_wI (ia_wI (ia_wI h a0 0 (ia_i h a1 0)) a0 1 (ia_i (ia_wI h a0 0 (ia_i h a1 0)) a1 1)) a0 2 (ia_i (ia_wI (ia_wI h a0 0 (ia_i h a1 0)) a0 1 (ia_i (ia_wI h a0 0 (ia_i h a1 0)) a1 1)) a1 2)) (a1 + 1) (a0 + 1) 0 0 36) (a1 + 2) (a0 + 2) 0 0 36) (a1 + 3) (a0 + 3) 0 0 36)
  refine gd_cL hK (ia_tb_in (List.mem_of_getElem? (i := 977) (by decide +kernel)) rfl) dc_La_become_81 (Nat.le_of_ble_eq_true rfl) (gd_cpI (gd_cpI (gd_cpI (gd_wI (gd_wI (gd_wI hg (ko_3 p0)) (ko_3 p0)) (ko_3 p0)) (kx_100 (ka_3_3 p0))) (kx_100 (ka_3_4 p0))) (kx_100 (ka_3_5 p0))) (ka_3_6 p1) (ka_3_6 p0) (by decide) ?_
  show K 84 [some (.inr (.inr a0)), some (.inr (.inr a1))] [] (ia_cpL (ia_cpI (ia_cpI (ia_cpI (ia_wI (ia_wI (ia_wI h a0 0 (ia_i h a1 0)) a0 1 (ia_i (ia_wI h a0 0 (ia_i h a1 0)) a1 1)) a0 2 (ia_i (ia_wI (ia_wI h a0 0 (ia_i h a1 0)) a0 1 (ia_i (ia_wI h a0 0 (ia_i h a1 0)) a1 1)) a1 2)) (a1 + 1) (a0 + 1) 0 0 36) (a1 + 2) (a0 + 2) 0 0 36) (a1 + 3) (a0 + 3) 0 0 36) (a1 + 4) (a0 + 4) 0 0 36)
  exact tj_La_become_84 hK p0 p1 hret (ia_cpL (ia_cpI (ia_cpI (ia_cpI (ia_wI (ia_wI (ia_wI h a0 0 (ia_i h a1 0)) a0 1 (ia_i (ia_wI h a0 0 (ia_i h a1 0)) a1 1)) a0 2 (ia_i (ia_wI (ia_wI h a0 0 (ia_i h a1 0)) a0 1 (ia_i (ia_wI h a0 0 (ia_i h a1 0)) a1 1)) a1 2)) (a1 + 1) (a0 + 1) 0 0 36) (a1 + 2) (a0 + 2) 0 0 36) (a1 + 3) (a0 + 3) 0 0 36) (a1 + 4) (a0 + 4) 0 0 36) (gd_cpL (gd_cpI (gd_cpI (gd_cpI (gd_wI (gd_wI (gd_wI hg (ko_3 p0)) (ko_3 p0)) (ko_3 p0)) (kx_100 (ka_3_3 p0))) (kx_100 (ka_3_4 p0))) (kx_100 (ka_3_5 p0)))) hm
