def mm_Sc_shift : ia_M := (⟨"IceStreet$Scene", "shift", "(II)V"⟩, prog_10_method_9_code, 3, none, 9, false)
theorem ok_Sc_shift : ia_mok mm_Sc_shift := ⟨by decide +kernel, by decide +kernel, by decide +kernel, by decide +kernel⟩
theorem mk_Sc_shift : ia_mkn mm_Sc_shift 1 2 := ⟨ia_tb_in (List.mem_of_getElem? (i := 1142) (by decide +kernel)) rfl, ia_tb_in (List.mem_of_getElem? (i := 140) (by decide +kernel)) rfl, by decide +kernel, by decide +kernel, ⟨ia_tb_in (List.mem_of_getElem? (i := 1140) (by decide +kernel)) rfl, ia_tb_in (List.mem_of_getElem? (i := 1141) (by decide +kernel)) rfl⟩⟩
theorem ck_Sc_shift_0 : ia_cks 9 3 false prog_10_method_9_code 0 [(.aload_n 0, 0, 0, 0, 0), (.iload_n 1, 0, 0, 0, 0), (.iconst (-1), 0, 0, 0, 0)] = true := by decide +kernel
theorem ck_Sc_shift_6 : ia_cks 9 3 false prog_10_method_9_code 6 [(.aload_n 0, 0, 0, 0, 0), (.iload_n 1, 0, 0, 0, 0), (.iload_n 2, 0, 0, 0, 0)] = true := by decide +kernel
theorem ck_Sc_shift_12 : ia_cks 9 3 false prog_10_method_9_code 12 [(.aload_n 0, 0, 0, 0, 0)] = true := by decide +kernel
theorem dc_Sc_shift_3 : decode prog_10_method_9_code 3 = .ok (.invokevirtual 95, 3) := by decide +kernel
theorem dc_Sc_shift_9 : decode prog_10_method_9_code 9 = .ok (.invokevirtual 72, 3) := by decide +kernel
theorem dc_Sc_shift_13 : decode prog_10_method_9_code 13 = .ok (.invokevirtual 76, 3) := by decide +kernel
theorem dc_Sc_shift_16 : decode prog_10_method_9_code 16 = .ok (.return_, 1) := by decide +kernel
def f_Sc_shift (a0 : Nat) (x1 : Int32) (x2 : Int32) (h : ia_H) : Option ia_H := (f_Sc_lift a0 x1 (-1) h).bind fun v1 => ((f_Sc_lower a0 x1 x2 v1).bind fun v2 => ((f_Sc_settle a0 v2).bind fun v3 => (some v3)))
theorem g_Sc_shift {w : ia_O0} {a0 : Nat} {x1 : Int32} {x2 : Int32} {h : ia_H} (hg : gd_ w h) (p0 : (kd_D a0).1 = 9) {q : ia_H} (hm : f_Sc_shift a0 x1 x2 h = some q) : gd_ w q := by
  obtain ⟨h1, e1⟩ : ∃ x, x = q := ⟨_, rfl⟩
  subst e1
  unfold f_Sc_shift at hm
  obtain ⟨v1, hv1, hm⟩ := ia_bnd hm
  have gv1 := g_Sc_lift hg p0 hv1
  obtain ⟨v2, hv2, hm⟩ := ia_bnd hm
  have gv2 := g_Sc_lower gv1 p0 hv2
  obtain ⟨v3, hv3, hm⟩ := ia_bnd hm
  have gv3 := g_Sc_settle gv2 p0 hv3
  obtain rfl := Option.some.inj hm
  exact gv3
theorem t_Sc_shift {w : ia_O0} (d : Nat) {a0 : Nat} {x1 : Int32} {x2 : Int32} {h : ia_H} (hg : gd_ w h) (p0 : (kd_D a0).1 = 9) {q : ia_H} (hm : f_Sc_shift a0 x1 x2 h = some q) : ia_Ev (d + 3) mm_Sc_shift [.inr (.inr a0), .inl x1, .inl x2] h none q := by
  have gq := g_Sc_shift hg p0 hm
  refine ia_Ev_intro ok_Sc_shift (gd_le hg gq).1 (gd_le hg gq).2 (Nat.le_of_ble_eq_true rfl) (fun K hK hret => ?_)
  obtain ⟨h1, e1⟩ : ∃ x, x = q := ⟨_, rfl⟩
  subst e1
  show K 0 [some (.inr (.inr a0)), some (.inl x1), some (.inl x2)] [] h
  unfold f_Sc_shift at hm
  refine ia_go hK ck_Sc_shift_0 ?_
  show K 3 [some (.inr (.inr a0)), some (.inl x1), some (.inl x2)] [.inl (-1), .inl x1, .inr (.inr a0)] h
  obtain ⟨v1, hv1, hm⟩ := ia_bnd hm
  have ev1 := t_Sc_lift (d + 1) hg p0 hv1
  have gv1 := g_Sc_lift hg p0 hv1
  refine ia_cV hK mk_Sc_lift lk_9_95 dc_Sc_shift_3 a0 [.inl x1, .inl (-1)] [] rfl rfl (Nat.le_of_ble_eq_true rfl) (by decide) rfl (gk_9 hg p0) ev1 (gd_nm hg gv1) ?_
  show K 6 [some (.inr (.inr a0)), some (.inl x1), some (.inl x2)] [] v1
  refine ia_go hK ck_Sc_shift_6 ?_
  show K 9 [some (.inr (.inr a0)), some (.inl x1), some (.inl x2)] [.inl x2, .inl x1, .inr (.inr a0)] v1
  obtain ⟨v2, hv2, hm⟩ := ia_bnd hm
  have ev2 := t_Sc_lower (d + 1) gv1 p0 hv2
  have gv2 := g_Sc_lower gv1 p0 hv2
  refine ia_cV hK mk_Sc_lower lk_9_72 dc_Sc_shift_9 a0 [.inl x1, .inl x2] [] rfl rfl (Nat.le_of_ble_eq_true rfl) (by decide) rfl (gk_9 gv1 p0) ev2 (gd_nm gv1 gv2) ?_
  show K 12 [some (.inr (.inr a0)), some (.inl x1), some (.inl x2)] [] v2
  refine ia_go hK ck_Sc_shift_12 ?_
  show K 13 [some (.inr (.inr a0)), some (.inl x1), some (.inl x2)] [.inr (.inr a0)] v2
  obtain ⟨v3, hv3, hm⟩ := ia_bnd hm
  have ev3 := t_Sc_settle (d + 0) gv2 p0 hv3
  have gv3 := g_Sc_settle gv2 p0 hv3
  refine ia_cV hK mk_Sc_settle lk_9_76 dc_Sc_shift_13 a0 [] [] rfl rfl (Nat.le_of_ble_eq_true rfl) (by decide) rfl (gk_9 gv2 p0) ev3 (gd_nm gv2 gv3) ?_
  show K 16 [some (.inr (.inr a0)), some (.inl x1), some (.inl x2)] [] v3
  obtain rfl := Option.some.inj hm
  exact hret 16 _ dc_Sc_shift_16
def mm_De_moveShop : ia_M := (⟨"IceStreet$Deeds", "moveShop", "(LIceStreet$Scene;II)Z"⟩, prog_2_method_3_code, 4, (some .boolean), 1, false)
theorem ok_De_moveShop : ia_mok mm_De_moveShop := ⟨by decide +kernel, by decide +kernel, by decide +kernel, by decide +kernel⟩
theorem mk_De_moveShop : ia_mkn mm_De_moveShop 1 3 := ⟨ia_tb_in (List.mem_of_getElem? (i := 1100) (by decide +kernel)) rfl, ia_tb_in (List.mem_of_getElem? (i := 142) (by decide +kernel)) rfl, by decide +kernel, by decide +kernel, ⟨ia_tb_in (List.mem_of_getElem? (i := 1099) (by decide +kernel)) rfl, ia_tb_in (List.mem_of_getElem? (i := 25) (by decide +kernel)) rfl⟩⟩
theorem ck_De_moveShop_0 : ia_cks 1 4 false prog_2_method_3_code 0 [(.aload_n 1, 0, 0, 0, 0), (.iload_n 2, 0, 0, 0, 0)] = true := by decide +kernel
theorem ck_De_moveShop_5 : ia_cks 1 4 false prog_2_method_3_code 5 [(.ifCond .eq 30, 0, 0, 0, 0)] = true := by decide +kernel
theorem ck_De_moveShop_35 : ia_cks 1 4 false prog_2_method_3_code 35 [(.iconst 0, 0, 0, 0, 0)] = true := by decide +kernel
theorem ck_De_moveShop_8 : ia_cks 1 4 false prog_2_method_3_code 8 [(.aload_n 1, 0, 0, 0, 0), (.getfield 59, 9, 0, 2, 0), (.iload_n 3, 0, 0, 0, 0)] = true := by decide +kernel
theorem ck_De_moveShop_16 : ia_cks 1 4 false prog_2_method_3_code 16 [(.ifCond .eq 19, 0, 0, 0, 0)] = true := by decide +kernel
theorem ck_De_moveShop_19 : ia_cks 1 4 false prog_2_method_3_code 19 [(.aload_n 0, 0, 0, 0, 0), (.getfield 9, 1, 0, 4, 311), (.aload_n 1, 0, 0, 0, 0), (.iload_n 2, 0, 0, 0, 0)] = true := by decide +kernel
theorem ck_De_moveShop_28 : ia_cks 1 4 false prog_2_method_3_code 28 [(.iload_n 3, 0, 0, 0, 0)] = true := by decide +kernel
theorem ck_De_moveShop_32 : ia_cks 1 4 false prog_2_method_3_code 32 [(.ifCond .ne 5, 0, 0, 0, 0)] = true := by decide +kernel
theorem ck_De_moveShop_37 : ia_cks 1 4 false prog_2_method_3_code 37 [(.aload_n 1, 0, 0, 0, 0), (.iload_n 2, 0, 0, 0, 0), (.iload_n 3, 0, 0, 0, 0)] = true := by decide +kernel
theorem ck_De_moveShop_43 : ia_cks 1 4 false prog_2_method_3_code 43 [(.iconst 1, 0, 0, 0, 0)] = true := by decide +kernel
theorem dc_De_moveShop_2 : decode prog_2_method_3_code 2 = .ok (.invokevirtual 55, 3) := by decide +kernel
theorem dc_De_moveShop_36 : decode prog_2_method_3_code 36 = .ok (.ireturn, 1) := by decide +kernel
theorem dc_De_moveShop_13 : decode prog_2_method_3_code 13 = .ok (.invokevirtual 63, 3) := by decide +kernel
theorem dc_De_moveShop_25 : decode prog_2_method_3_code 25 = .ok (.invokevirtual 68, 3) := by decide +kernel
theorem dc_De_moveShop_29 : decode prog_2_method_3_code 29 = .ok (.invokestatic 74, 3) := by decide +kernel
theorem dc_De_moveShop_40 : decode prog_2_method_3_code 40 = .ok (.invokevirtual 78, 3) := by decide +kernel
theorem dc_De_moveShop_44 : decode prog_2_method_3_code 44 = .ok (.ireturn, 1) := by decide +kernel
def f_De_moveShop (a1 : Nat) (x2 : Int32) (x3 : Int32) (h : ia_H) : Option (Int32 × ia_H) := (f_Sc_stands a1 x2 h).bind fun v1 => (if v1 = 0 then (some (0, h)) else ((f_La_isCell (ia_r h a1 0) x3 h).bind fun v2 => (if v2 = 0 then (some (0, h)) else ((f_Wa_movesOf a1 x2 h).bind fun v3 => ((f_I_hasBit v3.1 x3 v3.2).bind fun v4 => (if v4 = 0 then (some (0, v3.2)) else ((f_Sc_shift a1 x2 x3 v3.2).bind fun v5 => (some (1, v5)))))))))
theorem g_De_moveShop {w : ia_O0} {a1 : Nat} {x2 : Int32} {x3 : Int32} {h : ia_H} (hg : gd_ w h) (p1 : (kd_D a1).1 = 9) {q : (Int32 × ia_H)} (hm : f_De_moveShop a1 x2 x3 h = some q) : gd_ w q.2 := by
  obtain ⟨r, h1⟩ := q
  unfold f_De_moveShop at hm
  obtain ⟨v1, hv1, hm⟩ := ia_bnd hm
  by_cases c : v1 = 0
  · replace hm := ia_ifp hm c
    obtain ⟨rfl, rfl⟩ := Prod.mk.inj (Option.some.inj hm)
    exact hg
  · replace hm := ia_ifn hm c
    obtain ⟨v2, hv2, hm⟩ := ia_bnd hm
    by_cases c : v2 = 0
    · replace hm := ia_ifp hm c
      obtain ⟨rfl, rfl⟩ := Prod.mk.inj (Option.some.inj hm)
      exact hg
    · replace hm := ia_ifn hm c
      obtain ⟨v3, hv3, hm⟩ := ia_bnd hm
      have gv3 := g_Wa_movesOf hg p1 hv3
      obtain ⟨v4, hv4, hm⟩ := ia_bnd hm
      by_cases c : v4 = 0
      · replace hm := ia_ifp hm c
        obtain ⟨rfl, rfl⟩ := Prod.mk.inj (Option.some.inj hm)
        exact gv3
      · replace hm := ia_ifn hm c
        obtain ⟨v5, hv5, hm⟩ := ia_bnd hm
        have gv5 := g_Sc_shift gv3 p1 hv5
        obtain ⟨rfl, rfl⟩ := Prod.mk.inj (Option.some.inj hm)
        exact gv5
theorem t_De_moveShop {w : ia_O0} (d : Nat) {a1 : Nat} {x2 : Int32} {x3 : Int32} {h : ia_H} (hg : gd_ w h) (p1 : (kd_D a1).1 = 9) {q : (Int32 × ia_H)} (hm : f_De_moveShop a1 x2 x3 h = some q) : ia_Ev (d + 4) mm_De_moveShop [.inr (.inr 325), .inr (.inr a1), .inl x2, .inl x3] h (some (.inl q.1)) q.2 := by
  have gq := g_De_moveShop hg p1 hm
  refine ia_Ev_intro ok_De_moveShop (gd_le hg gq).1 (gd_le hg gq).2 (Nat.le_of_ble_eq_true rfl) (fun K hK hret => ?_)
  obtain ⟨r, h1⟩ := q
  show K 0 [some (.inr (.inr 325)), some (.inr (.inr a1)), some (.inl x2), some (.inl x3)] [] h
  unfold f_De_moveShop at hm
  refine ia_go hK ck_De_moveShop_0 ?_
  show K 2 [some (.inr (.inr 325)), some (.inr (.inr a1)), some (.inl x2), some (.inl x3)] [.inl x2, .inr (.inr a1)] h
  obtain ⟨v1, hv1, hm⟩ := ia_bnd hm
  have ev1 := t_Sc_stands (d + 3) hg p1 hv1
  refine ia_cV hK mk_Sc_stands lk_1_55 dc_De_moveShop_2 a1 [.inl x2] [] rfl rfl (Nat.le_of_ble_eq_true rfl) (by decide) rfl (gk_9 hg p1) ev1 ⟨rfl, rfl⟩ ?_
  show K 5 [some (.inr (.inr 325)), some (.inr (.inr a1)), some (.inl x2), some (.inl x3)] [.inl v1] h
  refine ia_go hK ck_De_moveShop_5 ⟨fun c => ?_, fun c => ?_⟩
  · replace hm := ia_ifp hm c
    show K 35 [some (.inr (.inr 325)), some (.inr (.inr a1)), some (.inl x2), some (.inl x3)] [] h
    refine ia_go hK ck_De_moveShop_35 ?_
    show K 36 [some (.inr (.inr 325)), some (.inr (.inr a1)), some (.inl x2), some (.inl x3)] [.inl 0] h
    obtain ⟨rfl, rfl⟩ := Prod.mk.inj (Option.some.inj hm)
    exact hret 36 _ ⟨Or.inl rfl, dc_De_moveShop_36⟩
  · replace hm := ia_ifn hm c
    show K 8 [some (.inr (.inr 325)), some (.inr (.inr a1)), some (.inl x2), some (.inl x3)] [] h
    refine ia_go hK ck_De_moveShop_8 ⟨gk_9 hg p1, ?_⟩
    show K 13 [some (.inr (.inr 325)), some (.inr (.inr a1)), some (.inl x2), some (.inl x3)] [.inl x3, .inr (.inr (ia_r h a1 0))] h
    obtain ⟨v2, hv2, hm⟩ := ia_bnd hm
    have ev2 := t_La_isCell (d + 3) hg (gm_9_0 hg p1) hv2
    refine ia_cV hK mk_La_isCell lk_1_63 dc_De_moveShop_13 (ia_r h a1 0) [.inl x3] [] rfl rfl (Nat.le_of_ble_eq_true rfl) (by decide) rfl (gk_3 hg (gm_9_0 hg p1)) ev2 ⟨rfl, rfl⟩ ?_
    show K 16 [some (.inr (.inr 325)), some (.inr (.inr a1)), some (.inl x2), some (.inl x3)] [.inl v2] h
    refine ia_go hK ck_De_moveShop_16 ⟨fun c => ?_, fun c => ?_⟩
    · replace hm := ia_ifp hm c
      show K 35 [some (.inr (.inr 325)), some (.inr (.inr a1)), some (.inl x2), some (.inl x3)] [] h
      refine ia_go hK ck_De_moveShop_35 ?_
      show K 36 [some (.inr (.inr 325)), some (.inr (.inr a1)), some (.inl x2), some (.inl x3)] [.inl 0] h
      obtain ⟨rfl, rfl⟩ := Prod.mk.inj (Option.some.inj hm)
      exact hret 36 _ ⟨Or.inl rfl, dc_De_moveShop_36⟩
    · replace hm := ia_ifn hm c
      show K 19 [some (.inr (.inr 325)), some (.inr (.inr a1)), some (.inl x2), some (.inl x3)] [] h
      refine ia_go hK ck_De_moveShop_19 ⟨gk_1 hg pk_325, gr_1_0 hg pk_325, ?_⟩
      show K 25 [some (.inr (.inr 325)), some (.inr (.inr a1)), some (.inl x2), some (.inl x3)] [.inl x2, .inr (.inr a1), .inr (.inr 311)] h
      obtain ⟨v3, hv3, hm⟩ := ia_bnd hm
      have ev3 := t_Wa_movesOf (d + 0) hg p1 hv3
      have gv3 := g_Wa_movesOf hg p1 hv3
      refine ia_cV hK mk_Wa_movesOf lk_1_68 dc_De_moveShop_25 311 [.inr (.inr a1), .inl x2] [] rfl rfl (Nat.le_of_ble_eq_true rfl) (by decide) rfl (gk_11 hg pk_311) ev3 (gd_nm hg gv3) ?_
      show K 28 [some (.inr (.inr 325)), some (.inr (.inr a1)), some (.inl x2), some (.inl x3)] [.inr (.inl v3.1)] v3.2
      refine ia_go hK ck_De_moveShop_28 ?_
      show K 29 [some (.inr (.inr 325)), some (.inr (.inr a1)), some (.inl x2), some (.inl x3)] [.inl x3, .inr (.inl v3.1)] v3.2
      obtain ⟨v4, hv4, hm⟩ := ia_bnd hm
      have ev4 := t_I_hasBit (d + 3) gv3 hv4
      refine ia_cS hK mk_I_hasBit lk_1_74 dc_De_moveShop_29 [.inr (.inl v3.1), .inl x3] [] rfl rfl (Nat.le_of_ble_eq_true rfl) ev4 ⟨rfl, rfl⟩ ?_
      show K 32 [some (.inr (.inr 325)), some (.inr (.inr a1)), some (.inl x2), some (.inl x3)] [.inl v4] v3.2
      refine ia_go hK ck_De_moveShop_32 ⟨fun c => ?_, fun c => ?_⟩
      · replace hm := ia_ifn hm c
        show K 37 [some (.inr (.inr 325)), some (.inr (.inr a1)), some (.inl x2), some (.inl x3)] [] v3.2
        refine ia_go hK ck_De_moveShop_37 ?_
        show K 40 [some (.inr (.inr 325)), some (.inr (.inr a1)), some (.inl x2), some (.inl x3)] [.inl x3, .inl x2, .inr (.inr a1)] v3.2
        obtain ⟨v5, hv5, hm⟩ := ia_bnd hm
        have ev5 := t_Sc_shift (d + 0) gv3 p1 hv5
        have gv5 := g_Sc_shift gv3 p1 hv5
        refine ia_cV hK mk_Sc_shift lk_1_78 dc_De_moveShop_40 a1 [.inl x2, .inl x3] [] rfl rfl (Nat.le_of_ble_eq_true rfl) (by decide) rfl (gk_9 gv3 p1) ev5 (gd_nm gv3 gv5) ?_
        show K 43 [some (.inr (.inr 325)), some (.inr (.inr a1)), some (.inl x2), some (.inl x3)] [] v5
        refine ia_go hK ck_De_moveShop_43 ?_
        show K 44 [some (.inr (.inr 325)), some (.inr (.inr a1)), some (.inl x2), some (.inl x3)] [.inl 1] v5
        obtain ⟨rfl, rfl⟩ := Prod.mk.inj (Option.some.inj hm)
        exact hret 44 _ ⟨Or.inr rfl, dc_De_moveShop_44⟩
      · replace hm := ia_ifp hm c
        show K 35 [some (.inr (.inr 325)), some (.inr (.inr a1)), some (.inl x2), some (.inl x3)] [] v3.2
        refine ia_go hK ck_De_moveShop_35 ?_
        show K 36 [some (.inr (.inr 325)), some (.inr (.inr a1)), some (.inl x2), some (.inl x3)] [.inl 0] v3.2
        obtain ⟨rfl, rfl⟩ := Prod.mk.inj (Option.some.inj hm)
        exact hret 36 _ ⟨Or.inl rfl, dc_De_moveShop_36⟩
def mm_Wa_reachesShore : ia_M := (⟨"IceStreet$Ways", "reachesShore", "(II)Z"⟩, prog_12_method_16_code, 3, (some .boolean), 11, false)
theorem ok_Wa_reachesShore : ia_mok mm_Wa_reachesShore := ⟨by decide +kernel, by decide +kernel, by decide +kernel, by decide +kernel⟩
theorem mk_Wa_reachesShore : ia_mkn mm_Wa_reachesShore 1 2 := ⟨ia_tb_in (List.mem_of_getElem? (i := 1154) (by decide +kernel)) rfl, ia_tb_in (List.mem_of_getElem? (i := 141) (by decide +kernel)) rfl, by decide +kernel, by decide +kernel, ⟨ia_tb_in (List.mem_of_getElem? (i := 1152) (by decide +kernel)) rfl, ia_tb_in (List.mem_of_getElem? (i := 1153) (by decide +kernel)) rfl⟩⟩
theorem ck_Wa_reachesShore_0 : ia_cks 11 3 false prog_12_method_16_code 0 [(.aload_n 0, 0, 0, 0, 0), (.getfield 29, 11, 4, 2, 0), (.getfield 152, 3, 7, 1, 0), (.iload_n 2, 0, 0, 0, 0)] = true := by decide +kernel
theorem ck_Wa_reachesShore_11 : ia_cks 11 3 false prog_12_method_16_code 11 [(.ifCond .ne 22, 0, 0, 0, 0)] = true := by decide +kernel
theorem ck_Wa_reachesShore_33 : ia_cks 11 3 false prog_12_method_16_code 33 [(.iconst 1, 0, 0, 0, 0), (.goto 4, 0, 0, 0, 0)] = true := by decide +kernel
theorem ck_Wa_reachesShore_14 : ia_cks 11 3 false prog_12_method_16_code 14 [(.aload_n 0, 0, 0, 0, 0), (.iload_n 1, 0, 0, 0, 0), (.iload_n 2, 0, 0, 0, 0)] = true := by decide +kernel
theorem ck_Wa_reachesShore_20 : ia_cks 11 3 false prog_12_method_16_code 20 [(.aload_n 0, 0, 0, 0, 0), (.getfield 29, 11, 4, 2, 0), (.getfield 152, 3, 7, 1, 0), (.land, 0, 0, 0, 0), (.lconst 0, 0, 0, 0, 0), (.lcmp, 0, 0, 0, 0), (.ifCond .eq 7, 0, 0, 0, 0)] = true := by decide +kernel
theorem ck_Wa_reachesShore_37 : ia_cks 11 3 false prog_12_method_16_code 37 [(.iconst 0, 0, 0, 0, 0)] = true := by decide +kernel
theorem dc_Wa_reachesShore_8 : decode prog_12_method_16_code 8 = .ok (.invokestatic 146, 3) := by decide +kernel
theorem dc_Wa_reachesShore_38 : decode prog_12_method_16_code 38 = .ok (.ireturn, 1) := by decide +kernel
theorem dc_Wa_reachesShore_17 : decode prog_12_method_16_code 17 = .ok (.invokevirtual 155, 3) := by decide +kernel
def f_Wa_reachesShore (x1 : Int32) (x2 : Int32) (h : ia_H) : Option (Int32 × ia_H) := (f_I_hasBit (ia_l h (ia_r h 311 4) 7) x2 h).bind fun v1 => (if v1 = 0 then ((f_Wa_reach x1 x2 h).bind fun v2 => (if (lg_cmp (v2.1 &&& (ia_l v2.2 (ia_r v2.2 311 4) 7)) 0) = 0 then (some (0, v2.2)) else (some (1, v2.2)))) else (some (1, h)))
theorem g_Wa_reachesShore {w : ia_O0} {x1 : Int32} {x2 : Int32} {h : ia_H} (hg : gd_ w h) {q : (Int32 × ia_H)} (hm : f_Wa_reachesShore x1 x2 h = some q) : gd_ w q.2 := by
  obtain ⟨r, h1⟩ := q
  unfold f_Wa_reachesShore at hm
  obtain ⟨v1, hv1, hm⟩ := ia_bnd hm
  by_cases c : v1 = 0
  · replace hm := ia_ifp hm c
    obtain ⟨v2, hv2, hm⟩ := ia_bnd hm
    have gv2 := g_Wa_reach hg hv2
    by_cases c : (lg_cmp (v2.1 &&& (ia_l v2.2 (ia_r v2.2 311 4) 7)) 0) = 0
    · replace hm := ia_ifp hm c
      obtain ⟨rfl, rfl⟩ := Prod.mk.inj (Option.some.inj hm)
      exact gv2
    · replace hm := ia_ifn hm c
      obtain ⟨rfl, rfl⟩ := Prod.mk.inj (Option.some.inj hm)
      exact gv2
  · replace hm := ia_ifn hm c
    obtain ⟨rfl, rfl⟩ := Prod.mk.inj (Option.some.inj hm)
    exact hg
theorem t_Wa_reachesShore {w : ia_O0} (d : Nat) {x1 : Int32} {x2 : Int32} {h : ia_H} (hg : gd_ w h) {q : (Int32 × ia_H)} (hm : f_Wa_reachesShore x1 x2 h = some q) : ia_Ev (d + 2) mm_Wa_reachesShore [.inr (.inr 311), .inl x1, .inl x2] h (some (.inl q.1)) q.2 := by
  have gq := g_Wa_reachesShore hg hm
  refine ia_Ev_intro ok_Wa_reachesShore (gd_le hg gq).1 (gd_le hg gq).2 (Nat.le_of_ble_eq_true rfl) (fun K hK hret => ?_)
  obtain ⟨r, h1⟩ := q
  show K 0 [some (.inr (.inr 311)), some (.inl x1), some (.inl x2)] [] h
  unfold f_Wa_reachesShore at hm
  refine ia_go hK ck_Wa_reachesShore_0 ⟨gk_11 hg pk_311, gk_3 hg (gm_11_4 hg pk_311), ?_⟩
  show K 8 [some (.inr (.inr 311)), some (.inl x1), some (.inl x2)] [.inl x2, .inr (.inl (ia_l h (ia_r h 311 4) 7))] h
  obtain ⟨v1, hv1, hm⟩ := ia_bnd hm
  have ev1 := t_I_hasBit (d + 1) hg hv1
  refine ia_cS hK mk_I_hasBit lk_11_146 dc_Wa_reachesShore_8 [.inr (.inl (ia_l h (ia_r h 311 4) 7)), .inl x2] [] rfl rfl (Nat.le_of_ble_eq_true rfl) ev1 ⟨rfl, rfl⟩ ?_
  show K 11 [some (.inr (.inr 311)), some (.inl x1), some (.inl x2)] [.inl v1] h
  refine ia_go hK ck_Wa_reachesShore_11 ⟨fun c => ?_, fun c => ?_⟩
  · replace hm := ia_ifn hm c
    show K 33 [some (.inr (.inr 311)), some (.inl x1), some (.inl x2)] [] h
    refine ia_go hK ck_Wa_reachesShore_33 ?_
    show K 38 [some (.inr (.inr 311)), some (.inl x1), some (.inl x2)] [.inl 1] h
    obtain ⟨rfl, rfl⟩ := Prod.mk.inj (Option.some.inj hm)
    exact hret 38 _ ⟨Or.inr rfl, dc_Wa_reachesShore_38⟩
  · replace hm := ia_ifp hm c
    show K 14 [some (.inr (.inr 311)), some (.inl x1), some (.inl x2)] [] h
    refine ia_go hK ck_Wa_reachesShore_14 ?_
    show K 17 [some (.inr (.inr 311)), some (.inl x1), some (.inl x2)] [.inl x2, .inl x1, .inr (.inr 311)] h
    obtain ⟨v2, hv2, hm⟩ := ia_bnd hm
    have ev2 := t_Wa_reach (d + 0) hg hv2
    have gv2 := g_Wa_reach hg hv2
    refine ia_cV hK mk_Wa_reach lk_11_155 dc_Wa_reachesShore_17 311 [.inl x1, .inl x2] [] rfl rfl (Nat.le_of_ble_eq_true rfl) (by decide) rfl (gk_11 hg pk_311) ev2 (gd_nm hg gv2) ?_
    show K 20 [some (.inr (.inr 311)), some (.inl x1), some (.inl x2)] [.inr (.inl v2.1)] v2.2
    refine ia_go hK ck_Wa_reachesShore_20 ⟨gk_11 gv2 pk_311, gk_3 gv2 (gm_11_4 gv2 pk_311), fun c => ?_, fun c => ?_⟩
    · replace hm := ia_ifp hm c
      show K 37 [some (.inr (.inr 311)), some (.inl x1), some (.inl x2)] [] v2.2
      refine ia_go hK ck_Wa_reachesShore_37 ?_
      show K 38 [some (.inr (.inr 311)), some (.inl x1), some (.inl x2)] [.inl 0] v2.2
      obtain ⟨rfl, rfl⟩ := Prod.mk.inj (Option.some.inj hm)
      exact hret 38 _ ⟨Or.inl rfl, dc_Wa_reachesShore_38⟩
    · replace hm := ia_ifn hm c
      show K 33 [some (.inr (.inr 311)), some (.inl x1), some (.inl x2)] [] v2.2
      refine ia_go hK ck_Wa_reachesShore_33 ?_
      show K 38 [some (.inr (.inr 311)), some (.inl x1), some (.inl x2)] [.inl 1] v2.2
      obtain ⟨rfl, rfl⟩ := Prod.mk.inj (Option.some.inj hm)
      exact hret 38 _ ⟨Or.inr rfl, dc_Wa_reachesShore_38⟩
def mm_Wa_canLeave : ia_M := (⟨"IceStreet$Ways", "canLeave", "(LIceStreet$Scene;I)Z"⟩, prog_12_method_19_code, 3, (some .boolean), 11, false)
theorem ok_Wa_canLeave : ia_mok mm_Wa_canLeave := ⟨by decide +kernel, by decide +kernel, by decide +kernel, by decide +kernel⟩
theorem mk_Wa_canLeave : ia_mkn mm_Wa_canLeave 1 2 := ⟨ia_tb_in (List.mem_of_getElem? (i := 1150) (by decide +kernel)) rfl, ia_tb_in (List.mem_of_getElem? (i := 141) (by decide +kernel)) rfl, by decide +kernel, by decide +kernel, ⟨ia_tb_in (List.mem_of_getElem? (i := 1148) (by decide +kernel)) rfl, ia_tb_in (List.mem_of_getElem? (i := 1149) (by decide +kernel)) rfl⟩⟩
theorem ck_Wa_canLeave_0 : ia_cks 11 3 false prog_12_method_19_code 0 [(.aload_n 0, 0, 0, 0, 0), (.aload_n 1, 0, 0, 0, 0), (.iload_n 2, 0, 0, 0, 0)] = true := by decide +kernel
theorem ck_Wa_canLeave_6 : ia_cks 11 3 false prog_12_method_19_code 6 [(.aload_n 0, 0, 0, 0, 0), (.aload_n 1, 0, 0, 0, 0), (.getfield 172, 9, 7, 3, 6), (.iload_n 2, 0, 0, 0, 0), (.iaload, 0, 0, 0, 0), (.aload_n 1, 0, 0, 0, 0), (.getfield 66, 9, 6, 3, 5), (.iload_n 2, 0, 0, 0, 0), (.iaload, 0, 0, 0, 0)] = true := by decide +kernel
theorem dc_Wa_canLeave_3 : decode prog_12_method_19_code 3 = .ok (.invokevirtual 169, 3) := by decide +kernel
theorem dc_Wa_canLeave_19 : decode prog_12_method_19_code 19 = .ok (.invokevirtual 184, 3) := by decide +kernel
theorem dc_Wa_canLeave_22 : decode prog_12_method_19_code 22 = .ok (.ireturn, 1) := by decide +kernel
def f_Wa_canLeave (a1 : Nat) (x2 : Int32) (h : ia_H) : Option (Int32 × ia_H) := (f_Wa_surveyWithout a1 x2 h).bind fun v1 => (ia_gd (ia_ib x2 6) (ia_gd (ia_ib x2 6) ((f_Wa_reachesShore (ia_i v1 (a1 + 6) ((x2).toNatClampNeg)) (ia_i v1 (a1 + 5) ((x2).toNatClampNeg)) v1).bind fun v4 => (ia_gd (ia_z1 v4.1) (some (v4.1, v4.2))))))
theorem g_Wa_canLeave {w : ia_O0} {a1 : Nat} {x2 : Int32} {h : ia_H} (hg : gd_ w h) (p1 : (kd_D a1).1 = 9) {q : (Int32 × ia_H)} (hm : f_Wa_canLeave a1 x2 h = some q) : gd_ w q.2 := by
  obtain ⟨r, h1⟩ := q
  unfold f_Wa_canLeave at hm
  obtain ⟨v1, hv1, hm⟩ := ia_bnd hm
  have gv1 := g_Wa_surveyWithout hg p1 hv1
  obtain ⟨c2, hm⟩ := ia_gd_some hm
  obtain ⟨c3, hm⟩ := ia_gd_some hm
  obtain ⟨v4, hv4, hm⟩ := ia_bnd hm
  have gv4 := g_Wa_reachesShore gv1 hv4
  obtain ⟨c5, hm⟩ := ia_gd_some hm
  obtain ⟨rfl, rfl⟩ := Prod.mk.inj (Option.some.inj hm)
  exact gv4
theorem t_Wa_canLeave {w : ia_O0} (d : Nat) {a1 : Nat} {x2 : Int32} {h : ia_H} (hg : gd_ w h) (p1 : (kd_D a1).1 = 9) {q : (Int32 × ia_H)} (hm : f_Wa_canLeave a1 x2 h = some q) : ia_Ev (d + 3) mm_Wa_canLeave [.inr (.inr 311), .inr (.inr a1), .inl x2] h (some (.inl q.1)) q.2 := by
  have gq := g_Wa_canLeave hg p1 hm
  refine ia_Ev_intro ok_Wa_canLeave (gd_le hg gq).1 (gd_le hg gq).2 (Nat.le_of_ble_eq_true rfl) (fun K hK hret => ?_)
  obtain ⟨r, h1⟩ := q
  show K 0 [some (.inr (.inr 311)), some (.inr (.inr a1)), some (.inl x2)] [] h
  unfold f_Wa_canLeave at hm
  refine ia_go hK ck_Wa_canLeave_0 ?_
  show K 3 [some (.inr (.inr 311)), some (.inr (.inr a1)), some (.inl x2)] [.inl x2, .inr (.inr a1), .inr (.inr 311)] h
  obtain ⟨v1, hv1, hm⟩ := ia_bnd hm
  have ev1 := t_Wa_surveyWithout (d + 0) hg p1 hv1
  have gv1 := g_Wa_surveyWithout hg p1 hv1
  refine ia_cV hK mk_Wa_surveyWithout lk_11_169 dc_Wa_canLeave_3 311 [.inr (.inr a1), .inl x2] [] rfl rfl (Nat.le_of_ble_eq_true rfl) (by decide) rfl (gk_11 hg pk_311) ev1 (gd_nm hg gv1) ?_
  show K 6 [some (.inr (.inr 311)), some (.inr (.inr a1)), some (.inl x2)] [] v1
  obtain ⟨c2, hm⟩ := ia_gd_some hm
  obtain ⟨c3, hm⟩ := ia_gd_some hm
  refine ia_go hK ck_Wa_canLeave_6 ⟨gk_9 gv1 p1, gr_9_7 gv1 p1, ga_i100 gv1 (ka_9_7 p1) c2, gk_9 gv1 p1, gr_9_6 gv1 p1, ga_i100 gv1 (ka_9_6 p1) c3, ?_⟩
  show K 19 [some (.inr (.inr 311)), some (.inr (.inr a1)), some (.inl x2)] [.inl (ia_i v1 (a1 + 5) ((x2).toNatClampNeg)), .inl (ia_i v1 (a1 + 6) ((x2).toNatClampNeg)), .inr (.inr 311)] v1
  obtain ⟨v4, hv4, hm⟩ := ia_bnd hm
  have ev4 := t_Wa_reachesShore (d + 0) gv1 hv4
  have gv4 := g_Wa_reachesShore gv1 hv4
  refine ia_cV hK mk_Wa_reachesShore lk_11_184 dc_Wa_canLeave_19 311 [.inl (ia_i v1 (a1 + 6) ((x2).toNatClampNeg)), .inl (ia_i v1 (a1 + 5) ((x2).toNatClampNeg))] [] rfl rfl (Nat.le_of_ble_eq_true rfl) (by decide) rfl (gk_11 gv1 pk_311) ev4 (gd_nm gv1 gv4) ?_
  show K 22 [some (.inr (.inr 311)), some (.inr (.inr a1)), some (.inl x2)] [.inl v4.1] v4.2
  obtain ⟨c5, hm⟩ := ia_gd_some hm
  obtain ⟨rfl, rfl⟩ := Prod.mk.inj (Option.some.inj hm)
  exact hret 22 _ ⟨ia_z1_spec c5, dc_Wa_canLeave_22⟩
def mm_Sc_drawOff : ia_M := (⟨"IceStreet$Scene", "drawOff", "(I)V"⟩, prog_10_method_10_code, 2, none, 9, false)
theorem ok_Sc_drawOff : ia_mok mm_Sc_drawOff := ⟨by decide +kernel, by decide +kernel, by decide +kernel, by decide +kernel⟩
theorem mk_Sc_drawOff : ia_mkn mm_Sc_drawOff 1 1 := ⟨ia_tb_in (List.mem_of_getElem? (i := 1158) (by decide +kernel)) rfl, ia_tb_in (List.mem_of_getElem? (i := 140) (by decide +kernel)) rfl, by decide +kernel, by decide +kernel, ⟨ia_tb_in (List.mem_of_getElem? (i := 1156) (by decide +kernel)) rfl, ia_tb_in (List.mem_of_getElem? (i := 1157) (by decide +kernel)) rfl⟩⟩
theorem ck_Sc_drawOff_0 : ia_cks 9 2 false prog_10_method_10_code 0 [(.aload_n 0, 0, 0, 0, 0), (.iload_n 1, 0, 0, 0, 0), (.iconst (-1), 0, 0, 0, 0)] = true := by decide +kernel
theorem ck_Sc_drawOff_6 : ia_cks 9 2 false prog_10_method_10_code 6 [(.aload_n 0, 0, 0, 0, 0)] = true := by decide +kernel
theorem dc_Sc_drawOff_3 : decode prog_10_method_10_code 3 = .ok (.invokevirtual 95, 3) := by decide +kernel
theorem dc_Sc_drawOff_7 : decode prog_10_method_10_code 7 = .ok (.invokevirtual 76, 3) := by decide +kernel
theorem dc_Sc_drawOff_10 : decode prog_10_method_10_code 10 = .ok (.return_, 1) := by decide +kernel
def f_Sc_drawOff (a0 : Nat) (x1 : Int32) (h : ia_H) : Option ia_H := (f_Sc_lift a0 x1 (-1) h).bind fun v1 => ((f_Sc_settle a0 v1).bind fun v2 => (some v2))
theorem g_Sc_drawOff {w : ia_O0} {a0 : Nat} {x1 : Int32} {h : ia_H} (hg : gd_ w h) (p0 : (kd_D a0).1 = 9) {q : ia_H} (hm : f_Sc_drawOff a0 x1 h = some q) : gd_ w q := by
  obtain ⟨h1, e1⟩ : ∃ x, x = q := ⟨_, rfl⟩
  subst e1
  unfold f_Sc_drawOff at hm
  obtain ⟨v1, hv1, hm⟩ := ia_bnd hm
  have gv1 := g_Sc_lift hg p0 hv1
  obtain ⟨v2, hv2, hm⟩ := ia_bnd hm
  have gv2 := g_Sc_settle gv1 p0 hv2
  obtain rfl := Option.some.inj hm
  exact gv2
theorem t_Sc_drawOff {w : ia_O0} (d : Nat) {a0 : Nat} {x1 : Int32} {h : ia_H} (hg : gd_ w h) (p0 : (kd_D a0).1 = 9) {q : ia_H} (hm : f_Sc_drawOff a0 x1 h = some q) : ia_Ev (d + 3) mm_Sc_drawOff [.inr (.inr a0), .inl x1] h none q := by
  have gq := g_Sc_drawOff hg p0 hm
  refine ia_Ev_intro ok_Sc_drawOff (gd_le hg gq).1 (gd_le hg gq).2 (Nat.le_of_ble_eq_true rfl) (fun K hK hret => ?_)
  obtain ⟨h1, e1⟩ : ∃ x, x = q := ⟨_, rfl⟩
  subst e1
  show K 0 [some (.inr (.inr a0)), some (.inl x1)] [] h
  unfold f_Sc_drawOff at hm
  refine ia_go hK ck_Sc_drawOff_0 ?_
  show K 3 [some (.inr (.inr a0)), some (.inl x1)] [.inl (-1), .inl x1, .inr (.inr a0)] h
  obtain ⟨v1, hv1, hm⟩ := ia_bnd hm
  have ev1 := t_Sc_lift (d + 1) hg p0 hv1
  have gv1 := g_Sc_lift hg p0 hv1
  refine ia_cV hK mk_Sc_lift lk_9_95 dc_Sc_drawOff_3 a0 [.inl x1, .inl (-1)] [] rfl rfl (Nat.le_of_ble_eq_true rfl) (by decide) rfl (gk_9 hg p0) ev1 (gd_nm hg gv1) ?_
  show K 6 [some (.inr (.inr a0)), some (.inl x1)] [] v1
  refine ia_go hK ck_Sc_drawOff_6 ?_
  show K 7 [some (.inr (.inr a0)), some (.inl x1)] [.inr (.inr a0)] v1
  obtain ⟨v2, hv2, hm⟩ := ia_bnd hm
  have ev2 := t_Sc_settle (d + 0) gv1 p0 hv2
  have gv2 := g_Sc_settle gv1 p0 hv2
  refine ia_cV hK mk_Sc_settle lk_9_76 dc_Sc_drawOff_7 a0 [] [] rfl rfl (Nat.le_of_ble_eq_true rfl) (by decide) rfl (gk_9 gv1 p0) ev2 (gd_nm gv1 gv2) ?_
  show K 10 [some (.inr (.inr a0)), some (.inl x1)] [] v2
  obtain rfl := Option.some.inj hm
  exact hret 10 _ dc_Sc_drawOff_10
def mm_De_drawShop : ia_M := (⟨"IceStreet$Deeds", "drawShop", "(LIceStreet$Scene;I)Z"⟩, prog_2_method_4_code, 3, (some .boolean), 1, false)
theorem ok_De_drawShop : ia_mok mm_De_drawShop := ⟨by decide +kernel, by decide +kernel, by decide +kernel, by decide +kernel⟩
theorem mk_De_drawShop : ia_mkn mm_De_drawShop 1 2 := ⟨ia_tb_in (List.mem_of_getElem? (i := 1146) (by decide +kernel)) rfl, ia_tb_in (List.mem_of_getElem? (i := 142) (by decide +kernel)) rfl, by decide +kernel, by decide +kernel, ⟨ia_tb_in (List.mem_of_getElem? (i := 1145) (by decide +kernel)) rfl, ia_tb_in (List.mem_of_getElem? (i := 28) (by decide +kernel)) rfl⟩⟩
theorem ck_De_drawShop_0 : ia_cks 1 3 false prog_2_method_4_code 0 [(.aload_n 1, 0, 0, 0, 0), (.iload_n 2, 0, 0, 0, 0)] = true := by decide +kernel
theorem ck_De_drawShop_5 : ia_cks 1 3 false prog_2_method_4_code 5 [(.ifCond .eq 15, 0, 0, 0, 0)] = true := by decide +kernel
theorem ck_De_drawShop_20 : ia_cks 1 3 false prog_2_method_4_code 20 [(.iconst 0, 0, 0, 0, 0)] = true := by decide +kernel
theorem ck_De_drawShop_8 : ia_cks 1 3 false prog_2_method_4_code 8 [(.aload_n 0, 0, 0, 0, 0), (.getfield 9, 1, 0, 4, 311), (.aload_n 1, 0, 0, 0, 0), (.iload_n 2, 0, 0, 0, 0)] = true := by decide +kernel
theorem ck_De_drawShop_17 : ia_cks 1 3 false prog_2_method_4_code 17 [(.ifCond .ne 5, 0, 0, 0, 0)] = true := by decide +kernel
theorem ck_De_drawShop_22 : ia_cks 1 3 false prog_2_method_4_code 22 [(.aload_n 1, 0, 0, 0, 0), (.iload_n 2, 0, 0, 0, 0)] = true := by decide +kernel
theorem ck_De_drawShop_27 : ia_cks 1 3 false prog_2_method_4_code 27 [(.iconst 1, 0, 0, 0, 0)] = true := by decide +kernel
theorem dc_De_drawShop_2 : decode prog_2_method_4_code 2 = .ok (.invokevirtual 55, 3) := by decide +kernel
theorem dc_De_drawShop_21 : decode prog_2_method_4_code 21 = .ok (.ireturn, 1) := by decide +kernel
theorem dc_De_drawShop_14 : decode prog_2_method_4_code 14 = .ok (.invokevirtual 82, 3) := by decide +kernel
theorem dc_De_drawShop_24 : decode prog_2_method_4_code 24 = .ok (.invokevirtual 85, 3) := by decide +kernel
theorem dc_De_drawShop_28 : decode prog_2_method_4_code 28 = .ok (.ireturn, 1) := by decide +kernel
def f_De_drawShop (a1 : Nat) (x2 : Int32) (h : ia_H) : Option (Int32 × ia_H) := (f_Sc_stands a1 x2 h).bind fun v1 => (if v1 = 0 then (some (0, h)) else ((f_Wa_canLeave a1 x2 h).bind fun v2 => (if v2.1 = 0 then (some (0, v2.2)) else ((f_Sc_drawOff a1 x2 v2.2).bind fun v3 => (some (1, v3))))))
theorem g_De_drawShop {w : ia_O0} {a1 : Nat} {x2 : Int32} {h : ia_H} (hg : gd_ w h) (p1 : (kd_D a1).1 = 9) {q : (Int32 × ia_H)} (hm : f_De_drawShop a1 x2 h = some q) : gd_ w q.2 := by
  obtain ⟨r, h1⟩ := q
  unfold f_De_drawShop at hm
  obtain ⟨v1, hv1, hm⟩ := ia_bnd hm
  by_cases c : v1 = 0
  · replace hm := ia_ifp hm c
    obtain ⟨rfl, rfl⟩ := Prod.mk.inj (Option.some.inj hm)
    exact hg
  · replace hm := ia_ifn hm c
    obtain ⟨v2, hv2, hm⟩ := ia_bnd hm
    have gv2 := g_Wa_canLeave hg p1 hv2
    by_cases c : v2.1 = 0
    · replace hm := ia_ifp hm c
      obtain ⟨rfl, rfl⟩ := Prod.mk.inj (Option.some.inj hm)
      exact gv2
    · replace hm := ia_ifn hm c
      obtain ⟨v3, hv3, hm⟩ := ia_bnd hm
      have gv3 := g_Sc_drawOff gv2 p1 hv3
      obtain ⟨rfl, rfl⟩ := Prod.mk.inj (Option.some.inj hm)
      exact gv3
theorem t_De_drawShop {w : ia_O0} (d : Nat) {a1 : Nat} {x2 : Int32} {h : ia_H} (hg : gd_ w h) (p1 : (kd_D a1).1 = 9) {q : (Int32 × ia_H)} (hm : f_De_drawShop a1 x2 h = some q) : ia_Ev (d + 4) mm_De_drawShop [.inr (.inr 325), .inr (.inr a1), .inl x2] h (some (.inl q.1)) q.2 := by
  have gq := g_De_drawShop hg p1 hm
  refine ia_Ev_intro ok_De_drawShop (gd_le hg gq).1 (gd_le hg gq).2 (Nat.le_of_ble_eq_true rfl) (fun K hK hret => ?_)
  obtain ⟨r, h1⟩ := q
  show K 0 [some (.inr (.inr 325)), some (.inr (.inr a1)), some (.inl x2)] [] h
  unfold f_De_drawShop at hm
  refine ia_go hK ck_De_drawShop_0 ?_
  show K 2 [some (.inr (.inr 325)), some (.inr (.inr a1)), some (.inl x2)] [.inl x2, .inr (.inr a1)] h
  obtain ⟨v1, hv1, hm⟩ := ia_bnd hm
  have ev1 := t_Sc_stands (d + 3) hg p1 hv1
  refine ia_cV hK mk_Sc_stands lk_1_55 dc_De_drawShop_2 a1 [.inl x2] [] rfl rfl (Nat.le_of_ble_eq_true rfl) (by decide) rfl (gk_9 hg p1) ev1 ⟨rfl, rfl⟩ ?_
  show K 5 [some (.inr (.inr 325)), some (.inr (.inr a1)), some (.inl x2)] [.inl v1] h
  refine ia_go hK ck_De_drawShop_5 ⟨fun c => ?_, fun c => ?_⟩
  · replace hm := ia_ifp hm c
    show K 20 [some (.inr (.inr 325)), some (.inr (.inr a1)), some (.inl x2)] [] h
    refine ia_go hK ck_De_drawShop_20 ?_
    show K 21 [some (.inr (.inr 325)), some (.inr (.inr a1)), some (.inl x2)] [.inl 0] h
    obtain ⟨rfl, rfl⟩ := Prod.mk.inj (Option.some.inj hm)
    exact hret 21 _ ⟨Or.inl rfl, dc_De_drawShop_21⟩
  · replace hm := ia_ifn hm c
    show K 8 [some (.inr (.inr 325)), some (.inr (.inr a1)), some (.inl x2)] [] h
    refine ia_go hK ck_De_drawShop_8 ⟨gk_1 hg pk_325, gr_1_0 hg pk_325, ?_⟩
    show K 14 [some (.inr (.inr 325)), some (.inr (.inr a1)), some (.inl x2)] [.inl x2, .inr (.inr a1), .inr (.inr 311)] h
    obtain ⟨v2, hv2, hm⟩ := ia_bnd hm
    have ev2 := t_Wa_canLeave (d + 0) hg p1 hv2
    have gv2 := g_Wa_canLeave hg p1 hv2
    refine ia_cV hK mk_Wa_canLeave lk_1_82 dc_De_drawShop_14 311 [.inr (.inr a1), .inl x2] [] rfl rfl (Nat.le_of_ble_eq_true rfl) (by decide) rfl (gk_11 hg pk_311) ev2 (gd_nm hg gv2) ?_
    show K 17 [some (.inr (.inr 325)), some (.inr (.inr a1)), some (.inl x2)] [.inl v2.1] v2.2
    refine ia_go hK ck_De_drawShop_17 ⟨fun c => ?_, fun c => ?_⟩
    · replace hm := ia_ifn hm c
      show K 22 [some (.inr (.inr 325)), some (.inr (.inr a1)), some (.inl x2)] [] v2.2
      refine ia_go hK ck_De_drawShop_22 ?_
      show K 24 [some (.inr (.inr 325)), some (.inr (.inr a1)), some (.inl x2)] [.inl x2, .inr (.inr a1)] v2.2
      obtain ⟨v3, hv3, hm⟩ := ia_bnd hm
      have ev3 := t_Sc_drawOff (d + 0) gv2 p1 hv3
      have gv3 := g_Sc_drawOff gv2 p1 hv3
      refine ia_cV hK mk_Sc_drawOff lk_1_85 dc_De_drawShop_24 a1 [.inl x2] [] rfl rfl (Nat.le_of_ble_eq_true rfl) (by decide) rfl (gk_9 gv2 p1) ev3 (gd_nm gv2 gv3) ?_
      show K 27 [some (.inr (.inr 325)), some (.inr (.inr a1)), some (.inl x2)] [] v3
      refine ia_go hK ck_De_drawShop_27 ?_
      show K 28 [some (.inr (.inr 325)), some (.inr (.inr a1)), some (.inl x2)] [.inl 1] v3
      obtain ⟨rfl, rfl⟩ := Prod.mk.inj (Option.some.inj hm)
      exact hret 28 _ ⟨Or.inr rfl, dc_De_drawShop_28⟩
    · replace hm := ia_ifp hm c
      show K 20 [some (.inr (.inr 325)), some (.inr (.inr a1)), some (.inl x2)] [] v2.2
      refine ia_go hK ck_De_drawShop_20 ?_
      show K 21 [some (.inr (.inr 325)), some (.inr (.inr a1)), some (.inl x2)] [.inl 0] v2.2
      obtain ⟨rfl, rfl⟩ := Prod.mk.inj (Option.some.inj hm)
      exact hret 21 _ ⟨Or.inl rfl, dc_De_drawShop_21⟩
def mm_Wa_measure : ia_M := (⟨"IceStreet$Ways", "measure", "(III)I"⟩, prog_12_method_7_code, 9, (some .int), 11, false)
theorem ok_Wa_measure : ia_mok mm_Wa_measure := ⟨by decide +kernel, by decide +kernel, by decide +kernel, by decide +kernel⟩
theorem mk_Wa_measure : ia_mkn mm_Wa_measure 1 3 := ⟨ia_tb_in (List.mem_of_getElem? (i := 1171) (by decide +kernel)) rfl, ia_tb_in (List.mem_of_getElem? (i := 141) (by decide +kernel)) rfl, by decide +kernel, by decide +kernel, ⟨ia_tb_in (List.mem_of_getElem? (i := 1169) (by decide +kernel)) rfl, ia_tb_in (List.mem_of_getElem? (i := 1170) (by decide +kernel)) rfl⟩⟩
theorem ck_Wa_measure_0 : ia_cks 11 9 false prog_12_method_7_code 0 [(.aload_n 0, 0, 0, 0, 0), (.getfield 18, 11, 7, 3, 3), (.iconst (-1), 0, 0, 0, 0)] = true := by decide +kernel
theorem ck_Wa_measure_8 : ia_cks 11 9 false prog_12_method_7_code 8 [(.aload_n 0, 0, 0, 0, 0), (.getfield 15, 11, 6, 3, 2), (.iload_n 3, 0, 0, 0, 0), (.iaload, 0, 0, 0, 0), (.iload_n 1, 0, 0, 0, 0), (.if_icmp .ge 5, 0, 0, 0, 0)] = true := by decide +kernel
theorem ck_Wa_measure_20 : ia_cks 11 9 false prog_12_method_7_code 20 [(.aload_n 0, 0, 0, 0, 0), (.getfield 18, 11, 7, 3, 3), (.iload_n 3, 0, 0, 0, 0), (.iconst 0, 0, 0, 0, 0), (.iastore, 0, 0, 0, 0), (.aload_n 0, 0, 0, 0, 0), (.getfield 21, 11, 8, 3, 4), (.iconst 0, 0, 0, 0, 0), (.iload_n 3, 0, 0, 0, 0), (.iastore, 0, 0, 0, 0), (.iconst 1, 0, 0, 0, 0), (.istore 4, 0, 0, 0, 0), (.iconst 0, 0, 0, 0, 0), (.istore 5, 0, 0, 0, 0)] = true := by decide +kernel
theorem ck_Wa_measure_40 : ia_cks 11 9 false prog_12_method_7_code 40 [(.iload 5, 0, 0, 0, 0), (.iload 4, 0, 0, 0, 0), (.if_icmp .ge 131, 0, 0, 0, 0)] = true := by decide +kernel
theorem ck_Wa_measure_47 : ia_cks 11 9 false prog_12_method_7_code 47 [(.iload 5, 0, 0, 0, 0), (.bipush 36, 0, 0, 0, 0), (.if_icmp .ge 124, 0, 0, 0, 0)] = true := by decide +kernel
theorem ck_Wa_measure_54 : ia_cks 11 9 false prog_12_method_7_code 54 [(.aload_n 0, 0, 0, 0, 0), (.getfield 21, 11, 8, 3, 4), (.iload 5, 0, 0, 0, 0), (.iaload, 0, 0, 0, 0), (.istore 6, 0, 0, 0, 0), (.iconst 0, 0, 0, 0, 0), (.istore 7, 0, 0, 0, 0)] = true := by decide +kernel
theorem ck_Wa_measure_66 : ia_cks 11 9 false prog_12_method_7_code 66 [(.iload 7, 0, 0, 0, 0), (.iconst 4, 0, 0, 0, 0), (.if_icmp .ge 100, 0, 0, 0, 0)] = true := by decide +kernel
theorem ck_Wa_measure_72 : ia_cks 11 9 false prog_12_method_7_code 72 [(.aload_n 0, 0, 0, 0, 0), (.getfield 29, 11, 4, 2, 0), (.getfield 94, 3, 16, 3, 10), (.iload 6, 0, 0, 0, 0), (.iconst 4, 0, 0, 0, 0), (.imul, 0, 0, 0, 0), (.iload 7, 0, 0, 0, 0), (.iadd, 0, 0, 0, 0), (.iaload, 0, 0, 0, 0), (.istore 8, 0, 0, 0, 0), (.iload 8, 0, 0, 0, 0), (.iconst (-1), 0, 0, 0, 0), (.if_icmp .eq 71, 0, 0, 0, 0)] = true := by decide +kernel
theorem ck_Wa_measure_163 : ia_cks 11 9 false prog_12_method_7_code 163 [(.iinc 7 1, 0, 0, 0, 0), (.goto (-100), 0, 0, 0, 0)] = true := by decide +kernel
theorem ck_Wa_measure_95 : ia_cks 11 9 false prog_12_method_7_code 95 [(.aload_n 0, 0, 0, 0, 0), (.getfield 18, 11, 7, 3, 3), (.iload 8, 0, 0, 0, 0), (.iaload, 0, 0, 0, 0), (.iconst (-1), 0, 0, 0, 0), (.if_icmp .ne 60, 0, 0, 0, 0)] = true := by decide +kernel
theorem ck_Wa_measure_106 : ia_cks 11 9 false prog_12_method_7_code 106 [(.aload_n 0, 0, 0, 0, 0), (.iload 8, 0, 0, 0, 0), (.iload 6, 0, 0, 0, 0)] = true := by decide +kernel
theorem ck_Wa_measure_114 : ia_cks 11 9 false prog_12_method_7_code 114 [(.ifCond .eq 49, 0, 0, 0, 0)] = true := by decide +kernel
theorem ck_Wa_measure_117 : ia_cks 11 9 false prog_12_method_7_code 117 [(.aload_n 0, 0, 0, 0, 0), (.getfield 18, 11, 7, 3, 3), (.iload 8, 0, 0, 0, 0), (.aload_n 0, 0, 0, 0, 0), (.getfield 18, 11, 7, 3, 3), (.iload 6, 0, 0, 0, 0), (.iaload, 0, 0, 0, 0), (.iconst 1, 0, 0, 0, 0), (.iadd, 0, 0, 0, 0), (.iastore, 0, 0, 0, 0), (.aload_n 0, 0, 0, 0, 0), (.getfield 15, 11, 6, 3, 2), (.iload 8, 0, 0, 0, 0), (.iaload, 0, 0, 0, 0), (.iload_n 1, 0, 0, 0, 0), (.if_icmp .lt 22, 0, 0, 0, 0)] = true := by decide +kernel
theorem ck_Wa_measure_144 : ia_cks 11 9 false prog_12_method_7_code 144 [(.iload 4, 0, 0, 0, 0), (.bipush 36, 0, 0, 0, 0), (.if_icmp .ge 15, 0, 0, 0, 0)] = true := by decide +kernel
theorem ck_Wa_measure_151 : ia_cks 11 9 false prog_12_method_7_code 151 [(.aload_n 0, 0, 0, 0, 0), (.getfield 21, 11, 8, 3, 4), (.iload 4, 0, 0, 0, 0), (.iinc 4 1, 0, 0, 0, 0), (.iload 8, 0, 0, 0, 0), (.iastore, 0, 0, 0, 0), (.iinc 7 1, 0, 0, 0, 0), (.goto (-100), 0, 0, 0, 0)] = true := by decide +kernel
theorem ck_Wa_measure_169 : ia_cks 11 9 false prog_12_method_7_code 169 [(.iinc 5 1, 0, 0, 0, 0), (.goto (-132), 0, 0, 0, 0)] = true := by decide +kernel
theorem ck_Wa_measure_175 : ia_cks 11 9 false prog_12_method_7_code 175 [(.aload_n 0, 0, 0, 0, 0), (.getfield 18, 11, 7, 3, 3), (.iload_n 2, 0, 0, 0, 0), (.iaload, 0, 0, 0, 0)] = true := by decide +kernel
theorem ck_Wa_measure_18 : ia_cks 11 9 false prog_12_method_7_code 18 [(.iconst (-1), 0, 0, 0, 0)] = true := by decide +kernel
theorem dc_Wa_measure_5 : decode prog_12_method_7_code 5 = .ok (.invokestatic 101, 3) := by decide +kernel
theorem dc_Wa_measure_111 : decode prog_12_method_7_code 111 = .ok (.invokevirtual 97, 3) := by decide +kernel
theorem dc_Wa_measure_181 : decode prog_12_method_7_code 181 = .ok (.ireturn, 1) := by decide +kernel
theorem dc_Wa_measure_19 : decode prog_12_method_7_code 19 = .ok (.ireturn, 1) := by decide +kernel
def l_Wa_measure_66 (x1 : Int32) (x2 : Int32) (x3 : Int32) (k169 : Int32 → Int32 → ia_H → Option (Int32 × ia_H)) (n : Nat) (x4 : Int32) (x5 : Int32) (x6 : Int32) (x7 : Int32) (h : ia_H) : Option (Int32 × ia_H) := match n with
  | 0 => none
  | n + 1 => if 4 ≤ x7 then (k169 x4 x5 h) else (ia_gd (ia_ib ((x6 * 4) + x7) 144) (if (ia_i h ((ia_r h 311 4) + 10) (((x6 * 4) + x7).toNatClampNeg)) = (-1) then (l_Wa_measure_66 x1 x2 x3 k169 n x4 x5 x6 (x7 + 1) h) else (ia_gd (ia_ib (ia_i h ((ia_r h 311 4) + 10) (((x6 * 4) + x7).toNatClampNeg)) 36) (if (ia_i h 314 ((ia_i h ((ia_r h 311 4) + 10) (((x6 * 4) + x7).toNatClampNeg)).toNatClampNeg)) = (-1) then ((f_Wa_mayStep (ia_i h ((ia_r h 311 4) + 10) (((x6 * 4) + x7).toNatClampNeg)) x6 h).bind fun v7 => (if v7 = 0 then (l_Wa_measure_66 x1 x2 x3 k169 n x4 x5 x6 (x7 + 1) h) else (ia_gd (ia_ib x6 36) (ia_gd (ia_ib (ia_i h ((ia_r h 311 4) + 10) (((x6 * 4) + x7).toNatClampNeg)) 36) (ia_gd (ia_ib (ia_i h ((ia_r h 311 4) + 10) (((x6 * 4) + x7).toNatClampNeg)) 36) (if (ia_i (ia_wI h 314 ((ia_i h ((ia_r h 311 4) + 10) (((x6 * 4) + x7).toNatClampNeg)).toNatClampNeg) ((ia_i h 314 ((x6).toNatClampNeg)) + 1)) 313 ((ia_i h ((ia_r h 311 4) + 10) (((x6 * 4) + x7).toNatClampNeg)).toNatClampNeg)) < x1 then (l_Wa_measure_66 x1 x2 x3 k169 n x4 x5 x6 (x7 + 1) (ia_wI h 314 ((ia_i h ((ia_r h 311 4) + 10) (((x6 * 4) + x7).toNatClampNeg)).toNatClampNeg) ((ia_i h 314 ((x6).toNatClampNeg)) + 1))) else (if 36 ≤ x4 then (l_Wa_measure_66 x1 x2 x3 k169 n x4 x5 x6 (x7 + 1) (ia_wI h 314 ((ia_i h ((ia_r h 311 4) + 10) (((x6 * 4) + x7).toNatClampNeg)).toNatClampNeg) ((ia_i h 314 ((x6).toNatClampNeg)) + 1))) else (ia_gd (ia_ib x4 36) (l_Wa_measure_66 x1 x2 x3 k169 n (x4 + 1) x5 x6 (x7 + 1) (ia_wI (ia_wI h 314 ((ia_i h ((ia_r h 311 4) + 10) (((x6 * 4) + x7).toNatClampNeg)).toNatClampNeg) ((ia_i h 314 ((x6).toNatClampNeg)) + 1)) 315 ((x4).toNatClampNeg) (ia_i h ((ia_r h 311 4) + 10) (((x6 * 4) + x7).toNatClampNeg)))))))))))) else (l_Wa_measure_66 x1 x2 x3 k169 n x4 x5 x6 (x7 + 1) h)))))
theorem tl_Wa_measure_66 {w : ia_O0} {d N1 W1 : Nat} {K : ia_K} (hK : ia_isK (d + 1) mm_Wa_measure N1 W1 K) {x1 : Int32} {x2 : Int32} {x3 : Int32} {r : Int32} {h1 : ia_H} (hret : ∀ (pc : Nat) (lv : ia_L), ia_ret mm_Wa_measure pc (some (.inl r)) → K pc lv ((some (.inl r)) : Option ia_V).toList h1) {k169 : Int32 → Int32 → ia_H → Option (Int32 × ia_H)} (hk169 : ∀ (x4 : Int32) (x5 : Int32) (h : ia_H), gd_ w h → k169 x4 x5 h = some (r, h1) → K 169 [some (.inr (.inr 311)), some (.inl x1), some (.inl x2), none, some (.inl x4), some (.inl x5), none, none, none] [] h) : ∀ (n : Nat) (x4 : Int32) (x5 : Int32) (x6 : Int32) (x7 : Int32) (h : ia_H), gd_ w h → l_Wa_measure_66 x1 x2 x3 k169 n x4 x5 x6 x7 h = some (r, h1) → K 66 [some (.inr (.inr 311)), some (.inl x1), some (.inl x2), none, some (.inl x4), some (.inl x5), some (.inl x6), some (.inl x7), none] [] h := by
  intro n
  induction n with
  | zero =>
    intro x4 x5 x6 x7 h hg hm
    cases (show (none : Option (Int32 × ia_H)) = some _ from hm)
  | succ n ih =>
    intro x4 x5 x6 x7 h hg hm
    rw [l_Wa_measure_66] at hm
    refine ia_go hK ck_Wa_measure_66 ⟨fun c => ?_, fun c => ?_⟩
    · replace hm := ia_ifp hm c
      show K 169 [some (.inr (.inr 311)), some (.inl x1), some (.inl x2), none, some (.inl x4), some (.inl x5), some (.inl x6), some (.inl x7), none] [] h
      refine ia_fg hK (lv' := [some (.inr (.inr 311)), some (.inl x1), some (.inl x2), none, some (.inl x4), some (.inl x5), none, none, none]) ⟨rfl, rfl, rfl, rfl, rfl, trivial⟩ ?_
      exact hk169 x4 x5 h hg hm
    · replace hm := ia_ifn hm c
      show K 72 [some (.inr (.inr 311)), some (.inl x1), some (.inl x2), none, some (.inl x4), some (.inl x5), some (.inl x6), some (.inl x7), none] [] h
      obtain ⟨c5, hm⟩ := ia_gd_some hm
      refine ia_go hK ck_Wa_measure_72 ⟨gk_11 hg pk_311, gk_3 hg (gm_11_4 hg pk_311), gr_3_16 hg (gm_11_4 hg pk_311), ga_i100 hg (ka_3_16 (gm_11_4 hg pk_311)) c5, fun c => ?_, fun c => ?_⟩
      · replace hm := ia_ifp hm c
        show K 163 [some (.inr (.inr 311)), some (.inl x1), some (.inl x2), none, some (.inl x4), some (.inl x5), some (.inl x6), some (.inl x7), some (.inl (ia_i h ((ia_r h 311 4) + 10) (((x6 * 4) + x7).toNatClampNeg)))] [] h
        refine ia_go hK ck_Wa_measure_163 ?_
        show K 66 [some (.inr (.inr 311)), some (.inl x1), some (.inl x2), none, some (.inl x4), some (.inl x5), some (.inl x6), some (.inl (x7 + 1)), some (.inl (ia_i h ((ia_r h 311 4) + 10) (((x6 * 4) + x7).toNatClampNeg)))] [] h
        refine ia_fg hK (lv' := [some (.inr (.inr 311)), some (.inl x1), some (.inl x2), none, some (.inl x4), some (.inl x5), some (.inl x6), some (.inl (x7 + 1)), none]) ⟨rfl, rfl, rfl, rfl, rfl, rfl, rfl, trivial⟩ ?_
        exact ih x4 x5 x6 (x7 + 1) h hg hm
      · replace hm := ia_ifn hm c
        show K 95 [some (.inr (.inr 311)), some (.inl x1), some (.inl x2), none, some (.inl x4), some (.inl x5), some (.inl x6), some (.inl x7), some (.inl (ia_i h ((ia_r h 311 4) + 10) (((x6 * 4) + x7).toNatClampNeg)))] [] h
        obtain ⟨c6, hm⟩ := ia_gd_some hm
        refine ia_go hK ck_Wa_measure_95 ⟨gk_11 hg pk_311, gr_11_7 hg pk_311, ga_i100 hg (ka_11_7 pk_311) c6, fun c => ?_, fun c => ?_⟩
        · replace hm := ia_ifn hm c
          show K 163 [some (.inr (.inr 311)), some (.inl x1), some (.inl x2), none, some (.inl x4), some (.inl x5), some (.inl x6), some (.inl x7), some (.inl (ia_i h ((ia_r h 311 4) + 10) (((x6 * 4) + x7).toNatClampNeg)))] [] h
          refine ia_go hK ck_Wa_measure_163 ?_
          show K 66 [some (.inr (.inr 311)), some (.inl x1), some (.inl x2), none, some (.inl x4), some (.inl x5), some (.inl x6), some (.inl (x7 + 1)), some (.inl (ia_i h ((ia_r h 311 4) + 10) (((x6 * 4) + x7).toNatClampNeg)))] [] h
          refine ia_fg hK (lv' := [some (.inr (.inr 311)), some (.inl x1), some (.inl x2), none, some (.inl x4), some (.inl x5), some (.inl x6), some (.inl (x7 + 1)), none]) ⟨rfl, rfl, rfl, rfl, rfl, rfl, rfl, trivial⟩ ?_
          exact ih x4 x5 x6 (x7 + 1) h hg hm
        · replace hm := ia_ifp hm c
          show K 106 [some (.inr (.inr 311)), some (.inl x1), some (.inl x2), none, some (.inl x4), some (.inl x5), some (.inl x6), some (.inl x7), some (.inl (ia_i h ((ia_r h 311 4) + 10) (((x6 * 4) + x7).toNatClampNeg)))] [] h
          refine ia_go hK ck_Wa_measure_106 ?_
          show K 111 [some (.inr (.inr 311)), some (.inl x1), some (.inl x2), none, some (.inl x4), some (.inl x5), some (.inl x6), some (.inl x7), some (.inl (ia_i h ((ia_r h 311 4) + 10) (((x6 * 4) + x7).toNatClampNeg)))] [.inl x6, .inl (ia_i h ((ia_r h 311 4) + 10) (((x6 * 4) + x7).toNatClampNeg)), .inr (.inr 311)] h
          obtain ⟨v7, hv7, hm⟩ := ia_bnd hm
          have ev7 := t_Wa_mayStep (d + 0) hg hv7
          refine ia_cV hK mk_Wa_mayStep lk_11_97 dc_Wa_measure_111 311 [.inl (ia_i h ((ia_r h 311 4) + 10) (((x6 * 4) + x7).toNatClampNeg)), .inl x6] [] rfl rfl (Nat.le_of_ble_eq_true rfl) (by decide) rfl (gk_11 hg pk_311) ev7 ⟨rfl, rfl⟩ ?_
          show K 114 [some (.inr (.inr 311)), some (.inl x1), some (.inl x2), none, some (.inl x4), some (.inl x5), some (.inl x6), some (.inl x7), some (.inl (ia_i h ((ia_r h 311 4) + 10) (((x6 * 4) + x7).toNatClampNeg)))] [.inl v7] h
          refine ia_go hK ck_Wa_measure_114 ⟨fun c => ?_, fun c => ?_⟩
          · replace hm := ia_ifp hm c
            show K 163 [some (.inr (.inr 311)), some (.inl x1), some (.inl x2), none, some (.inl x4), some (.inl x5), some (.inl x6), some (.inl x7), some (.inl (ia_i h ((ia_r h 311 4) + 10) (((x6 * 4) + x7).toNatClampNeg)))] [] h
            refine ia_go hK ck_Wa_measure_163 ?_
            show K 66 [some (.inr (.inr 311)), some (.inl x1), some (.inl x2), none, some (.inl x4), some (.inl x5), some (.inl x6), some (.inl (x7 + 1)), some (.inl (ia_i h ((ia_r h 311 4) + 10) (((x6 * 4) + x7).toNatClampNeg)))] [] h
            refine ia_fg hK (lv' := [some (.inr (.inr 311)), some (.inl x1), some (.inl x2), none, some (.inl x4), some (.inl x5), some (.inl x6), some (.inl (x7 + 1)), none]) ⟨rfl, rfl, rfl, rfl, rfl, rfl, rfl, trivial⟩ ?_
            exact ih x4 x5 x6 (x7 + 1) h hg hm
          · replace hm := ia_ifn hm c
            show K 117 [some (.inr (.inr 311)), some (.inl x1), some (.inl x2), none, some (.inl x4), some (.inl x5), some (.inl x6), some (.inl x7), some (.inl (ia_i h ((ia_r h 311 4) + 10) (((x6 * 4) + x7).toNatClampNeg)))] [] h
            obtain ⟨c8, hm⟩ := ia_gd_some hm
            obtain ⟨c9, hm⟩ := ia_gd_some hm
            obtain ⟨c10, hm⟩ := ia_gd_some hm
            refine ia_go hK ck_Wa_measure_117 ⟨gk_11 hg pk_311, gr_11_7 hg pk_311, gk_11 hg pk_311, gr_11_7 hg pk_311, ga_i100 hg (ka_11_7 pk_311) c8, ga_s100 hg (ka_11_7 pk_311) c9, gk_11 (gd_wI hg (kx_100 (ka_11_7 pk_311))) pk_311, gr_11_6 (gd_wI hg (kx_100 (ka_11_7 pk_311))) pk_311, ga_i100 (gd_wI hg (kx_100 (ka_11_7 pk_311))) (ka_11_6 pk_311) c10, fun c => ?_, fun c => ?_⟩
            · replace hm := ia_ifp hm c
              show K 163 [some (.inr (.inr 311)), some (.inl x1), some (.inl x2), none, some (.inl x4), some (.inl x5), some (.inl x6), some (.inl x7), some (.inl (ia_i h ((ia_r h 311 4) + 10) (((x6 * 4) + x7).toNatClampNeg)))] [] (ia_wI h 314 ((ia_i h ((ia_r h 311 4) + 10) (((x6 * 4) + x7).toNatClampNeg)).toNatClampNeg) ((ia_i h 314 ((x6).toNatClampNeg)) + 1))
              refine ia_go hK ck_Wa_measure_163 ?_
              show K 66 [some (.inr (.inr 311)), some (.inl x1), some (.inl x2), none, some (.inl x4), some (.inl x5), some (.inl x6), some (.inl (x7 + 1)), some (.inl (ia_i h ((ia_r h 311 4) + 10) (((x6 * 4) + x7).toNatClampNeg)))] [] (ia_wI h 314 ((ia_i h ((ia_r h 311 4) + 10) (((x6 * 4) + x7).toNatClampNeg)).toNatClampNeg) ((ia_i h 314 ((x6).toNatClampNeg)) + 1))
              refine ia_fg hK (lv' := [some (.inr (.inr 311)), some (.inl x1), some (.inl x2), none, some (.inl x4), some (.inl x5), some (.inl x6), some (.inl (x7 + 1)), none]) ⟨rfl, rfl, rfl, rfl, rfl, rfl, rfl, trivial⟩ ?_
              exact ih x4 x5 x6 (x7 + 1) (ia_wI h 314 ((ia_i h ((ia_r h 311 4) + 10) (((x6 * 4) + x7).toNatClampNeg)).toNatClampNeg) ((ia_i h 314 ((x6).toNatClampNeg)) + 1)) (gd_wI hg (kx_100 (ka_11_7 pk_311))) hm
            · replace hm := ia_ifn hm c
              show K 144 [some (.inr (.inr 311)), some (.inl x1), some (.inl x2), none, some (.inl x4), some (.inl x5), some (.inl x6), some (.inl x7), some (.inl (ia_i h ((ia_r h 311 4) + 10) (((x6 * 4) + x7).toNatClampNeg)))] [] (ia_wI h 314 ((ia_i h ((ia_r h 311 4) + 10) (((x6 * 4) + x7).toNatClampNeg)).toNatClampNeg) ((ia_i h 314 ((x6).toNatClampNeg)) + 1))
              refine ia_go hK ck_Wa_measure_144 ⟨fun c => ?_, fun c => ?_⟩
              · replace hm := ia_ifp hm c
                show K 163 [some (.inr (.inr 311)), some (.inl x1), some (.inl x2), none, some (.inl x4), some (.inl x5), some (.inl x6), some (.inl x7), some (.inl (ia_i h ((ia_r h 311 4) + 10) (((x6 * 4) + x7).toNatClampNeg)))] [] (ia_wI h 314 ((ia_i h ((ia_r h 311 4) + 10) (((x6 * 4) + x7).toNatClampNeg)).toNatClampNeg) ((ia_i h 314 ((x6).toNatClampNeg)) + 1))
                refine ia_go hK ck_Wa_measure_163 ?_
                show K 66 [some (.inr (.inr 311)), some (.inl x1), some (.inl x2), none, some (.inl x4), some (.inl x5), some (.inl x6), some (.inl (x7 + 1)), some (.inl (ia_i h ((ia_r h 311 4) + 10) (((x6 * 4) + x7).toNatClampNeg)))] [] (ia_wI h 314 ((ia_i h ((ia_r h 311 4) + 10) (((x6 * 4) + x7).toNatClampNeg)).toNatClampNeg) ((ia_i h 314 ((x6).toNatClampNeg)) + 1))
                refine ia_fg hK (lv' := [some (.inr (.inr 311)), some (.inl x1), some (.inl x2), none, some (.inl x4), some (.inl x5), some (.inl x6), some (.inl (x7 + 1)), none]) ⟨rfl, rfl, rfl, rfl, rfl, rfl, rfl, trivial⟩ ?_
                exact ih x4 x5 x6 (x7 + 1) (ia_wI h 314 ((ia_i h ((ia_r h 311 4) + 10) (((x6 * 4) + x7).toNatClampNeg)).toNatClampNeg) ((ia_i h 314 ((x6).toNatClampNeg)) + 1)) (gd_wI hg (kx_100 (ka_11_7 pk_311))) hm
              · replace hm := ia_ifn hm c
                show K 151 [some (.inr (.inr 311)), some (.inl x1), some (.inl x2), none, some (.inl x4), some (.inl x5), some (.inl x6), some (.inl x7), some (.inl (ia_i h ((ia_r h 311 4) + 10) (((x6 * 4) + x7).toNatClampNeg)))] [] (ia_wI h 314 ((ia_i h ((ia_r h 311 4) + 10) (((x6 * 4) + x7).toNatClampNeg)).toNatClampNeg) ((ia_i h 314 ((x6).toNatClampNeg)) + 1))
                obtain ⟨c11, hm⟩ := ia_gd_some hm
                refine ia_go hK ck_Wa_measure_151 ⟨gk_11 (gd_wI hg (kx_100 (ka_11_7 pk_311))) pk_311, gr_11_8 (gd_wI hg (kx_100 (ka_11_7 pk_311))) pk_311, ga_s100 (gd_wI hg (kx_100 (ka_11_7 pk_311))) (ka_11_8 pk_311) c11, ?_⟩
                show K 66 [some (.inr (.inr 311)), some (.inl x1), some (.inl x2), none, some (.inl (x4 + 1)), some (.inl x5), some (.inl x6), some (.inl (x7 + 1)), some (.inl (ia_i h ((ia_r h 311 4) + 10) (((x6 * 4) + x7).toNatClampNeg)))] [] (ia_wI (ia_wI h 314 ((ia_i h ((ia_r h 311 4) + 10) (((x6 * 4) + x7).toNatClampNeg)).toNatClampNeg) ((ia_i h 314 ((x6).toNatClampNeg)) + 1)) 315 ((x4).toNatClampNeg) (ia_i h ((ia_r h 311 4) + 10) (((x6 * 4) + x7).toNatClampNeg)))
                refine ia_fg hK (lv' := [some (.inr (.inr 311)), some (.inl x1), some (.inl x2), none, some (.inl (x4 + 1)), some (.inl x5), some (.inl x6), some (.inl (x7 + 1)), none]) ⟨rfl, rfl, rfl, rfl, rfl, rfl, rfl, trivial⟩ ?_
                exact ih (x4 + 1) x5 x6 (x7 + 1) (ia_wI (ia_wI h 314 ((ia_i h ((ia_r h 311 4) + 10) (((x6 * 4) + x7).toNatClampNeg)).toNatClampNeg) ((ia_i h 314 ((x6).toNatClampNeg)) + 1)) 315 ((x4).toNatClampNeg) (ia_i h ((ia_r h 311 4) + 10) (((x6 * 4) + x7).toNatClampNeg))) (gd_wI (gd_wI hg (kx_100 (ka_11_7 pk_311))) (kx_100 (ka_11_8 pk_311))) hm
theorem gl_Wa_measure_66 {w : ia_O0} {x1 : Int32} {x2 : Int32} {x3 : Int32} {r : Int32} {h1 : ia_H} {k169 : Int32 → Int32 → ia_H → Option (Int32 × ia_H)} (hk169 : ∀ (x4 : Int32) (x5 : Int32) (h : ia_H), gd_ w h → k169 x4 x5 h = some (r, h1) → gd_ w h1) : ∀ (n : Nat) (x4 : Int32) (x5 : Int32) (x6 : Int32) (x7 : Int32) (h : ia_H), gd_ w h → l_Wa_measure_66 x1 x2 x3 k169 n x4 x5 x6 x7 h = some (r, h1) → gd_ w h1 := by
  intro n
  induction n with
  | zero =>
    intro x4 x5 x6 x7 h hg hm
    cases (show (none : Option (Int32 × ia_H)) = some _ from hm)
  | succ n ih =>
    intro x4 x5 x6 x7 h hg hm
    rw [l_Wa_measure_66] at hm
    by_cases c : 4 ≤ x7
    · replace hm := ia_ifp hm c
      exact hk169 x4 x5 h hg hm
    · replace hm := ia_ifn hm c
      obtain ⟨c5, hm⟩ := ia_gd_some hm
      by_cases c : (ia_i h ((ia_r h 311 4) + 10) (((x6 * 4) + x7).toNatClampNeg)) = (-1)
      · replace hm := ia_ifp hm c
        exact ih x4 x5 x6 (x7 + 1) h hg hm
      · replace hm := ia_ifn hm c
        obtain ⟨c6, hm⟩ := ia_gd_some hm
        by_cases c : (ia_i h 314 ((ia_i h ((ia_r h 311 4) + 10) (((x6 * 4) + x7).toNatClampNeg)).toNatClampNeg)) = (-1)
        · replace hm := ia_ifp hm c
          obtain ⟨v7, hv7, hm⟩ := ia_bnd hm
          by_cases c : v7 = 0
          · replace hm := ia_ifp hm c
            exact ih x4 x5 x6 (x7 + 1) h hg hm
          · replace hm := ia_ifn hm c
            obtain ⟨c8, hm⟩ := ia_gd_some hm
            obtain ⟨c9, hm⟩ := ia_gd_some hm
            obtain ⟨c10, hm⟩ := ia_gd_some hm
            by_cases c : (ia_i (ia_wI h 314 ((ia_i h ((ia_r h 311 4) + 10) (((x6 * 4) + x7).toNatClampNeg)).toNatClampNeg) ((ia_i h 314 ((x6).toNatClampNeg)) + 1)) 313 ((ia_i h ((ia_r h 311 4) + 10) (((x6 * 4) + x7).toNatClampNeg)).toNatClampNeg)) < x1
            · replace hm := ia_ifp hm c
              exact ih x4 x5 x6 (x7 + 1) (ia_wI h 314 ((ia_i h ((ia_r h 311 4) + 10) (((x6 * 4) + x7).toNatClampNeg)).toNatClampNeg) ((ia_i h 314 ((x6).toNatClampNeg)) + 1)) (gd_wI hg (kx_100 (ka_11_7 pk_311))) hm
            · replace hm := ia_ifn hm c
              by_cases c : 36 ≤ x4
              · replace hm := ia_ifp hm c
                exact ih x4 x5 x6 (x7 + 1) (ia_wI h 314 ((ia_i h ((ia_r h 311 4) + 10) (((x6 * 4) + x7).toNatClampNeg)).toNatClampNeg) ((ia_i h 314 ((x6).toNatClampNeg)) + 1)) (gd_wI hg (kx_100 (ka_11_7 pk_311))) hm
              · replace hm := ia_ifn hm c
                obtain ⟨c11, hm⟩ := ia_gd_some hm
                exact ih (x4 + 1) x5 x6 (x7 + 1) (ia_wI (ia_wI h 314 ((ia_i h ((ia_r h 311 4) + 10) (((x6 * 4) + x7).toNatClampNeg)).toNatClampNeg) ((ia_i h 314 ((x6).toNatClampNeg)) + 1)) 315 ((x4).toNatClampNeg) (ia_i h ((ia_r h 311 4) + 10) (((x6 * 4) + x7).toNatClampNeg))) (gd_wI (gd_wI hg (kx_100 (ka_11_7 pk_311))) (kx_100 (ka_11_8 pk_311))) hm
        · replace hm := ia_ifn hm c
          exact ih x4 x5 x6 (x7 + 1) h hg hm
def l_Wa_measure_40 (x1 : Int32) (x2 : Int32) (x3 : Int32) (k175 : ia_H → Option (Int32 × ia_H)) (n : Nat) (x4 : Int32) (x5 : Int32) (h : ia_H) : Option (Int32 × ia_H) := match n with
  | 0 => none
  | n + 1 => if x4 ≤ x5 then (k175 h) else (if 36 ≤ x5 then (k175 h) else (ia_gd (ia_ib x5 36) (l_Wa_measure_66 x1 x2 x3 (fun x4 x5 h => l_Wa_measure_40 x1 x2 x3 k175 n x4 (x5 + 1) h) fu_ x4 x5 (ia_i h 315 ((x5).toNatClampNeg)) 0 h)))
theorem tl_Wa_measure_40 {w : ia_O0} {d N1 W1 : Nat} {K : ia_K} (hK : ia_isK (d + 1) mm_Wa_measure N1 W1 K) {x1 : Int32} {x2 : Int32} {x3 : Int32} {r : Int32} {h1 : ia_H} (hret : ∀ (pc : Nat) (lv : ia_L), ia_ret mm_Wa_measure pc (some (.inl r)) → K pc lv ((some (.inl r)) : Option ia_V).toList h1) {k175 : ia_H → Option (Int32 × ia_H)} (hk175 : ∀ (h : ia_H), gd_ w h → k175 h = some (r, h1) → K 175 [some (.inr (.inr 311)), none, some (.inl x2), none, none, none, none, none, none] [] h) : ∀ (n : Nat) (x4 : Int32) (x5 : Int32) (h : ia_H), gd_ w h → l_Wa_measure_40 x1 x2 x3 k175 n x4 x5 h = some (r, h1) → K 40 [some (.inr (.inr 311)), some (.inl x1), some (.inl x2), none, some (.inl x4), some (.inl x5), none, none, none] [] h := by
  intro n
  induction n with
  | zero =>
    intro x4 x5 h hg hm
    cases (show (none : Option (Int32 × ia_H)) = some _ from hm)
  | succ n ih =>
    intro x4 x5 h hg hm
    rw [l_Wa_measure_40] at hm
    refine ia_go hK ck_Wa_measure_40 ⟨fun c => ?_, fun c => ?_⟩
    · replace hm := ia_ifp hm c
      show K 175 [some (.inr (.inr 311)), some (.inl x1), some (.inl x2), none, some (.inl x4), some (.inl x5), none, none, none] [] h
      refine ia_fg hK (lv' := [some (.inr (.inr 311)), none, some (.inl x2), none, none, none, none, none, none]) ⟨rfl, rfl, trivial⟩ ?_
      exact hk175 h hg hm
    · replace hm := ia_ifn hm c
      show K 47 [some (.inr (.inr 311)), some (.inl x1), some (.inl x2), none, some (.inl x4), some (.inl x5), none, none, none] [] h
      refine ia_go hK ck_Wa_measure_47 ⟨fun c => ?_, fun c => ?_⟩
      · replace hm := ia_ifp hm c
        show K 175 [some (.inr (.inr 311)), some (.inl x1), some (.inl x2), none, some (.inl x4), some (.inl x5), none, none, none] [] h
        refine ia_fg hK (lv' := [some (.inr (.inr 311)), none, some (.inl x2), none, none, none, none, none, none]) ⟨rfl, rfl, trivial⟩ ?_
        exact hk175 h hg hm
      · replace hm := ia_ifn hm c
        show K 54 [some (.inr (.inr 311)), some (.inl x1), some (.inl x2), none, some (.inl x4), some (.inl x5), none, none, none] [] h
        obtain ⟨c4, hm⟩ := ia_gd_some hm
        refine ia_go hK ck_Wa_measure_54 ⟨gk_11 hg pk_311, gr_11_8 hg pk_311, ga_i100 hg (ka_11_8 pk_311) c4, ?_⟩
        show K 66 [some (.inr (.inr 311)), some (.inl x1), some (.inl x2), none, some (.inl x4), some (.inl x5), some (.inl (ia_i h 315 ((x5).toNatClampNeg))), some (.inl 0), none] [] h
        refine tl_Wa_measure_66 hK hret ?_ fu_ x4 x5 (ia_i h 315 ((x5).toNatClampNeg)) 0 h hg hm
        · intro x4 x5 h hg hm
          refine ia_go hK ck_Wa_measure_169 ?_
          show K 40 [some (.inr (.inr 311)), some (.inl x1), some (.inl x2), none, some (.inl x4), some (.inl (x5 + 1)), none, none, none] [] h
          exact ih x4 (x5 + 1) h hg hm
theorem gl_Wa_measure_40 {w : ia_O0} {x1 : Int32} {x2 : Int32} {x3 : Int32} {r : Int32} {h1 : ia_H} {k175 : ia_H → Option (Int32 × ia_H)} (hk175 : ∀ (h : ia_H), gd_ w h → k175 h = some (r, h1) → gd_ w h1) : ∀ (n : Nat) (x4 : Int32) (x5 : Int32) (h : ia_H), gd_ w h → l_Wa_measure_40 x1 x2 x3 k175 n x4 x5 h = some (r, h1) → gd_ w h1 := by
  intro n
  induction n with
  | zero =>
    intro x4 x5 h hg hm
    cases (show (none : Option (Int32 × ia_H)) = some _ from hm)
  | succ n ih =>
    intro x4 x5 h hg hm
    rw [l_Wa_measure_40] at hm
    by_cases c : x4 ≤ x5
    · replace hm := ia_ifp hm c
      exact hk175 h hg hm
    · replace hm := ia_ifn hm c
      by_cases c : 36 ≤ x5
      · replace hm := ia_ifp hm c
        exact hk175 h hg hm
      · replace hm := ia_ifn hm c
        obtain ⟨c4, hm⟩ := ia_gd_some hm
        refine gl_Wa_measure_66 ?_ fu_ x4 x5 (ia_i h 315 ((x5).toNatClampNeg)) 0 h hg hm
        · intro x4 x5 h hg hm
          exact ih x4 (x5 + 1) h hg hm
def j_Wa_measure_175 (x1 : Int32) (x2 : Int32) (x3 : Int32) (h : ia_H) : Option (Int32 × ia_H) := ia_gd (ia_ib x2 36) (some (ia_i h 314 ((x2).toNatClampNeg), h))
theorem tj_Wa_measure_175 {w : ia_O0} {d N1 W1 : Nat} {K : ia_K} (hK : ia_isK (d + 1) mm_Wa_measure N1 W1 K) {x1 : Int32} {x2 : Int32} {x3 : Int32} {r : Int32} {h1 : ia_H} (hret : ∀ (pc : Nat) (lv : ia_L), ia_ret mm_Wa_measure pc (some (.inl r)) → K pc lv ((some (.inl r)) : Option ia_V).toList h1) : ∀ (h : ia_H), gd_ w h → j_Wa_measure_175 x1 x2 x3 h = some (r, h1) → K 175 [some (.inr (.inr 311)), none, some (.inl x2), none, none, none, none, none, none] [] h := by
  intro h hg hm
  unfold j_Wa_measure_175 at hm
  obtain ⟨c12, hm⟩ := ia_gd_some hm
  refine ia_go hK ck_Wa_measure_175 ⟨gk_11 hg pk_311, gr_11_7 hg pk_311, ga_i100 hg (ka_11_7 pk_311) c12, ?_⟩
  show K 181 [some (.inr (.inr 311)), none, some (.inl x2), none, none, none, none, none, none] [.inl (ia_i h 314 ((x2).toNatClampNeg))] h
  obtain ⟨rfl, rfl⟩ := Prod.mk.inj (Option.some.inj hm)
  exact hret 181 _ dc_Wa_measure_181
theorem gj_Wa_measure_175 {w : ia_O0} {x1 : Int32} {x2 : Int32} {x3 : Int32} {r : Int32} {h1 : ia_H} : ∀ (h : ia_H), gd_ w h → j_Wa_measure_175 x1 x2 x3 h = some (r, h1) → gd_ w h1 := by
  intro h hg hm
  unfold j_Wa_measure_175 at hm
  obtain ⟨c12, hm⟩ := ia_gd_some hm
  obtain ⟨rfl, rfl⟩ := Prod.mk.inj (Option.some.inj hm)
  exact hg
def f_Wa_measure (x1 : Int32) (x2 : Int32) (x3 : Int32) (h : ia_H) : Option (Int32 × ia_H) := (f_Ar_fill 314 (-1) h).bind fun v1 => (ia_gd (ia_ib x3 36) (if x1 ≤ (ia_i v1 313 ((x3).toNatClampNeg)) then (ia_gd (ia_ib x3 36) (l_Wa_measure_40 x1 x2 x3 (fun h => j_Wa_measure_175 x1 x2 x3 h) fu_ 1 0 (ia_wI (ia_wI v1 314 ((x3).toNatClampNeg) 0) 315 0 x3))) else (some ((-1), v1))))
theorem g_Wa_measure {w : ia_O0} {x1 : Int32} {x2 : Int32} {x3 : Int32} {h : ia_H} (hg : gd_ w h) {q : (Int32 × ia_H)} (hm : f_Wa_measure x1 x2 x3 h = some q) : gd_ w q.2 := by
  obtain ⟨r, h1⟩ := q
  unfold f_Wa_measure at hm
  obtain ⟨v1, hv1, hm⟩ := ia_bnd hm
  have gv1 := g_Ar_fill hg (congrArg Prod.fst (ka_11_7 pk_311)) hv1
  obtain ⟨c2, hm⟩ := ia_gd_some hm
  by_cases c : x1 ≤ (ia_i v1 313 ((x3).toNatClampNeg))
  · replace hm := ia_ifp hm c
    obtain ⟨c3, hm⟩ := ia_gd_some hm
    refine gl_Wa_measure_40 ?_ fu_ 1 0 (ia_wI (ia_wI v1 314 ((x3).toNatClampNeg) 0) 315 0 x3) (gd_wI (gd_wI gv1 (kx_100 (ka_11_7 pk_311))) (kx_100 (ka_11_8 pk_311))) hm
    · intro h hg hm
      exact gj_Wa_measure_175 h hg hm
  · replace hm := ia_ifn hm c
    obtain ⟨rfl, rfl⟩ := Prod.mk.inj (Option.some.inj hm)
    exact gv1
theorem t_Wa_measure {w : ia_O0} (d : Nat) {x1 : Int32} {x2 : Int32} {x3 : Int32} {h : ia_H} (hg : gd_ w h) {q : (Int32 × ia_H)} (hm : f_Wa_measure x1 x2 x3 h = some q) : ia_Ev (d + 1) mm_Wa_measure [.inr (.inr 311), .inl x1, .inl x2, .inl x3] h (some (.inl q.1)) q.2 := by
  have gq := g_Wa_measure hg hm
  refine ia_Ev_intro ok_Wa_measure (gd_le hg gq).1 (gd_le hg gq).2 (Nat.le_of_ble_eq_true rfl) (fun K hK hret => ?_)
  obtain ⟨r, h1⟩ := q
  show K 0 [some (.inr (.inr 311)), some (.inl x1), some (.inl x2), some (.inl x3), none, none, none, none, none] [] h
  unfold f_Wa_measure at hm
  refine ia_go hK ck_Wa_measure_0 ⟨gk_11 hg pk_311, gr_11_7 hg pk_311, ?_⟩
  show K 5 [some (.inr (.inr 311)), some (.inl x1), some (.inl x2), some (.inl x3), none, none, none, none, none] [.inl (-1), .inr (.inr 314)] h
  obtain ⟨v1, hv1, hm⟩ := ia_bnd hm
  have ev1 := t_Ar_fill (d + 0) hg (congrArg Prod.fst (ka_11_7 pk_311)) hv1
  have gv1 := g_Ar_fill hg (congrArg Prod.fst (ka_11_7 pk_311)) hv1
  refine ia_cS hK mk_Ar_fill lk_11_101 dc_Wa_measure_5 [.inr (.inr 314), .inl (-1)] [] rfl rfl (Nat.le_of_ble_eq_true rfl) ev1 (gd_nm hg gv1) ?_
  show K 8 [some (.inr (.inr 311)), some (.inl x1), some (.inl x2), some (.inl x3), none, none, none, none, none] [] v1
  obtain ⟨c2, hm⟩ := ia_gd_some hm
  refine ia_go hK ck_Wa_measure_8 ⟨gk_11 gv1 pk_311, gr_11_6 gv1 pk_311, ga_i100 gv1 (ka_11_6 pk_311) c2, fun c => ?_, fun c => ?_⟩
  · replace hm := ia_ifp hm c
    show K 20 [some (.inr (.inr 311)), some (.inl x1), some (.inl x2), some (.inl x3), none, none, none, none, none] [] v1
    obtain ⟨c3, hm⟩ := ia_gd_some hm
    refine ia_go hK ck_Wa_measure_20 ⟨gk_11 gv1 pk_311, gr_11_7 gv1 pk_311, ga_s100 gv1 (ka_11_7 pk_311) c3, gk_11 (gd_wI gv1 (kx_100 (ka_11_7 pk_311))) pk_311, gr_11_8 (gd_wI gv1 (kx_100 (ka_11_7 pk_311))) pk_311, ga_s100 (gd_wI gv1 (kx_100 (ka_11_7 pk_311))) (ka_11_8 pk_311) (by decide), ?_⟩
    show K 40 [some (.inr (.inr 311)), some (.inl x1), some (.inl x2), some (.inl x3), some (.inl 1), some (.inl 0), none, none, none] [] (ia_wI (ia_wI v1 314 ((x3).toNatClampNeg) 0) 315 0 x3)
    refine ia_fg hK (lv' := [some (.inr (.inr 311)), some (.inl x1), some (.inl x2), none, some (.inl 1), some (.inl 0), none, none, none]) ⟨rfl, rfl, rfl, rfl, rfl, trivial⟩ ?_
    refine tl_Wa_measure_40 hK hret ?_ fu_ 1 0 (ia_wI (ia_wI v1 314 ((x3).toNatClampNeg) 0) 315 0 x3) (gd_wI (gd_wI gv1 (kx_100 (ka_11_7 pk_311))) (kx_100 (ka_11_8 pk_311))) hm
    · intro h hg hm
      exact tj_Wa_measure_175 hK hret h hg hm
  · replace hm := ia_ifn hm c
    show K 18 [some (.inr (.inr 311)), some (.inl x1), some (.inl x2), some (.inl x3), none, none, none, none, none] [] v1
    refine ia_go hK ck_Wa_measure_18 ?_
    show K 19 [some (.inr (.inr 311)), some (.inl x1), some (.inl x2), some (.inl x3), none, none, none, none, none] [.inl (-1)] v1
    obtain ⟨rfl, rfl⟩ := Prod.mk.inj (Option.some.inj hm)
    exact hret 19 _ dc_Wa_measure_19
def mm_Wa_nextNearer : ia_M := (⟨"IceStreet$Ways", "nextNearer", "(II)I"⟩, prog_12_method_6_code, 5, (some .int), 11, false)
theorem ok_Wa_nextNearer : ia_mok mm_Wa_nextNearer := ⟨by decide +kernel, by decide +kernel, by decide +kernel, by decide +kernel⟩
theorem mk_Wa_nextNearer : ia_mkn mm_Wa_nextNearer 1 2 := ⟨ia_tb_in (List.mem_of_getElem? (i := 1176) (by decide +kernel)) rfl, ia_tb_in (List.mem_of_getElem? (i := 141) (by decide +kernel)) rfl, by decide +kernel, by decide +kernel, ⟨ia_tb_in (List.mem_of_getElem? (i := 1175) (by decide +kernel)) rfl, ia_tb_in (List.mem_of_getElem? (i := 30) (by decide +kernel)) rfl⟩⟩
theorem ck_Wa_nextNearer_0 : ia_cks 11 5 false prog_12_method_6_code 0 [(.iconst 0, 0, 0, 0, 0), (.istore_n 3, 0, 0, 0, 0)] = true := by decide +kernel
theorem ck_Wa_nextNearer_2 : ia_cks 11 5 false prog_12_method_6_code 2 [(.iload_n 3, 0, 0, 0, 0), (.iconst 4, 0, 0, 0, 0), (.if_icmp .ge 72, 0, 0, 0, 0)] = true := by decide +kernel
theorem ck_Wa_nextNearer_7 : ia_cks 11 5 false prog_12_method_6_code 7 [(.aload_n 0, 0, 0, 0, 0), (.getfield 29, 11, 4, 2, 0), (.getfield 94, 3, 16, 3, 10), (.iload_n 1, 0, 0, 0, 0), (.iconst 4, 0, 0, 0, 0), (.imul, 0, 0, 0, 0), (.iload_n 3, 0, 0, 0, 0), (.iadd, 0, 0, 0, 0), (.iaload, 0, 0, 0, 0), (.istore 4, 0, 0, 0, 0), (.iload 4, 0, 0, 0, 0), (.iconst (-1), 0, 0, 0, 0), (.if_icmp .eq 45, 0, 0, 0, 0)] = true := by decide +kernel
theorem ck_Wa_nextNearer_70 : ia_cks 11 5 false prog_12_method_6_code 70 [(.iinc 3 1, 0, 0, 0, 0), (.goto (-71), 0, 0, 0, 0)] = true := by decide +kernel
theorem ck_Wa_nextNearer_28 : ia_cks 11 5 false prog_12_method_6_code 28 [(.aload_n 0, 0, 0, 0, 0), (.getfield 15, 11, 6, 3, 2), (.iload 4, 0, 0, 0, 0), (.iaload, 0, 0, 0, 0), (.iload_n 2, 0, 0, 0, 0), (.if_icmp .lt 34, 0, 0, 0, 0)] = true := by decide +kernel
theorem ck_Wa_nextNearer_39 : ia_cks 11 5 false prog_12_method_6_code 39 [(.aload_n 0, 0, 0, 0, 0), (.getfield 18, 11, 7, 3, 3), (.iload 4, 0, 0, 0, 0), (.iaload, 0, 0, 0, 0), (.aload_n 0, 0, 0, 0, 0), (.getfield 18, 11, 7, 3, 3), (.iload_n 1, 0, 0, 0, 0), (.iaload, 0, 0, 0, 0), (.iconst 1, 0, 0, 0, 0), (.isub, 0, 0, 0, 0), (.if_icmp .ne 16, 0, 0, 0, 0)] = true := by decide +kernel
theorem ck_Wa_nextNearer_57 : ia_cks 11 5 false prog_12_method_6_code 57 [(.aload_n 0, 0, 0, 0, 0), (.iload_n 1, 0, 0, 0, 0), (.iload 4, 0, 0, 0, 0)] = true := by decide +kernel
theorem ck_Wa_nextNearer_64 : ia_cks 11 5 false prog_12_method_6_code 64 [(.ifCond .eq 6, 0, 0, 0, 0)] = true := by decide +kernel
theorem ck_Wa_nextNearer_67 : ia_cks 11 5 false prog_12_method_6_code 67 [(.iload 4, 0, 0, 0, 0)] = true := by decide +kernel
theorem ck_Wa_nextNearer_76 : ia_cks 11 5 false prog_12_method_6_code 76 [(.iload_n 1, 0, 0, 0, 0)] = true := by decide +kernel
theorem dc_Wa_nextNearer_61 : decode prog_12_method_6_code 61 = .ok (.invokevirtual 97, 3) := by decide +kernel
theorem dc_Wa_nextNearer_69 : decode prog_12_method_6_code 69 = .ok (.ireturn, 1) := by decide +kernel
theorem dc_Wa_nextNearer_77 : decode prog_12_method_6_code 77 = .ok (.ireturn, 1) := by decide +kernel
def l_Wa_nextNearer_2 (x1 : Int32) (x2 : Int32) (h : ia_H) (k67 : Int32 → Option Int32) (k76 : Option Int32) (n : Nat) (x3 : Int32) : Option Int32 := match n with
  | 0 => none
  | n + 1 => if 4 ≤ x3 then k76 else (ia_gd (ia_ib ((x1 * 4) + x3) 144) (if (ia_i h ((ia_r h 311 4) + 10) (((x1 * 4) + x3).toNatClampNeg)) = (-1) then (l_Wa_nextNearer_2 x1 x2 h k67 k76 n (x3 + 1)) else (ia_gd (ia_ib (ia_i h ((ia_r h 311 4) + 10) (((x1 * 4) + x3).toNatClampNeg)) 36) (if (ia_i h 313 ((ia_i h ((ia_r h 311 4) + 10) (((x1 * 4) + x3).toNatClampNeg)).toNatClampNeg)) < x2 then (l_Wa_nextNearer_2 x1 x2 h k67 k76 n (x3 + 1)) else (ia_gd (ia_ib (ia_i h ((ia_r h 311 4) + 10) (((x1 * 4) + x3).toNatClampNeg)) 36) (ia_gd (ia_ib x1 36) (if (ia_i h 314 ((ia_i h ((ia_r h 311 4) + 10) (((x1 * 4) + x3).toNatClampNeg)).toNatClampNeg)) = ((ia_i h 314 ((x1).toNatClampNeg)) - 1) then ((f_Wa_mayStep x1 (ia_i h ((ia_r h 311 4) + 10) (((x1 * 4) + x3).toNatClampNeg)) h).bind fun v5 => (if v5 = 0 then (l_Wa_nextNearer_2 x1 x2 h k67 k76 n (x3 + 1)) else (k67 (ia_i h ((ia_r h 311 4) + 10) (((x1 * 4) + x3).toNatClampNeg))))) else (l_Wa_nextNearer_2 x1 x2 h k67 k76 n (x3 + 1)))))))))
theorem tl_Wa_nextNearer_2 {w : ia_O0} {d N1 W1 : Nat} {K : ia_K} (hK : ia_isK (d + 1) mm_Wa_nextNearer N1 W1 K) {x1 : Int32} {x2 : Int32} {h : ia_H} (hg : gd_ w h) {r : Int32} (hret : ∀ (pc : Nat) (lv : ia_L), ia_ret mm_Wa_nextNearer pc (some (.inl r)) → K pc lv ((some (.inl r)) : Option ia_V).toList h) {k67 : Int32 → Option Int32} {k76 : Option Int32} (hk67 : ∀ (x4 : Int32), k67 x4 = some r → K 67 [none, none, none, none, some (.inl x4)] [] h) (hk76 : k76 = some r → K 76 [none, some (.inl x1), none, none, none] [] h) : ∀ (n : Nat) (x3 : Int32), l_Wa_nextNearer_2 x1 x2 h k67 k76 n x3 = some r → K 2 [some (.inr (.inr 311)), some (.inl x1), some (.inl x2), some (.inl x3), none] [] h := by
  intro n
  induction n with
  | zero =>
    intro x3 hm
    cases (show (none : Option Int32) = some _ from hm)
  | succ n ih =>
    intro x3 hm
    rw [l_Wa_nextNearer_2] at hm
    refine ia_go hK ck_Wa_nextNearer_2 ⟨fun c => ?_, fun c => ?_⟩
    · replace hm := ia_ifp hm c
      show K 76 [some (.inr (.inr 311)), some (.inl x1), some (.inl x2), some (.inl x3), none] [] h
      refine ia_fg hK (lv' := [none, some (.inl x1), none, none, none]) ⟨rfl, trivial⟩ ?_
      exact hk76 hm
    · replace hm := ia_ifn hm c
      show K 7 [some (.inr (.inr 311)), some (.inl x1), some (.inl x2), some (.inl x3), none] [] h
      obtain ⟨c1, hm⟩ := ia_gd_some hm
      refine ia_go hK ck_Wa_nextNearer_7 ⟨gk_11 hg pk_311, gk_3 hg (gm_11_4 hg pk_311), gr_3_16 hg (gm_11_4 hg pk_311), ga_i100 hg (ka_3_16 (gm_11_4 hg pk_311)) c1, fun c => ?_, fun c => ?_⟩
      · replace hm := ia_ifp hm c
        show K 70 [some (.inr (.inr 311)), some (.inl x1), some (.inl x2), some (.inl x3), some (.inl (ia_i h ((ia_r h 311 4) + 10) (((x1 * 4) + x3).toNatClampNeg)))] [] h
        refine ia_go hK ck_Wa_nextNearer_70 ?_
        show K 2 [some (.inr (.inr 311)), some (.inl x1), some (.inl x2), some (.inl (x3 + 1)), some (.inl (ia_i h ((ia_r h 311 4) + 10) (((x1 * 4) + x3).toNatClampNeg)))] [] h
        refine ia_fg hK (lv' := [some (.inr (.inr 311)), some (.inl x1), some (.inl x2), some (.inl (x3 + 1)), none]) ⟨rfl, rfl, rfl, rfl, trivial⟩ ?_
        exact ih (x3 + 1) hm
      · replace hm := ia_ifn hm c
        show K 28 [some (.inr (.inr 311)), some (.inl x1), some (.inl x2), some (.inl x3), some (.inl (ia_i h ((ia_r h 311 4) + 10) (((x1 * 4) + x3).toNatClampNeg)))] [] h
        obtain ⟨c2, hm⟩ := ia_gd_some hm
        refine ia_go hK ck_Wa_nextNearer_28 ⟨gk_11 hg pk_311, gr_11_6 hg pk_311, ga_i100 hg (ka_11_6 pk_311) c2, fun c => ?_, fun c => ?_⟩
        · replace hm := ia_ifp hm c
          show K 70 [some (.inr (.inr 311)), some (.inl x1), some (.inl x2), some (.inl x3), some (.inl (ia_i h ((ia_r h 311 4) + 10) (((x1 * 4) + x3).toNatClampNeg)))] [] h
          refine ia_go hK ck_Wa_nextNearer_70 ?_
          show K 2 [some (.inr (.inr 311)), some (.inl x1), some (.inl x2), some (.inl (x3 + 1)), some (.inl (ia_i h ((ia_r h 311 4) + 10) (((x1 * 4) + x3).toNatClampNeg)))] [] h
          refine ia_fg hK (lv' := [some (.inr (.inr 311)), some (.inl x1), some (.inl x2), some (.inl (x3 + 1)), none]) ⟨rfl, rfl, rfl, rfl, trivial⟩ ?_
          exact ih (x3 + 1) hm
        · replace hm := ia_ifn hm c
          show K 39 [some (.inr (.inr 311)), some (.inl x1), some (.inl x2), some (.inl x3), some (.inl (ia_i h ((ia_r h 311 4) + 10) (((x1 * 4) + x3).toNatClampNeg)))] [] h
          obtain ⟨c3, hm⟩ := ia_gd_some hm
          obtain ⟨c4, hm⟩ := ia_gd_some hm
          refine ia_go hK ck_Wa_nextNearer_39 ⟨gk_11 hg pk_311, gr_11_7 hg pk_311, ga_i100 hg (ka_11_7 pk_311) c3, gk_11 hg pk_311, gr_11_7 hg pk_311, ga_i100 hg (ka_11_7 pk_311) c4, fun c => ?_, fun c => ?_⟩
          · replace hm := ia_ifn hm c
            show K 70 [some (.inr (.inr 311)), some (.inl x1), some (.inl x2), some (.inl x3), some (.inl (ia_i h ((ia_r h 311 4) + 10) (((x1 * 4) + x3).toNatClampNeg)))] [] h
            refine ia_go hK ck_Wa_nextNearer_70 ?_
            show K 2 [some (.inr (.inr 311)), some (.inl x1), some (.inl x2), some (.inl (x3 + 1)), some (.inl (ia_i h ((ia_r h 311 4) + 10) (((x1 * 4) + x3).toNatClampNeg)))] [] h
            refine ia_fg hK (lv' := [some (.inr (.inr 311)), some (.inl x1), some (.inl x2), some (.inl (x3 + 1)), none]) ⟨rfl, rfl, rfl, rfl, trivial⟩ ?_
            exact ih (x3 + 1) hm
          · replace hm := ia_ifp hm c
            show K 57 [some (.inr (.inr 311)), some (.inl x1), some (.inl x2), some (.inl x3), some (.inl (ia_i h ((ia_r h 311 4) + 10) (((x1 * 4) + x3).toNatClampNeg)))] [] h
            refine ia_go hK ck_Wa_nextNearer_57 ?_
            show K 61 [some (.inr (.inr 311)), some (.inl x1), some (.inl x2), some (.inl x3), some (.inl (ia_i h ((ia_r h 311 4) + 10) (((x1 * 4) + x3).toNatClampNeg)))] [.inl (ia_i h ((ia_r h 311 4) + 10) (((x1 * 4) + x3).toNatClampNeg)), .inl x1, .inr (.inr 311)] h
            obtain ⟨v5, hv5, hm⟩ := ia_bnd hm
            have ev5 := t_Wa_mayStep (d + 0) hg hv5
            refine ia_cV hK mk_Wa_mayStep lk_11_97 dc_Wa_nextNearer_61 311 [.inl x1, .inl (ia_i h ((ia_r h 311 4) + 10) (((x1 * 4) + x3).toNatClampNeg))] [] rfl rfl (Nat.le_of_ble_eq_true rfl) (by decide) rfl (gk_11 hg pk_311) ev5 ⟨rfl, rfl⟩ ?_
            show K 64 [some (.inr (.inr 311)), some (.inl x1), some (.inl x2), some (.inl x3), some (.inl (ia_i h ((ia_r h 311 4) + 10) (((x1 * 4) + x3).toNatClampNeg)))] [.inl v5] h
            refine ia_go hK ck_Wa_nextNearer_64 ⟨fun c => ?_, fun c => ?_⟩
            · replace hm := ia_ifp hm c
              show K 70 [some (.inr (.inr 311)), some (.inl x1), some (.inl x2), some (.inl x3), some (.inl (ia_i h ((ia_r h 311 4) + 10) (((x1 * 4) + x3).toNatClampNeg)))] [] h
              refine ia_go hK ck_Wa_nextNearer_70 ?_
              show K 2 [some (.inr (.inr 311)), some (.inl x1), some (.inl x2), some (.inl (x3 + 1)), some (.inl (ia_i h ((ia_r h 311 4) + 10) (((x1 * 4) + x3).toNatClampNeg)))] [] h
              refine ia_fg hK (lv' := [some (.inr (.inr 311)), some (.inl x1), some (.inl x2), some (.inl (x3 + 1)), none]) ⟨rfl, rfl, rfl, rfl, trivial⟩ ?_
              exact ih (x3 + 1) hm
            · replace hm := ia_ifn hm c
              show K 67 [some (.inr (.inr 311)), some (.inl x1), some (.inl x2), some (.inl x3), some (.inl (ia_i h ((ia_r h 311 4) + 10) (((x1 * 4) + x3).toNatClampNeg)))] [] h
              refine ia_fg hK (lv' := [none, none, none, none, some (.inl (ia_i h ((ia_r h 311 4) + 10) (((x1 * 4) + x3).toNatClampNeg)))]) ⟨rfl, trivial⟩ ?_
              exact hk67 (ia_i h ((ia_r h 311 4) + 10) (((x1 * 4) + x3).toNatClampNeg)) hm
def f_Wa_nextNearer (x1 : Int32) (x2 : Int32) (h : ia_H) : Option Int32 := l_Wa_nextNearer_2 x1 x2 h (fun x4 => some x4) (some x1) fu_ 0
theorem t_Wa_nextNearer {w : ia_O0} (d : Nat) {x1 : Int32} {x2 : Int32} {h : ia_H} (hg : gd_ w h) {r : Int32} (hm : f_Wa_nextNearer x1 x2 h = some r) : ia_Ev (d + 1) mm_Wa_nextNearer [.inr (.inr 311), .inl x1, .inl x2] h (some (.inl r)) h := by
  refine ia_Ev_intro ok_Wa_nextNearer (Nat.le_refl _) (Nat.le_refl _) (Nat.le_of_ble_eq_true rfl) (fun K hK hret => ?_)
  show K 0 [some (.inr (.inr 311)), some (.inl x1), some (.inl x2), none, none] [] h
  unfold f_Wa_nextNearer at hm
  refine ia_go hK ck_Wa_nextNearer_0 ?_
  show K 2 [some (.inr (.inr 311)), some (.inl x1), some (.inl x2), some (.inl 0), none] [] h
  refine tl_Wa_nextNearer_2 hK hg hret ?_ ?_ fu_ 0 hm
  · intro x4 hm
    refine ia_go hK ck_Wa_nextNearer_67 ?_
    show K 69 [none, none, none, none, some (.inl x4)] [.inl x4] h
    obtain rfl := Option.some.inj hm
    exact hret 69 _ dc_Wa_nextNearer_69
  · intro hm
    refine ia_go hK ck_Wa_nextNearer_76 ?_
    show K 77 [none, some (.inl x1), none, none, none] [.inl x1] h
    obtain rfl := Option.some.inj hm
    exact hret 77 _ dc_Wa_nextNearer_77
def mm_Wa_findShort : ia_M := (⟨"IceStreet$Ways", "findShort", "(III)Z"⟩, prog_12_method_5_code, 6, (some .boolean), 11, false)
theorem ok_Wa_findShort : ia_mok mm_Wa_findShort := ⟨by decide +kernel, by decide +kernel, by decide +kernel, by decide +kernel⟩
theorem mk_Wa_findShort : ia_mkn mm_Wa_findShort 1 3 := ⟨ia_tb_in (List.mem_of_getElem? (i := 1167) (by decide +kernel)) rfl, ia_tb_in (List.mem_of_getElem? (i := 141) (by decide +kernel)) rfl, by decide +kernel, by decide +kernel, ⟨ia_tb_in (List.mem_of_getElem? (i := 1165) (by decide +kernel)) rfl, ia_tb_in (List.mem_of_getElem? (i := 1166) (by decide +kernel)) rfl⟩⟩
theorem ck_Wa_findShort_0 : ia_cks 11 6 false prog_12_method_5_code 0 [(.aload_n 0, 0, 0, 0, 0), (.iload_n 1, 0, 0, 0, 0), (.iload_n 2, 0, 0, 0, 0), (.iload_n 3, 0, 0, 0, 0)] = true := by decide +kernel
theorem ck_Wa_findShort_7 : ia_cks 11 6 false prog_12_method_5_code 7 [(.istore 4, 0, 0, 0, 0), (.iload 4, 0, 0, 0, 0), (.iconst (-1), 0, 0, 0, 0), (.if_icmp .ne 5, 0, 0, 0, 0)] = true := by decide +kernel
theorem ck_Wa_findShort_17 : ia_cks 11 6 false prog_12_method_5_code 17 [(.aload_n 0, 0, 0, 0, 0), (.getfield 9, 11, 3, 3, 1), (.iconst 0, 0, 0, 0, 0), (.iload_n 2, 0, 0, 0, 0), (.iastore, 0, 0, 0, 0), (.aload_n 0, 0, 0, 0, 0), (.iconst 1, 0, 0, 0, 0), (.putfield 87, 11, 0, 0, 0), (.iload_n 2, 0, 0, 0, 0), (.istore 5, 0, 0, 0, 0)] = true := by decide +kernel
theorem ck_Wa_findShort_32 : ia_cks 11 6 false prog_12_method_5_code 32 [(.iload 4, 0, 0, 0, 0), (.ifCond .le 45, 0, 0, 0, 0)] = true := by decide +kernel
theorem ck_Wa_findShort_37 : ia_cks 11 6 false prog_12_method_5_code 37 [(.aload_n 0, 0, 0, 0, 0), (.getfield 87, 11, 0, 0, 0), (.bipush 36, 0, 0, 0, 0), (.if_icmp .ge 36, 0, 0, 0, 0)] = true := by decide +kernel
theorem ck_Wa_findShort_46 : ia_cks 11 6 false prog_12_method_5_code 46 [(.aload_n 0, 0, 0, 0, 0), (.iload 5, 0, 0, 0, 0), (.iload_n 1, 0, 0, 0, 0)] = true := by decide +kernel
theorem ck_Wa_findShort_53 : ia_cks 11 6 false prog_12_method_5_code 53 [(.istore 5, 0, 0, 0, 0), (.aload_n 0, 0, 0, 0, 0), (.getfield 9, 11, 3, 3, 1), (.aload_n 0, 0, 0, 0, 0), (.dup, 0, 0, 0, 0), (.getfield 87, 11, 0, 0, 0), (.dup_x1, 0, 0, 0, 0), (.iconst 1, 0, 0, 0, 0), (.iadd, 0, 0, 0, 0), (.putfield 87, 11, 0, 0, 0), (.iload 5, 0, 0, 0, 0), (.iastore, 0, 0, 0, 0), (.iinc 4 (-1), 0, 0, 0, 0), (.goto (-44), 0, 0, 0, 0)] = true := by decide +kernel
theorem ck_Wa_findShort_79 : ia_cks 11 6 false prog_12_method_5_code 79 [(.iconst 1, 0, 0, 0, 0)] = true := by decide +kernel
theorem ck_Wa_findShort_15 : ia_cks 11 6 false prog_12_method_5_code 15 [(.iconst 0, 0, 0, 0, 0)] = true := by decide +kernel
theorem dc_Wa_findShort_4 : decode prog_12_method_5_code 4 = .ok (.invokevirtual 83, 3) := by decide +kernel
theorem dc_Wa_findShort_50 : decode prog_12_method_5_code 50 = .ok (.invokevirtual 90, 3) := by decide +kernel
theorem dc_Wa_findShort_80 : decode prog_12_method_5_code 80 = .ok (.ireturn, 1) := by decide +kernel
theorem dc_Wa_findShort_16 : decode prog_12_method_5_code 16 = .ok (.ireturn, 1) := by decide +kernel
def l_Wa_findShort_32 (x1 : Int32) (x2 : Int32) (x3 : Int32) (k79 : ia_H → Option (Int32 × ia_H)) (n : Nat) (x4 : Int32) (x5 : Int32) (h : ia_H) : Option (Int32 × ia_H) := match n with
  | 0 => none
  | n + 1 => if x4 ≤ 0 then (k79 h) else (if 36 ≤ (ia_i h 311 0) then (k79 h) else ((f_Wa_nextNearer x5 x1 h).bind fun v2 => (ia_gd (ia_ib (ia_i h 311 0) 36) (l_Wa_findShort_32 x1 x2 x3 k79 n (x4 + (-1)) v2 (ia_wI (ia_wI h 311 0 ((ia_i h 311 0) + 1)) 312 ((ia_i h 311 0).toNatClampNeg) v2)))))
theorem tl_Wa_findShort_32 {w : ia_O0} {d N1 W1 : Nat} {K : ia_K} (hK : ia_isK (d + 2) mm_Wa_findShort N1 W1 K) {x1 : Int32} {x2 : Int32} {x3 : Int32} {r : Int32} {h1 : ia_H} (hret : ∀ (pc : Nat) (lv : ia_L), ia_ret mm_Wa_findShort pc (some (.inl r)) → K pc lv ((some (.inl r)) : Option ia_V).toList h1) {k79 : ia_H → Option (Int32 × ia_H)} (hk79 : ∀ (h : ia_H), gd_ w h → k79 h = some (r, h1) → K 79 [none, none, none, none, none, none] [] h) : ∀ (n : Nat) (x4 : Int32) (x5 : Int32) (h : ia_H), gd_ w h → l_Wa_findShort_32 x1 x2 x3 k79 n x4 x5 h = some (r, h1) → K 32 [some (.inr (.inr 311)), some (.inl x1), none, none, some (.inl x4), some (.inl x5)] [] h := by
  intro n
  induction n with
  | zero =>
    intro x4 x5 h hg hm
    cases (show (none : Option (Int32 × ia_H)) = some _ from hm)
  | succ n ih =>
    intro x4 x5 h hg hm
    rw [l_Wa_findShort_32] at hm
    refine ia_go hK ck_Wa_findShort_32 ⟨fun c => ?_, fun c => ?_⟩
    · replace hm := ia_ifp hm c
      show K 79 [some (.inr (.inr 311)), some (.inl x1), none, none, some (.inl x4), some (.inl x5)] [] h
      refine ia_fg hK (lv' := [none, none, none, none, none, none]) trivial ?_
      exact hk79 h hg hm
    · replace hm := ia_ifn hm c
      show K 37 [some (.inr (.inr 311)), some (.inl x1), none, none, some (.inl x4), some (.inl x5)] [] h
      refine ia_go hK ck_Wa_findShort_37 ⟨gk_11 hg pk_311, fun c => ?_, fun c => ?_⟩
      · replace hm := ia_ifp hm c
        show K 79 [some (.inr (.inr 311)), some (.inl x1), none, none, some (.inl x4), some (.inl x5)] [] h
        refine ia_fg hK (lv' := [none, none, none, none, none, none]) trivial ?_
        exact hk79 h hg hm
      · replace hm := ia_ifn hm c
        show K 46 [some (.inr (.inr 311)), some (.inl x1), none, none, some (.inl x4), some (.inl x5)] [] h
        refine ia_go hK ck_Wa_findShort_46 ?_
        show K 50 [some (.inr (.inr 311)), some (.inl x1), none, none, some (.inl x4), some (.inl x5)] [.inl x1, .inl x5, .inr (.inr 311)] h
        obtain ⟨v2, hv2, hm⟩ := ia_bnd hm
        have ev2 := t_Wa_nextNearer (d + 0) hg hv2
        refine ia_cV hK mk_Wa_nextNearer lk_11_90 dc_Wa_findShort_50 311 [.inl x5, .inl x1] [] rfl rfl (Nat.le_of_ble_eq_true rfl) (by decide) rfl (gk_11 hg pk_311) ev2 ⟨rfl, rfl⟩ ?_
        show K 53 [some (.inr (.inr 311)), some (.inl x1), none, none, some (.inl x4), some (.inl x5)] [.inl v2] h
        obtain ⟨c3, hm⟩ := ia_gd_some hm
        refine ia_go hK ck_Wa_findShort_53 ⟨gk_11 hg pk_311, gr_11_3 hg pk_311, gk_11 hg pk_311, gk_11 hg pk_311, ga_s100 (gd_wI hg (ko_11 pk_311)) (ka_11_3 pk_311) c3, ?_⟩
        show K 32 [some (.inr (.inr 311)), some (.inl x1), none, none, some (.inl (x4 + (-1))), some (.inl v2)] [] (ia_wI (ia_wI h 311 0 ((ia_i h 311 0) + 1)) 312 ((ia_i h 311 0).toNatClampNeg) v2)
        exact ih (x4 + (-1)) v2 (ia_wI (ia_wI h 311 0 ((ia_i h 311 0) + 1)) 312 ((ia_i h 311 0).toNatClampNeg) v2) (gd_wI (gd_wI hg (ko_11 pk_311)) (kx_100 (ka_11_3 pk_311))) hm
theorem gl_Wa_findShort_32 {w : ia_O0} {x1 : Int32} {x2 : Int32} {x3 : Int32} {r : Int32} {h1 : ia_H} {k79 : ia_H → Option (Int32 × ia_H)} (hk79 : ∀ (h : ia_H), gd_ w h → k79 h = some (r, h1) → gd_ w h1) : ∀ (n : Nat) (x4 : Int32) (x5 : Int32) (h : ia_H), gd_ w h → l_Wa_findShort_32 x1 x2 x3 k79 n x4 x5 h = some (r, h1) → gd_ w h1 := by
  intro n
  induction n with
  | zero =>
    intro x4 x5 h hg hm
    cases (show (none : Option (Int32 × ia_H)) = some _ from hm)
  | succ n ih =>
    intro x4 x5 h hg hm
    rw [l_Wa_findShort_32] at hm
    by_cases c : x4 ≤ 0
    · replace hm := ia_ifp hm c
      exact hk79 h hg hm
    · replace hm := ia_ifn hm c
      by_cases c : 36 ≤ (ia_i h 311 0)
      · replace hm := ia_ifp hm c
        exact hk79 h hg hm
      · replace hm := ia_ifn hm c
        obtain ⟨v2, hv2, hm⟩ := ia_bnd hm
        obtain ⟨c3, hm⟩ := ia_gd_some hm
        exact ih (x4 + (-1)) v2 (ia_wI (ia_wI h 311 0 ((ia_i h 311 0) + 1)) 312 ((ia_i h 311 0).toNatClampNeg) v2) (gd_wI (gd_wI hg (ko_11 pk_311)) (kx_100 (ka_11_3 pk_311))) hm
def f_Wa_findShort (x1 : Int32) (x2 : Int32) (x3 : Int32) (h : ia_H) : Option (Int32 × ia_H) := (f_Wa_measure x1 x2 x3 h).bind fun v1 => (if v1.1 = (-1) then (some (0, v1.2)) else (l_Wa_findShort_32 x1 x2 x3 (fun h => some (1, h)) fu_ v1.1 x2 (ia_wI (ia_wI v1.2 312 0 x2) 311 0 1)))
theorem g_Wa_findShort {w : ia_O0} {x1 : Int32} {x2 : Int32} {x3 : Int32} {h : ia_H} (hg : gd_ w h) {q : (Int32 × ia_H)} (hm : f_Wa_findShort x1 x2 x3 h = some q) : gd_ w q.2 := by
  obtain ⟨r, h1⟩ := q
  unfold f_Wa_findShort at hm
  obtain ⟨v1, hv1, hm⟩ := ia_bnd hm
  have gv1 := g_Wa_measure hg hv1
  by_cases c : v1.1 = (-1)
  · replace hm := ia_ifp hm c
    obtain ⟨rfl, rfl⟩ := Prod.mk.inj (Option.some.inj hm)
    exact gv1
  · replace hm := ia_ifn hm c
    refine gl_Wa_findShort_32 ?_ fu_ v1.1 x2 (ia_wI (ia_wI v1.2 312 0 x2) 311 0 1) (gd_wI (gd_wI gv1 (kx_100 (ka_11_3 pk_311))) (ko_11 pk_311)) hm
    · intro h hg hm
      obtain ⟨rfl, rfl⟩ := Prod.mk.inj (Option.some.inj hm)
      exact hg
theorem t_Wa_findShort {w : ia_O0} (d : Nat) {x1 : Int32} {x2 : Int32} {x3 : Int32} {h : ia_H} (hg : gd_ w h) {q : (Int32 × ia_H)} (hm : f_Wa_findShort x1 x2 x3 h = some q) : ia_Ev (d + 2) mm_Wa_findShort [.inr (.inr 311), .inl x1, .inl x2, .inl x3] h (some (.inl q.1)) q.2 := by
  have gq := g_Wa_findShort hg hm
  refine ia_Ev_intro ok_Wa_findShort (gd_le hg gq).1 (gd_le hg gq).2 (Nat.le_of_ble_eq_true rfl) (fun K hK hret => ?_)
  obtain ⟨r, h1⟩ := q
  show K 0 [some (.inr (.inr 311)), some (.inl x1), some (.inl x2), some (.inl x3), none, none] [] h
  unfold f_Wa_findShort at hm
  refine ia_go hK ck_Wa_findShort_0 ?_
  show K 4 [some (.inr (.inr 311)), some (.inl x1), some (.inl x2), some (.inl x3), none, none] [.inl x3, .inl x2, .inl x1, .inr (.inr 311)] h
  obtain ⟨v1, hv1, hm⟩ := ia_bnd hm
  have ev1 := t_Wa_measure (d + 0) hg hv1
  have gv1 := g_Wa_measure hg hv1
  refine ia_cV hK mk_Wa_measure lk_11_83 dc_Wa_findShort_4 311 [.inl x1, .inl x2, .inl x3] [] rfl rfl (Nat.le_of_ble_eq_true rfl) (by decide) rfl (gk_11 hg pk_311) ev1 (gd_nm hg gv1) ?_
  show K 7 [some (.inr (.inr 311)), some (.inl x1), some (.inl x2), some (.inl x3), none, none] [.inl v1.1] v1.2
  refine ia_go hK ck_Wa_findShort_7 ⟨fun c => ?_, fun c => ?_⟩
  · replace hm := ia_ifn hm c
    show K 17 [some (.inr (.inr 311)), some (.inl x1), some (.inl x2), some (.inl x3), some (.inl v1.1), none] [] v1.2
    refine ia_go hK ck_Wa_findShort_17 ⟨gk_11 gv1 pk_311, gr_11_3 gv1 pk_311, ga_s100 gv1 (ka_11_3 pk_311) (by decide), gk_11 (gd_wI gv1 (kx_100 (ka_11_3 pk_311))) pk_311, ?_⟩
    show K 32 [some (.inr (.inr 311)), some (.inl x1), some (.inl x2), some (.inl x3), some (.inl v1.1), some (.inl x2)] [] (ia_wI (ia_wI v1.2 312 0 x2) 311 0 1)
    refine ia_fg hK (lv' := [some (.inr (.inr 311)), some (.inl x1), none, none, some (.inl v1.1), some (.inl x2)]) ⟨rfl, rfl, rfl, rfl, trivial⟩ ?_
    refine tl_Wa_findShort_32 hK hret ?_ fu_ v1.1 x2 (ia_wI (ia_wI v1.2 312 0 x2) 311 0 1) (gd_wI (gd_wI gv1 (kx_100 (ka_11_3 pk_311))) (ko_11 pk_311)) hm
    · intro h hg hm
      refine ia_go hK ck_Wa_findShort_79 ?_
      show K 80 [none, none, none, none, none, none] [.inl 1] h
      obtain ⟨rfl, rfl⟩ := Prod.mk.inj (Option.some.inj hm)
      exact hret 80 _ ⟨Or.inr rfl, dc_Wa_findShort_80⟩
  · replace hm := ia_ifp hm c
    show K 15 [some (.inr (.inr 311)), some (.inl x1), some (.inl x2), some (.inl x3), some (.inl v1.1), none] [] v1.2
    refine ia_go hK ck_Wa_findShort_15 ?_
    show K 16 [some (.inr (.inr 311)), some (.inl x1), some (.inl x2), some (.inl x3), some (.inl v1.1), none] [.inl 0] v1.2
    obtain ⟨rfl, rfl⟩ := Prod.mk.inj (Option.some.inj hm)
    exact hret 16 _ ⟨Or.inl rfl, dc_Wa_findShort_16⟩
def mm_De_ride : ia_M := (⟨"IceStreet$Deeds", "ride", "(LIceStreet$Scene;III)Z"⟩, prog_2_method_5_code, 6, (some .boolean), 1, false)
theorem ok_De_ride : ia_mok mm_De_ride := ⟨by decide +kernel, by decide +kernel, by decide +kernel, by decide +kernel⟩
theorem mk_De_ride : ia_mkn mm_De_ride 1 4 := ⟨ia_tb_in (List.mem_of_getElem? (i := 1162) (by decide +kernel)) rfl, ia_tb_in (List.mem_of_getElem? (i := 142) (by decide +kernel)) rfl, by decide +kernel, by decide +kernel, ⟨ia_tb_in (List.mem_of_getElem? (i := 1161) (by decide +kernel)) rfl, ia_tb_in (List.mem_of_getElem? (i := 29) (by decide +kernel)) rfl⟩⟩
theorem ck_De_ride_0 : ia_cks 1 6 false prog_2_method_5_code 0 [(.aload_n 1, 0, 0, 0, 0), (.getfield 59, 9, 0, 2, 0), (.iload_n 3, 0, 0, 0, 0)] = true := by decide +kernel
theorem ck_De_ride_8 : ia_cks 1 6 false prog_2_method_5_code 8 [(.ifCond .eq 15, 0, 0, 0, 0)] = true := by decide +kernel
theorem ck_De_ride_23 : ia_cks 1 6 false prog_2_method_5_code 23 [(.iconst 0, 0, 0, 0, 0)] = true := by decide +kernel
theorem ck_De_ride_11 : ia_cks 1 6 false prog_2_method_5_code 11 [(.aload_n 1, 0, 0, 0, 0), (.getfield 59, 9, 0, 2, 0), (.iload 4, 0, 0, 0, 0)] = true := by decide +kernel
theorem ck_De_ride_20 : ia_cks 1 6 false prog_2_method_5_code 20 [(.ifCond .ne 5, 0, 0, 0, 0)] = true := by decide +kernel
theorem ck_De_ride_25 : ia_cks 1 6 false prog_2_method_5_code 25 [(.aload_n 0, 0, 0, 0, 0), (.getfield 9, 1, 0, 4, 311), (.aload_n 1, 0, 0, 0, 0), (.iconst 0, 0, 0, 0, 0)] = true := by decide +kernel
theorem ck_De_ride_34 : ia_cks 1 6 false prog_2_method_5_code 34 [(.aload_n 0, 0, 0, 0, 0), (.getfield 9, 1, 0, 4, 311), (.iload_n 2, 0, 0, 0, 0), (.iload_n 3, 0, 0, 0, 0), (.iload 4, 0, 0, 0, 0)] = true := by decide +kernel
theorem ck_De_ride_45 : ia_cks 1 6 false prog_2_method_5_code 45 [(.ifCond .ne 5, 0, 0, 0, 0)] = true := by decide +kernel
theorem ck_De_ride_50 : ia_cks 1 6 false prog_2_method_5_code 50 [(.iconst 0, 0, 0, 0, 0), (.istore 5, 0, 0, 0, 0)] = true := by decide +kernel
theorem ck_De_ride_53 : ia_cks 1 6 false prog_2_method_5_code 53 [(.iload 5, 0, 0, 0, 0), (.aload_n 0, 0, 0, 0, 0), (.getfield 9, 1, 0, 4, 311), (.getfield 96, 11, 0, 0, 0), (.if_icmp .ge 25, 0, 0, 0, 0)] = true := by decide +kernel
theorem ck_De_ride_65 : ia_cks 1 6 false prog_2_method_5_code 65 [(.aload_n 1, 0, 0, 0, 0), (.getfield 100, 9, 3, 3, 2), (.aload_n 0, 0, 0, 0, 0), (.getfield 9, 1, 0, 4, 311), (.getfield 103, 11, 3, 3, 1), (.iload 5, 0, 0, 0, 0), (.iaload, 0, 0, 0, 0), (.iconst 0, 0, 0, 0, 0), (.iastore, 0, 0, 0, 0), (.iinc 5 1, 0, 0, 0, 0), (.goto (-31), 0, 0, 0, 0)] = true := by decide +kernel
theorem ck_De_ride_87 : ia_cks 1 6 false prog_2_method_5_code 87 [(.iconst 1, 0, 0, 0, 0)] = true := by decide +kernel
theorem ck_De_ride_48 : ia_cks 1 6 false prog_2_method_5_code 48 [(.iconst 0, 0, 0, 0, 0)] = true := by decide +kernel
theorem dc_De_ride_5 : decode prog_2_method_5_code 5 = .ok (.invokevirtual 63, 3) := by decide +kernel
theorem dc_De_ride_24 : decode prog_2_method_5_code 24 = .ok (.ireturn, 1) := by decide +kernel
theorem dc_De_ride_17 : decode prog_2_method_5_code 17 = .ok (.invokevirtual 63, 3) := by decide +kernel
theorem dc_De_ride_31 : decode prog_2_method_5_code 31 = .ok (.invokevirtual 88, 3) := by decide +kernel
theorem dc_De_ride_42 : decode prog_2_method_5_code 42 = .ok (.invokevirtual 92, 3) := by decide +kernel
theorem dc_De_ride_88 : decode prog_2_method_5_code 88 = .ok (.ireturn, 1) := by decide +kernel
theorem dc_De_ride_49 : decode prog_2_method_5_code 49 = .ok (.ireturn, 1) := by decide +kernel
def l_De_ride_53 (a1 : Nat) (x2 : Int32) (x3 : Int32) (x4 : Int32) (k87 : ia_H → Option (Int32 × ia_H)) (n : Nat) (x5 : Int32) (h : ia_H) : Option (Int32 × ia_H) := match n with
  | 0 => none
  | n + 1 => if (ia_i h 311 0) ≤ x5 then (k87 h) else (ia_gd (ia_ib x5 36) (ia_gd (ia_ib (ia_i h 312 ((x5).toNatClampNeg)) 36) (l_De_ride_53 a1 x2 x3 x4 k87 n (x5 + 1) (ia_wI h (a1 + 2) ((ia_i h 312 ((x5).toNatClampNeg)).toNatClampNeg) 0))))
theorem tl_De_ride_53 {w : ia_O0} {d N1 W1 : Nat} {K : ia_K} (hK : ia_isK (d + 3) mm_De_ride N1 W1 K) {a1 : Nat} {x2 : Int32} {x3 : Int32} {x4 : Int32} (p1 : (kd_D a1).1 = 9) {r : Int32} {h1 : ia_H} (hret : ∀ (pc : Nat) (lv : ia_L), ia_ret mm_De_ride pc (some (.inl r)) → K pc lv ((some (.inl r)) : Option ia_V).toList h1) {k87 : ia_H → Option (Int32 × ia_H)} (hk87 : ∀ (h : ia_H), gd_ w h → k87 h = some (r, h1) → K 87 [none, none, none, none, none, none] [] h) : ∀ (n : Nat) (x5 : Int32) (h : ia_H), gd_ w h → l_De_ride_53 a1 x2 x3 x4 k87 n x5 h = some (r, h1) → K 53 [some (.inr (.inr 325)), some (.inr (.inr a1)), none, none, none, some (.inl x5)] [] h := by
  intro n
  induction n with
  | zero =>
    intro x5 h hg hm
    cases (show (none : Option (Int32 × ia_H)) = some _ from hm)
  | succ n ih =>
    intro x5 h hg hm
    rw [l_De_ride_53] at hm
    refine ia_go hK ck_De_ride_53 ⟨gk_1 hg pk_325, gr_1_0 hg pk_325, gk_11 hg pk_311, fun c => ?_, fun c => ?_⟩
    · replace hm := ia_ifp hm c
      show K 87 [some (.inr (.inr 325)), some (.inr (.inr a1)), none, none, none, some (.inl x5)] [] h
      refine ia_fg hK (lv' := [none, none, none, none, none, none]) trivial ?_
      exact hk87 h hg hm
    · replace hm := ia_ifn hm c
      show K 65 [some (.inr (.inr 325)), some (.inr (.inr a1)), none, none, none, some (.inl x5)] [] h
      obtain ⟨c5, hm⟩ := ia_gd_some hm
      obtain ⟨c6, hm⟩ := ia_gd_some hm
      refine ia_go hK ck_De_ride_65 ⟨gk_9 hg p1, gr_9_3 hg p1, gk_1 hg pk_325, gr_1_0 hg pk_325, gk_11 hg pk_311, gr_11_3 hg pk_311, ga_i100 hg (ka_11_3 pk_311) c5, ga_s100 hg (ka_9_3 p1) c6, ?_⟩
      show K 53 [some (.inr (.inr 325)), some (.inr (.inr a1)), none, none, none, some (.inl (x5 + 1))] [] (ia_wI h (a1 + 2) ((ia_i h 312 ((x5).toNatClampNeg)).toNatClampNeg) 0)
      exact ih (x5 + 1) (ia_wI h (a1 + 2) ((ia_i h 312 ((x5).toNatClampNeg)).toNatClampNeg) 0) (gd_wI hg (kx_100 (ka_9_3 p1))) hm
theorem gl_De_ride_53 {w : ia_O0} {a1 : Nat} {x2 : Int32} {x3 : Int32} {x4 : Int32} (p1 : (kd_D a1).1 = 9) {r : Int32} {h1 : ia_H} {k87 : ia_H → Option (Int32 × ia_H)} (hk87 : ∀ (h : ia_H), gd_ w h → k87 h = some (r, h1) → gd_ w h1) : ∀ (n : Nat) (x5 : Int32) (h : ia_H), gd_ w h → l_De_ride_53 a1 x2 x3 x4 k87 n x5 h = some (r, h1) → gd_ w h1 := by
  intro n
  induction n with
  | zero =>
    intro x5 h hg hm
    cases (show (none : Option (Int32 × ia_H)) = some _ from hm)
  | succ n ih =>
    intro x5 h hg hm
    rw [l_De_ride_53] at hm
    by_cases c : (ia_i h 311 0) ≤ x5
    · replace hm := ia_ifp hm c
      exact hk87 h hg hm
    · replace hm := ia_ifn hm c
      obtain ⟨c5, hm⟩ := ia_gd_some hm
      obtain ⟨c6, hm⟩ := ia_gd_some hm
      exact ih (x5 + 1) (ia_wI h (a1 + 2) ((ia_i h 312 ((x5).toNatClampNeg)).toNatClampNeg) 0) (gd_wI hg (kx_100 (ka_9_3 p1))) hm
def f_De_ride (a1 : Nat) (x2 : Int32) (x3 : Int32) (x4 : Int32) (h : ia_H) : Option (Int32 × ia_H) := (f_La_isCell (ia_r h a1 0) x3 h).bind fun v1 => (if v1 = 0 then (some (0, h)) else ((f_La_isCell (ia_r h a1 0) x4 h).bind fun v2 => (if v2 = 0 then (some (0, h)) else ((f_Wa_survey a1 0 h).bind fun v3 => ((f_Wa_findShort x2 x3 x4 v3).bind fun v4 => (if v4.1 = 0 then (some (0, v4.2)) else (l_De_ride_53 a1 x2 x3 x4 (fun h => some (1, h)) fu_ 0 v4.2)))))))
theorem g_De_ride {w : ia_O0} {a1 : Nat} {x2 : Int32} {x3 : Int32} {x4 : Int32} {h : ia_H} (hg : gd_ w h) (p1 : (kd_D a1).1 = 9) {q : (Int32 × ia_H)} (hm : f_De_ride a1 x2 x3 x4 h = some q) : gd_ w q.2 := by
  obtain ⟨r, h1⟩ := q
  unfold f_De_ride at hm
  obtain ⟨v1, hv1, hm⟩ := ia_bnd hm
  by_cases c : v1 = 0
  · replace hm := ia_ifp hm c
    obtain ⟨rfl, rfl⟩ := Prod.mk.inj (Option.some.inj hm)
    exact hg
  · replace hm := ia_ifn hm c
    obtain ⟨v2, hv2, hm⟩ := ia_bnd hm
    by_cases c : v2 = 0
    · replace hm := ia_ifp hm c
      obtain ⟨rfl, rfl⟩ := Prod.mk.inj (Option.some.inj hm)
      exact hg
    · replace hm := ia_ifn hm c
      obtain ⟨v3, hv3, hm⟩ := ia_bnd hm
      have gv3 := g_Wa_survey hg p1 hv3
      obtain ⟨v4, hv4, hm⟩ := ia_bnd hm
      have gv4 := g_Wa_findShort gv3 hv4
      by_cases c : v4.1 = 0
      · replace hm := ia_ifp hm c
        obtain ⟨rfl, rfl⟩ := Prod.mk.inj (Option.some.inj hm)
        exact gv4
      · replace hm := ia_ifn hm c
        refine gl_De_ride_53 p1 ?_ fu_ 0 v4.2 gv4 hm
        · intro h hg hm
          obtain ⟨rfl, rfl⟩ := Prod.mk.inj (Option.some.inj hm)
          exact hg
theorem t_De_ride {w : ia_O0} (d : Nat) {a1 : Nat} {x2 : Int32} {x3 : Int32} {x4 : Int32} {h : ia_H} (hg : gd_ w h) (p1 : (kd_D a1).1 = 9) {q : (Int32 × ia_H)} (hm : f_De_ride a1 x2 x3 x4 h = some q) : ia_Ev (d + 3) mm_De_ride [.inr (.inr 325), .inr (.inr a1), .inl x2, .inl x3, .inl x4] h (some (.inl q.1)) q.2 := by
  have gq := g_De_ride hg p1 hm
  refine ia_Ev_intro ok_De_ride (gd_le hg gq).1 (gd_le hg gq).2 (Nat.le_of_ble_eq_true rfl) (fun K hK hret => ?_)
  obtain ⟨r, h1⟩ := q
  show K 0 [some (.inr (.inr 325)), some (.inr (.inr a1)), some (.inl x2), some (.inl x3), some (.inl x4), none] [] h
  unfold f_De_ride at hm
  refine ia_go hK ck_De_ride_0 ⟨gk_9 hg p1, ?_⟩
  show K 5 [some (.inr (.inr 325)), some (.inr (.inr a1)), some (.inl x2), some (.inl x3), some (.inl x4), none] [.inl x3, .inr (.inr (ia_r h a1 0))] h
  obtain ⟨v1, hv1, hm⟩ := ia_bnd hm
  have ev1 := t_La_isCell (d + 2) hg (gm_9_0 hg p1) hv1
  refine ia_cV hK mk_La_isCell lk_1_63 dc_De_ride_5 (ia_r h a1 0) [.inl x3] [] rfl rfl (Nat.le_of_ble_eq_true rfl) (by decide) rfl (gk_3 hg (gm_9_0 hg p1)) ev1 ⟨rfl, rfl⟩ ?_
  show K 8 [some (.inr (.inr 325)), some (.inr (.inr a1)), some (.inl x2), some (.inl x3), some (.inl x4), none] [.inl v1] h
  refine ia_go hK ck_De_ride_8 ⟨fun c => ?_, fun c => ?_⟩
  · replace hm := ia_ifp hm c
    show K 23 [some (.inr (.inr 325)), some (.inr (.inr a1)), some (.inl x2), some (.inl x3), some (.inl x4), none] [] h
    refine ia_go hK ck_De_ride_23 ?_
    show K 24 [some (.inr (.inr 325)), some (.inr (.inr a1)), some (.inl x2), some (.inl x3), some (.inl x4), none] [.inl 0] h
    obtain ⟨rfl, rfl⟩ := Prod.mk.inj (Option.some.inj hm)
    exact hret 24 _ ⟨Or.inl rfl, dc_De_ride_24⟩
  · replace hm := ia_ifn hm c
    show K 11 [some (.inr (.inr 325)), some (.inr (.inr a1)), some (.inl x2), some (.inl x3), some (.inl x4), none] [] h
    refine ia_go hK ck_De_ride_11 ⟨gk_9 hg p1, ?_⟩
    show K 17 [some (.inr (.inr 325)), some (.inr (.inr a1)), some (.inl x2), some (.inl x3), some (.inl x4), none] [.inl x4, .inr (.inr (ia_r h a1 0))] h
    obtain ⟨v2, hv2, hm⟩ := ia_bnd hm
    have ev2 := t_La_isCell (d + 2) hg (gm_9_0 hg p1) hv2
    refine ia_cV hK mk_La_isCell lk_1_63 dc_De_ride_17 (ia_r h a1 0) [.inl x4] [] rfl rfl (Nat.le_of_ble_eq_true rfl) (by decide) rfl (gk_3 hg (gm_9_0 hg p1)) ev2 ⟨rfl, rfl⟩ ?_
    show K 20 [some (.inr (.inr 325)), some (.inr (.inr a1)), some (.inl x2), some (.inl x3), some (.inl x4), none] [.inl v2] h
    refine ia_go hK ck_De_ride_20 ⟨fun c => ?_, fun c => ?_⟩
    · replace hm := ia_ifn hm c
      show K 25 [some (.inr (.inr 325)), some (.inr (.inr a1)), some (.inl x2), some (.inl x3), some (.inl x4), none] [] h
      refine ia_go hK ck_De_ride_25 ⟨gk_1 hg pk_325, gr_1_0 hg pk_325, ?_⟩
      show K 31 [some (.inr (.inr 325)), some (.inr (.inr a1)), some (.inl x2), some (.inl x3), some (.inl x4), none] [.inl 0, .inr (.inr a1), .inr (.inr 311)] h
      obtain ⟨v3, hv3, hm⟩ := ia_bnd hm
      have ev3 := t_Wa_survey (d + 1) hg p1 hv3
      have gv3 := g_Wa_survey hg p1 hv3
      refine ia_cV hK mk_Wa_survey lk_1_88 dc_De_ride_31 311 [.inr (.inr a1), .inl 0] [] rfl rfl (Nat.le_of_ble_eq_true rfl) (by decide) rfl (gk_11 hg pk_311) ev3 (gd_nm hg gv3) ?_
      show K 34 [some (.inr (.inr 325)), some (.inr (.inr a1)), some (.inl x2), some (.inl x3), some (.inl x4), none] [] v3
      refine ia_go hK ck_De_ride_34 ⟨gk_1 gv3 pk_325, gr_1_0 gv3 pk_325, ?_⟩
      show K 42 [some (.inr (.inr 325)), some (.inr (.inr a1)), some (.inl x2), some (.inl x3), some (.inl x4), none] [.inl x4, .inl x3, .inl x2, .inr (.inr 311)] v3
      obtain ⟨v4, hv4, hm⟩ := ia_bnd hm
      have ev4 := t_Wa_findShort (d + 0) gv3 hv4
      have gv4 := g_Wa_findShort gv3 hv4
      refine ia_cV hK mk_Wa_findShort lk_1_92 dc_De_ride_42 311 [.inl x2, .inl x3, .inl x4] [] rfl rfl (Nat.le_of_ble_eq_true rfl) (by decide) rfl (gk_11 gv3 pk_311) ev4 (gd_nm gv3 gv4) ?_
      show K 45 [some (.inr (.inr 325)), some (.inr (.inr a1)), some (.inl x2), some (.inl x3), some (.inl x4), none] [.inl v4.1] v4.2
      refine ia_go hK ck_De_ride_45 ⟨fun c => ?_, fun c => ?_⟩
      · replace hm := ia_ifn hm c
        show K 50 [some (.inr (.inr 325)), some (.inr (.inr a1)), some (.inl x2), some (.inl x3), some (.inl x4), none] [] v4.2
        refine ia_go hK ck_De_ride_50 ?_
        show K 53 [some (.inr (.inr 325)), some (.inr (.inr a1)), some (.inl x2), some (.inl x3), some (.inl x4), some (.inl 0)] [] v4.2
        refine ia_fg hK (lv' := [some (.inr (.inr 325)), some (.inr (.inr a1)), none, none, none, some (.inl 0)]) ⟨rfl, rfl, rfl, trivial⟩ ?_
        refine tl_De_ride_53 hK p1 hret ?_ fu_ 0 v4.2 gv4 hm
        · intro h hg hm
          refine ia_go hK ck_De_ride_87 ?_
          show K 88 [none, none, none, none, none, none] [.inl 1] h
          obtain ⟨rfl, rfl⟩ := Prod.mk.inj (Option.some.inj hm)
          exact hret 88 _ ⟨Or.inr rfl, dc_De_ride_88⟩
      · replace hm := ia_ifp hm c
        show K 48 [some (.inr (.inr 325)), some (.inr (.inr a1)), some (.inl x2), some (.inl x3), some (.inl x4), none] [] v4.2
        refine ia_go hK ck_De_ride_48 ?_
        show K 49 [some (.inr (.inr 325)), some (.inr (.inr a1)), some (.inl x2), some (.inl x3), some (.inl x4), none] [.inl 0] v4.2
        obtain ⟨rfl, rfl⟩ := Prod.mk.inj (Option.some.inj hm)
        exact hret 49 _ ⟨Or.inl rfl, dc_De_ride_49⟩
    · replace hm := ia_ifp hm c
      show K 23 [some (.inr (.inr 325)), some (.inr (.inr a1)), some (.inl x2), some (.inl x3), some (.inl x4), none] [] h
      refine ia_go hK ck_De_ride_23 ?_
      show K 24 [some (.inr (.inr 325)), some (.inr (.inr a1)), some (.inl x2), some (.inl x3), some (.inl x4), none] [.inl 0] h
      obtain ⟨rfl, rfl⟩ := Prod.mk.inj (Option.some.inj hm)
      exact hret 24 _ ⟨Or.inl rfl, dc_De_ride_24⟩
def mm_De_sweepCell : ia_M := (⟨"IceStreet$Deeds", "sweepCell", "(LIceStreet$Scene;I)Z"⟩, prog_2_method_6_code, 3, (some .boolean), 1, false)
theorem ok_De_sweepCell : ia_mok mm_De_sweepCell := ⟨by decide +kernel, by decide +kernel, by decide +kernel, by decide +kernel⟩
theorem mk_De_sweepCell : ia_mkn mm_De_sweepCell 1 2 := ⟨ia_tb_in (List.mem_of_getElem? (i := 1180) (by decide +kernel)) rfl, ia_tb_in (List.mem_of_getElem? (i := 142) (by decide +kernel)) rfl, by decide +kernel, by decide +kernel, ⟨ia_tb_in (List.mem_of_getElem? (i := 1179) (by decide +kernel)) rfl, ia_tb_in (List.mem_of_getElem? (i := 31) (by decide +kernel)) rfl⟩⟩
theorem ck_De_sweepCell_0 : ia_cks 1 3 false prog_2_method_6_code 0 [(.aload_n 1, 0, 0, 0, 0), (.getfield 59, 9, 0, 2, 0), (.iload_n 2, 0, 0, 0, 0)] = true := by decide +kernel
theorem ck_De_sweepCell_8 : ia_cks 1 3 false prog_2_method_6_code 8 [(.ifCond .ne 5, 0, 0, 0, 0)] = true := by decide +kernel
theorem ck_De_sweepCell_13 : ia_cks 1 3 false prog_2_method_6_code 13 [(.aload_n 1, 0, 0, 0, 0), (.getfield 100, 9, 3, 3, 2), (.iload_n 2, 0, 0, 0, 0), (.iconst 0, 0, 0, 0, 0), (.iastore, 0, 0, 0, 0), (.iconst 1, 0, 0, 0, 0)] = true := by decide +kernel
theorem ck_De_sweepCell_11 : ia_cks 1 3 false prog_2_method_6_code 11 [(.iconst 0, 0, 0, 0, 0)] = true := by decide +kernel
theorem dc_De_sweepCell_5 : decode prog_2_method_6_code 5 = .ok (.invokevirtual 63, 3) := by decide +kernel
theorem dc_De_sweepCell_21 : decode prog_2_method_6_code 21 = .ok (.ireturn, 1) := by decide +kernel
theorem dc_De_sweepCell_12 : decode prog_2_method_6_code 12 = .ok (.ireturn, 1) := by decide +kernel
def f_De_sweepCell (a1 : Nat) (x2 : Int32) (h : ia_H) : Option (Int32 × ia_H) := (f_La_isCell (ia_r h a1 0) x2 h).bind fun v1 => (if v1 = 0 then (some (0, h)) else (ia_gd (ia_ib x2 36) (some (1, ia_wI h (a1 + 2) ((x2).toNatClampNeg) 0))))
theorem g_De_sweepCell {w : ia_O0} {a1 : Nat} {x2 : Int32} {h : ia_H} (hg : gd_ w h) (p1 : (kd_D a1).1 = 9) {q : (Int32 × ia_H)} (hm : f_De_sweepCell a1 x2 h = some q) : gd_ w q.2 := by
  obtain ⟨r, h1⟩ := q
  unfold f_De_sweepCell at hm
  obtain ⟨v1, hv1, hm⟩ := ia_bnd hm
  by_cases c : v1 = 0
  · replace hm := ia_ifp hm c
    obtain ⟨rfl, rfl⟩ := Prod.mk.inj (Option.some.inj hm)
    exact hg
  · replace hm := ia_ifn hm c
    obtain ⟨c2, hm⟩ := ia_gd_some hm
    obtain ⟨rfl, rfl⟩ := Prod.mk.inj (Option.some.inj hm)
    exact (gd_wI hg (kx_100 (ka_9_3 p1)))
theorem t_De_sweepCell {w : ia_O0} (d : Nat) {a1 : Nat} {x2 : Int32} {h : ia_H} (hg : gd_ w h) (p1 : (kd_D a1).1 = 9) {q : (Int32 × ia_H)} (hm : f_De_sweepCell a1 x2 h = some q) : ia_Ev (d + 1) mm_De_sweepCell [.inr (.inr 325), .inr (.inr a1), .inl x2] h (some (.inl q.1)) q.2 := by
  have gq := g_De_sweepCell hg p1 hm
  refine ia_Ev_intro ok_De_sweepCell (gd_le hg gq).1 (gd_le hg gq).2 (Nat.le_of_ble_eq_true rfl) (fun K hK hret => ?_)
  obtain ⟨r, h1⟩ := q
  show K 0 [some (.inr (.inr 325)), some (.inr (.inr a1)), some (.inl x2)] [] h
  unfold f_De_sweepCell at hm
  refine ia_go hK ck_De_sweepCell_0 ⟨gk_9 hg p1, ?_⟩
  show K 5 [some (.inr (.inr 325)), some (.inr (.inr a1)), some (.inl x2)] [.inl x2, .inr (.inr (ia_r h a1 0))] h
  obtain ⟨v1, hv1, hm⟩ := ia_bnd hm
  have ev1 := t_La_isCell (d + 0) hg (gm_9_0 hg p1) hv1
  refine ia_cV hK mk_La_isCell lk_1_63 dc_De_sweepCell_5 (ia_r h a1 0) [.inl x2] [] rfl rfl (Nat.le_of_ble_eq_true rfl) (by decide) rfl (gk_3 hg (gm_9_0 hg p1)) ev1 ⟨rfl, rfl⟩ ?_
  show K 8 [some (.inr (.inr 325)), some (.inr (.inr a1)), some (.inl x2)] [.inl v1] h
  refine ia_go hK ck_De_sweepCell_8 ⟨fun c => ?_, fun c => ?_⟩
  · replace hm := ia_ifn hm c
    show K 13 [some (.inr (.inr 325)), some (.inr (.inr a1)), some (.inl x2)] [] h
    obtain ⟨c2, hm⟩ := ia_gd_some hm
    refine ia_go hK ck_De_sweepCell_13 ⟨gk_9 hg p1, gr_9_3 hg p1, ga_s100 hg (ka_9_3 p1) c2, ?_⟩
    show K 21 [some (.inr (.inr 325)), some (.inr (.inr a1)), some (.inl x2)] [.inl 1] (ia_wI h (a1 + 2) ((x2).toNatClampNeg) 0)
    obtain ⟨rfl, rfl⟩ := Prod.mk.inj (Option.some.inj hm)
    exact hret 21 _ ⟨Or.inr rfl, dc_De_sweepCell_21⟩
  · replace hm := ia_ifp hm c
    show K 11 [some (.inr (.inr 325)), some (.inr (.inr a1)), some (.inl x2)] [] h
    refine ia_go hK ck_De_sweepCell_11 ?_
    show K 12 [some (.inr (.inr 325)), some (.inr (.inr a1)), some (.inl x2)] [.inl 0] h
    obtain ⟨rfl, rfl⟩ := Prod.mk.inj (Option.some.inj hm)
    exact hret 12 _ ⟨Or.inl rfl, dc_De_sweepCell_12⟩
def mm_De_perform : ia_M := (⟨"IceStreet$Deeds", "perform", "(LIceStreet$Scene;LIceStreet$Plan;I)Z"⟩, prog_2_method_2_code, 5, (some .boolean), 1, false)
theorem ok_De_perform : ia_mok mm_De_perform := ⟨by decide +kernel, by decide +kernel, by decide +kernel, by decide +kernel⟩
theorem mk_De_perform : ia_mkn mm_De_perform 1 3 := ⟨ia_tb_in (List.mem_of_getElem? (i := 1071) (by decide +kernel)) rfl, ia_tb_in (List.mem_of_getElem? (i := 142) (by decide +kernel)) rfl, by decide +kernel, by decide +kernel, ⟨ia_tb_in (List.mem_of_getElem? (i := 1069) (by decide +kernel)) rfl, ia_tb_in (List.mem_of_getElem? (i := 1070) (by decide +kernel)) rfl⟩⟩
theorem ck_De_perform_0 : ia_cks 1 5 false prog_2_method_2_code 0 [(.aload_n 2, 0, 0, 0, 0), (.getfield 15, 6, 2, 3, 2), (.iload_n 3, 0, 0, 0, 0), (.iaload, 0, 0, 0, 0), (.istore 4, 0, 0, 0, 0), (.aload_n 2, 0, 0, 0, 0), (.getfield 21, 6, 1, 3, 1), (.iload_n 3, 0, 0, 0, 0), (.iaload, 0, 0, 0, 0), (.tableswitch 94 0 4 #[34, 44, 58, 66, 86], 0, 0, 0, 0)] = true := by decide +kernel
theorem ck_De_perform_48 : ia_cks 1 5 false prog_2_method_2_code 48 [(.aload_n 1, 0, 0, 0, 0), (.aload_n 1, 0, 0, 0, 0)] = true := by decide +kernel
theorem ck_De_perform_56 : ia_cks 1 5 false prog_2_method_2_code 56 [(.iconst 1, 0, 0, 0, 0)] = true := by decide +kernel
theorem ck_De_perform_58 : ia_cks 1 5 false prog_2_method_2_code 58 [(.aload_n 0, 0, 0, 0, 0), (.aload_n 1, 0, 0, 0, 0), (.iload 4, 0, 0, 0, 0), (.aload_n 2, 0, 0, 0, 0), (.getfield 34, 6, 3, 3, 3), (.iload_n 3, 0, 0, 0, 0), (.iaload, 0, 0, 0, 0)] = true := by decide +kernel
theorem ck_De_perform_72 : ia_cks 1 5 false prog_2_method_2_code 72 [(.aload_n 0, 0, 0, 0, 0), (.aload_n 1, 0, 0, 0, 0), (.iload 4, 0, 0, 0, 0)] = true := by decide +kernel
theorem ck_De_perform_80 : ia_cks 1 5 false prog_2_method_2_code 80 [(.aload_n 0, 0, 0, 0, 0), (.aload_n 1, 0, 0, 0, 0), (.iload 4, 0, 0, 0, 0), (.aload_n 2, 0, 0, 0, 0), (.getfield 34, 6, 3, 3, 3), (.iload_n 3, 0, 0, 0, 0), (.iaload, 0, 0, 0, 0), (.aload_n 2, 0, 0, 0, 0), (.getfield 45, 6, 4, 3, 4), (.iload_n 3, 0, 0, 0, 0), (.iaload, 0, 0, 0, 0)] = true := by decide +kernel
theorem ck_De_perform_100 : ia_cks 1 5 false prog_2_method_2_code 100 [(.aload_n 0, 0, 0, 0, 0), (.aload_n 1, 0, 0, 0, 0), (.iload 4, 0, 0, 0, 0)] = true := by decide +kernel
theorem ck_De_perform_108 : ia_cks 1 5 false prog_2_method_2_code 108 [(.iconst 0, 0, 0, 0, 0)] = true := by decide +kernel
theorem dc_De_perform_50 : decode prog_2_method_2_code 50 = .ok (.invokevirtual 24, 3) := by decide +kernel
theorem dc_De_perform_53 : decode prog_2_method_2_code 53 = .ok (.invokevirtual 30, 3) := by decide +kernel
theorem dc_De_perform_57 : decode prog_2_method_2_code 57 = .ok (.ireturn, 1) := by decide +kernel
theorem dc_De_perform_68 : decode prog_2_method_2_code 68 = .ok (.invokevirtual 37, 3) := by decide +kernel
theorem dc_De_perform_71 : decode prog_2_method_2_code 71 = .ok (.ireturn, 1) := by decide +kernel
theorem dc_De_perform_76 : decode prog_2_method_2_code 76 = .ok (.invokevirtual 41, 3) := by decide +kernel
theorem dc_De_perform_79 : decode prog_2_method_2_code 79 = .ok (.ireturn, 1) := by decide +kernel
theorem dc_De_perform_96 : decode prog_2_method_2_code 96 = .ok (.invokevirtual 48, 3) := by decide +kernel
theorem dc_De_perform_99 : decode prog_2_method_2_code 99 = .ok (.ireturn, 1) := by decide +kernel
theorem dc_De_perform_104 : decode prog_2_method_2_code 104 = .ok (.invokevirtual 52, 3) := by decide +kernel
theorem dc_De_perform_107 : decode prog_2_method_2_code 107 = .ok (.ireturn, 1) := by decide +kernel
theorem dc_De_perform_109 : decode prog_2_method_2_code 109 = .ok (.ireturn, 1) := by decide +kernel
def f_De_perform (a1 : Nat) (a2 : Nat) (x3 : Int32) (h : ia_H) : Option (Int32 × ia_H) := ia_gd (ia_ib x3 30) (ia_gd (ia_ib x3 30) (if (ia_i h (a2 + 1) ((x3).toNatClampNeg)) = 0 then ((f_Sc_frost a1 h).bind fun v3 => ((f_Sc_passDay a1 v3 h).bind fun v4 => (some (1, v4)))) else if (ia_i h (a2 + 1) ((x3).toNatClampNeg)) = 1 then (ia_gd (ia_ib x3 30) ((f_De_moveShop a1 (ia_i h (a2 + 2) ((x3).toNatClampNeg)) (ia_i h (a2 + 3) ((x3).toNatClampNeg)) h).bind fun v7 => (ia_gd (ia_z1 v7.1) (some (v7.1, v7.2))))) else if (ia_i h (a2 + 1) ((x3).toNatClampNeg)) = 2 then ((f_De_drawShop a1 (ia_i h (a2 + 2) ((x3).toNatClampNeg)) h).bind fun v10 => (ia_gd (ia_z1 v10.1) (some (v10.1, v10.2)))) else if (ia_i h (a2 + 1) ((x3).toNatClampNeg)) = 3 then (ia_gd (ia_ib x3 30) (ia_gd (ia_ib x3 30) ((f_De_ride a1 (ia_i h (a2 + 2) ((x3).toNatClampNeg)) (ia_i h (a2 + 3) ((x3).toNatClampNeg)) (ia_i h (a2 + 4) ((x3).toNatClampNeg)) h).bind fun v15 => (ia_gd (ia_z1 v15.1) (some (v15.1, v15.2)))))) else if (ia_i h (a2 + 1) ((x3).toNatClampNeg)) = 4 then ((f_De_sweepCell a1 (ia_i h (a2 + 2) ((x3).toNatClampNeg)) h).bind fun v18 => (ia_gd (ia_z1 v18.1) (some (v18.1, v18.2)))) else (some (0, h))))
theorem g_De_perform {w : ia_O0} {a1 : Nat} {a2 : Nat} {x3 : Int32} {h : ia_H} (hg : gd_ w h) (p1 : (kd_D a1).1 = 9) (p2 : (kd_D a2).1 = 6) {q : (Int32 × ia_H)} (hm : f_De_perform a1 a2 x3 h = some q) : gd_ w q.2 := by
  obtain ⟨r, h1⟩ := q
  unfold f_De_perform at hm
  obtain ⟨c1, hm⟩ := ia_gd_some hm
  obtain ⟨c2, hm⟩ := ia_gd_some hm
  by_cases c5 : (ia_i h (a2 + 1) ((x3).toNatClampNeg)) = 0
  · replace hm := ia_ifp hm c5
    obtain ⟨v3, hv3, hm⟩ := ia_bnd hm
    obtain ⟨v4, hv4, hm⟩ := ia_bnd hm
    have gv4 := g_Sc_passDay hg p1 hv4
    obtain ⟨rfl, rfl⟩ := Prod.mk.inj (Option.some.inj hm)
    exact gv4
  · replace hm := ia_ifn hm c5
    by_cases c9 : (ia_i h (a2 + 1) ((x3).toNatClampNeg)) = 1
    · replace hm := ia_ifp hm c9
      obtain ⟨c6, hm⟩ := ia_gd_some hm
      obtain ⟨v7, hv7, hm⟩ := ia_bnd hm
      have gv7 := g_De_moveShop hg p1 hv7
      obtain ⟨c8, hm⟩ := ia_gd_some hm
      obtain ⟨rfl, rfl⟩ := Prod.mk.inj (Option.some.inj hm)
      exact gv7
    · replace hm := ia_ifn hm c9
      by_cases c12 : (ia_i h (a2 + 1) ((x3).toNatClampNeg)) = 2
      · replace hm := ia_ifp hm c12
        obtain ⟨v10, hv10, hm⟩ := ia_bnd hm
        have gv10 := g_De_drawShop hg p1 hv10
        obtain ⟨c11, hm⟩ := ia_gd_some hm
        obtain ⟨rfl, rfl⟩ := Prod.mk.inj (Option.some.inj hm)
        exact gv10
      · replace hm := ia_ifn hm c12
        by_cases c17 : (ia_i h (a2 + 1) ((x3).toNatClampNeg)) = 3
        · replace hm := ia_ifp hm c17
          obtain ⟨c13, hm⟩ := ia_gd_some hm
          obtain ⟨c14, hm⟩ := ia_gd_some hm
          obtain ⟨v15, hv15, hm⟩ := ia_bnd hm
          have gv15 := g_De_ride hg p1 hv15
          obtain ⟨c16, hm⟩ := ia_gd_some hm
          obtain ⟨rfl, rfl⟩ := Prod.mk.inj (Option.some.inj hm)
          exact gv15
        · replace hm := ia_ifn hm c17
          by_cases c20 : (ia_i h (a2 + 1) ((x3).toNatClampNeg)) = 4
          · replace hm := ia_ifp hm c20
            obtain ⟨v18, hv18, hm⟩ := ia_bnd hm
            have gv18 := g_De_sweepCell hg p1 hv18
            obtain ⟨c19, hm⟩ := ia_gd_some hm
            obtain ⟨rfl, rfl⟩ := Prod.mk.inj (Option.some.inj hm)
            exact gv18
          · replace hm := ia_ifn hm c20
            obtain ⟨rfl, rfl⟩ := Prod.mk.inj (Option.some.inj hm)
            exact hg
theorem t_De_perform {w : ia_O0} (d : Nat) {a1 : Nat} {a2 : Nat} {x3 : Int32} {h : ia_H} (hg : gd_ w h) (p1 : (kd_D a1).1 = 9) (p2 : (kd_D a2).1 = 6) {q : (Int32 × ia_H)} (hm : f_De_perform a1 a2 x3 h = some q) : ia_Ev (d + 5) mm_De_perform [.inr (.inr 325), .inr (.inr a1), .inr (.inr a2), .inl x3] h (some (.inl q.1)) q.2 := by
  have gq := g_De_perform hg p1 p2 hm
  refine ia_Ev_intro ok_De_perform (gd_le hg gq).1 (gd_le hg gq).2 (Nat.le_of_ble_eq_true rfl) (fun K hK hret => ?_)
  obtain ⟨r, h1⟩ := q
  show K 0 [some (.inr (.inr 325)), some (.inr (.inr a1)), some (.inr (.inr a2)), some (.inl x3), none] [] h
  unfold f_De_perform at hm
  obtain ⟨c1, hm⟩ := ia_gd_some hm
  obtain ⟨c2, hm⟩ := ia_gd_some hm
  refine ia_go hK ck_De_perform_0 ⟨gk_6 hg p2, gr_6_2 hg p2, ga_i100 hg (ka_6_2 p2) c1, gk_6 hg p2, gr_6_1 hg p2, ga_i100 hg (ka_6_1 p2) c2, ?_⟩
  show K (ia_tsw 14 94 0 4 #[34, 44, 58, 66, 86] (ia_i h (a2 + 1) ((x3).toNatClampNeg))) [some (.inr (.inr 325)), some (.inr (.inr a1)), some (.inr (.inr a2)), some (.inl x3), some (.inl (ia_i h (a2 + 2) ((x3).toNatClampNeg)))] [] h
  by_cases c5 : (ia_i h (a2 + 1) ((x3).toNatClampNeg)) = 0
  · replace hm := ia_ifp hm c5
    rw [show ia_tsw 14 94 0 4 #[34, 44, 58, 66, 86] (ia_i h (a2 + 1) ((x3).toNatClampNeg)) = 48 from by rw [c5]; decide]
    refine ia_go hK ck_De_perform_48 ?_
    show K 50 [some (.inr (.inr 325)), some (.inr (.inr a1)), some (.inr (.inr a2)), some (.inl x3), some (.inl (ia_i h (a2 + 2) ((x3).toNatClampNeg)))] [.inr (.inr a1), .inr (.inr a1)] h
    obtain ⟨v3, hv3, hm⟩ := ia_bnd hm
    have ev3 := t_Sc_frost (d + 4) hg p1 hv3
    refine ia_cV hK mk_Sc_frost lk_1_24 dc_De_perform_50 a1 [] [.inr (.inr a1)] rfl rfl (Nat.le_of_ble_eq_true rfl) (by decide) rfl (gk_9 hg p1) ev3 ⟨rfl, rfl⟩ ?_
    show K 53 [some (.inr (.inr 325)), some (.inr (.inr a1)), some (.inr (.inr a2)), some (.inl x3), some (.inl (ia_i h (a2 + 2) ((x3).toNatClampNeg)))] [.inl v3, .inr (.inr a1)] h
    obtain ⟨v4, hv4, hm⟩ := ia_bnd hm
    have ev4 := t_Sc_passDay (d + 1) hg p1 hv4
    have gv4 := g_Sc_passDay hg p1 hv4
    refine ia_cV hK mk_Sc_passDay lk_1_30 dc_De_perform_53 a1 [.inl v3] [] rfl rfl (Nat.le_of_ble_eq_true rfl) (by decide) rfl (gk_9 hg p1) ev4 (gd_nm hg gv4) ?_
    show K 56 [some (.inr (.inr 325)), some (.inr (.inr a1)), some (.inr (.inr a2)), some (.inl x3), some (.inl (ia_i h (a2 + 2) ((x3).toNatClampNeg)))] [] v4
    refine ia_go hK ck_De_perform_56 ?_
    show K 57 [some (.inr (.inr 325)), some (.inr (.inr a1)), some (.inr (.inr a2)), some (.inl x3), some (.inl (ia_i h (a2 + 2) ((x3).toNatClampNeg)))] [.inl 1] v4
    obtain ⟨rfl, rfl⟩ := Prod.mk.inj (Option.some.inj hm)
    exact hret 57 _ ⟨Or.inr rfl, dc_De_perform_57⟩
  · replace hm := ia_ifn hm c5
    by_cases c9 : (ia_i h (a2 + 1) ((x3).toNatClampNeg)) = 1
    · replace hm := ia_ifp hm c9
      rw [show ia_tsw 14 94 0 4 #[34, 44, 58, 66, 86] (ia_i h (a2 + 1) ((x3).toNatClampNeg)) = 58 from by rw [c9]; decide]
      obtain ⟨c6, hm⟩ := ia_gd_some hm
      refine ia_go hK ck_De_perform_58 ⟨gk_6 hg p2, gr_6_3 hg p2, ga_i100 hg (ka_6_3 p2) c6, ?_⟩
      show K 68 [some (.inr (.inr 325)), some (.inr (.inr a1)), some (.inr (.inr a2)), some (.inl x3), some (.inl (ia_i h (a2 + 2) ((x3).toNatClampNeg)))] [.inl (ia_i h (a2 + 3) ((x3).toNatClampNeg)), .inl (ia_i h (a2 + 2) ((x3).toNatClampNeg)), .inr (.inr a1), .inr (.inr 325)] h
      obtain ⟨v7, hv7, hm⟩ := ia_bnd hm
      have ev7 := t_De_moveShop (d + 0) hg p1 hv7
      have gv7 := g_De_moveShop hg p1 hv7
      refine ia_cV hK mk_De_moveShop lk_1_37 dc_De_perform_68 325 [.inr (.inr a1), .inl (ia_i h (a2 + 2) ((x3).toNatClampNeg)), .inl (ia_i h (a2 + 3) ((x3).toNatClampNeg))] [] rfl rfl (Nat.le_of_ble_eq_true rfl) (by decide) rfl (gk_1 hg pk_325) ev7 (gd_nm hg gv7) ?_
      show K 71 [some (.inr (.inr 325)), some (.inr (.inr a1)), some (.inr (.inr a2)), some (.inl x3), some (.inl (ia_i h (a2 + 2) ((x3).toNatClampNeg)))] [.inl v7.1] v7.2
      obtain ⟨c8, hm⟩ := ia_gd_some hm
      obtain ⟨rfl, rfl⟩ := Prod.mk.inj (Option.some.inj hm)
      exact hret 71 _ ⟨ia_z1_spec c8, dc_De_perform_71⟩
    · replace hm := ia_ifn hm c9
      by_cases c12 : (ia_i h (a2 + 1) ((x3).toNatClampNeg)) = 2
      · replace hm := ia_ifp hm c12
        rw [show ia_tsw 14 94 0 4 #[34, 44, 58, 66, 86] (ia_i h (a2 + 1) ((x3).toNatClampNeg)) = 72 from by rw [c12]; decide]
        refine ia_go hK ck_De_perform_72 ?_
        show K 76 [some (.inr (.inr 325)), some (.inr (.inr a1)), some (.inr (.inr a2)), some (.inl x3), some (.inl (ia_i h (a2 + 2) ((x3).toNatClampNeg)))] [.inl (ia_i h (a2 + 2) ((x3).toNatClampNeg)), .inr (.inr a1), .inr (.inr 325)] h
        obtain ⟨v10, hv10, hm⟩ := ia_bnd hm
        have ev10 := t_De_drawShop (d + 0) hg p1 hv10
        have gv10 := g_De_drawShop hg p1 hv10
        refine ia_cV hK mk_De_drawShop lk_1_41 dc_De_perform_76 325 [.inr (.inr a1), .inl (ia_i h (a2 + 2) ((x3).toNatClampNeg))] [] rfl rfl (Nat.le_of_ble_eq_true rfl) (by decide) rfl (gk_1 hg pk_325) ev10 (gd_nm hg gv10) ?_
        show K 79 [some (.inr (.inr 325)), some (.inr (.inr a1)), some (.inr (.inr a2)), some (.inl x3), some (.inl (ia_i h (a2 + 2) ((x3).toNatClampNeg)))] [.inl v10.1] v10.2
        obtain ⟨c11, hm⟩ := ia_gd_some hm
        obtain ⟨rfl, rfl⟩ := Prod.mk.inj (Option.some.inj hm)
        exact hret 79 _ ⟨ia_z1_spec c11, dc_De_perform_79⟩
      · replace hm := ia_ifn hm c12
        by_cases c17 : (ia_i h (a2 + 1) ((x3).toNatClampNeg)) = 3
        · replace hm := ia_ifp hm c17
          rw [show ia_tsw 14 94 0 4 #[34, 44, 58, 66, 86] (ia_i h (a2 + 1) ((x3).toNatClampNeg)) = 80 from by rw [c17]; decide]
          obtain ⟨c13, hm⟩ := ia_gd_some hm
          obtain ⟨c14, hm⟩ := ia_gd_some hm
          refine ia_go hK ck_De_perform_80 ⟨gk_6 hg p2, gr_6_3 hg p2, ga_i100 hg (ka_6_3 p2) c13, gk_6 hg p2, gr_6_4 hg p2, ga_i100 hg (ka_6_4 p2) c14, ?_⟩
          show K 96 [some (.inr (.inr 325)), some (.inr (.inr a1)), some (.inr (.inr a2)), some (.inl x3), some (.inl (ia_i h (a2 + 2) ((x3).toNatClampNeg)))] [.inl (ia_i h (a2 + 4) ((x3).toNatClampNeg)), .inl (ia_i h (a2 + 3) ((x3).toNatClampNeg)), .inl (ia_i h (a2 + 2) ((x3).toNatClampNeg)), .inr (.inr a1), .inr (.inr 325)] h
          obtain ⟨v15, hv15, hm⟩ := ia_bnd hm
          have ev15 := t_De_ride (d + 1) hg p1 hv15
          have gv15 := g_De_ride hg p1 hv15
          refine ia_cV hK mk_De_ride lk_1_48 dc_De_perform_96 325 [.inr (.inr a1), .inl (ia_i h (a2 + 2) ((x3).toNatClampNeg)), .inl (ia_i h (a2 + 3) ((x3).toNatClampNeg)), .inl (ia_i h (a2 + 4) ((x3).toNatClampNeg))] [] rfl rfl (Nat.le_of_ble_eq_true rfl) (by decide) rfl (gk_1 hg pk_325) ev15 (gd_nm hg gv15) ?_
          show K 99 [some (.inr (.inr 325)), some (.inr (.inr a1)), some (.inr (.inr a2)), some (.inl x3), some (.inl (ia_i h (a2 + 2) ((x3).toNatClampNeg)))] [.inl v15.1] v15.2
          obtain ⟨c16, hm⟩ := ia_gd_some hm
          obtain ⟨rfl, rfl⟩ := Prod.mk.inj (Option.some.inj hm)
          exact hret 99 _ ⟨ia_z1_spec c16, dc_De_perform_99⟩
        · replace hm := ia_ifn hm c17
          by_cases c20 : (ia_i h (a2 + 1) ((x3).toNatClampNeg)) = 4
          · replace hm := ia_ifp hm c20
            rw [show ia_tsw 14 94 0 4 #[34, 44, 58, 66, 86] (ia_i h (a2 + 1) ((x3).toNatClampNeg)) = 100 from by rw [c20]; decide]
            refine ia_go hK ck_De_perform_100 ?_
            show K 104 [some (.inr (.inr 325)), some (.inr (.inr a1)), some (.inr (.inr a2)), some (.inl x3), some (.inl (ia_i h (a2 + 2) ((x3).toNatClampNeg)))] [.inl (ia_i h (a2 + 2) ((x3).toNatClampNeg)), .inr (.inr a1), .inr (.inr 325)] h
            obtain ⟨v18, hv18, hm⟩ := ia_bnd hm
            have ev18 := t_De_sweepCell (d + 3) hg p1 hv18
            have gv18 := g_De_sweepCell hg p1 hv18
            refine ia_cV hK mk_De_sweepCell lk_1_52 dc_De_perform_104 325 [.inr (.inr a1), .inl (ia_i h (a2 + 2) ((x3).toNatClampNeg))] [] rfl rfl (Nat.le_of_ble_eq_true rfl) (by decide) rfl (gk_1 hg pk_325) ev18 (gd_nm hg gv18) ?_
            show K 107 [some (.inr (.inr 325)), some (.inr (.inr a1)), some (.inr (.inr a2)), some (.inl x3), some (.inl (ia_i h (a2 + 2) ((x3).toNatClampNeg)))] [.inl v18.1] v18.2
            obtain ⟨c19, hm⟩ := ia_gd_some hm
            obtain ⟨rfl, rfl⟩ := Prod.mk.inj (Option.some.inj hm)
            exact hret 107 _ ⟨ia_z1_spec c19, dc_De_perform_107⟩
          · replace hm := ia_ifn hm c20
            rw [show ia_tsw 14 94 0 4 #[34, 44, 58, 66, 86] (ia_i h (a2 + 1) ((x3).toNatClampNeg)) = 108 from (ia_tsw_d (fun k h1 h2 => by
                rcases (show k = 0 ∨ k = 1 ∨ k = 2 ∨ k = 3 ∨ k = 4 by omega) with rfl | rfl | rfl | rfl | rfl
                · exact c5
                · exact c9
                · exact c12
                · exact c17
                · exact c20
                )).trans (by decide)]
            refine ia_go hK ck_De_perform_108 ?_
            show K 109 [some (.inr (.inr 325)), some (.inr (.inr a1)), some (.inr (.inr a2)), some (.inl x3), some (.inl (ia_i h (a2 + 2) ((x3).toNatClampNeg)))] [.inl 0] h
            obtain ⟨rfl, rfl⟩ := Prod.mk.inj (Option.some.inj hm)
            exact hret 109 _ ⟨Or.inl rfl, dc_De_perform_109⟩
def mm_I_stop : ia_M := (⟨"IceStreet", "stop", "(III)I"⟩, prog_1_method_13_code, 6, (some .int), 0, false)
theorem ok_I_stop : ia_mok mm_I_stop := ⟨by decide +kernel, by decide +kernel, by decide +kernel, by decide +kernel⟩
theorem mk_I_stop : ia_mkn mm_I_stop 1 3 := ⟨ia_tb_in (List.mem_of_getElem? (i := 1033) (by decide +kernel)) rfl, ia_tb_in (List.mem_of_getElem? (i := 133) (by decide +kernel)) rfl, by decide +kernel, by decide +kernel, ⟨ia_tb_in (List.mem_of_getElem? (i := 1031) (by decide +kernel)) rfl, ia_tb_in (List.mem_of_getElem? (i := 1032) (by decide +kernel)) rfl⟩⟩
theorem ck_I_stop_0 : ia_cks 0 6 false prog_1_method_13_code 0 [(.aload_n 0, 0, 0, 0, 0), (.getfield 10, 0, 0, 3, 1), (.iconst 0, 0, 0, 0, 0), (.iload_n 1, 0, 0, 0, 0)] = true := by decide +kernel
theorem ck_I_stop_9 : ia_cks 0 6 false prog_1_method_13_code 9 [(.ifCond .eq 27, 0, 0, 0, 0)] = true := by decide +kernel
theorem ck_I_stop_36 : ia_cks 0 6 false prog_1_method_13_code 36 [(.iconst (-1), 0, 0, 0, 0)] = true := by decide +kernel
theorem ck_I_stop_12 : ia_cks 0 6 false prog_1_method_13_code 12 [(.aload_n 0, 0, 0, 0, 0), (.getfield 10, 0, 0, 3, 1), (.iconst 1, 0, 0, 0, 0), (.iload_n 2, 0, 0, 0, 0)] = true := by decide +kernel
theorem ck_I_stop_21 : ia_cks 0 6 false prog_1_method_13_code 21 [(.ifCond .eq 15, 0, 0, 0, 0)] = true := by decide +kernel
theorem ck_I_stop_24 : ia_cks 0 6 false prog_1_method_13_code 24 [(.aload_n 0, 0, 0, 0, 0), (.getfield 10, 0, 0, 3, 1), (.iconst 2, 0, 0, 0, 0), (.iload_n 3, 0, 0, 0, 0)] = true := by decide +kernel
theorem ck_I_stop_33 : ia_cks 0 6 false prog_1_method_13_code 33 [(.ifCond .ne 5, 0, 0, 0, 0)] = true := by decide +kernel
theorem ck_I_stop_38 : ia_cks 0 6 false prog_1_method_13_code 38 [(.aload_n 0, 0, 0, 0, 0), (.getfield 44, 0, 4, 3, 239), (.aload_n 0, 0, 0, 0, 0), (.getfield 10, 0, 0, 3, 1), (.getfield 33, 10, 5, 3, 3), (.iload_n 1, 0, 0, 0, 0), (.aaload, 107, 12, 0, 0), (.aload_n 0, 0, 0, 0, 0), (.getfield 10, 0, 0, 3, 1), (.getfield 37, 10, 6, 3, 28), (.iload_n 2, 0, 0, 0, 0), (.aaload, 108, 4, 0, 0)] = true := by decide +kernel
theorem ck_I_stop_63 : ia_cks 0 6 false prog_1_method_13_code 63 [(.aload_n 0, 0, 0, 0, 0), (.getfield 10, 0, 0, 3, 1), (.getfield 151, 10, 7, 3, 37), (.iload_n 3, 0, 0, 0, 0), (.aaload, 110, 5, 0, 0), (.getfield 244, 6, 0, 0, 0), (.istore 4, 0, 0, 0, 0), (.iconst 0, 0, 0, 0, 0), (.istore 5, 0, 0, 0, 0)] = true := by decide +kernel
theorem ck_I_stop_80 : ia_cks 0 6 false prog_1_method_13_code 80 [(.iload 5, 0, 0, 0, 0), (.iload 4, 0, 0, 0, 0), (.if_icmp .ge 37, 0, 0, 0, 0)] = true := by decide +kernel
theorem ck_I_stop_87 : ia_cks 0 6 false prog_1_method_13_code 87 [(.aload_n 0, 0, 0, 0, 0), (.getfield 60, 0, 6, 3, 261), (.aload_n 0, 0, 0, 0, 0), (.getfield 44, 0, 4, 3, 239), (.aload_n 0, 0, 0, 0, 0), (.getfield 10, 0, 0, 3, 1), (.getfield 151, 10, 7, 3, 37), (.iload_n 3, 0, 0, 0, 0), (.aaload, 110, 5, 0, 0), (.iload 5, 0, 0, 0, 0)] = true := by decide +kernel
theorem ck_I_stop_109 : ia_cks 0 6 false prog_1_method_13_code 109 [(.ifCond .ne 6, 0, 0, 0, 0)] = true := by decide +kernel
theorem ck_I_stop_115 : ia_cks 0 6 false prog_1_method_13_code 115 [(.iinc 5 1, 0, 0, 0, 0), (.goto (-38), 0, 0, 0, 0)] = true := by decide +kernel
theorem ck_I_stop_112 : ia_cks 0 6 false prog_1_method_13_code 112 [(.iload 5, 0, 0, 0, 0)] = true := by decide +kernel
theorem ck_I_stop_121 : ia_cks 0 6 false prog_1_method_13_code 121 [(.iload 4, 0, 0, 0, 0)] = true := by decide +kernel
theorem dc_I_stop_6 : decode prog_1_method_13_code 6 = .ok (.invokevirtual 129, 3) := by decide +kernel
theorem dc_I_stop_37 : decode prog_1_method_13_code 37 = .ok (.ireturn, 1) := by decide +kernel
theorem dc_I_stop_18 : decode prog_1_method_13_code 18 = .ok (.invokevirtual 129, 3) := by decide +kernel
theorem dc_I_stop_30 : decode prog_1_method_13_code 30 = .ok (.invokevirtual 129, 3) := by decide +kernel
theorem dc_I_stop_60 : decode prog_1_method_13_code 60 = .ok (.invokevirtual 259, 3) := by decide +kernel
theorem dc_I_stop_106 : decode prog_1_method_13_code 106 = .ok (.invokevirtual 262, 3) := by decide +kernel
theorem dc_I_stop_114 : decode prog_1_method_13_code 114 = .ok (.ireturn, 1) := by decide +kernel
theorem dc_I_stop_123 : decode prog_1_method_13_code 123 = .ok (.ireturn, 1) := by decide +kernel
def l_I_stop_80 (x1 : Int32) (x2 : Int32) (x3 : Int32) (k112 : Int32 → ia_H → Option (Int32 × ia_H)) (k121 : Int32 → ia_H → Option (Int32 × ia_H)) (n : Nat) (x4 : Int32) (x5 : Int32) (h : ia_H) : Option (Int32 × ia_H) := match n with
  | 0 => none
  | n + 1 => if x4 ≤ x5 then (k121 x4 h) else (ia_gd (ia_ib x3 3) ((f_De_perform 303 (102 + 1 + 5 * (x3).toNatClampNeg) x5 h).bind fun v9 => (if v9.1 = 0 then (k112 x5 v9.2) else (l_I_stop_80 x1 x2 x3 k112 k121 n x4 (x5 + 1) v9.2))))
theorem tl_I_stop_80 {w : ia_O0} {d N1 W1 : Nat} {K : ia_K} (hK : ia_isK (d + 6) mm_I_stop N1 W1 K) {x1 : Int32} {x2 : Int32} {x3 : Int32} {r : Int32} {h1 : ia_H} (hret : ∀ (pc : Nat) (lv : ia_L), ia_ret mm_I_stop pc (some (.inl r)) → K pc lv ((some (.inl r)) : Option ia_V).toList h1) {k112 : Int32 → ia_H → Option (Int32 × ia_H)} {k121 : Int32 → ia_H → Option (Int32 × ia_H)} (hk112 : ∀ (x5 : Int32) (h : ia_H), gd_ w h → k112 x5 h = some (r, h1) → K 112 [none, none, none, none, none, some (.inl x5)] [] h) (hk121 : ∀ (x4 : Int32) (h : ia_H), gd_ w h → k121 x4 h = some (r, h1) → K 121 [none, none, none, none, some (.inl x4), none] [] h) : ∀ (n : Nat) (x4 : Int32) (x5 : Int32) (h : ia_H), gd_ w h → l_I_stop_80 x1 x2 x3 k112 k121 n x4 x5 h = some (r, h1) → K 80 [some (.inr (.inr 64)), none, none, some (.inl x3), some (.inl x4), some (.inl x5)] [] h := by
  intro n
  induction n with
  | zero =>
    intro x4 x5 h hg hm
    cases (show (none : Option (Int32 × ia_H)) = some _ from hm)
  | succ n ih =>
    intro x4 x5 h hg hm
    rw [l_I_stop_80] at hm
    refine ia_go hK ck_I_stop_80 ⟨fun c => ?_, fun c => ?_⟩
    · replace hm := ia_ifp hm c
      show K 121 [some (.inr (.inr 64)), none, none, some (.inl x3), some (.inl x4), some (.inl x5)] [] h
      refine ia_fg hK (lv' := [none, none, none, none, some (.inl x4), none]) ⟨rfl, trivial⟩ ?_
      exact hk121 x4 h hg hm
    · replace hm := ia_ifn hm c
      show K 87 [some (.inr (.inr 64)), none, none, some (.inl x3), some (.inl x4), some (.inl x5)] [] h
      obtain ⟨c8, hm⟩ := ia_gd_some hm
      refine ia_go hK ck_I_stop_87 ⟨gk_0 hg pk_64, gr_0_6 hg pk_64, gk_0 hg pk_64, gr_0_4 hg pk_64, gk_0 hg pk_64, gr_0_0 hg pk_64, gk_10 hg (ka_0_0 pk_64), gr_10_7 hg (ka_0_0 pk_64), ga_r110 hg (ka_10_7 (ka_0_0 pk_64)) c8, ?_⟩
      show K 106 [some (.inr (.inr 64)), none, none, some (.inl x3), some (.inl x4), some (.inl x5)] [.inl x5, .inr (.inr (102 + 1 + 5 * (x3).toNatClampNeg)), .inr (.inr 303), .inr (.inr 325)] h
      obtain ⟨v9, hv9, hm⟩ := ia_bnd hm
      have ev9 := t_De_perform (d + 0) hg (ka_0_4 pk_64) (ke_110 (ka_10_7 (ka_0_0 pk_64)) c8) hv9
      have gv9 := g_De_perform hg (ka_0_4 pk_64) (ke_110 (ka_10_7 (ka_0_0 pk_64)) c8) hv9
      refine ia_cV hK mk_De_perform lk_0_262 dc_I_stop_106 325 [.inr (.inr 303), .inr (.inr (102 + 1 + 5 * (x3).toNatClampNeg)), .inl x5] [] rfl rfl (Nat.le_of_ble_eq_true rfl) (by decide) rfl (gk_1 hg (ka_0_6 pk_64)) ev9 (gd_nm hg gv9) ?_
      show K 109 [some (.inr (.inr 64)), none, none, some (.inl x3), some (.inl x4), some (.inl x5)] [.inl v9.1] v9.2
      refine ia_go hK ck_I_stop_109 ⟨fun c => ?_, fun c => ?_⟩
      · replace hm := ia_ifn hm c
        show K 115 [some (.inr (.inr 64)), none, none, some (.inl x3), some (.inl x4), some (.inl x5)] [] v9.2
        refine ia_go hK ck_I_stop_115 ?_
        show K 80 [some (.inr (.inr 64)), none, none, some (.inl x3), some (.inl x4), some (.inl (x5 + 1))] [] v9.2
        exact ih x4 (x5 + 1) v9.2 gv9 hm
      · replace hm := ia_ifp hm c
        show K 112 [some (.inr (.inr 64)), none, none, some (.inl x3), some (.inl x4), some (.inl x5)] [] v9.2
        refine ia_fg hK (lv' := [none, none, none, none, none, some (.inl x5)]) ⟨rfl, trivial⟩ ?_
        exact hk112 x5 v9.2 gv9 hm
theorem gl_I_stop_80 {w : ia_O0} {x1 : Int32} {x2 : Int32} {x3 : Int32} {r : Int32} {h1 : ia_H} {k112 : Int32 → ia_H → Option (Int32 × ia_H)} {k121 : Int32 → ia_H → Option (Int32 × ia_H)} (hk112 : ∀ (x5 : Int32) (h : ia_H), gd_ w h → k112 x5 h = some (r, h1) → gd_ w h1) (hk121 : ∀ (x4 : Int32) (h : ia_H), gd_ w h → k121 x4 h = some (r, h1) → gd_ w h1) : ∀ (n : Nat) (x4 : Int32) (x5 : Int32) (h : ia_H), gd_ w h → l_I_stop_80 x1 x2 x3 k112 k121 n x4 x5 h = some (r, h1) → gd_ w h1 := by
  intro n
  induction n with
  | zero =>
    intro x4 x5 h hg hm
    cases (show (none : Option (Int32 × ia_H)) = some _ from hm)
  | succ n ih =>
    intro x4 x5 h hg hm
    rw [l_I_stop_80] at hm
    by_cases c : x4 ≤ x5
    · replace hm := ia_ifp hm c
      exact hk121 x4 h hg hm
    · replace hm := ia_ifn hm c
      obtain ⟨c8, hm⟩ := ia_gd_some hm
      obtain ⟨v9, hv9, hm⟩ := ia_bnd hm
      have gv9 := g_De_perform hg (ka_0_4 pk_64) (ke_110 (ka_10_7 (ka_0_0 pk_64)) c8) hv9
      by_cases c : v9.1 = 0
      · replace hm := ia_ifp hm c
        exact hk112 x5 v9.2 gv9 hm
      · replace hm := ia_ifn hm c
        exact ih x4 (x5 + 1) v9.2 gv9 hm
def f_I_stop (x1 : Int32) (x2 : Int32) (x3 : Int32) (h : ia_H) : Option (Int32 × ia_H) := (f_To_has 65 0 x1 h).bind fun v1 => (if v1 = 0 then (some ((-1), h)) else ((f_To_has 65 1 x2 h).bind fun v2 => (if v2 = 0 then (some ((-1), h)) else ((f_To_has 65 2 x3 h).bind fun v3 => (if v3 = 0 then (some ((-1), h)) else (ia_gd (ia_ib x1 2) (ia_gd (ia_ib x2 2) ((f_Sc_begin 303 (68 + 1 + 12 * (x1).toNatClampNeg) (93 + 1 + 4 * (x2).toNatClampNeg) h).bind fun v6 => (ia_gd (ia_ib x3 3) (l_I_stop_80 x1 x2 x3 (fun x5 h => some (x5, h)) (fun x4 h => some (x4, h)) fu_ (ia_i v6 (102 + 1 + 5 * (x3).toNatClampNeg) 0) 0 v6))))))))))
theorem g_I_stop {w : ia_O0} {x1 : Int32} {x2 : Int32} {x3 : Int32} {h : ia_H} (hg : gd_ w h) {q : (Int32 × ia_H)} (hm : f_I_stop x1 x2 x3 h = some q) : gd_ w q.2 := by
  obtain ⟨r, h1⟩ := q
  unfold f_I_stop at hm
  obtain ⟨v1, hv1, hm⟩ := ia_bnd hm
  by_cases c : v1 = 0
  · replace hm := ia_ifp hm c
    obtain ⟨rfl, rfl⟩ := Prod.mk.inj (Option.some.inj hm)
    exact hg
  · replace hm := ia_ifn hm c
    obtain ⟨v2, hv2, hm⟩ := ia_bnd hm
    by_cases c : v2 = 0
    · replace hm := ia_ifp hm c
      obtain ⟨rfl, rfl⟩ := Prod.mk.inj (Option.some.inj hm)
      exact hg
    · replace hm := ia_ifn hm c
      obtain ⟨v3, hv3, hm⟩ := ia_bnd hm
      by_cases c : v3 = 0
      · replace hm := ia_ifp hm c
        obtain ⟨rfl, rfl⟩ := Prod.mk.inj (Option.some.inj hm)
        exact hg
      · replace hm := ia_ifn hm c
        obtain ⟨c4, hm⟩ := ia_gd_some hm
        obtain ⟨c5, hm⟩ := ia_gd_some hm
        obtain ⟨v6, hv6, hm⟩ := ia_bnd hm
        have gv6 := g_Sc_begin hg (ka_0_4 pk_64) (ke_107 (ka_10_5 (ka_0_0 pk_64)) c4) (ke_108 (ka_10_6 (ka_0_0 pk_64)) c5) hv6
        obtain ⟨c7, hm⟩ := ia_gd_some hm
        refine gl_I_stop_80 ?_ ?_ fu_ (ia_i v6 (102 + 1 + 5 * (x3).toNatClampNeg) 0) 0 v6 gv6 hm
        · intro x5 h hg hm
          obtain ⟨rfl, rfl⟩ := Prod.mk.inj (Option.some.inj hm)
          exact hg
        · intro x4 h hg hm
          obtain ⟨rfl, rfl⟩ := Prod.mk.inj (Option.some.inj hm)
          exact hg
theorem t_I_stop {w : ia_O0} (d : Nat) {x1 : Int32} {x2 : Int32} {x3 : Int32} {h : ia_H} (hg : gd_ w h) {q : (Int32 × ia_H)} (hm : f_I_stop x1 x2 x3 h = some q) : ia_Ev (d + 6) mm_I_stop [.inr (.inr 64), .inl x1, .inl x2, .inl x3] h (some (.inl q.1)) q.2 := by
  have gq := g_I_stop hg hm
  refine ia_Ev_intro ok_I_stop (gd_le hg gq).1 (gd_le hg gq).2 (Nat.le_of_ble_eq_true rfl) (fun K hK hret => ?_)
  obtain ⟨r, h1⟩ := q
  show K 0 [some (.inr (.inr 64)), some (.inl x1), some (.inl x2), some (.inl x3), none, none] [] h
  unfold f_I_stop at hm
  refine ia_go hK ck_I_stop_0 ⟨gk_0 hg pk_64, gr_0_0 hg pk_64, ?_⟩
  show K 6 [some (.inr (.inr 64)), some (.inl x1), some (.inl x2), some (.inl x3), none, none] [.inl x1, .inl 0, .inr (.inr 65)] h
  obtain ⟨v1, hv1, hm⟩ := ia_bnd hm
  have ev1 := t_To_has (d + 5) hg (ka_0_0 pk_64) hv1
  refine ia_cV hK mk_To_has lk_0_129 dc_I_stop_6 65 [.inl 0, .inl x1] [] rfl rfl (Nat.le_of_ble_eq_true rfl) (by decide) rfl (gk_10 hg (ka_0_0 pk_64)) ev1 ⟨rfl, rfl⟩ ?_
  show K 9 [some (.inr (.inr 64)), some (.inl x1), some (.inl x2), some (.inl x3), none, none] [.inl v1] h
  refine ia_go hK ck_I_stop_9 ⟨fun c => ?_, fun c => ?_⟩
  · replace hm := ia_ifp hm c
    show K 36 [some (.inr (.inr 64)), some (.inl x1), some (.inl x2), some (.inl x3), none, none] [] h
    refine ia_go hK ck_I_stop_36 ?_
    show K 37 [some (.inr (.inr 64)), some (.inl x1), some (.inl x2), some (.inl x3), none, none] [.inl (-1)] h
    obtain ⟨rfl, rfl⟩ := Prod.mk.inj (Option.some.inj hm)
    exact hret 37 _ dc_I_stop_37
  · replace hm := ia_ifn hm c
    show K 12 [some (.inr (.inr 64)), some (.inl x1), some (.inl x2), some (.inl x3), none, none] [] h
    refine ia_go hK ck_I_stop_12 ⟨gk_0 hg pk_64, gr_0_0 hg pk_64, ?_⟩
    show K 18 [some (.inr (.inr 64)), some (.inl x1), some (.inl x2), some (.inl x3), none, none] [.inl x2, .inl 1, .inr (.inr 65)] h
    obtain ⟨v2, hv2, hm⟩ := ia_bnd hm
    have ev2 := t_To_has (d + 5) hg (ka_0_0 pk_64) hv2
    refine ia_cV hK mk_To_has lk_0_129 dc_I_stop_18 65 [.inl 1, .inl x2] [] rfl rfl (Nat.le_of_ble_eq_true rfl) (by decide) rfl (gk_10 hg (ka_0_0 pk_64)) ev2 ⟨rfl, rfl⟩ ?_
    show K 21 [some (.inr (.inr 64)), some (.inl x1), some (.inl x2), some (.inl x3), none, none] [.inl v2] h
    refine ia_go hK ck_I_stop_21 ⟨fun c => ?_, fun c => ?_⟩
    · replace hm := ia_ifp hm c
      show K 36 [some (.inr (.inr 64)), some (.inl x1), some (.inl x2), some (.inl x3), none, none] [] h
      refine ia_go hK ck_I_stop_36 ?_
      show K 37 [some (.inr (.inr 64)), some (.inl x1), some (.inl x2), some (.inl x3), none, none] [.inl (-1)] h
      obtain ⟨rfl, rfl⟩ := Prod.mk.inj (Option.some.inj hm)
      exact hret 37 _ dc_I_stop_37
    · replace hm := ia_ifn hm c
      show K 24 [some (.inr (.inr 64)), some (.inl x1), some (.inl x2), some (.inl x3), none, none] [] h
      refine ia_go hK ck_I_stop_24 ⟨gk_0 hg pk_64, gr_0_0 hg pk_64, ?_⟩
      show K 30 [some (.inr (.inr 64)), some (.inl x1), some (.inl x2), some (.inl x3), none, none] [.inl x3, .inl 2, .inr (.inr 65)] h
      obtain ⟨v3, hv3, hm⟩ := ia_bnd hm
      have ev3 := t_To_has (d + 5) hg (ka_0_0 pk_64) hv3
      refine ia_cV hK mk_To_has lk_0_129 dc_I_stop_30 65 [.inl 2, .inl x3] [] rfl rfl (Nat.le_of_ble_eq_true rfl) (by decide) rfl (gk_10 hg (ka_0_0 pk_64)) ev3 ⟨rfl, rfl⟩ ?_
      show K 33 [some (.inr (.inr 64)), some (.inl x1), some (.inl x2), some (.inl x3), none, none] [.inl v3] h
      refine ia_go hK ck_I_stop_33 ⟨fun c => ?_, fun c => ?_⟩
      · replace hm := ia_ifn hm c
        show K 38 [some (.inr (.inr 64)), some (.inl x1), some (.inl x2), some (.inl x3), none, none] [] h
        obtain ⟨c4, hm⟩ := ia_gd_some hm
        obtain ⟨c5, hm⟩ := ia_gd_some hm
        refine ia_go hK ck_I_stop_38 ⟨gk_0 hg pk_64, gr_0_4 hg pk_64, gk_0 hg pk_64, gr_0_0 hg pk_64, gk_10 hg (ka_0_0 pk_64), gr_10_5 hg (ka_0_0 pk_64), ga_r107 hg (ka_10_5 (ka_0_0 pk_64)) c4, gk_0 hg pk_64, gr_0_0 hg pk_64, gk_10 hg (ka_0_0 pk_64), gr_10_6 hg (ka_0_0 pk_64), ga_r108 hg (ka_10_6 (ka_0_0 pk_64)) c5, ?_⟩
        show K 60 [some (.inr (.inr 64)), some (.inl x1), some (.inl x2), some (.inl x3), none, none] [.inr (.inr (93 + 1 + 4 * (x2).toNatClampNeg)), .inr (.inr (68 + 1 + 12 * (x1).toNatClampNeg)), .inr (.inr 303)] h
        obtain ⟨v6, hv6, hm⟩ := ia_bnd hm
        have ev6 := t_Sc_begin (d + 2) hg (ka_0_4 pk_64) (ke_107 (ka_10_5 (ka_0_0 pk_64)) c4) (ke_108 (ka_10_6 (ka_0_0 pk_64)) c5) hv6
        have gv6 := g_Sc_begin hg (ka_0_4 pk_64) (ke_107 (ka_10_5 (ka_0_0 pk_64)) c4) (ke_108 (ka_10_6 (ka_0_0 pk_64)) c5) hv6
        refine ia_cV hK mk_Sc_begin lk_0_259 dc_I_stop_60 303 [.inr (.inr (68 + 1 + 12 * (x1).toNatClampNeg)), .inr (.inr (93 + 1 + 4 * (x2).toNatClampNeg))] [] rfl rfl (Nat.le_of_ble_eq_true rfl) (by decide) rfl (gk_9 hg (ka_0_4 pk_64)) ev6 (gd_nm hg gv6) ?_
        show K 63 [some (.inr (.inr 64)), some (.inl x1), some (.inl x2), some (.inl x3), none, none] [] v6
        obtain ⟨c7, hm⟩ := ia_gd_some hm
        refine ia_go hK ck_I_stop_63 ⟨gk_0 gv6 pk_64, gr_0_0 gv6 pk_64, gk_10 gv6 (ka_0_0 pk_64), gr_10_7 gv6 (ka_0_0 pk_64), ga_r110 gv6 (ka_10_7 (ka_0_0 pk_64)) c7, gk_6 gv6 (ke_110 (ka_10_7 (ka_0_0 pk_64)) c7), ?_⟩
        show K 80 [some (.inr (.inr 64)), some (.inl x1), some (.inl x2), some (.inl x3), some (.inl (ia_i v6 (102 + 1 + 5 * (x3).toNatClampNeg) 0)), some (.inl 0)] [] v6
        refine ia_fg hK (lv' := [some (.inr (.inr 64)), none, none, some (.inl x3), some (.inl (ia_i v6 (102 + 1 + 5 * (x3).toNatClampNeg) 0)), some (.inl 0)]) ⟨rfl, rfl, rfl, rfl, trivial⟩ ?_
        refine tl_I_stop_80 hK hret ?_ ?_ fu_ (ia_i v6 (102 + 1 + 5 * (x3).toNatClampNeg) 0) 0 v6 gv6 hm
        · intro x5 h hg hm
          refine ia_go hK ck_I_stop_112 ?_
          show K 114 [none, none, none, none, none, some (.inl x5)] [.inl x5] h
          obtain ⟨rfl, rfl⟩ := Prod.mk.inj (Option.some.inj hm)
          exact hret 114 _ dc_I_stop_114
        · intro x4 h hg hm
          refine ia_go hK ck_I_stop_121 ?_
          show K 123 [none, none, none, none, some (.inl x4), none] [.inl x4] h
          obtain ⟨rfl, rfl⟩ := Prod.mk.inj (Option.some.inj hm)
          exact hret 123 _ dc_I_stop_123
      · replace hm := ia_ifp hm c
        show K 36 [some (.inr (.inr 64)), some (.inl x1), some (.inl x2), some (.inl x3), none, none] [] h
        refine ia_go hK ck_I_stop_36 ?_
        show K 37 [some (.inr (.inr 64)), some (.inl x1), some (.inl x2), some (.inl x3), none, none] [.inl (-1)] h
        obtain ⟨rfl, rfl⟩ := Prod.mk.inj (Option.some.inj hm)
        exact hret 37 _ dc_I_stop_37
def mm_I_stage : ia_M := (⟨"IceStreet", "stage", "(IIII)Z"⟩, prog_1_method_42_code, 7, (some .boolean), 0, false)
theorem ok_I_stage : ia_mok mm_I_stage := ⟨by decide +kernel, by decide +kernel, by decide +kernel, by decide +kernel⟩
theorem mk_I_stage : ia_mkn mm_I_stage 1 4 := ⟨ia_tb_in (List.mem_of_getElem? (i := 1188) (by decide +kernel)) rfl, ia_tb_in (List.mem_of_getElem? (i := 133) (by decide +kernel)) rfl, by decide +kernel, by decide +kernel, ⟨ia_tb_in (List.mem_of_getElem? (i := 1187) (by decide +kernel)) rfl, ia_tb_in (List.mem_of_getElem? (i := 32) (by decide +kernel)) rfl⟩⟩
theorem ck_I_stage_0 : ia_cks 0 7 false prog_1_method_42_code 0 [(.aload_n 0, 0, 0, 0, 0), (.getfield 10, 0, 0, 3, 1), (.iconst 0, 0, 0, 0, 0), (.iload_n 1, 0, 0, 0, 0)] = true := by decide +kernel
theorem ck_I_stage_9 : ia_cks 0 7 false prog_1_method_42_code 9 [(.ifCond .eq 32, 0, 0, 0, 0)] = true := by decide +kernel
theorem ck_I_stage_41 : ia_cks 0 7 false prog_1_method_42_code 41 [(.iconst 0, 0, 0, 0, 0)] = true := by decide +kernel
theorem ck_I_stage_12 : ia_cks 0 7 false prog_1_method_42_code 12 [(.aload_n 0, 0, 0, 0, 0), (.getfield 10, 0, 0, 3, 1), (.iconst 1, 0, 0, 0, 0), (.iload_n 2, 0, 0, 0, 0)] = true := by decide +kernel
theorem ck_I_stage_21 : ia_cks 0 7 false prog_1_method_42_code 21 [(.ifCond .eq 20, 0, 0, 0, 0)] = true := by decide +kernel
theorem ck_I_stage_24 : ia_cks 0 7 false prog_1_method_42_code 24 [(.iload_n 3, 0, 0, 0, 0), (.iconst (-1), 0, 0, 0, 0), (.if_icmp .eq 17, 0, 0, 0, 0)] = true := by decide +kernel
theorem ck_I_stage_43 : ia_cks 0 7 false prog_1_method_42_code 43 [(.iload_n 3, 0, 0, 0, 0), (.iconst (-1), 0, 0, 0, 0), (.if_icmp .ne 7, 0, 0, 0, 0)] = true := by decide +kernel
theorem ck_I_stage_52 : ia_cks 0 7 false prog_1_method_42_code 52 [(.aload_n 0, 0, 0, 0, 0), (.getfield 10, 0, 0, 3, 1), (.getfield 151, 10, 7, 3, 37), (.iload_n 3, 0, 0, 0, 0), (.aaload, 110, 5, 0, 0), (.getfield 244, 6, 0, 0, 0)] = true := by decide +kernel
theorem ck_I_stage_64 : ia_cks 0 7 false prog_1_method_42_code 64 [(.istore 5, 0, 0, 0, 0), (.iload 4, 0, 0, 0, 0), (.ifCond .lt 10, 0, 0, 0, 0)] = true := by decide +kernel
theorem ck_I_stage_78 : ia_cks 0 7 false prog_1_method_42_code 78 [(.iconst 0, 0, 0, 0, 0)] = true := by decide +kernel
theorem ck_I_stage_71 : ia_cks 0 7 false prog_1_method_42_code 71 [(.iload 4, 0, 0, 0, 0), (.iload 5, 0, 0, 0, 0), (.if_icmp .le 5, 0, 0, 0, 0)] = true := by decide +kernel
theorem ck_I_stage_80 : ia_cks 0 7 false prog_1_method_42_code 80 [(.aload_n 0, 0, 0, 0, 0), (.getfield 44, 0, 4, 3, 239), (.aload_n 0, 0, 0, 0, 0), (.getfield 10, 0, 0, 3, 1), (.getfield 33, 10, 5, 3, 3), (.iload_n 1, 0, 0, 0, 0), (.aaload, 107, 12, 0, 0), (.aload_n 0, 0, 0, 0, 0), (.getfield 10, 0, 0, 3, 1), (.getfield 37, 10, 6, 3, 28), (.iload_n 2, 0, 0, 0, 0), (.aaload, 108, 4, 0, 0)] = true := by decide +kernel
theorem ck_I_stage_105 : ia_cks 0 7 false prog_1_method_42_code 105 [(.iconst 0, 0, 0, 0, 0), (.istore 6, 0, 0, 0, 0)] = true := by decide +kernel
theorem ck_I_stage_108 : ia_cks 0 7 false prog_1_method_42_code 108 [(.iload 6, 0, 0, 0, 0), (.iload 4, 0, 0, 0, 0), (.if_icmp .ge 36, 0, 0, 0, 0)] = true := by decide +kernel
theorem ck_I_stage_115 : ia_cks 0 7 false prog_1_method_42_code 115 [(.aload_n 0, 0, 0, 0, 0), (.getfield 60, 0, 6, 3, 261), (.aload_n 0, 0, 0, 0, 0), (.getfield 44, 0, 4, 3, 239), (.aload_n 0, 0, 0, 0, 0), (.getfield 10, 0, 0, 3, 1), (.getfield 151, 10, 7, 3, 37), (.iload_n 3, 0, 0, 0, 0), (.aaload, 110, 5, 0, 0), (.iload 6, 0, 0, 0, 0)] = true := by decide +kernel
theorem ck_I_stage_137 : ia_cks 0 7 false prog_1_method_42_code 137 [(.ifCond .ne 5, 0, 0, 0, 0)] = true := by decide +kernel
theorem ck_I_stage_142 : ia_cks 0 7 false prog_1_method_42_code 142 [(.iinc 6 1, 0, 0, 0, 0), (.goto (-37), 0, 0, 0, 0)] = true := by decide +kernel
theorem ck_I_stage_140 : ia_cks 0 7 false prog_1_method_42_code 140 [(.iconst 0, 0, 0, 0, 0)] = true := by decide +kernel
theorem ck_I_stage_148 : ia_cks 0 7 false prog_1_method_42_code 148 [(.iconst 1, 0, 0, 0, 0)] = true := by decide +kernel
theorem ck_I_stage_48 : ia_cks 0 7 false prog_1_method_42_code 48 [(.iconst 0, 0, 0, 0, 0), (.goto 15, 0, 0, 0, 0)] = true := by decide +kernel
theorem ck_I_stage_29 : ia_cks 0 7 false prog_1_method_42_code 29 [(.aload_n 0, 0, 0, 0, 0), (.getfield 10, 0, 0, 3, 1), (.iconst 2, 0, 0, 0, 0), (.iload_n 3, 0, 0, 0, 0)] = true := by decide +kernel
theorem ck_I_stage_38 : ia_cks 0 7 false prog_1_method_42_code 38 [(.ifCond .ne 5, 0, 0, 0, 0)] = true := by decide +kernel
theorem dc_I_stage_6 : decode prog_1_method_42_code 6 = .ok (.invokevirtual 129, 3) := by decide +kernel
theorem dc_I_stage_42 : decode prog_1_method_42_code 42 = .ok (.ireturn, 1) := by decide +kernel
theorem dc_I_stage_18 : decode prog_1_method_42_code 18 = .ok (.invokevirtual 129, 3) := by decide +kernel
theorem dc_I_stage_79 : decode prog_1_method_42_code 79 = .ok (.ireturn, 1) := by decide +kernel
theorem dc_I_stage_102 : decode prog_1_method_42_code 102 = .ok (.invokevirtual 259, 3) := by decide +kernel
theorem dc_I_stage_134 : decode prog_1_method_42_code 134 = .ok (.invokevirtual 262, 3) := by decide +kernel
theorem dc_I_stage_141 : decode prog_1_method_42_code 141 = .ok (.ireturn, 1) := by decide +kernel
theorem dc_I_stage_149 : decode prog_1_method_42_code 149 = .ok (.ireturn, 1) := by decide +kernel
theorem dc_I_stage_35 : decode prog_1_method_42_code 35 = .ok (.invokevirtual 129, 3) := by decide +kernel
def l_I_stage_108 (x1 : Int32) (x2 : Int32) (x3 : Int32) (x4 : Int32) (k140 : ia_H → Option (Int32 × ia_H)) (k148 : ia_H → Option (Int32 × ia_H)) (n : Nat) (x6 : Int32) (h : ia_H) : Option (Int32 × ia_H) := match n with
  | 0 => none
  | n + 1 => if x4 ≤ x6 then (k148 h) else (ia_gd (ia_ib x3 3) ((f_De_perform 303 (102 + 1 + 5 * (x3).toNatClampNeg) x6 h).bind fun v8 => (if v8.1 = 0 then (k140 v8.2) else (l_I_stage_108 x1 x2 x3 x4 k140 k148 n (x6 + 1) v8.2))))
theorem tl_I_stage_108 {w : ia_O0} {d N1 W1 : Nat} {K : ia_K} (hK : ia_isK (d + 6) mm_I_stage N1 W1 K) {x1 : Int32} {x2 : Int32} {x3 : Int32} {x4 : Int32} {r : Int32} {h1 : ia_H} (hret : ∀ (pc : Nat) (lv : ia_L), ia_ret mm_I_stage pc (some (.inl r)) → K pc lv ((some (.inl r)) : Option ia_V).toList h1) {k140 : ia_H → Option (Int32 × ia_H)} {k148 : ia_H → Option (Int32 × ia_H)} (hk140 : ∀ (h : ia_H), gd_ w h → k140 h = some (r, h1) → K 140 [none, none, none, none, none, none, none] [] h) (hk148 : ∀ (h : ia_H), gd_ w h → k148 h = some (r, h1) → K 148 [none, none, none, none, none, none, none] [] h) : ∀ (n : Nat) (x6 : Int32) (h : ia_H), gd_ w h → l_I_stage_108 x1 x2 x3 x4 k140 k148 n x6 h = some (r, h1) → K 108 [some (.inr (.inr 64)), none, none, some (.inl x3), some (.inl x4), none, some (.inl x6)] [] h := by
  intro n
  induction n with
  | zero =>
    intro x6 h hg hm
    cases (show (none : Option (Int32 × ia_H)) = some _ from hm)
  | succ n ih =>
    intro x6 h hg hm
    rw [l_I_stage_108] at hm
    refine ia_go hK ck_I_stage_108 ⟨fun c => ?_, fun c => ?_⟩
    · replace hm := ia_ifp hm c
      show K 148 [some (.inr (.inr 64)), none, none, some (.inl x3), some (.inl x4), none, some (.inl x6)] [] h
      refine ia_fg hK (lv' := [none, none, none, none, none, none, none]) trivial ?_
      exact hk148 h hg hm
    · replace hm := ia_ifn hm c
      show K 115 [some (.inr (.inr 64)), none, none, some (.inl x3), some (.inl x4), none, some (.inl x6)] [] h
      obtain ⟨c7, hm⟩ := ia_gd_some hm
      refine ia_go hK ck_I_stage_115 ⟨gk_0 hg pk_64, gr_0_6 hg pk_64, gk_0 hg pk_64, gr_0_4 hg pk_64, gk_0 hg pk_64, gr_0_0 hg pk_64, gk_10 hg (ka_0_0 pk_64), gr_10_7 hg (ka_0_0 pk_64), ga_r110 hg (ka_10_7 (ka_0_0 pk_64)) c7, ?_⟩
      show K 134 [some (.inr (.inr 64)), none, none, some (.inl x3), some (.inl x4), none, some (.inl x6)] [.inl x6, .inr (.inr (102 + 1 + 5 * (x3).toNatClampNeg)), .inr (.inr 303), .inr (.inr 325)] h
      obtain ⟨v8, hv8, hm⟩ := ia_bnd hm
      have ev8 := t_De_perform (d + 0) hg (ka_0_4 pk_64) (ke_110 (ka_10_7 (ka_0_0 pk_64)) c7) hv8
      have gv8 := g_De_perform hg (ka_0_4 pk_64) (ke_110 (ka_10_7 (ka_0_0 pk_64)) c7) hv8
      refine ia_cV hK mk_De_perform lk_0_262 dc_I_stage_134 325 [.inr (.inr 303), .inr (.inr (102 + 1 + 5 * (x3).toNatClampNeg)), .inl x6] [] rfl rfl (Nat.le_of_ble_eq_true rfl) (by decide) rfl (gk_1 hg (ka_0_6 pk_64)) ev8 (gd_nm hg gv8) ?_
      show K 137 [some (.inr (.inr 64)), none, none, some (.inl x3), some (.inl x4), none, some (.inl x6)] [.inl v8.1] v8.2
      refine ia_go hK ck_I_stage_137 ⟨fun c => ?_, fun c => ?_⟩
      · replace hm := ia_ifn hm c
        show K 142 [some (.inr (.inr 64)), none, none, some (.inl x3), some (.inl x4), none, some (.inl x6)] [] v8.2
        refine ia_go hK ck_I_stage_142 ?_
        show K 108 [some (.inr (.inr 64)), none, none, some (.inl x3), some (.inl x4), none, some (.inl (x6 + 1))] [] v8.2
        exact ih (x6 + 1) v8.2 gv8 hm
      · replace hm := ia_ifp hm c
        show K 140 [some (.inr (.inr 64)), none, none, some (.inl x3), some (.inl x4), none, some (.inl x6)] [] v8.2
        refine ia_fg hK (lv' := [none, none, none, none, none, none, none]) trivial ?_
        exact hk140 v8.2 gv8 hm
theorem gl_I_stage_108 {w : ia_O0} {x1 : Int32} {x2 : Int32} {x3 : Int32} {x4 : Int32} {r : Int32} {h1 : ia_H} {k140 : ia_H → Option (Int32 × ia_H)} {k148 : ia_H → Option (Int32 × ia_H)} (hk140 : ∀ (h : ia_H), gd_ w h → k140 h = some (r, h1) → gd_ w h1) (hk148 : ∀ (h : ia_H), gd_ w h → k148 h = some (r, h1) → gd_ w h1) : ∀ (n : Nat) (x6 : Int32) (h : ia_H), gd_ w h → l_I_stage_108 x1 x2 x3 x4 k140 k148 n x6 h = some (r, h1) → gd_ w h1 := by
  intro n
  induction n with
  | zero =>
    intro x6 h hg hm
    cases (show (none : Option (Int32 × ia_H)) = some _ from hm)
  | succ n ih =>
    intro x6 h hg hm
    rw [l_I_stage_108] at hm
    by_cases c : x4 ≤ x6
    · replace hm := ia_ifp hm c
      exact hk148 h hg hm
    · replace hm := ia_ifn hm c
      obtain ⟨c7, hm⟩ := ia_gd_some hm
      obtain ⟨v8, hv8, hm⟩ := ia_bnd hm
      have gv8 := g_De_perform hg (ka_0_4 pk_64) (ke_110 (ka_10_7 (ka_0_0 pk_64)) c7) hv8
      by_cases c : v8.1 = 0
      · replace hm := ia_ifp hm c
        exact hk140 v8.2 gv8 hm
      · replace hm := ia_ifn hm c
        exact ih (x6 + 1) v8.2 gv8 hm
def j_I_stage_64 (x1 : Int32) (x2 : Int32) (x3 : Int32) (x4 : Int32) (s0 : Int32) (h : ia_H) : Option (Int32 × ia_H) := if x4 < 0 then (some (0, h)) else (if x4 ≤ s0 then (ia_gd (ia_ib x1 2) (ia_gd (ia_ib x2 2) ((f_Sc_begin 303 (68 + 1 + 12 * (x1).toNatClampNeg) (93 + 1 + 4 * (x2).toNatClampNeg) h).bind fun v6 => (l_I_stage_108 x1 x2 x3 x4 (fun h => some (0, h)) (fun h => some (1, h)) fu_ 0 v6)))) else (some (0, h)))
theorem tj_I_stage_64 {w : ia_O0} {d N1 W1 : Nat} {K : ia_K} (hK : ia_isK (d + 6) mm_I_stage N1 W1 K) {x1 : Int32} {x2 : Int32} {x3 : Int32} {x4 : Int32} {r : Int32} {h1 : ia_H} (hret : ∀ (pc : Nat) (lv : ia_L), ia_ret mm_I_stage pc (some (.inl r)) → K pc lv ((some (.inl r)) : Option ia_V).toList h1) : ∀ (s0 : Int32) (h : ia_H), gd_ w h → j_I_stage_64 x1 x2 x3 x4 s0 h = some (r, h1) → K 64 [some (.inr (.inr 64)), some (.inl x1), some (.inl x2), some (.inl x3), some (.inl x4), none, none] [.inl s0] h := by
  intro s0 h hg hm
  unfold j_I_stage_64 at hm
  refine ia_go hK ck_I_stage_64 ⟨fun c => ?_, fun c => ?_⟩
  · replace hm := ia_ifp hm c
    show K 78 [some (.inr (.inr 64)), some (.inl x1), some (.inl x2), some (.inl x3), some (.inl x4), some (.inl s0), none] [] h
    refine ia_go hK ck_I_stage_78 ?_
    show K 79 [some (.inr (.inr 64)), some (.inl x1), some (.inl x2), some (.inl x3), some (.inl x4), some (.inl s0), none] [.inl 0] h
    obtain ⟨rfl, rfl⟩ := Prod.mk.inj (Option.some.inj hm)
    exact hret 79 _ ⟨Or.inl rfl, dc_I_stage_79⟩
  · replace hm := ia_ifn hm c
    show K 71 [some (.inr (.inr 64)), some (.inl x1), some (.inl x2), some (.inl x3), some (.inl x4), some (.inl s0), none] [] h
    refine ia_go hK ck_I_stage_71 ⟨fun c => ?_, fun c => ?_⟩
    · replace hm := ia_ifp hm c
      show K 80 [some (.inr (.inr 64)), some (.inl x1), some (.inl x2), some (.inl x3), some (.inl x4), some (.inl s0), none] [] h
      obtain ⟨c4, hm⟩ := ia_gd_some hm
      obtain ⟨c5, hm⟩ := ia_gd_some hm
      refine ia_go hK ck_I_stage_80 ⟨gk_0 hg pk_64, gr_0_4 hg pk_64, gk_0 hg pk_64, gr_0_0 hg pk_64, gk_10 hg (ka_0_0 pk_64), gr_10_5 hg (ka_0_0 pk_64), ga_r107 hg (ka_10_5 (ka_0_0 pk_64)) c4, gk_0 hg pk_64, gr_0_0 hg pk_64, gk_10 hg (ka_0_0 pk_64), gr_10_6 hg (ka_0_0 pk_64), ga_r108 hg (ka_10_6 (ka_0_0 pk_64)) c5, ?_⟩
      show K 102 [some (.inr (.inr 64)), some (.inl x1), some (.inl x2), some (.inl x3), some (.inl x4), some (.inl s0), none] [.inr (.inr (93 + 1 + 4 * (x2).toNatClampNeg)), .inr (.inr (68 + 1 + 12 * (x1).toNatClampNeg)), .inr (.inr 303)] h
      obtain ⟨v6, hv6, hm⟩ := ia_bnd hm
      have ev6 := t_Sc_begin (d + 2) hg (ka_0_4 pk_64) (ke_107 (ka_10_5 (ka_0_0 pk_64)) c4) (ke_108 (ka_10_6 (ka_0_0 pk_64)) c5) hv6
      have gv6 := g_Sc_begin hg (ka_0_4 pk_64) (ke_107 (ka_10_5 (ka_0_0 pk_64)) c4) (ke_108 (ka_10_6 (ka_0_0 pk_64)) c5) hv6
      refine ia_cV hK mk_Sc_begin lk_0_259 dc_I_stage_102 303 [.inr (.inr (68 + 1 + 12 * (x1).toNatClampNeg)), .inr (.inr (93 + 1 + 4 * (x2).toNatClampNeg))] [] rfl rfl (Nat.le_of_ble_eq_true rfl) (by decide) rfl (gk_9 hg (ka_0_4 pk_64)) ev6 (gd_nm hg gv6) ?_
      show K 105 [some (.inr (.inr 64)), some (.inl x1), some (.inl x2), some (.inl x3), some (.inl x4), some (.inl s0), none] [] v6
      refine ia_go hK ck_I_stage_105 ?_
      show K 108 [some (.inr (.inr 64)), some (.inl x1), some (.inl x2), some (.inl x3), some (.inl x4), some (.inl s0), some (.inl 0)] [] v6
      refine ia_fg hK (lv' := [some (.inr (.inr 64)), none, none, some (.inl x3), some (.inl x4), none, some (.inl 0)]) ⟨rfl, rfl, rfl, rfl, trivial⟩ ?_
      refine tl_I_stage_108 hK hret ?_ ?_ fu_ 0 v6 gv6 hm
      · intro h hg hm
        refine ia_go hK ck_I_stage_140 ?_
        show K 141 [none, none, none, none, none, none, none] [.inl 0] h
        obtain ⟨rfl, rfl⟩ := Prod.mk.inj (Option.some.inj hm)
        exact hret 141 _ ⟨Or.inl rfl, dc_I_stage_141⟩
      · intro h hg hm
        refine ia_go hK ck_I_stage_148 ?_
        show K 149 [none, none, none, none, none, none, none] [.inl 1] h
        obtain ⟨rfl, rfl⟩ := Prod.mk.inj (Option.some.inj hm)
        exact hret 149 _ ⟨Or.inr rfl, dc_I_stage_149⟩
    · replace hm := ia_ifn hm c
      show K 78 [some (.inr (.inr 64)), some (.inl x1), some (.inl x2), some (.inl x3), some (.inl x4), some (.inl s0), none] [] h
      refine ia_go hK ck_I_stage_78 ?_
      show K 79 [some (.inr (.inr 64)), some (.inl x1), some (.inl x2), some (.inl x3), some (.inl x4), some (.inl s0), none] [.inl 0] h
      obtain ⟨rfl, rfl⟩ := Prod.mk.inj (Option.some.inj hm)
      exact hret 79 _ ⟨Or.inl rfl, dc_I_stage_79⟩
theorem gj_I_stage_64 {w : ia_O0} {x1 : Int32} {x2 : Int32} {x3 : Int32} {x4 : Int32} {r : Int32} {h1 : ia_H} : ∀ (s0 : Int32) (h : ia_H), gd_ w h → j_I_stage_64 x1 x2 x3 x4 s0 h = some (r, h1) → gd_ w h1 := by
  intro s0 h hg hm
  unfold j_I_stage_64 at hm
  by_cases c : x4 < 0
  · replace hm := ia_ifp hm c
    obtain ⟨rfl, rfl⟩ := Prod.mk.inj (Option.some.inj hm)
    exact hg
  · replace hm := ia_ifn hm c
    by_cases c : x4 ≤ s0
    · replace hm := ia_ifp hm c
      obtain ⟨c4, hm⟩ := ia_gd_some hm
      obtain ⟨c5, hm⟩ := ia_gd_some hm
      obtain ⟨v6, hv6, hm⟩ := ia_bnd hm
      have gv6 := g_Sc_begin hg (ka_0_4 pk_64) (ke_107 (ka_10_5 (ka_0_0 pk_64)) c4) (ke_108 (ka_10_6 (ka_0_0 pk_64)) c5) hv6
      refine gl_I_stage_108 ?_ ?_ fu_ 0 v6 gv6 hm
      · intro h hg hm
        obtain ⟨rfl, rfl⟩ := Prod.mk.inj (Option.some.inj hm)
        exact hg
      · intro h hg hm
        obtain ⟨rfl, rfl⟩ := Prod.mk.inj (Option.some.inj hm)
        exact hg
    · replace hm := ia_ifn hm c
      obtain ⟨rfl, rfl⟩ := Prod.mk.inj (Option.some.inj hm)
      exact hg
def j_I_stage_43 (x1 : Int32) (x2 : Int32) (x3 : Int32) (x4 : Int32) (h : ia_H) : Option (Int32 × ia_H) := if x3 = (-1) then (j_I_stage_64 x1 x2 x3 x4 0 h) else (ia_gd (ia_ib x3 3) (j_I_stage_64 x1 x2 x3 x4 (ia_i h (102 + 1 + 5 * (x3).toNatClampNeg) 0) h))
theorem tj_I_stage_43 {w : ia_O0} {d N1 W1 : Nat} {K : ia_K} (hK : ia_isK (d + 6) mm_I_stage N1 W1 K) {x1 : Int32} {x2 : Int32} {x3 : Int32} {x4 : Int32} {r : Int32} {h1 : ia_H} (hret : ∀ (pc : Nat) (lv : ia_L), ia_ret mm_I_stage pc (some (.inl r)) → K pc lv ((some (.inl r)) : Option ia_V).toList h1) : ∀ (h : ia_H), gd_ w h → j_I_stage_43 x1 x2 x3 x4 h = some (r, h1) → K 43 [some (.inr (.inr 64)), some (.inl x1), some (.inl x2), some (.inl x3), some (.inl x4), none, none] [] h := by
  intro h hg hm
  unfold j_I_stage_43 at hm
  refine ia_go hK ck_I_stage_43 ⟨fun c => ?_, fun c => ?_⟩
  · replace hm := ia_ifn hm c
    show K 52 [some (.inr (.inr 64)), some (.inl x1), some (.inl x2), some (.inl x3), some (.inl x4), none, none] [] h
    obtain ⟨c3, hm⟩ := ia_gd_some hm
    refine ia_go hK ck_I_stage_52 ⟨gk_0 hg pk_64, gr_0_0 hg pk_64, gk_10 hg (ka_0_0 pk_64), gr_10_7 hg (ka_0_0 pk_64), ga_r110 hg (ka_10_7 (ka_0_0 pk_64)) c3, gk_6 hg (ke_110 (ka_10_7 (ka_0_0 pk_64)) c3), ?_⟩
    show K 64 [some (.inr (.inr 64)), some (.inl x1), some (.inl x2), some (.inl x3), some (.inl x4), none, none] [.inl (ia_i h (102 + 1 + 5 * (x3).toNatClampNeg) 0)] h
    exact tj_I_stage_64 hK hret (ia_i h (102 + 1 + 5 * (x3).toNatClampNeg) 0) h hg hm
  · replace hm := ia_ifp hm c
    show K 48 [some (.inr (.inr 64)), some (.inl x1), some (.inl x2), some (.inl x3), some (.inl x4), none, none] [] h
    refine ia_go hK ck_I_stage_48 ?_
    show K 64 [some (.inr (.inr 64)), some (.inl x1), some (.inl x2), some (.inl x3), some (.inl x4), none, none] [.inl 0] h
    exact tj_I_stage_64 hK hret 0 h hg hm
theorem gj_I_stage_43 {w : ia_O0} {x1 : Int32} {x2 : Int32} {x3 : Int32} {x4 : Int32} {r : Int32} {h1 : ia_H} : ∀ (h : ia_H), gd_ w h → j_I_stage_43 x1 x2 x3 x4 h = some (r, h1) → gd_ w h1 := by
  intro h hg hm
  unfold j_I_stage_43 at hm
  by_cases c : x3 = (-1)
  · replace hm := ia_ifp hm c
    exact gj_I_stage_64 0 h hg hm
  · replace hm := ia_ifn hm c
    obtain ⟨c3, hm⟩ := ia_gd_some hm
    exact gj_I_stage_64 (ia_i h (102 + 1 + 5 * (x3).toNatClampNeg) 0) h hg hm
def f_I_stage (x1 : Int32) (x2 : Int32) (x3 : Int32) (x4 : Int32) (h : ia_H) : Option (Int32 × ia_H) := (f_To_has 65 0 x1 h).bind fun v1 => (if v1 = 0 then (some (0, h)) else ((f_To_has 65 1 x2 h).bind fun v2 => (if v2 = 0 then (some (0, h)) else (if x3 = (-1) then (j_I_stage_43 x1 x2 x3 x4 h) else ((f_To_has 65 2 x3 h).bind fun v9 => (if v9 = 0 then (some (0, h)) else (j_I_stage_43 x1 x2 x3 x4 h)))))))
theorem g_I_stage {w : ia_O0} {x1 : Int32} {x2 : Int32} {x3 : Int32} {x4 : Int32} {h : ia_H} (hg : gd_ w h) {q : (Int32 × ia_H)} (hm : f_I_stage x1 x2 x3 x4 h = some q) : gd_ w q.2 := by
  obtain ⟨r, h1⟩ := q
  unfold f_I_stage at hm
  obtain ⟨v1, hv1, hm⟩ := ia_bnd hm
  by_cases c : v1 = 0
  · replace hm := ia_ifp hm c
    obtain ⟨rfl, rfl⟩ := Prod.mk.inj (Option.some.inj hm)
    exact hg
  · replace hm := ia_ifn hm c
    obtain ⟨v2, hv2, hm⟩ := ia_bnd hm
    by_cases c : v2 = 0
    · replace hm := ia_ifp hm c
      obtain ⟨rfl, rfl⟩ := Prod.mk.inj (Option.some.inj hm)
      exact hg
    · replace hm := ia_ifn hm c
      by_cases c : x3 = (-1)
      · replace hm := ia_ifp hm c
        exact gj_I_stage_43 h hg hm
      · replace hm := ia_ifn hm c
        obtain ⟨v9, hv9, hm⟩ := ia_bnd hm
        by_cases c : v9 = 0
        · replace hm := ia_ifp hm c
          obtain ⟨rfl, rfl⟩ := Prod.mk.inj (Option.some.inj hm)
          exact hg
        · replace hm := ia_ifn hm c
          exact gj_I_stage_43 h hg hm
theorem t_I_stage {w : ia_O0} (d : Nat) {x1 : Int32} {x2 : Int32} {x3 : Int32} {x4 : Int32} {h : ia_H} (hg : gd_ w h) {q : (Int32 × ia_H)} (hm : f_I_stage x1 x2 x3 x4 h = some q) : ia_Ev (d + 6) mm_I_stage [.inr (.inr 64), .inl x1, .inl x2, .inl x3, .inl x4] h (some (.inl q.1)) q.2 := by
  have gq := g_I_stage hg hm
  refine ia_Ev_intro ok_I_stage (gd_le hg gq).1 (gd_le hg gq).2 (Nat.le_of_ble_eq_true rfl) (fun K hK hret => ?_)
  obtain ⟨r, h1⟩ := q
  show K 0 [some (.inr (.inr 64)), some (.inl x1), some (.inl x2), some (.inl x3), some (.inl x4), none, none] [] h
  unfold f_I_stage at hm
  refine ia_go hK ck_I_stage_0 ⟨gk_0 hg pk_64, gr_0_0 hg pk_64, ?_⟩
  show K 6 [some (.inr (.inr 64)), some (.inl x1), some (.inl x2), some (.inl x3), some (.inl x4), none, none] [.inl x1, .inl 0, .inr (.inr 65)] h
  obtain ⟨v1, hv1, hm⟩ := ia_bnd hm
  have ev1 := t_To_has (d + 5) hg (ka_0_0 pk_64) hv1
  refine ia_cV hK mk_To_has lk_0_129 dc_I_stage_6 65 [.inl 0, .inl x1] [] rfl rfl (Nat.le_of_ble_eq_true rfl) (by decide) rfl (gk_10 hg (ka_0_0 pk_64)) ev1 ⟨rfl, rfl⟩ ?_
  show K 9 [some (.inr (.inr 64)), some (.inl x1), some (.inl x2), some (.inl x3), some (.inl x4), none, none] [.inl v1] h
  refine ia_go hK ck_I_stage_9 ⟨fun c => ?_, fun c => ?_⟩
  · replace hm := ia_ifp hm c
    show K 41 [some (.inr (.inr 64)), some (.inl x1), some (.inl x2), some (.inl x3), some (.inl x4), none, none] [] h
    refine ia_go hK ck_I_stage_41 ?_
    show K 42 [some (.inr (.inr 64)), some (.inl x1), some (.inl x2), some (.inl x3), some (.inl x4), none, none] [.inl 0] h
    obtain ⟨rfl, rfl⟩ := Prod.mk.inj (Option.some.inj hm)
    exact hret 42 _ ⟨Or.inl rfl, dc_I_stage_42⟩
  · replace hm := ia_ifn hm c
    show K 12 [some (.inr (.inr 64)), some (.inl x1), some (.inl x2), some (.inl x3), some (.inl x4), none, none] [] h
    refine ia_go hK ck_I_stage_12 ⟨gk_0 hg pk_64, gr_0_0 hg pk_64, ?_⟩
    show K 18 [some (.inr (.inr 64)), some (.inl x1), some (.inl x2), some (.inl x3), some (.inl x4), none, none] [.inl x2, .inl 1, .inr (.inr 65)] h
    obtain ⟨v2, hv2, hm⟩ := ia_bnd hm
    have ev2 := t_To_has (d + 5) hg (ka_0_0 pk_64) hv2
    refine ia_cV hK mk_To_has lk_0_129 dc_I_stage_18 65 [.inl 1, .inl x2] [] rfl rfl (Nat.le_of_ble_eq_true rfl) (by decide) rfl (gk_10 hg (ka_0_0 pk_64)) ev2 ⟨rfl, rfl⟩ ?_
    show K 21 [some (.inr (.inr 64)), some (.inl x1), some (.inl x2), some (.inl x3), some (.inl x4), none, none] [.inl v2] h
    refine ia_go hK ck_I_stage_21 ⟨fun c => ?_, fun c => ?_⟩
    · replace hm := ia_ifp hm c
      show K 41 [some (.inr (.inr 64)), some (.inl x1), some (.inl x2), some (.inl x3), some (.inl x4), none, none] [] h
      refine ia_go hK ck_I_stage_41 ?_
      show K 42 [some (.inr (.inr 64)), some (.inl x1), some (.inl x2), some (.inl x3), some (.inl x4), none, none] [.inl 0] h
      obtain ⟨rfl, rfl⟩ := Prod.mk.inj (Option.some.inj hm)
      exact hret 42 _ ⟨Or.inl rfl, dc_I_stage_42⟩
    · replace hm := ia_ifn hm c
      show K 24 [some (.inr (.inr 64)), some (.inl x1), some (.inl x2), some (.inl x3), some (.inl x4), none, none] [] h
      refine ia_go hK ck_I_stage_24 ⟨fun c => ?_, fun c => ?_⟩
      · replace hm := ia_ifp hm c
        show K 43 [some (.inr (.inr 64)), some (.inl x1), some (.inl x2), some (.inl x3), some (.inl x4), none, none] [] h
        exact tj_I_stage_43 hK hret h hg hm
      · replace hm := ia_ifn hm c
        show K 29 [some (.inr (.inr 64)), some (.inl x1), some (.inl x2), some (.inl x3), some (.inl x4), none, none] [] h
        refine ia_go hK ck_I_stage_29 ⟨gk_0 hg pk_64, gr_0_0 hg pk_64, ?_⟩
        show K 35 [some (.inr (.inr 64)), some (.inl x1), some (.inl x2), some (.inl x3), some (.inl x4), none, none] [.inl x3, .inl 2, .inr (.inr 65)] h
        obtain ⟨v9, hv9, hm⟩ := ia_bnd hm
        have ev9 := t_To_has (d + 5) hg (ka_0_0 pk_64) hv9
        refine ia_cV hK mk_To_has lk_0_129 dc_I_stage_35 65 [.inl 2, .inl x3] [] rfl rfl (Nat.le_of_ble_eq_true rfl) (by decide) rfl (gk_10 hg (ka_0_0 pk_64)) ev9 ⟨rfl, rfl⟩ ?_
        show K 38 [some (.inr (.inr 64)), some (.inl x1), some (.inl x2), some (.inl x3), some (.inl x4), none, none] [.inl v9] h
        refine ia_go hK ck_I_stage_38 ⟨fun c => ?_, fun c => ?_⟩
        · replace hm := ia_ifn hm c
          show K 43 [some (.inr (.inr 64)), some (.inl x1), some (.inl x2), some (.inl x3), some (.inl x4), none, none] [] h
          exact tj_I_stage_43 hK hret h hg hm
        · replace hm := ia_ifp hm c
          show K 41 [some (.inr (.inr 64)), some (.inl x1), some (.inl x2), some (.inl x3), some (.inl x4), none, none] [] h
          refine ia_go hK ck_I_stage_41 ?_
          show K 42 [some (.inr (.inr 64)), some (.inl x1), some (.inl x2), some (.inl x3), some (.inl x4), none, none] [.inl 0] h
          obtain ⟨rfl, rfl⟩ := Prod.mk.inj (Option.some.inj hm)
          exact hret 42 _ ⟨Or.inl rfl, dc_I_stage_42⟩
