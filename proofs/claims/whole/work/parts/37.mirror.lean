def mm_M_isWay : ia_M := (⟨"IceStreetModel", "isWay", "(IIII)Z"⟩, prog_14_method_59_code, 5, (some .boolean), 12, false)
theorem ok_M_isWay : ia_mok mm_M_isWay := ⟨by decide +kernel, by decide +kernel, by decide +kernel, by decide +kernel⟩
theorem mk_M_isWay : ia_mkn mm_M_isWay 1 4 := ⟨ia_tb_in (List.mem_of_getElem? (i := 1954) (by decide +kernel)) rfl, ia_tb_in (List.mem_of_getElem? (i := 146) (by decide +kernel)) rfl, by decide +kernel, by decide +kernel, ⟨ia_tb_in (List.mem_of_getElem? (i := 1953) (by decide +kernel)) rfl, ia_tb_in (List.mem_of_getElem? (i := 92) (by decide +kernel)) rfl⟩⟩
theorem ck_M_isWay_0 : ia_cks 12 5 false prog_14_method_59_code 0 [(.iload_n 1, 0, 0, 0, 0), (.iload_n 2, 0, 0, 0, 0), (.if_icmp .ne 5, 0, 0, 0, 0)] = true := by decide +kernel
theorem ck_M_isWay_7 : ia_cks 12 5 false prog_14_method_59_code 7 [(.aload_n 0, 0, 0, 0, 0), (.iload_n 2, 0, 0, 0, 0), (.iload_n 3, 0, 0, 0, 0), (.iload 4, 0, 0, 0, 0), (.iconst 0, 0, 0, 0, 0)] = true := by decide +kernel
theorem ck_M_isWay_16 : ia_cks 12 5 false prog_14_method_59_code 16 [(.aload_n 0, 0, 0, 0, 0), (.getfield 39, 12, 22, 3, 8), (.iload_n 1, 0, 0, 0, 0), (.iaload, 0, 0, 0, 0)] = true := by decide +kernel
theorem ck_M_isWay_24 : ia_cks 12 5 false prog_14_method_59_code 24 [(.if_icmp .ge 7, 0, 0, 0, 0)] = true := by decide +kernel
theorem ck_M_isWay_31 : ia_cks 12 5 false prog_14_method_59_code 31 [(.iconst 0, 0, 0, 0, 0)] = true := by decide +kernel
theorem ck_M_isWay_27 : ia_cks 12 5 false prog_14_method_59_code 27 [(.iconst 1, 0, 0, 0, 0), (.goto 4, 0, 0, 0, 0)] = true := by decide +kernel
theorem ck_M_isWay_5 : ia_cks 12 5 false prog_14_method_59_code 5 [(.iconst 0, 0, 0, 0, 0)] = true := by decide +kernel
theorem dc_M_isWay_13 : decode prog_14_method_59_code 13 = .ok (.invokevirtual 262, 3) := by decide +kernel
theorem dc_M_isWay_22 : decode prog_14_method_59_code 22 = .ok (.ldc 255, 2) := by decide +kernel
theorem dc_M_isWay_32 : decode prog_14_method_59_code 32 = .ok (.ireturn, 1) := by decide +kernel
theorem dc_M_isWay_6 : decode prog_14_method_59_code 6 = .ok (.ireturn, 1) := by decide +kernel
def f_M_isWay (x1 : Int32) (x2 : Int32) (x3 : Int32) (x4 : Int32) (h : ia_H) : Option (Int32 × ia_H) := if x1 = x2 then (some (0, h)) else ((f_M_measures x2 x3 x4 0 h).bind fun v1 => (ia_gd (ia_ib x1 36) (if 1000000 ≤ (ia_i v1 425 ((x1).toNatClampNeg)) then (some (0, v1)) else (some (1, v1)))))
theorem g_M_isWay {w : ia_O0} {x1 : Int32} {x2 : Int32} {x3 : Int32} {x4 : Int32} {h : ia_H} (hg : gd_ w h) {q : (Int32 × ia_H)} (hm : f_M_isWay x1 x2 x3 x4 h = some q) : gd_ w q.2 := by
  obtain ⟨r, h1⟩ := q
  unfold f_M_isWay at hm
  by_cases c : x1 = x2
  · replace hm := ia_ifp hm c
    obtain ⟨rfl, rfl⟩ := Prod.mk.inj (Option.some.inj hm)
    exact hg
  · replace hm := ia_ifn hm c
    obtain ⟨v1, hv1, hm⟩ := ia_bnd hm
    have gv1 := g_M_measures hg hv1
    obtain ⟨c2, hm⟩ := ia_gd_some hm
    by_cases c : 1000000 ≤ (ia_i v1 425 ((x1).toNatClampNeg))
    · replace hm := ia_ifp hm c
      obtain ⟨rfl, rfl⟩ := Prod.mk.inj (Option.some.inj hm)
      exact gv1
    · replace hm := ia_ifn hm c
      obtain ⟨rfl, rfl⟩ := Prod.mk.inj (Option.some.inj hm)
      exact gv1
theorem t_M_isWay {w : ia_O0} (d : Nat) {x1 : Int32} {x2 : Int32} {x3 : Int32} {x4 : Int32} {h : ia_H} (hg : gd_ w h) {q : (Int32 × ia_H)} (hm : f_M_isWay x1 x2 x3 x4 h = some q) : ia_Ev (d + 6) mm_M_isWay [.inr (.inr 417), .inl x1, .inl x2, .inl x3, .inl x4] h (some (.inl q.1)) q.2 := by
  have gq := g_M_isWay hg hm
  refine ia_Ev_intro ok_M_isWay (gd_le hg gq).1 (gd_le hg gq).2 (Nat.le_of_ble_eq_true rfl) (fun K hK hret => ?_)
  obtain ⟨r, h1⟩ := q
  show K 0 [some (.inr (.inr 417)), some (.inl x1), some (.inl x2), some (.inl x3), some (.inl x4)] [] h
  unfold f_M_isWay at hm
  refine ia_go hK ck_M_isWay_0 ⟨fun c => ?_, fun c => ?_⟩
  · replace hm := ia_ifn hm c
    show K 7 [some (.inr (.inr 417)), some (.inl x1), some (.inl x2), some (.inl x3), some (.inl x4)] [] h
    refine ia_go hK ck_M_isWay_7 ?_
    show K 13 [some (.inr (.inr 417)), some (.inl x1), some (.inl x2), some (.inl x3), some (.inl x4)] [.inl 0, .inl x4, .inl x3, .inl x2, .inr (.inr 417)] h
    obtain ⟨v1, hv1, hm⟩ := ia_bnd hm
    have ev1 := t_M_measures (d + 0) hg hv1
    have gv1 := g_M_measures hg hv1
    refine ia_cV hK mk_M_measures lk_12_262 dc_M_isWay_13 417 [.inl x2, .inl x3, .inl x4, .inl 0] [] rfl rfl (Nat.le_of_ble_eq_true rfl) (by decide) rfl (gk_12 hg pk_417) ev1 (gd_nm hg gv1) ?_
    show K 16 [some (.inr (.inr 417)), some (.inl x1), some (.inl x2), some (.inl x3), some (.inl x4)] [] v1
    obtain ⟨c2, hm⟩ := ia_gd_some hm
    refine ia_go hK ck_M_isWay_16 ⟨gk_12 gv1 pk_417, gr_12_22 gv1 pk_417, ga_i100 gv1 (ka_12_22 pk_417) c2, ?_⟩
    show K 22 [some (.inr (.inr 417)), some (.inl x1), some (.inl x2), some (.inl x3), some (.inl x4)] [.inl (ia_i v1 425 ((x1).toNatClampNeg))] v1
    refine ia_ldc hK (v := 1000000) (ia_tb_in (List.mem_of_getElem? (i := 1959) (by decide +kernel)) rfl) dc_M_isWay_22 ?_
    show K 24 [some (.inr (.inr 417)), some (.inl x1), some (.inl x2), some (.inl x3), some (.inl x4)] [.inl 1000000, .inl (ia_i v1 425 ((x1).toNatClampNeg))] v1
    refine ia_go hK ck_M_isWay_24 ⟨fun c => ?_, fun c => ?_⟩
    · replace hm := ia_ifp hm c
      show K 31 [some (.inr (.inr 417)), some (.inl x1), some (.inl x2), some (.inl x3), some (.inl x4)] [] v1
      refine ia_go hK ck_M_isWay_31 ?_
      show K 32 [some (.inr (.inr 417)), some (.inl x1), some (.inl x2), some (.inl x3), some (.inl x4)] [.inl 0] v1
      obtain ⟨rfl, rfl⟩ := Prod.mk.inj (Option.some.inj hm)
      exact hret 32 _ ⟨Or.inl rfl, dc_M_isWay_32⟩
    · replace hm := ia_ifn hm c
      show K 27 [some (.inr (.inr 417)), some (.inl x1), some (.inl x2), some (.inl x3), some (.inl x4)] [] v1
      refine ia_go hK ck_M_isWay_27 ?_
      show K 32 [some (.inr (.inr 417)), some (.inl x1), some (.inl x2), some (.inl x3), some (.inl x4)] [.inl 1] v1
      obtain ⟨rfl, rfl⟩ := Prod.mk.inj (Option.some.inj hm)
      exact hret 32 _ ⟨Or.inr rfl, dc_M_isWay_32⟩
  · replace hm := ia_ifp hm c
    show K 5 [some (.inr (.inr 417)), some (.inl x1), some (.inl x2), some (.inl x3), some (.inl x4)] [] h
    refine ia_go hK ck_M_isWay_5 ?_
    show K 6 [some (.inr (.inr 417)), some (.inl x1), some (.inl x2), some (.inl x3), some (.inl x4)] [.inl 0] h
    obtain ⟨rfl, rfl⟩ := Prod.mk.inj (Option.some.inj hm)
    exact hret 6 _ ⟨Or.inl rfl, dc_M_isWay_6⟩
def mm_M_canMove : ia_M := (⟨"IceStreetModel", "canMove", "(II)Z"⟩, prog_14_method_64_code, 3, (some .boolean), 12, false)
theorem ok_M_canMove : ia_mok mm_M_canMove := ⟨by decide +kernel, by decide +kernel, by decide +kernel, by decide +kernel⟩
theorem mk_M_canMove : ia_mkn mm_M_canMove 1 2 := ⟨ia_tb_in (List.mem_of_getElem? (i := 1935) (by decide +kernel)) rfl, ia_tb_in (List.mem_of_getElem? (i := 146) (by decide +kernel)) rfl, by decide +kernel, by decide +kernel, ⟨ia_tb_in (List.mem_of_getElem? (i := 1934) (by decide +kernel)) rfl, ia_tb_in (List.mem_of_getElem? (i := 88) (by decide +kernel)) rfl⟩⟩
theorem ck_M_canMove_0 : ia_cks 12 3 false prog_14_method_64_code 0 [(.aload_n 0, 0, 0, 0, 0), (.iload_n 1, 0, 0, 0, 0)] = true := by decide +kernel
theorem ck_M_canMove_5 : ia_cks 12 3 false prog_14_method_64_code 5 [(.ifCond .eq 68, 0, 0, 0, 0)] = true := by decide +kernel
theorem ck_M_canMove_73 : ia_cks 12 3 false prog_14_method_64_code 73 [(.iconst 0, 0, 0, 0, 0)] = true := by decide +kernel
theorem ck_M_canMove_8 : ia_cks 12 3 false prog_14_method_64_code 8 [(.aload_n 0, 0, 0, 0, 0), (.aload_n 0, 0, 0, 0, 0), (.getfield 201, 12, 14, 0, 0), (.iload_n 2, 0, 0, 0, 0)] = true := by decide +kernel
theorem ck_M_canMove_17 : ia_cks 12 3 false prog_14_method_64_code 17 [(.ifCond .eq 56, 0, 0, 0, 0)] = true := by decide +kernel
theorem ck_M_canMove_20 : ia_cks 12 3 false prog_14_method_64_code 20 [(.aload_n 0, 0, 0, 0, 0), (.getfield 7, 12, 0, 3, 1), (.aload_n 0, 0, 0, 0, 0), (.getfield 219, 12, 15, 0, 0), (.bipush 30, 0, 0, 0, 0), (.iadd, 0, 0, 0, 0), (.iload_n 2, 0, 0, 0, 0), (.iadd, 0, 0, 0, 0), (.iaload, 0, 0, 0, 0), (.ifCond .ne 39, 0, 0, 0, 0)] = true := by decide +kernel
theorem ck_M_canMove_37 : ia_cks 12 3 false prog_14_method_64_code 37 [(.aload_n 0, 0, 0, 0, 0), (.iload_n 1, 0, 0, 0, 0), (.iload_n 2, 0, 0, 0, 0)] = true := by decide +kernel
theorem ck_M_canMove_43 : ia_cks 12 3 false prog_14_method_64_code 43 [(.ifCond .eq 30, 0, 0, 0, 0)] = true := by decide +kernel
theorem ck_M_canMove_46 : ia_cks 12 3 false prog_14_method_64_code 46 [(.aload_n 0, 0, 0, 0, 0), (.aload_n 0, 0, 0, 0, 0), (.getfield 23, 12, 13, 3, 5), (.bipush 72, 0, 0, 0, 0), (.iload_n 1, 0, 0, 0, 0), (.iadd, 0, 0, 0, 0), (.iaload, 0, 0, 0, 0), (.iload_n 2, 0, 0, 0, 0), (.aload_n 0, 0, 0, 0, 0), (.iload_n 1, 0, 0, 0, 0)] = true := by decide +kernel
theorem ck_M_canMove_62 : ia_cks 12 3 false prog_14_method_64_code 62 [(.iload_n 1, 0, 0, 0, 0)] = true := by decide +kernel
theorem ck_M_canMove_66 : ia_cks 12 3 false prog_14_method_64_code 66 [(.ifCond .eq 7, 0, 0, 0, 0)] = true := by decide +kernel
theorem ck_M_canMove_69 : ia_cks 12 3 false prog_14_method_64_code 69 [(.iconst 1, 0, 0, 0, 0), (.goto 4, 0, 0, 0, 0)] = true := by decide +kernel
theorem dc_M_canMove_2 : decode prog_14_method_64_code 2 = .ok (.invokevirtual 222, 3) := by decide +kernel
theorem dc_M_canMove_74 : decode prog_14_method_64_code 74 = .ok (.ireturn, 1) := by decide +kernel
theorem dc_M_canMove_14 : decode prog_14_method_64_code 14 = .ok (.invokevirtual 192, 3) := by decide +kernel
theorem dc_M_canMove_40 : decode prog_14_method_64_code 40 = .ok (.invokevirtual 278, 3) := by decide +kernel
theorem dc_M_canMove_59 : decode prog_14_method_64_code 59 = .ok (.invokevirtual 213, 3) := by decide +kernel
theorem dc_M_canMove_63 : decode prog_14_method_64_code 63 = .ok (.invokevirtual 269, 3) := by decide +kernel
def f_M_canMove (x1 : Int32) (x2 : Int32) (h : ia_H) : Option (Int32 × ia_H) := (f_M_stands x1 h).bind fun v1 => (if v1 = 0 then (some (0, h)) else ((f_M_isCell (ia_i h 417 14) x2 h).bind fun v2 => (if v2 = 0 then (some (0, h)) else (ia_gd (ia_ib (((ia_i h 417 15) + 30) + x2) 6528) (if (ia_i h 418 ((((ia_i h 417 15) + 30) + x2).toNatClampNeg)) = 0 then ((f_M_isApart x1 x2 h).bind fun v4 => (if v4 = 0 then (some (0, h)) else (ia_gd (ia_ib (72 + x1) 1120) ((f_M_weightOf x1 h).bind fun v6 => ((f_M_isWay (ia_i h 422 ((72 + x1).toNatClampNeg)) x2 v6 x1 h).bind fun v7 => (if v7.1 = 0 then (some (0, v7.2)) else (some (1, v7.2)))))))) else (some (0, h)))))))
theorem g_M_canMove {w : ia_O0} {x1 : Int32} {x2 : Int32} {h : ia_H} (hg : gd_ w h) {q : (Int32 × ia_H)} (hm : f_M_canMove x1 x2 h = some q) : gd_ w q.2 := by
  obtain ⟨r, h1⟩ := q
  unfold f_M_canMove at hm
  obtain ⟨v1, hv1, hm⟩ := ia_bnd hm
  by_cases c : v1 = 0
  · replace hm := ia_ifp hm c
    obtain ⟨rfl, rfl⟩ := Prod.mk.inj (Option.some.inj hm)
    exact hg
  · replace hm := ia_ifn hm c
    obtain ⟨v2, hv2, hm⟩ := ia_bnd hm
    by_cases c : v2 = 0
    · replace hm := ia_ifp hm c
      obtain ⟨rfl, rfl⟩ := Prod.mk.inj (Option.some.inj hm)
      exact hg
    · replace hm := ia_ifn hm c
      obtain ⟨c3, hm⟩ := ia_gd_some hm
      by_cases c : (ia_i h 418 ((((ia_i h 417 15) + 30) + x2).toNatClampNeg)) = 0
      · replace hm := ia_ifp hm c
        obtain ⟨v4, hv4, hm⟩ := ia_bnd hm
        by_cases c : v4 = 0
        · replace hm := ia_ifp hm c
          obtain ⟨rfl, rfl⟩ := Prod.mk.inj (Option.some.inj hm)
          exact hg
        · replace hm := ia_ifn hm c
          obtain ⟨c5, hm⟩ := ia_gd_some hm
          obtain ⟨v6, hv6, hm⟩ := ia_bnd hm
          obtain ⟨v7, hv7, hm⟩ := ia_bnd hm
          have gv7 := g_M_isWay hg hv7
          by_cases c : v7.1 = 0
          · replace hm := ia_ifp hm c
            obtain ⟨rfl, rfl⟩ := Prod.mk.inj (Option.some.inj hm)
            exact gv7
          · replace hm := ia_ifn hm c
            obtain ⟨rfl, rfl⟩ := Prod.mk.inj (Option.some.inj hm)
            exact gv7
      · replace hm := ia_ifn hm c
        obtain ⟨rfl, rfl⟩ := Prod.mk.inj (Option.some.inj hm)
        exact hg
theorem t_M_canMove {w : ia_O0} (d : Nat) {x1 : Int32} {x2 : Int32} {h : ia_H} (hg : gd_ w h) {q : (Int32 × ia_H)} (hm : f_M_canMove x1 x2 h = some q) : ia_Ev (d + 7) mm_M_canMove [.inr (.inr 417), .inl x1, .inl x2] h (some (.inl q.1)) q.2 := by
  have gq := g_M_canMove hg hm
  refine ia_Ev_intro ok_M_canMove (gd_le hg gq).1 (gd_le hg gq).2 (Nat.le_of_ble_eq_true rfl) (fun K hK hret => ?_)
  obtain ⟨r, h1⟩ := q
  show K 0 [some (.inr (.inr 417)), some (.inl x1), some (.inl x2)] [] h
  unfold f_M_canMove at hm
  refine ia_go hK ck_M_canMove_0 ?_
  show K 2 [some (.inr (.inr 417)), some (.inl x1), some (.inl x2)] [.inl x1, .inr (.inr 417)] h
  obtain ⟨v1, hv1, hm⟩ := ia_bnd hm
  have ev1 := t_M_stands (d + 4) hg hv1
  refine ia_cV hK mk_M_stands lk_12_222 dc_M_canMove_2 417 [.inl x1] [] rfl rfl (Nat.le_of_ble_eq_true rfl) (by decide) rfl (gk_12 hg pk_417) ev1 ⟨rfl, rfl⟩ ?_
  show K 5 [some (.inr (.inr 417)), some (.inl x1), some (.inl x2)] [.inl v1] h
  refine ia_go hK ck_M_canMove_5 ⟨fun c => ?_, fun c => ?_⟩
  · replace hm := ia_ifp hm c
    show K 73 [some (.inr (.inr 417)), some (.inl x1), some (.inl x2)] [] h
    refine ia_go hK ck_M_canMove_73 ?_
    show K 74 [some (.inr (.inr 417)), some (.inl x1), some (.inl x2)] [.inl 0] h
    obtain ⟨rfl, rfl⟩ := Prod.mk.inj (Option.some.inj hm)
    exact hret 74 _ ⟨Or.inl rfl, dc_M_canMove_74⟩
  · replace hm := ia_ifn hm c
    show K 8 [some (.inr (.inr 417)), some (.inl x1), some (.inl x2)] [] h
    refine ia_go hK ck_M_canMove_8 ⟨gk_12 hg pk_417, ?_⟩
    show K 14 [some (.inr (.inr 417)), some (.inl x1), some (.inl x2)] [.inl x2, .inl (ia_i h 417 14), .inr (.inr 417)] h
    obtain ⟨v2, hv2, hm⟩ := ia_bnd hm
    have ev2 := t_M_isCell (d + 5) hg hv2
    refine ia_cV hK mk_M_isCell lk_12_192 dc_M_canMove_14 417 [.inl (ia_i h 417 14), .inl x2] [] rfl rfl (Nat.le_of_ble_eq_true rfl) (by decide) rfl (gk_12 hg pk_417) ev2 ⟨rfl, rfl⟩ ?_
    show K 17 [some (.inr (.inr 417)), some (.inl x1), some (.inl x2)] [.inl v2] h
    refine ia_go hK ck_M_canMove_17 ⟨fun c => ?_, fun c => ?_⟩
    · replace hm := ia_ifp hm c
      show K 73 [some (.inr (.inr 417)), some (.inl x1), some (.inl x2)] [] h
      refine ia_go hK ck_M_canMove_73 ?_
      show K 74 [some (.inr (.inr 417)), some (.inl x1), some (.inl x2)] [.inl 0] h
      obtain ⟨rfl, rfl⟩ := Prod.mk.inj (Option.some.inj hm)
      exact hret 74 _ ⟨Or.inl rfl, dc_M_canMove_74⟩
    · replace hm := ia_ifn hm c
      show K 20 [some (.inr (.inr 417)), some (.inl x1), some (.inl x2)] [] h
      obtain ⟨c3, hm⟩ := ia_gd_some hm
      refine ia_go hK ck_M_canMove_20 ⟨gk_12 hg pk_417, gr_12_0 hg pk_417, gk_12 hg pk_417, ga_i100 hg (ka_12_0 pk_417) c3, fun c => ?_, fun c => ?_⟩
      · replace hm := ia_ifn hm c
        show K 73 [some (.inr (.inr 417)), some (.inl x1), some (.inl x2)] [] h
        refine ia_go hK ck_M_canMove_73 ?_
        show K 74 [some (.inr (.inr 417)), some (.inl x1), some (.inl x2)] [.inl 0] h
        obtain ⟨rfl, rfl⟩ := Prod.mk.inj (Option.some.inj hm)
        exact hret 74 _ ⟨Or.inl rfl, dc_M_canMove_74⟩
      · replace hm := ia_ifp hm c
        show K 37 [some (.inr (.inr 417)), some (.inl x1), some (.inl x2)] [] h
        refine ia_go hK ck_M_canMove_37 ?_
        show K 40 [some (.inr (.inr 417)), some (.inl x1), some (.inl x2)] [.inl x2, .inl x1, .inr (.inr 417)] h
        obtain ⟨v4, hv4, hm⟩ := ia_bnd hm
        have ev4 := t_M_isApart (d + 3) hg hv4
        refine ia_cV hK mk_M_isApart lk_12_278 dc_M_canMove_40 417 [.inl x1, .inl x2] [] rfl rfl (Nat.le_of_ble_eq_true rfl) (by decide) rfl (gk_12 hg pk_417) ev4 ⟨rfl, rfl⟩ ?_
        show K 43 [some (.inr (.inr 417)), some (.inl x1), some (.inl x2)] [.inl v4] h
        refine ia_go hK ck_M_canMove_43 ⟨fun c => ?_, fun c => ?_⟩
        · replace hm := ia_ifp hm c
          show K 73 [some (.inr (.inr 417)), some (.inl x1), some (.inl x2)] [] h
          refine ia_go hK ck_M_canMove_73 ?_
          show K 74 [some (.inr (.inr 417)), some (.inl x1), some (.inl x2)] [.inl 0] h
          obtain ⟨rfl, rfl⟩ := Prod.mk.inj (Option.some.inj hm)
          exact hret 74 _ ⟨Or.inl rfl, dc_M_canMove_74⟩
        · replace hm := ia_ifn hm c
          show K 46 [some (.inr (.inr 417)), some (.inl x1), some (.inl x2)] [] h
          obtain ⟨c5, hm⟩ := ia_gd_some hm
          refine ia_go hK ck_M_canMove_46 ⟨gk_12 hg pk_417, gr_12_13 hg pk_417, ga_i100 hg (ka_12_13 pk_417) c5, ?_⟩
          show K 59 [some (.inr (.inr 417)), some (.inl x1), some (.inl x2)] [.inl x1, .inr (.inr 417), .inl x2, .inl (ia_i h 422 ((72 + x1).toNatClampNeg)), .inr (.inr 417)] h
          obtain ⟨v6, hv6, hm⟩ := ia_bnd hm
          have ev6 := t_M_weightOf (d + 5) hg hv6
          refine ia_cV hK mk_M_weightOf lk_12_213 dc_M_canMove_59 417 [.inl x1] [.inl x2, .inl (ia_i h 422 ((72 + x1).toNatClampNeg)), .inr (.inr 417)] rfl rfl (Nat.le_of_ble_eq_true rfl) (by decide) rfl (gk_12 hg pk_417) ev6 ⟨rfl, rfl⟩ ?_
          show K 62 [some (.inr (.inr 417)), some (.inl x1), some (.inl x2)] [.inl v6, .inl x2, .inl (ia_i h 422 ((72 + x1).toNatClampNeg)), .inr (.inr 417)] h
          refine ia_go hK ck_M_canMove_62 ?_
          show K 63 [some (.inr (.inr 417)), some (.inl x1), some (.inl x2)] [.inl x1, .inl v6, .inl x2, .inl (ia_i h 422 ((72 + x1).toNatClampNeg)), .inr (.inr 417)] h
          obtain ⟨v7, hv7, hm⟩ := ia_bnd hm
          have ev7 := t_M_isWay (d + 0) hg hv7
          have gv7 := g_M_isWay hg hv7
          refine ia_cV hK mk_M_isWay lk_12_269 dc_M_canMove_63 417 [.inl (ia_i h 422 ((72 + x1).toNatClampNeg)), .inl x2, .inl v6, .inl x1] [] rfl rfl (Nat.le_of_ble_eq_true rfl) (by decide) rfl (gk_12 hg pk_417) ev7 (gd_nm hg gv7) ?_
          show K 66 [some (.inr (.inr 417)), some (.inl x1), some (.inl x2)] [.inl v7.1] v7.2
          refine ia_go hK ck_M_canMove_66 ⟨fun c => ?_, fun c => ?_⟩
          · replace hm := ia_ifp hm c
            show K 73 [some (.inr (.inr 417)), some (.inl x1), some (.inl x2)] [] v7.2
            refine ia_go hK ck_M_canMove_73 ?_
            show K 74 [some (.inr (.inr 417)), some (.inl x1), some (.inl x2)] [.inl 0] v7.2
            obtain ⟨rfl, rfl⟩ := Prod.mk.inj (Option.some.inj hm)
            exact hret 74 _ ⟨Or.inl rfl, dc_M_canMove_74⟩
          · replace hm := ia_ifn hm c
            show K 69 [some (.inr (.inr 417)), some (.inl x1), some (.inl x2)] [] v7.2
            refine ia_go hK ck_M_canMove_69 ?_
            show K 74 [some (.inr (.inr 417)), some (.inl x1), some (.inl x2)] [.inl 1] v7.2
            obtain ⟨rfl, rfl⟩ := Prod.mk.inj (Option.some.inj hm)
            exact hret 74 _ ⟨Or.inr rfl, dc_M_canMove_74⟩
def mm_M_canGoOff : ia_M := (⟨"IceStreetModel", "canGoOff", "(I)Z"⟩, prog_14_method_65_code, 4, (some .boolean), 12, false)
theorem ok_M_canGoOff : ia_mok mm_M_canGoOff := ⟨by decide +kernel, by decide +kernel, by decide +kernel, by decide +kernel⟩
theorem mk_M_canGoOff : ia_mkn mm_M_canGoOff 1 1 := ⟨ia_tb_in (List.mem_of_getElem? (i := 1971) (by decide +kernel)) rfl, ia_tb_in (List.mem_of_getElem? (i := 146) (by decide +kernel)) rfl, by decide +kernel, by decide +kernel, ⟨ia_tb_in (List.mem_of_getElem? (i := 1970) (by decide +kernel)) rfl, ia_tb_in (List.mem_of_getElem? (i := 96) (by decide +kernel)) rfl⟩⟩
theorem ck_M_canGoOff_0 : ia_cks 12 4 false prog_14_method_65_code 0 [(.aload_n 0, 0, 0, 0, 0), (.iload_n 1, 0, 0, 0, 0)] = true := by decide +kernel
theorem ck_M_canGoOff_5 : ia_cks 12 4 false prog_14_method_65_code 5 [(.ifCond .ne 5, 0, 0, 0, 0)] = true := by decide +kernel
theorem ck_M_canGoOff_10 : ia_cks 12 4 false prog_14_method_65_code 10 [(.aload_n 0, 0, 0, 0, 0), (.getfield 23, 12, 13, 3, 5), (.bipush 72, 0, 0, 0, 0), (.iload_n 1, 0, 0, 0, 0), (.iadd, 0, 0, 0, 0), (.iaload, 0, 0, 0, 0), (.istore_n 2, 0, 0, 0, 0), (.aload_n 0, 0, 0, 0, 0), (.getfield 7, 12, 0, 3, 1), (.aload_n 0, 0, 0, 0, 0), (.getfield 201, 12, 14, 0, 0), (.bipush 116, 0, 0, 0, 0), (.iadd, 0, 0, 0, 0), (.iload_n 2, 0, 0, 0, 0), (.iadd, 0, 0, 0, 0), (.iaload, 0, 0, 0, 0), (.iconst 1, 0, 0, 0, 0), (.if_icmp .ne 5, 0, 0, 0, 0)] = true := by decide +kernel
theorem ck_M_canGoOff_40 : ia_cks 12 4 false prog_14_method_65_code 40 [(.iconst 0, 0, 0, 0, 0), (.istore_n 3, 0, 0, 0, 0)] = true := by decide +kernel
theorem ck_M_canGoOff_42 : ia_cks 12 4 false prog_14_method_65_code 42 [(.iload_n 3, 0, 0, 0, 0), (.aload_n 0, 0, 0, 0, 0)] = true := by decide +kernel
theorem ck_M_canGoOff_47 : ia_cks 12 4 false prog_14_method_65_code 47 [(.if_icmp .ge 44, 0, 0, 0, 0)] = true := by decide +kernel
theorem ck_M_canGoOff_50 : ia_cks 12 4 false prog_14_method_65_code 50 [(.aload_n 0, 0, 0, 0, 0), (.getfield 7, 12, 0, 3, 1), (.aload_n 0, 0, 0, 0, 0), (.getfield 201, 12, 14, 0, 0), (.bipush 116, 0, 0, 0, 0), (.iadd, 0, 0, 0, 0), (.iload_n 3, 0, 0, 0, 0), (.iadd, 0, 0, 0, 0), (.iaload, 0, 0, 0, 0), (.iconst 1, 0, 0, 0, 0), (.if_icmp .ne 20, 0, 0, 0, 0)] = true := by decide +kernel
theorem ck_M_canGoOff_85 : ia_cks 12 4 false prog_14_method_65_code 85 [(.iinc 3 1, 0, 0, 0, 0), (.goto (-46), 0, 0, 0, 0)] = true := by decide +kernel
theorem ck_M_canGoOff_68 : ia_cks 12 4 false prog_14_method_65_code 68 [(.aload_n 0, 0, 0, 0, 0), (.iload_n 2, 0, 0, 0, 0), (.iload_n 3, 0, 0, 0, 0), (.aload_n 0, 0, 0, 0, 0), (.iload_n 1, 0, 0, 0, 0)] = true := by decide +kernel
theorem ck_M_canGoOff_76 : ia_cks 12 4 false prog_14_method_65_code 76 [(.iload_n 1, 0, 0, 0, 0)] = true := by decide +kernel
theorem ck_M_canGoOff_80 : ia_cks 12 4 false prog_14_method_65_code 80 [(.ifCond .eq 5, 0, 0, 0, 0)] = true := by decide +kernel
theorem ck_M_canGoOff_83 : ia_cks 12 4 false prog_14_method_65_code 83 [(.iconst 1, 0, 0, 0, 0)] = true := by decide +kernel
theorem ck_M_canGoOff_91 : ia_cks 12 4 false prog_14_method_65_code 91 [(.iconst 0, 0, 0, 0, 0)] = true := by decide +kernel
theorem ck_M_canGoOff_38 : ia_cks 12 4 false prog_14_method_65_code 38 [(.iconst 1, 0, 0, 0, 0)] = true := by decide +kernel
theorem ck_M_canGoOff_8 : ia_cks 12 4 false prog_14_method_65_code 8 [(.iconst 0, 0, 0, 0, 0)] = true := by decide +kernel
theorem dc_M_canGoOff_2 : decode prog_14_method_65_code 2 = .ok (.invokevirtual 222, 3) := by decide +kernel
theorem dc_M_canGoOff_44 : decode prog_14_method_65_code 44 = .ok (.invokevirtual 234, 3) := by decide +kernel
theorem dc_M_canGoOff_73 : decode prog_14_method_65_code 73 = .ok (.invokevirtual 213, 3) := by decide +kernel
theorem dc_M_canGoOff_77 : decode prog_14_method_65_code 77 = .ok (.invokevirtual 269, 3) := by decide +kernel
theorem dc_M_canGoOff_84 : decode prog_14_method_65_code 84 = .ok (.ireturn, 1) := by decide +kernel
theorem dc_M_canGoOff_92 : decode prog_14_method_65_code 92 = .ok (.ireturn, 1) := by decide +kernel
theorem dc_M_canGoOff_39 : decode prog_14_method_65_code 39 = .ok (.ireturn, 1) := by decide +kernel
theorem dc_M_canGoOff_9 : decode prog_14_method_65_code 9 = .ok (.ireturn, 1) := by decide +kernel
def l_M_canGoOff_42 (x1 : Int32) (k83 : ia_H → Option (Int32 × ia_H)) (k91 : ia_H → Option (Int32 × ia_H)) (n : Nat) (x2 : Int32) (x3 : Int32) (h : ia_H) : Option (Int32 × ia_H) := match n with
  | 0 => none
  | n + 1 => (f_M_cells h).bind fun v4 => (if v4 ≤ x3 then (k91 h) else (ia_gd (ia_ib (((ia_i h 417 14) + 116) + x3) 6528) (if (ia_i h 418 ((((ia_i h 417 14) + 116) + x3).toNatClampNeg)) = 1 then ((f_M_weightOf x1 h).bind fun v6 => ((f_M_isWay x2 x3 v6 x1 h).bind fun v7 => (if v7.1 = 0 then (l_M_canGoOff_42 x1 k83 k91 n x2 (x3 + 1) v7.2) else (k83 v7.2)))) else (l_M_canGoOff_42 x1 k83 k91 n x2 (x3 + 1) h))))
theorem tl_M_canGoOff_42 {w : ia_O0} {d N1 W1 : Nat} {K : ia_K} (hK : ia_isK (d + 7) mm_M_canGoOff N1 W1 K) {x1 : Int32} {r : Int32} {h1 : ia_H} (hret : ∀ (pc : Nat) (lv : ia_L), ia_ret mm_M_canGoOff pc (some (.inl r)) → K pc lv ((some (.inl r)) : Option ia_V).toList h1) {k83 : ia_H → Option (Int32 × ia_H)} {k91 : ia_H → Option (Int32 × ia_H)} (hk83 : ∀ (h : ia_H), gd_ w h → k83 h = some (r, h1) → K 83 [none, none, none, none] [] h) (hk91 : ∀ (h : ia_H), gd_ w h → k91 h = some (r, h1) → K 91 [none, none, none, none] [] h) : ∀ (n : Nat) (x2 : Int32) (x3 : Int32) (h : ia_H), gd_ w h → l_M_canGoOff_42 x1 k83 k91 n x2 x3 h = some (r, h1) → K 42 [some (.inr (.inr 417)), some (.inl x1), some (.inl x2), some (.inl x3)] [] h := by
  intro n
  induction n with
  | zero =>
    intro x2 x3 h hg hm
    cases (show (none : Option (Int32 × ia_H)) = some _ from hm)
  | succ n ih =>
    intro x2 x3 h hg hm
    rw [l_M_canGoOff_42] at hm
    refine ia_go hK ck_M_canGoOff_42 ?_
    show K 44 [some (.inr (.inr 417)), some (.inl x1), some (.inl x2), some (.inl x3)] [.inr (.inr 417), .inl x3] h
    obtain ⟨v4, hv4, hm⟩ := ia_bnd hm
    have ev4 := t_M_cells (d + 6) hg hv4
    refine ia_cV hK mk_M_cells lk_12_234 dc_M_canGoOff_44 417 [] [.inl x3] rfl rfl (Nat.le_of_ble_eq_true rfl) (by decide) rfl (gk_12 hg pk_417) ev4 ⟨rfl, rfl⟩ ?_
    show K 47 [some (.inr (.inr 417)), some (.inl x1), some (.inl x2), some (.inl x3)] [.inl v4, .inl x3] h
    refine ia_go hK ck_M_canGoOff_47 ⟨fun c => ?_, fun c => ?_⟩
    · replace hm := ia_ifp hm c
      show K 91 [some (.inr (.inr 417)), some (.inl x1), some (.inl x2), some (.inl x3)] [] h
      refine ia_fg hK (lv' := [none, none, none, none]) trivial ?_
      exact hk91 h hg hm
    · replace hm := ia_ifn hm c
      show K 50 [some (.inr (.inr 417)), some (.inl x1), some (.inl x2), some (.inl x3)] [] h
      obtain ⟨c5, hm⟩ := ia_gd_some hm
      refine ia_go hK ck_M_canGoOff_50 ⟨gk_12 hg pk_417, gr_12_0 hg pk_417, gk_12 hg pk_417, ga_i100 hg (ka_12_0 pk_417) c5, fun c => ?_, fun c => ?_⟩
      · replace hm := ia_ifn hm c
        show K 85 [some (.inr (.inr 417)), some (.inl x1), some (.inl x2), some (.inl x3)] [] h
        refine ia_go hK ck_M_canGoOff_85 ?_
        show K 42 [some (.inr (.inr 417)), some (.inl x1), some (.inl x2), some (.inl (x3 + 1))] [] h
        exact ih x2 (x3 + 1) h hg hm
      · replace hm := ia_ifp hm c
        show K 68 [some (.inr (.inr 417)), some (.inl x1), some (.inl x2), some (.inl x3)] [] h
        refine ia_go hK ck_M_canGoOff_68 ?_
        show K 73 [some (.inr (.inr 417)), some (.inl x1), some (.inl x2), some (.inl x3)] [.inl x1, .inr (.inr 417), .inl x3, .inl x2, .inr (.inr 417)] h
        obtain ⟨v6, hv6, hm⟩ := ia_bnd hm
        have ev6 := t_M_weightOf (d + 5) hg hv6
        refine ia_cV hK mk_M_weightOf lk_12_213 dc_M_canGoOff_73 417 [.inl x1] [.inl x3, .inl x2, .inr (.inr 417)] rfl rfl (Nat.le_of_ble_eq_true rfl) (by decide) rfl (gk_12 hg pk_417) ev6 ⟨rfl, rfl⟩ ?_
        show K 76 [some (.inr (.inr 417)), some (.inl x1), some (.inl x2), some (.inl x3)] [.inl v6, .inl x3, .inl x2, .inr (.inr 417)] h
        refine ia_go hK ck_M_canGoOff_76 ?_
        show K 77 [some (.inr (.inr 417)), some (.inl x1), some (.inl x2), some (.inl x3)] [.inl x1, .inl v6, .inl x3, .inl x2, .inr (.inr 417)] h
        obtain ⟨v7, hv7, hm⟩ := ia_bnd hm
        have ev7 := t_M_isWay (d + 0) hg hv7
        have gv7 := g_M_isWay hg hv7
        refine ia_cV hK mk_M_isWay lk_12_269 dc_M_canGoOff_77 417 [.inl x2, .inl x3, .inl v6, .inl x1] [] rfl rfl (Nat.le_of_ble_eq_true rfl) (by decide) rfl (gk_12 hg pk_417) ev7 (gd_nm hg gv7) ?_
        show K 80 [some (.inr (.inr 417)), some (.inl x1), some (.inl x2), some (.inl x3)] [.inl v7.1] v7.2
        refine ia_go hK ck_M_canGoOff_80 ⟨fun c => ?_, fun c => ?_⟩
        · replace hm := ia_ifp hm c
          show K 85 [some (.inr (.inr 417)), some (.inl x1), some (.inl x2), some (.inl x3)] [] v7.2
          refine ia_go hK ck_M_canGoOff_85 ?_
          show K 42 [some (.inr (.inr 417)), some (.inl x1), some (.inl x2), some (.inl (x3 + 1))] [] v7.2
          exact ih x2 (x3 + 1) v7.2 gv7 hm
        · replace hm := ia_ifn hm c
          show K 83 [some (.inr (.inr 417)), some (.inl x1), some (.inl x2), some (.inl x3)] [] v7.2
          refine ia_fg hK (lv' := [none, none, none, none]) trivial ?_
          exact hk83 v7.2 gv7 hm
theorem gl_M_canGoOff_42 {w : ia_O0} {x1 : Int32} {r : Int32} {h1 : ia_H} {k83 : ia_H → Option (Int32 × ia_H)} {k91 : ia_H → Option (Int32 × ia_H)} (hk83 : ∀ (h : ia_H), gd_ w h → k83 h = some (r, h1) → gd_ w h1) (hk91 : ∀ (h : ia_H), gd_ w h → k91 h = some (r, h1) → gd_ w h1) : ∀ (n : Nat) (x2 : Int32) (x3 : Int32) (h : ia_H), gd_ w h → l_M_canGoOff_42 x1 k83 k91 n x2 x3 h = some (r, h1) → gd_ w h1 := by
  intro n
  induction n with
  | zero =>
    intro x2 x3 h hg hm
    cases (show (none : Option (Int32 × ia_H)) = some _ from hm)
  | succ n ih =>
    intro x2 x3 h hg hm
    rw [l_M_canGoOff_42] at hm
    obtain ⟨v4, hv4, hm⟩ := ia_bnd hm
    by_cases c : v4 ≤ x3
    · replace hm := ia_ifp hm c
      exact hk91 h hg hm
    · replace hm := ia_ifn hm c
      obtain ⟨c5, hm⟩ := ia_gd_some hm
      by_cases c : (ia_i h 418 ((((ia_i h 417 14) + 116) + x3).toNatClampNeg)) = 1
      · replace hm := ia_ifp hm c
        obtain ⟨v6, hv6, hm⟩ := ia_bnd hm
        obtain ⟨v7, hv7, hm⟩ := ia_bnd hm
        have gv7 := g_M_isWay hg hv7
        by_cases c : v7.1 = 0
        · replace hm := ia_ifp hm c
          exact ih x2 (x3 + 1) v7.2 gv7 hm
        · replace hm := ia_ifn hm c
          exact hk83 v7.2 gv7 hm
      · replace hm := ia_ifn hm c
        exact ih x2 (x3 + 1) h hg hm
def f_M_canGoOff (x1 : Int32) (h : ia_H) : Option (Int32 × ia_H) := (f_M_stands x1 h).bind fun v1 => (if v1 = 0 then (some (0, h)) else (ia_gd (ia_ib (72 + x1) 1120) (ia_gd (ia_ib (((ia_i h 417 14) + 116) + (ia_i h 422 ((72 + x1).toNatClampNeg))) 6528) (if (ia_i h 418 ((((ia_i h 417 14) + 116) + (ia_i h 422 ((72 + x1).toNatClampNeg))).toNatClampNeg)) = 1 then (some (1, h)) else (l_M_canGoOff_42 x1 (fun h => some (1, h)) (fun h => some (0, h)) fu_ (ia_i h 422 ((72 + x1).toNatClampNeg)) 0 h)))))
theorem g_M_canGoOff {w : ia_O0} {x1 : Int32} {h : ia_H} (hg : gd_ w h) {q : (Int32 × ia_H)} (hm : f_M_canGoOff x1 h = some q) : gd_ w q.2 := by
  obtain ⟨r, h1⟩ := q
  unfold f_M_canGoOff at hm
  obtain ⟨v1, hv1, hm⟩ := ia_bnd hm
  by_cases c : v1 = 0
  · replace hm := ia_ifp hm c
    obtain ⟨rfl, rfl⟩ := Prod.mk.inj (Option.some.inj hm)
    exact hg
  · replace hm := ia_ifn hm c
    obtain ⟨c2, hm⟩ := ia_gd_some hm
    obtain ⟨c3, hm⟩ := ia_gd_some hm
    by_cases c : (ia_i h 418 ((((ia_i h 417 14) + 116) + (ia_i h 422 ((72 + x1).toNatClampNeg))).toNatClampNeg)) = 1
    · replace hm := ia_ifp hm c
      obtain ⟨rfl, rfl⟩ := Prod.mk.inj (Option.some.inj hm)
      exact hg
    · replace hm := ia_ifn hm c
      refine gl_M_canGoOff_42 ?_ ?_ fu_ (ia_i h 422 ((72 + x1).toNatClampNeg)) 0 h hg hm
      · intro h hg hm
        obtain ⟨rfl, rfl⟩ := Prod.mk.inj (Option.some.inj hm)
        exact hg
      · intro h hg hm
        obtain ⟨rfl, rfl⟩ := Prod.mk.inj (Option.some.inj hm)
        exact hg
theorem t_M_canGoOff {w : ia_O0} (d : Nat) {x1 : Int32} {h : ia_H} (hg : gd_ w h) {q : (Int32 × ia_H)} (hm : f_M_canGoOff x1 h = some q) : ia_Ev (d + 7) mm_M_canGoOff [.inr (.inr 417), .inl x1] h (some (.inl q.1)) q.2 := by
  have gq := g_M_canGoOff hg hm
  refine ia_Ev_intro ok_M_canGoOff (gd_le hg gq).1 (gd_le hg gq).2 (Nat.le_of_ble_eq_true rfl) (fun K hK hret => ?_)
  obtain ⟨r, h1⟩ := q
  show K 0 [some (.inr (.inr 417)), some (.inl x1), none, none] [] h
  unfold f_M_canGoOff at hm
  refine ia_go hK ck_M_canGoOff_0 ?_
  show K 2 [some (.inr (.inr 417)), some (.inl x1), none, none] [.inl x1, .inr (.inr 417)] h
  obtain ⟨v1, hv1, hm⟩ := ia_bnd hm
  have ev1 := t_M_stands (d + 4) hg hv1
  refine ia_cV hK mk_M_stands lk_12_222 dc_M_canGoOff_2 417 [.inl x1] [] rfl rfl (Nat.le_of_ble_eq_true rfl) (by decide) rfl (gk_12 hg pk_417) ev1 ⟨rfl, rfl⟩ ?_
  show K 5 [some (.inr (.inr 417)), some (.inl x1), none, none] [.inl v1] h
  refine ia_go hK ck_M_canGoOff_5 ⟨fun c => ?_, fun c => ?_⟩
  · replace hm := ia_ifn hm c
    show K 10 [some (.inr (.inr 417)), some (.inl x1), none, none] [] h
    obtain ⟨c2, hm⟩ := ia_gd_some hm
    obtain ⟨c3, hm⟩ := ia_gd_some hm
    refine ia_go hK ck_M_canGoOff_10 ⟨gk_12 hg pk_417, gr_12_13 hg pk_417, ga_i100 hg (ka_12_13 pk_417) c2, gk_12 hg pk_417, gr_12_0 hg pk_417, gk_12 hg pk_417, ga_i100 hg (ka_12_0 pk_417) c3, fun c => ?_, fun c => ?_⟩
    · replace hm := ia_ifn hm c
      show K 40 [some (.inr (.inr 417)), some (.inl x1), some (.inl (ia_i h 422 ((72 + x1).toNatClampNeg))), none] [] h
      refine ia_go hK ck_M_canGoOff_40 ?_
      show K 42 [some (.inr (.inr 417)), some (.inl x1), some (.inl (ia_i h 422 ((72 + x1).toNatClampNeg))), some (.inl 0)] [] h
      refine tl_M_canGoOff_42 hK hret ?_ ?_ fu_ (ia_i h 422 ((72 + x1).toNatClampNeg)) 0 h hg hm
      · intro h hg hm
        refine ia_go hK ck_M_canGoOff_83 ?_
        show K 84 [none, none, none, none] [.inl 1] h
        obtain ⟨rfl, rfl⟩ := Prod.mk.inj (Option.some.inj hm)
        exact hret 84 _ ⟨Or.inr rfl, dc_M_canGoOff_84⟩
      · intro h hg hm
        refine ia_go hK ck_M_canGoOff_91 ?_
        show K 92 [none, none, none, none] [.inl 0] h
        obtain ⟨rfl, rfl⟩ := Prod.mk.inj (Option.some.inj hm)
        exact hret 92 _ ⟨Or.inl rfl, dc_M_canGoOff_92⟩
    · replace hm := ia_ifp hm c
      show K 38 [some (.inr (.inr 417)), some (.inl x1), some (.inl (ia_i h 422 ((72 + x1).toNatClampNeg))), none] [] h
      refine ia_go hK ck_M_canGoOff_38 ?_
      show K 39 [some (.inr (.inr 417)), some (.inl x1), some (.inl (ia_i h 422 ((72 + x1).toNatClampNeg))), none] [.inl 1] h
      obtain ⟨rfl, rfl⟩ := Prod.mk.inj (Option.some.inj hm)
      exact hret 39 _ ⟨Or.inr rfl, dc_M_canGoOff_39⟩
  · replace hm := ia_ifp hm c
    show K 8 [some (.inr (.inr 417)), some (.inl x1), none, none] [] h
    refine ia_go hK ck_M_canGoOff_8 ?_
    show K 9 [some (.inr (.inr 417)), some (.inl x1), none, none] [.inl 0] h
    obtain ⟨rfl, rfl⟩ := Prod.mk.inj (Option.some.inj hm)
    exact hret 9 _ ⟨Or.inl rfl, dc_M_canGoOff_9⟩
def mm_M_shortWay : ia_M := (⟨"IceStreetModel", "shortWay", "(III)Z"⟩, prog_14_method_60_code, 8, (some .boolean), 12, false)
theorem ok_M_shortWay : ia_mok mm_M_shortWay := ⟨by decide +kernel, by decide +kernel, by decide +kernel, by decide +kernel⟩
theorem mk_M_shortWay : ia_mkn mm_M_shortWay 1 3 := ⟨ia_tb_in (List.mem_of_getElem? (i := 1975) (by decide +kernel)) rfl, ia_tb_in (List.mem_of_getElem? (i := 146) (by decide +kernel)) rfl, by decide +kernel, by decide +kernel, ⟨ia_tb_in (List.mem_of_getElem? (i := 1974) (by decide +kernel)) rfl, ia_tb_in (List.mem_of_getElem? (i := 97) (by decide +kernel)) rfl⟩⟩
theorem ck_M_shortWay_0 : ia_cks 12 8 false prog_14_method_60_code 0 [(.aload_n 0, 0, 0, 0, 0), (.iconst 0, 0, 0, 0, 0), (.putfield 266, 12, 27, 0, 0), (.aload_n 0, 0, 0, 0, 0), (.iload_n 1, 0, 0, 0, 0), (.iload_n 2, 0, 0, 0, 0), (.iload_n 3, 0, 0, 0, 0), (.iconst (-1), 0, 0, 0, 0)] = true := by decide +kernel
theorem ck_M_shortWay_13 : ia_cks 12 8 false prog_14_method_60_code 13 [(.ifCond .ne 5, 0, 0, 0, 0)] = true := by decide +kernel
theorem ck_M_shortWay_18 : ia_cks 12 8 false prog_14_method_60_code 18 [(.iload_n 1, 0, 0, 0, 0), (.istore 4, 0, 0, 0, 0), (.aload_n 0, 0, 0, 0, 0), (.getfield 45, 12, 26, 3, 10), (.iconst 0, 0, 0, 0, 0), (.iload 4, 0, 0, 0, 0), (.iastore, 0, 0, 0, 0), (.aload_n 0, 0, 0, 0, 0), (.iconst 1, 0, 0, 0, 0), (.putfield 266, 12, 27, 0, 0)] = true := by decide +kernel
theorem ck_M_shortWay_34 : ia_cks 12 8 false prog_14_method_60_code 34 [(.iload 4, 0, 0, 0, 0), (.iload_n 2, 0, 0, 0, 0), (.if_icmp .eq 111, 0, 0, 0, 0)] = true := by decide +kernel
theorem ck_M_shortWay_40 : ia_cks 12 8 false prog_14_method_60_code 40 [(.iconst (-1), 0, 0, 0, 0), (.istore 5, 0, 0, 0, 0), (.iconst 3, 0, 0, 0, 0), (.istore 6, 0, 0, 0, 0)] = true := by decide +kernel
theorem ck_M_shortWay_46 : ia_cks 12 8 false prog_14_method_60_code 46 [(.iload 6, 0, 0, 0, 0), (.ifCond .lt 72, 0, 0, 0, 0)] = true := by decide +kernel
theorem ck_M_shortWay_51 : ia_cks 12 8 false prog_14_method_60_code 51 [(.aload_n 0, 0, 0, 0, 0), (.aload_n 0, 0, 0, 0, 0), (.getfield 201, 12, 14, 0, 0), (.iload 4, 0, 0, 0, 0), (.iload 6, 0, 0, 0, 0)] = true := by decide +kernel
theorem ck_M_shortWay_63 : ia_cks 12 8 false prog_14_method_60_code 63 [(.istore 7, 0, 0, 0, 0), (.iload 7, 0, 0, 0, 0), (.ifCond .lt 47, 0, 0, 0, 0)] = true := by decide +kernel
theorem ck_M_shortWay_114 : ia_cks 12 8 false prog_14_method_60_code 114 [(.iinc 6 (-1), 0, 0, 0, 0), (.goto (-71), 0, 0, 0, 0)] = true := by decide +kernel
theorem ck_M_shortWay_70 : ia_cks 12 8 false prog_14_method_60_code 70 [(.aload_n 0, 0, 0, 0, 0), (.getfield 42, 12, 25, 3, 9), (.iload 7, 0, 0, 0, 0), (.baload, 101, 0, 0, 0), (.ifCond .eq 37, 0, 0, 0, 0)] = true := by decide +kernel
theorem ck_M_shortWay_80 : ia_cks 12 8 false prog_14_method_60_code 80 [(.aload_n 0, 0, 0, 0, 0), (.iload 4, 0, 0, 0, 0), (.iload 7, 0, 0, 0, 0)] = true := by decide +kernel
theorem ck_M_shortWay_88 : ia_cks 12 8 false prog_14_method_60_code 88 [(.ifCond .ne 26, 0, 0, 0, 0)] = true := by decide +kernel
theorem ck_M_shortWay_91 : ia_cks 12 8 false prog_14_method_60_code 91 [(.aload_n 0, 0, 0, 0, 0), (.getfield 39, 12, 22, 3, 8), (.iload 7, 0, 0, 0, 0), (.iaload, 0, 0, 0, 0), (.aload_n 0, 0, 0, 0, 0), (.getfield 39, 12, 22, 3, 8), (.iload 4, 0, 0, 0, 0), (.iaload, 0, 0, 0, 0), (.iconst 1, 0, 0, 0, 0), (.isub, 0, 0, 0, 0), (.if_icmp .ne 7, 0, 0, 0, 0)] = true := by decide +kernel
theorem ck_M_shortWay_110 : ia_cks 12 8 false prog_14_method_60_code 110 [(.iload 7, 0, 0, 0, 0), (.istore 5, 0, 0, 0, 0), (.iinc 6 (-1), 0, 0, 0, 0), (.goto (-71), 0, 0, 0, 0)] = true := by decide +kernel
theorem ck_M_shortWay_120 : ia_cks 12 8 false prog_14_method_60_code 120 [(.iload 5, 0, 0, 0, 0), (.istore 4, 0, 0, 0, 0), (.aload_n 0, 0, 0, 0, 0), (.getfield 45, 12, 26, 3, 10), (.aload_n 0, 0, 0, 0, 0), (.getfield 266, 12, 27, 0, 0), (.iload 4, 0, 0, 0, 0), (.iastore, 0, 0, 0, 0), (.aload_n 0, 0, 0, 0, 0), (.dup, 0, 0, 0, 0), (.getfield 266, 12, 27, 0, 0), (.iconst 1, 0, 0, 0, 0), (.iadd, 0, 0, 0, 0), (.putfield 266, 12, 27, 0, 0), (.goto (-111), 0, 0, 0, 0)] = true := by decide +kernel
theorem ck_M_shortWay_148 : ia_cks 12 8 false prog_14_method_60_code 148 [(.iconst 1, 0, 0, 0, 0)] = true := by decide +kernel
theorem ck_M_shortWay_16 : ia_cks 12 8 false prog_14_method_60_code 16 [(.iconst 0, 0, 0, 0, 0)] = true := by decide +kernel
theorem dc_M_shortWay_10 : decode prog_14_method_60_code 10 = .ok (.invokevirtual 269, 3) := by decide +kernel
theorem dc_M_shortWay_60 : decode prog_14_method_60_code 60 = .ok (.invokevirtual 186, 3) := by decide +kernel
theorem dc_M_shortWay_85 : decode prog_14_method_60_code 85 = .ok (.invokevirtual 259, 3) := by decide +kernel
theorem dc_M_shortWay_149 : decode prog_14_method_60_code 149 = .ok (.ireturn, 1) := by decide +kernel
theorem dc_M_shortWay_17 : decode prog_14_method_60_code 17 = .ok (.ireturn, 1) := by decide +kernel
def l_M_shortWay_46 (x1 : Int32) (x2 : Int32) (x3 : Int32) (k120 : Int32 → ia_H → Option (Int32 × ia_H)) (n : Nat) (x4 : Int32) (x5 : Int32) (x6 : Int32) (h : ia_H) : Option (Int32 × ia_H) := match n with
  | 0 => none
  | n + 1 => if x6 < 0 then (k120 x5 h) else ((f_M_beside (ia_i h 417 14) x4 x6 h).bind fun v2 => (if v2 < 0 then (l_M_shortWay_46 x1 x2 x3 k120 n x4 x5 (x6 + (-1)) h) else (ia_gd (ia_ib v2 36) (if (ia_i h 426 ((v2).toNatClampNeg)) = 0 then (l_M_shortWay_46 x1 x2 x3 k120 n x4 x5 (x6 + (-1)) h) else ((f_M_against x4 v2 h).bind fun v4 => (if v4 = 0 then (ia_gd (ia_ib v2 36) (ia_gd (ia_ib x4 36) (if (ia_i h 425 ((v2).toNatClampNeg)) = ((ia_i h 425 ((x4).toNatClampNeg)) - 1) then (l_M_shortWay_46 x1 x2 x3 k120 n x4 v2 (x6 + (-1)) h) else (l_M_shortWay_46 x1 x2 x3 k120 n x4 x5 (x6 + (-1)) h)))) else (l_M_shortWay_46 x1 x2 x3 k120 n x4 x5 (x6 + (-1)) h)))))))
theorem tl_M_shortWay_46 {w : ia_O0} {d N1 W1 : Nat} {K : ia_K} (hK : ia_isK (d + 7) mm_M_shortWay N1 W1 K) {x1 : Int32} {x2 : Int32} {x3 : Int32} {r : Int32} {h1 : ia_H} (hret : ∀ (pc : Nat) (lv : ia_L), ia_ret mm_M_shortWay pc (some (.inl r)) → K pc lv ((some (.inl r)) : Option ia_V).toList h1) {k120 : Int32 → ia_H → Option (Int32 × ia_H)} (hk120 : ∀ (x5 : Int32) (h : ia_H), gd_ w h → k120 x5 h = some (r, h1) → K 120 [some (.inr (.inr 417)), none, some (.inl x2), none, none, some (.inl x5), none, none] [] h) : ∀ (n : Nat) (x4 : Int32) (x5 : Int32) (x6 : Int32) (h : ia_H), gd_ w h → l_M_shortWay_46 x1 x2 x3 k120 n x4 x5 x6 h = some (r, h1) → K 46 [some (.inr (.inr 417)), none, some (.inl x2), none, some (.inl x4), some (.inl x5), some (.inl x6), none] [] h := by
  intro n
  induction n with
  | zero =>
    intro x4 x5 x6 h hg hm
    cases (show (none : Option (Int32 × ia_H)) = some _ from hm)
  | succ n ih =>
    intro x4 x5 x6 h hg hm
    rw [l_M_shortWay_46] at hm
    refine ia_go hK ck_M_shortWay_46 ⟨fun c => ?_, fun c => ?_⟩
    · replace hm := ia_ifp hm c
      show K 120 [some (.inr (.inr 417)), none, some (.inl x2), none, some (.inl x4), some (.inl x5), some (.inl x6), none] [] h
      refine ia_fg hK (lv' := [some (.inr (.inr 417)), none, some (.inl x2), none, none, some (.inl x5), none, none]) ⟨rfl, rfl, rfl, trivial⟩ ?_
      exact hk120 x5 h hg hm
    · replace hm := ia_ifn hm c
      show K 51 [some (.inr (.inr 417)), none, some (.inl x2), none, some (.inl x4), some (.inl x5), some (.inl x6), none] [] h
      refine ia_go hK ck_M_shortWay_51 ⟨gk_12 hg pk_417, ?_⟩
      show K 60 [some (.inr (.inr 417)), none, some (.inl x2), none, some (.inl x4), some (.inl x5), some (.inl x6), none] [.inl x6, .inl x4, .inl (ia_i h 417 14), .inr (.inr 417)] h
      obtain ⟨v2, hv2, hm⟩ := ia_bnd hm
      have ev2 := t_M_beside (d + 6) hg hv2
      refine ia_cV hK mk_M_beside lk_12_186 dc_M_shortWay_60 417 [.inl (ia_i h 417 14), .inl x4, .inl x6] [] rfl rfl (Nat.le_of_ble_eq_true rfl) (by decide) rfl (gk_12 hg pk_417) ev2 ⟨rfl, rfl⟩ ?_
      show K 63 [some (.inr (.inr 417)), none, some (.inl x2), none, some (.inl x4), some (.inl x5), some (.inl x6), none] [.inl v2] h
      refine ia_go hK ck_M_shortWay_63 ⟨fun c => ?_, fun c => ?_⟩
      · replace hm := ia_ifp hm c
        show K 114 [some (.inr (.inr 417)), none, some (.inl x2), none, some (.inl x4), some (.inl x5), some (.inl x6), some (.inl v2)] [] h
        refine ia_go hK ck_M_shortWay_114 ?_
        show K 46 [some (.inr (.inr 417)), none, some (.inl x2), none, some (.inl x4), some (.inl x5), some (.inl (x6 + (-1))), some (.inl v2)] [] h
        refine ia_fg hK (lv' := [some (.inr (.inr 417)), none, some (.inl x2), none, some (.inl x4), some (.inl x5), some (.inl (x6 + (-1))), none]) ⟨rfl, rfl, rfl, rfl, rfl, trivial⟩ ?_
        exact ih x4 x5 (x6 + (-1)) h hg hm
      · replace hm := ia_ifn hm c
        show K 70 [some (.inr (.inr 417)), none, some (.inl x2), none, some (.inl x4), some (.inl x5), some (.inl x6), some (.inl v2)] [] h
        obtain ⟨c3, hm⟩ := ia_gd_some hm
        refine ia_go hK ck_M_shortWay_70 ⟨gk_12 hg pk_417, gr_12_25 hg pk_417, ga_s101 hg (ka_12_25 pk_417) c3, fun c => ?_, fun c => ?_⟩
        · replace hm := ia_ifp hm c
          show K 114 [some (.inr (.inr 417)), none, some (.inl x2), none, some (.inl x4), some (.inl x5), some (.inl x6), some (.inl v2)] [] h
          refine ia_go hK ck_M_shortWay_114 ?_
          show K 46 [some (.inr (.inr 417)), none, some (.inl x2), none, some (.inl x4), some (.inl x5), some (.inl (x6 + (-1))), some (.inl v2)] [] h
          refine ia_fg hK (lv' := [some (.inr (.inr 417)), none, some (.inl x2), none, some (.inl x4), some (.inl x5), some (.inl (x6 + (-1))), none]) ⟨rfl, rfl, rfl, rfl, rfl, trivial⟩ ?_
          exact ih x4 x5 (x6 + (-1)) h hg hm
        · replace hm := ia_ifn hm c
          show K 80 [some (.inr (.inr 417)), none, some (.inl x2), none, some (.inl x4), some (.inl x5), some (.inl x6), some (.inl v2)] [] h
          refine ia_go hK ck_M_shortWay_80 ?_
          show K 85 [some (.inr (.inr 417)), none, some (.inl x2), none, some (.inl x4), some (.inl x5), some (.inl x6), some (.inl v2)] [.inl v2, .inl x4, .inr (.inr 417)] h
          obtain ⟨v4, hv4, hm⟩ := ia_bnd hm
          have ev4 := t_M_against (d + 6) hg hv4
          refine ia_cV hK mk_M_against lk_12_259 dc_M_shortWay_85 417 [.inl x4, .inl v2] [] rfl rfl (Nat.le_of_ble_eq_true rfl) (by decide) rfl (gk_12 hg pk_417) ev4 ⟨rfl, rfl⟩ ?_
          show K 88 [some (.inr (.inr 417)), none, some (.inl x2), none, some (.inl x4), some (.inl x5), some (.inl x6), some (.inl v2)] [.inl v4] h
          refine ia_go hK ck_M_shortWay_88 ⟨fun c => ?_, fun c => ?_⟩
          · replace hm := ia_ifn hm c
            show K 114 [some (.inr (.inr 417)), none, some (.inl x2), none, some (.inl x4), some (.inl x5), some (.inl x6), some (.inl v2)] [] h
            refine ia_go hK ck_M_shortWay_114 ?_
            show K 46 [some (.inr (.inr 417)), none, some (.inl x2), none, some (.inl x4), some (.inl x5), some (.inl (x6 + (-1))), some (.inl v2)] [] h
            refine ia_fg hK (lv' := [some (.inr (.inr 417)), none, some (.inl x2), none, some (.inl x4), some (.inl x5), some (.inl (x6 + (-1))), none]) ⟨rfl, rfl, rfl, rfl, rfl, trivial⟩ ?_
            exact ih x4 x5 (x6 + (-1)) h hg hm
          · replace hm := ia_ifp hm c
            show K 91 [some (.inr (.inr 417)), none, some (.inl x2), none, some (.inl x4), some (.inl x5), some (.inl x6), some (.inl v2)] [] h
            obtain ⟨c5, hm⟩ := ia_gd_some hm
            obtain ⟨c6, hm⟩ := ia_gd_some hm
            refine ia_go hK ck_M_shortWay_91 ⟨gk_12 hg pk_417, gr_12_22 hg pk_417, ga_i100 hg (ka_12_22 pk_417) c5, gk_12 hg pk_417, gr_12_22 hg pk_417, ga_i100 hg (ka_12_22 pk_417) c6, fun c => ?_, fun c => ?_⟩
            · replace hm := ia_ifn hm c
              show K 114 [some (.inr (.inr 417)), none, some (.inl x2), none, some (.inl x4), some (.inl x5), some (.inl x6), some (.inl v2)] [] h
              refine ia_go hK ck_M_shortWay_114 ?_
              show K 46 [some (.inr (.inr 417)), none, some (.inl x2), none, some (.inl x4), some (.inl x5), some (.inl (x6 + (-1))), some (.inl v2)] [] h
              refine ia_fg hK (lv' := [some (.inr (.inr 417)), none, some (.inl x2), none, some (.inl x4), some (.inl x5), some (.inl (x6 + (-1))), none]) ⟨rfl, rfl, rfl, rfl, rfl, trivial⟩ ?_
              exact ih x4 x5 (x6 + (-1)) h hg hm
            · replace hm := ia_ifp hm c
              show K 110 [some (.inr (.inr 417)), none, some (.inl x2), none, some (.inl x4), some (.inl x5), some (.inl x6), some (.inl v2)] [] h
              refine ia_go hK ck_M_shortWay_110 ?_
              show K 46 [some (.inr (.inr 417)), none, some (.inl x2), none, some (.inl x4), some (.inl v2), some (.inl (x6 + (-1))), some (.inl v2)] [] h
              refine ia_fg hK (lv' := [some (.inr (.inr 417)), none, some (.inl x2), none, some (.inl x4), some (.inl v2), some (.inl (x6 + (-1))), none]) ⟨rfl, rfl, rfl, rfl, rfl, trivial⟩ ?_
              exact ih x4 v2 (x6 + (-1)) h hg hm
theorem gl_M_shortWay_46 {w : ia_O0} {x1 : Int32} {x2 : Int32} {x3 : Int32} {r : Int32} {h1 : ia_H} {k120 : Int32 → ia_H → Option (Int32 × ia_H)} (hk120 : ∀ (x5 : Int32) (h : ia_H), gd_ w h → k120 x5 h = some (r, h1) → gd_ w h1) : ∀ (n : Nat) (x4 : Int32) (x5 : Int32) (x6 : Int32) (h : ia_H), gd_ w h → l_M_shortWay_46 x1 x2 x3 k120 n x4 x5 x6 h = some (r, h1) → gd_ w h1 := by
  intro n
  induction n with
  | zero =>
    intro x4 x5 x6 h hg hm
    cases (show (none : Option (Int32 × ia_H)) = some _ from hm)
  | succ n ih =>
    intro x4 x5 x6 h hg hm
    rw [l_M_shortWay_46] at hm
    by_cases c : x6 < 0
    · replace hm := ia_ifp hm c
      exact hk120 x5 h hg hm
    · replace hm := ia_ifn hm c
      obtain ⟨v2, hv2, hm⟩ := ia_bnd hm
      by_cases c : v2 < 0
      · replace hm := ia_ifp hm c
        exact ih x4 x5 (x6 + (-1)) h hg hm
      · replace hm := ia_ifn hm c
        obtain ⟨c3, hm⟩ := ia_gd_some hm
        by_cases c : (ia_i h 426 ((v2).toNatClampNeg)) = 0
        · replace hm := ia_ifp hm c
          exact ih x4 x5 (x6 + (-1)) h hg hm
        · replace hm := ia_ifn hm c
          obtain ⟨v4, hv4, hm⟩ := ia_bnd hm
          by_cases c : v4 = 0
          · replace hm := ia_ifp hm c
            obtain ⟨c5, hm⟩ := ia_gd_some hm
            obtain ⟨c6, hm⟩ := ia_gd_some hm
            by_cases c : (ia_i h 425 ((v2).toNatClampNeg)) = ((ia_i h 425 ((x4).toNatClampNeg)) - 1)
            · replace hm := ia_ifp hm c
              exact ih x4 v2 (x6 + (-1)) h hg hm
            · replace hm := ia_ifn hm c
              exact ih x4 x5 (x6 + (-1)) h hg hm
          · replace hm := ia_ifn hm c
            exact ih x4 x5 (x6 + (-1)) h hg hm
def l_M_shortWay_34 (x1 : Int32) (x2 : Int32) (x3 : Int32) (k148 : ia_H → Option (Int32 × ia_H)) (n : Nat) (x4 : Int32) (h : ia_H) : Option (Int32 × ia_H) := match n with
  | 0 => none
  | n + 1 => if x4 = x2 then (k148 h) else (l_M_shortWay_46 x1 x2 x3 (fun x5 h => ia_gd (ia_ib (ia_i h 417 27) 36) (l_M_shortWay_34 x1 x2 x3 k148 n x5 (ia_wI (ia_wI h 427 ((ia_i h 417 27).toNatClampNeg) x5) 417 27 ((ia_i (ia_wI h 427 ((ia_i h 417 27).toNatClampNeg) x5) 417 27) + 1)))) fu_ x4 (-1) 3 h)
theorem tl_M_shortWay_34 {w : ia_O0} {d N1 W1 : Nat} {K : ia_K} (hK : ia_isK (d + 7) mm_M_shortWay N1 W1 K) {x1 : Int32} {x2 : Int32} {x3 : Int32} {r : Int32} {h1 : ia_H} (hret : ∀ (pc : Nat) (lv : ia_L), ia_ret mm_M_shortWay pc (some (.inl r)) → K pc lv ((some (.inl r)) : Option ia_V).toList h1) {k148 : ia_H → Option (Int32 × ia_H)} (hk148 : ∀ (h : ia_H), gd_ w h → k148 h = some (r, h1) → K 148 [none, none, none, none, none, none, none, none] [] h) : ∀ (n : Nat) (x4 : Int32) (h : ia_H), gd_ w h → l_M_shortWay_34 x1 x2 x3 k148 n x4 h = some (r, h1) → K 34 [some (.inr (.inr 417)), none, some (.inl x2), none, some (.inl x4), none, none, none] [] h := by
  intro n
  induction n with
  | zero =>
    intro x4 h hg hm
    cases (show (none : Option (Int32 × ia_H)) = some _ from hm)
  | succ n ih =>
    intro x4 h hg hm
    rw [l_M_shortWay_34] at hm
    refine ia_go hK ck_M_shortWay_34 ⟨fun c => ?_, fun c => ?_⟩
    · replace hm := ia_ifp hm c
      show K 148 [some (.inr (.inr 417)), none, some (.inl x2), none, some (.inl x4), none, none, none] [] h
      refine ia_fg hK (lv' := [none, none, none, none, none, none, none, none]) trivial ?_
      exact hk148 h hg hm
    · replace hm := ia_ifn hm c
      show K 40 [some (.inr (.inr 417)), none, some (.inl x2), none, some (.inl x4), none, none, none] [] h
      refine ia_go hK ck_M_shortWay_40 ?_
      show K 46 [some (.inr (.inr 417)), none, some (.inl x2), none, some (.inl x4), some (.inl (-1)), some (.inl 3), none] [] h
      refine tl_M_shortWay_46 hK hret ?_ fu_ x4 (-1) 3 h hg hm
      · intro x5 h hg hm
        obtain ⟨c7, hm⟩ := ia_gd_some hm
        refine ia_go hK ck_M_shortWay_120 ⟨gk_12 hg pk_417, gr_12_26 hg pk_417, gk_12 hg pk_417, ga_s100 hg (ka_12_26 pk_417) c7, gk_12 (gd_wI hg (kx_100 (ka_12_26 pk_417))) pk_417, gk_12 (gd_wI hg (kx_100 (ka_12_26 pk_417))) pk_417, ?_⟩
        show K 34 [some (.inr (.inr 417)), none, some (.inl x2), none, some (.inl x5), some (.inl x5), none, none] [] (ia_wI (ia_wI h 427 ((ia_i h 417 27).toNatClampNeg) x5) 417 27 ((ia_i (ia_wI h 427 ((ia_i h 417 27).toNatClampNeg) x5) 417 27) + 1))
        refine ia_fg hK (lv' := [some (.inr (.inr 417)), none, some (.inl x2), none, some (.inl x5), none, none, none]) ⟨rfl, rfl, rfl, trivial⟩ ?_
        exact ih x5 (ia_wI (ia_wI h 427 ((ia_i h 417 27).toNatClampNeg) x5) 417 27 ((ia_i (ia_wI h 427 ((ia_i h 417 27).toNatClampNeg) x5) 417 27) + 1)) (gd_wI (gd_wI hg (kx_100 (ka_12_26 pk_417))) (ko_12 pk_417)) hm
theorem gl_M_shortWay_34 {w : ia_O0} {x1 : Int32} {x2 : Int32} {x3 : Int32} {r : Int32} {h1 : ia_H} {k148 : ia_H → Option (Int32 × ia_H)} (hk148 : ∀ (h : ia_H), gd_ w h → k148 h = some (r, h1) → gd_ w h1) : ∀ (n : Nat) (x4 : Int32) (h : ia_H), gd_ w h → l_M_shortWay_34 x1 x2 x3 k148 n x4 h = some (r, h1) → gd_ w h1 := by
  intro n
  induction n with
  | zero =>
    intro x4 h hg hm
    cases (show (none : Option (Int32 × ia_H)) = some _ from hm)
  | succ n ih =>
    intro x4 h hg hm
    rw [l_M_shortWay_34] at hm
    by_cases c : x4 = x2
    · replace hm := ia_ifp hm c
      exact hk148 h hg hm
    · replace hm := ia_ifn hm c
      refine gl_M_shortWay_46 ?_ fu_ x4 (-1) 3 h hg hm
      · intro x5 h hg hm
        obtain ⟨c7, hm⟩ := ia_gd_some hm
        exact ih x5 (ia_wI (ia_wI h 427 ((ia_i h 417 27).toNatClampNeg) x5) 417 27 ((ia_i (ia_wI h 427 ((ia_i h 417 27).toNatClampNeg) x5) 417 27) + 1)) (gd_wI (gd_wI hg (kx_100 (ka_12_26 pk_417))) (ko_12 pk_417)) hm
def f_M_shortWay (x1 : Int32) (x2 : Int32) (x3 : Int32) (h : ia_H) : Option (Int32 × ia_H) := (f_M_isWay x1 x2 x3 (-1) (ia_wI h 417 27 0)).bind fun v1 => (if v1.1 = 0 then (some (0, v1.2)) else (l_M_shortWay_34 x1 x2 x3 (fun h => some (1, h)) fu_ x1 (ia_wI (ia_wI v1.2 427 0 x1) 417 27 1)))
theorem g_M_shortWay {w : ia_O0} {x1 : Int32} {x2 : Int32} {x3 : Int32} {h : ia_H} (hg : gd_ w h) {q : (Int32 × ia_H)} (hm : f_M_shortWay x1 x2 x3 h = some q) : gd_ w q.2 := by
  obtain ⟨r, h1⟩ := q
  unfold f_M_shortWay at hm
  obtain ⟨v1, hv1, hm⟩ := ia_bnd hm
  have gv1 := g_M_isWay (gd_wI hg (ko_12 pk_417)) hv1
  by_cases c : v1.1 = 0
  · replace hm := ia_ifp hm c
    obtain ⟨rfl, rfl⟩ := Prod.mk.inj (Option.some.inj hm)
    exact gv1
  · replace hm := ia_ifn hm c
    refine gl_M_shortWay_34 ?_ fu_ x1 (ia_wI (ia_wI v1.2 427 0 x1) 417 27 1) (gd_wI (gd_wI gv1 (kx_100 (ka_12_26 pk_417))) (ko_12 pk_417)) hm
    · intro h hg hm
      obtain ⟨rfl, rfl⟩ := Prod.mk.inj (Option.some.inj hm)
      exact hg
theorem t_M_shortWay {w : ia_O0} (d : Nat) {x1 : Int32} {x2 : Int32} {x3 : Int32} {h : ia_H} (hg : gd_ w h) {q : (Int32 × ia_H)} (hm : f_M_shortWay x1 x2 x3 h = some q) : ia_Ev (d + 7) mm_M_shortWay [.inr (.inr 417), .inl x1, .inl x2, .inl x3] h (some (.inl q.1)) q.2 := by
  have gq := g_M_shortWay hg hm
  refine ia_Ev_intro ok_M_shortWay (gd_le hg gq).1 (gd_le hg gq).2 (Nat.le_of_ble_eq_true rfl) (fun K hK hret => ?_)
  obtain ⟨r, h1⟩ := q
  show K 0 [some (.inr (.inr 417)), some (.inl x1), some (.inl x2), some (.inl x3), none, none, none, none] [] h
  unfold f_M_shortWay at hm
  refine ia_go hK ck_M_shortWay_0 ⟨gk_12 hg pk_417, ?_⟩
  show K 10 [some (.inr (.inr 417)), some (.inl x1), some (.inl x2), some (.inl x3), none, none, none, none] [.inl (-1), .inl x3, .inl x2, .inl x1, .inr (.inr 417)] (ia_wI h 417 27 0)
  obtain ⟨v1, hv1, hm⟩ := ia_bnd hm
  have ev1 := t_M_isWay (d + 0) (gd_wI hg (ko_12 pk_417)) hv1
  have gv1 := g_M_isWay (gd_wI hg (ko_12 pk_417)) hv1
  refine ia_cV hK mk_M_isWay lk_12_269 dc_M_shortWay_10 417 [.inl x1, .inl x2, .inl x3, .inl (-1)] [] rfl rfl (Nat.le_of_ble_eq_true rfl) (by decide) rfl (gk_12 (gd_wI hg (ko_12 pk_417)) pk_417) ev1 (gd_nm (gd_wI hg (ko_12 pk_417)) gv1) ?_
  show K 13 [some (.inr (.inr 417)), some (.inl x1), some (.inl x2), some (.inl x3), none, none, none, none] [.inl v1.1] v1.2
  refine ia_go hK ck_M_shortWay_13 ⟨fun c => ?_, fun c => ?_⟩
  · replace hm := ia_ifn hm c
    show K 18 [some (.inr (.inr 417)), some (.inl x1), some (.inl x2), some (.inl x3), none, none, none, none] [] v1.2
    refine ia_go hK ck_M_shortWay_18 ⟨gk_12 gv1 pk_417, gr_12_26 gv1 pk_417, ga_s100 gv1 (ka_12_26 pk_417) (by decide), gk_12 (gd_wI gv1 (kx_100 (ka_12_26 pk_417))) pk_417, ?_⟩
    show K 34 [some (.inr (.inr 417)), some (.inl x1), some (.inl x2), some (.inl x3), some (.inl x1), none, none, none] [] (ia_wI (ia_wI v1.2 427 0 x1) 417 27 1)
    refine ia_fg hK (lv' := [some (.inr (.inr 417)), none, some (.inl x2), none, some (.inl x1), none, none, none]) ⟨rfl, rfl, rfl, trivial⟩ ?_
    refine tl_M_shortWay_34 hK hret ?_ fu_ x1 (ia_wI (ia_wI v1.2 427 0 x1) 417 27 1) (gd_wI (gd_wI gv1 (kx_100 (ka_12_26 pk_417))) (ko_12 pk_417)) hm
    · intro h hg hm
      refine ia_go hK ck_M_shortWay_148 ?_
      show K 149 [none, none, none, none, none, none, none, none] [.inl 1] h
      obtain ⟨rfl, rfl⟩ := Prod.mk.inj (Option.some.inj hm)
      exact hret 149 _ ⟨Or.inr rfl, dc_M_shortWay_149⟩
  · replace hm := ia_ifp hm c
    show K 16 [some (.inr (.inr 417)), some (.inl x1), some (.inl x2), some (.inl x3), none, none, none, none] [] v1.2
    refine ia_go hK ck_M_shortWay_16 ?_
    show K 17 [some (.inr (.inr 417)), some (.inl x1), some (.inl x2), some (.inl x3), none, none, none, none] [.inl 0] v1.2
    obtain ⟨rfl, rfl⟩ := Prod.mk.inj (Option.some.inj hm)
    exact hret 17 _ ⟨Or.inl rfl, dc_M_shortWay_17⟩
def mm_M_frostNow : ia_M := (⟨"IceStreetModel", "frostNow", "()I"⟩, prog_14_method_54_code, 1, (some .int), 12, false)
theorem ok_M_frostNow : ia_mok mm_M_frostNow := ⟨by decide +kernel, by decide +kernel, by decide +kernel, by decide +kernel⟩
theorem mk_M_frostNow : ia_mkn mm_M_frostNow 1 0 := ⟨ia_tb_in (List.mem_of_getElem? (i := 1983) (by decide +kernel)) rfl, ia_tb_in (List.mem_of_getElem? (i := 146) (by decide +kernel)) rfl, by decide +kernel, by decide +kernel, ⟨ia_tb_in (List.mem_of_getElem? (i := 1982) (by decide +kernel)) rfl, ia_tb_in (List.mem_of_getElem? (i := 99) (by decide +kernel)) rfl⟩⟩
theorem ck_M_frostNow_0 : ia_cks 12 1 false prog_14_method_54_code 0 [(.aload_n 0, 0, 0, 0, 0), (.getfield 7, 12, 0, 3, 1), (.aload_n 0, 0, 0, 0, 0), (.getfield 201, 12, 14, 0, 0), (.sipush 224, 0, 0, 0, 0), (.iadd, 0, 0, 0, 0), (.aload_n 0, 0, 0, 0, 0), (.getfield 23, 12, 13, 3, 5), (.bipush 78, 0, 0, 0, 0), (.iaload, 0, 0, 0, 0), (.aload_n 0, 0, 0, 0, 0), (.getfield 7, 12, 0, 3, 1), (.aload_n 0, 0, 0, 0, 0), (.getfield 201, 12, 14, 0, 0), (.iconst 3, 0, 0, 0, 0), (.iadd, 0, 0, 0, 0), (.iaload, 0, 0, 0, 0), (.irem, 0, 0, 0, 0), (.iadd, 0, 0, 0, 0), (.iaload, 0, 0, 0, 0)] = true := by decide +kernel
theorem dc_M_frostNow_33 : decode prog_14_method_54_code 33 = .ok (.ireturn, 1) := by decide +kernel
def f_M_frostNow (h : ia_H) : Option Int32 := ia_gd (ia_ib ((ia_i h 417 14) + 3) 6528) (ia_gd (ia_nz (ia_i h 418 (((ia_i h 417 14) + 3).toNatClampNeg))) (ia_gd (ia_ib (((ia_i h 417 14) + 224) + ((ia_i h 422 78) - (ia_i h 422 78) / (ia_i h 418 (((ia_i h 417 14) + 3).toNatClampNeg)) * (ia_i h 418 (((ia_i h 417 14) + 3).toNatClampNeg)))) 6528) (some (ia_i h 418 ((((ia_i h 417 14) + 224) + ((ia_i h 422 78) - (ia_i h 422 78) / (ia_i h 418 (((ia_i h 417 14) + 3).toNatClampNeg)) * (ia_i h 418 (((ia_i h 417 14) + 3).toNatClampNeg)))).toNatClampNeg)))))
theorem t_M_frostNow {w : ia_O0} (d : Nat) {h : ia_H} (hg : gd_ w h) {r : Int32} (hm : f_M_frostNow h = some r) : ia_Ev (d + 0) mm_M_frostNow [.inr (.inr 417)] h (some (.inl r)) h := by
  refine ia_Ev_intro ok_M_frostNow (Nat.le_refl _) (Nat.le_refl _) (Nat.le_of_ble_eq_true rfl) (fun K hK hret => ?_)
  show K 0 [some (.inr (.inr 417))] [] h
  unfold f_M_frostNow at hm
  obtain ⟨c1, hm⟩ := ia_gd_some hm
  obtain ⟨c2, hm⟩ := ia_gd_some hm
  obtain ⟨c3, hm⟩ := ia_gd_some hm
  refine ia_go hK ck_M_frostNow_0 ⟨gk_12 hg pk_417, gr_12_0 hg pk_417, gk_12 hg pk_417, gk_12 hg pk_417, gr_12_13 hg pk_417, ga_i100 hg (ka_12_13 pk_417) (by decide), gk_12 hg pk_417, gr_12_0 hg pk_417, gk_12 hg pk_417, ga_i100 hg (ka_12_0 pk_417) c1, ia_nz_spec c2, ga_i100 hg (ka_12_0 pk_417) c3, ?_⟩
  show K 33 [some (.inr (.inr 417))] [.inl (ia_i h 418 ((((ia_i h 417 14) + 224) + ((ia_i h 422 78) - (ia_i h 422 78) / (ia_i h 418 (((ia_i h 417 14) + 3).toNatClampNeg)) * (ia_i h 418 (((ia_i h 417 14) + 3).toNatClampNeg)))).toNatClampNeg))] h
  obtain rfl := Option.some.inj hm
  exact hret 33 _ dc_M_frostNow_33
def mm_M_passDay : ia_M := (⟨"IceStreetModel", "passDay", "(I)V"⟩, prog_14_method_53_code, 8, none, 12, false)
theorem ok_M_passDay : ia_mok mm_M_passDay := ⟨by decide +kernel, by decide +kernel, by decide +kernel, by decide +kernel⟩
theorem mk_M_passDay : ia_mkn mm_M_passDay 1 1 := ⟨ia_tb_in (List.mem_of_getElem? (i := 1987) (by decide +kernel)) rfl, ia_tb_in (List.mem_of_getElem? (i := 146) (by decide +kernel)) rfl, by decide +kernel, by decide +kernel, ⟨ia_tb_in (List.mem_of_getElem? (i := 1986) (by decide +kernel)) rfl, ia_tb_in (List.mem_of_getElem? (i := 100) (by decide +kernel)) rfl⟩⟩
theorem ck_M_passDay_0 : ia_cks 12 8 false prog_14_method_53_code 0 [(.iconst 0, 0, 0, 0, 0), (.istore_n 2, 0, 0, 0, 0)] = true := by decide +kernel
theorem ck_M_passDay_2 : ia_cks 12 8 false prog_14_method_53_code 2 [(.iload_n 2, 0, 0, 0, 0), (.aload_n 0, 0, 0, 0, 0)] = true := by decide +kernel
theorem ck_M_passDay_7 : ia_cks 12 8 false prog_14_method_53_code 7 [(.if_icmp .ge 174, 0, 0, 0, 0)] = true := by decide +kernel
theorem ck_M_passDay_10 : ia_cks 12 8 false prog_14_method_53_code 10 [(.aload_n 0, 0, 0, 0, 0), (.getfield 23, 12, 13, 3, 5), (.iload_n 2, 0, 0, 0, 0), (.iaload, 0, 0, 0, 0), (.istore_n 3, 0, 0, 0, 0), (.iload_n 1, 0, 0, 0, 0), (.ifCond .le 37, 0, 0, 0, 0)] = true := by decide +kernel
theorem ck_M_passDay_55 : ia_cks 12 8 false prog_14_method_53_code 55 [(.iload_n 3, 0, 0, 0, 0), (.iload_n 1, 0, 0, 0, 0), (.iadd, 0, 0, 0, 0), (.istore_n 3, 0, 0, 0, 0)] = true := by decide +kernel
theorem ck_M_passDay_59 : ia_cks 12 8 false prog_14_method_53_code 59 [(.aload_n 0, 0, 0, 0, 0), (.iload_n 2, 0, 0, 0, 0)] = true := by decide +kernel
theorem ck_M_passDay_64 : ia_cks 12 8 false prog_14_method_53_code 64 [(.istore 4, 0, 0, 0, 0), (.iload_n 3, 0, 0, 0, 0), (.iload 4, 0, 0, 0, 0), (.ifCond .lt 12, 0, 0, 0, 0)] = true := by decide +kernel
theorem ck_M_passDay_81 : ia_cks 12 8 false prog_14_method_53_code 81 [(.iconst 0, 0, 0, 0, 0)] = true := by decide +kernel
theorem ck_M_passDay_82 : ia_cks 12 8 false prog_14_method_53_code 82 [(.isub, 0, 0, 0, 0), (.istore_n 3, 0, 0, 0, 0), (.iconst 0, 0, 0, 0, 0), (.istore 5, 0, 0, 0, 0)] = true := by decide +kernel
theorem ck_M_passDay_87 : ia_cks 12 8 false prog_14_method_53_code 87 [(.iload 5, 0, 0, 0, 0), (.iconst 4, 0, 0, 0, 0), (.if_icmp .ge 59, 0, 0, 0, 0)] = true := by decide +kernel
theorem ck_M_passDay_93 : ia_cks 12 8 false prog_14_method_53_code 93 [(.aload_n 0, 0, 0, 0, 0), (.aload_n 0, 0, 0, 0, 0), (.getfield 201, 12, 14, 0, 0), (.iload_n 2, 0, 0, 0, 0), (.iload 5, 0, 0, 0, 0)] = true := by decide +kernel
theorem ck_M_passDay_104 : ia_cks 12 8 false prog_14_method_53_code 104 [(.istore 6, 0, 0, 0, 0), (.iload 6, 0, 0, 0, 0), (.ifCond .ge 7, 0, 0, 0, 0)] = true := by decide +kernel
theorem ck_M_passDay_115 : ia_cks 12 8 false prog_14_method_53_code 115 [(.aload_n 0, 0, 0, 0, 0), (.iload 6, 0, 0, 0, 0)] = true := by decide +kernel
theorem ck_M_passDay_121 : ia_cks 12 8 false prog_14_method_53_code 121 [(.istore 7, 0, 0, 0, 0), (.iload_n 3, 0, 0, 0, 0), (.iload 7, 0, 0, 0, 0), (.ifCond .lt 14, 0, 0, 0, 0)] = true := by decide +kernel
theorem ck_M_passDay_140 : ia_cks 12 8 false prog_14_method_53_code 140 [(.iconst 0, 0, 0, 0, 0)] = true := by decide +kernel
theorem ck_M_passDay_141 : ia_cks 12 8 false prog_14_method_53_code 141 [(.isub, 0, 0, 0, 0), (.istore_n 3, 0, 0, 0, 0), (.iinc 5 1, 0, 0, 0, 0), (.goto (-59), 0, 0, 0, 0)] = true := by decide +kernel
theorem ck_M_passDay_129 : ia_cks 12 8 false prog_14_method_53_code 129 [(.aload_n 0, 0, 0, 0, 0), (.iload 7, 0, 0, 0, 0)] = true := by decide +kernel
theorem ck_M_passDay_135 : ia_cks 12 8 false prog_14_method_53_code 135 [(.iconst 2, 0, 0, 0, 0), (.idiv, 0, 0, 0, 0), (.goto 4, 0, 0, 0, 0)] = true := by decide +kernel
theorem ck_M_passDay_111 : ia_cks 12 8 false prog_14_method_53_code 111 [(.iconst (-1), 0, 0, 0, 0), (.goto 9, 0, 0, 0, 0)] = true := by decide +kernel
theorem ck_M_passDay_149 : ia_cks 12 8 false prog_14_method_53_code 149 [(.aload_n 0, 0, 0, 0, 0), (.getfield 33, 12, 20, 3, 6), (.iload_n 2, 0, 0, 0, 0), (.iload_n 3, 0, 0, 0, 0), (.ifCond .ge 7, 0, 0, 0, 0)] = true := by decide +kernel
theorem ck_M_passDay_162 : ia_cks 12 8 false prog_14_method_53_code 162 [(.iload_n 3, 0, 0, 0, 0), (.bipush 99, 0, 0, 0, 0), (.if_icmp .le 8, 0, 0, 0, 0)] = true := by decide +kernel
theorem ck_M_passDay_173 : ia_cks 12 8 false prog_14_method_53_code 173 [(.iload_n 3, 0, 0, 0, 0), (.iastore, 0, 0, 0, 0), (.iinc 2 1, 0, 0, 0, 0), (.goto (-176), 0, 0, 0, 0)] = true := by decide +kernel
theorem ck_M_passDay_168 : ia_cks 12 8 false prog_14_method_53_code 168 [(.bipush 99, 0, 0, 0, 0), (.goto 4, 0, 0, 0, 0)] = true := by decide +kernel
theorem ck_M_passDay_174 : ia_cks 12 8 false prog_14_method_53_code 174 [(.iastore, 0, 0, 0, 0), (.iinc 2 1, 0, 0, 0, 0), (.goto (-176), 0, 0, 0, 0)] = true := by decide +kernel
theorem ck_M_passDay_158 : ia_cks 12 8 false prog_14_method_53_code 158 [(.iconst 0, 0, 0, 0, 0), (.goto 15, 0, 0, 0, 0)] = true := by decide +kernel
theorem ck_M_passDay_72 : ia_cks 12 8 false prog_14_method_53_code 72 [(.aload_n 0, 0, 0, 0, 0), (.iload 4, 0, 0, 0, 0)] = true := by decide +kernel
theorem ck_M_passDay_78 : ia_cks 12 8 false prog_14_method_53_code 78 [(.goto 4, 0, 0, 0, 0)] = true := by decide +kernel
theorem ck_M_passDay_21 : ia_cks 12 8 false prog_14_method_53_code 21 [(.iload_n 3, 0, 0, 0, 0), (.iload_n 1, 0, 0, 0, 0), (.aload_n 0, 0, 0, 0, 0), (.getfield 23, 12, 13, 3, 5), (.bipush 36, 0, 0, 0, 0), (.iload_n 2, 0, 0, 0, 0), (.iadd, 0, 0, 0, 0), (.iaload, 0, 0, 0, 0), (.if_icmp .le 17, 0, 0, 0, 0)] = true := by decide +kernel
theorem ck_M_passDay_49 : ia_cks 12 8 false prog_14_method_53_code 49 [(.iconst 0, 0, 0, 0, 0), (.iadd, 0, 0, 0, 0), (.istore_n 3, 0, 0, 0, 0), (.goto 7, 0, 0, 0, 0)] = true := by decide +kernel
theorem ck_M_passDay_35 : ia_cks 12 8 false prog_14_method_53_code 35 [(.iload_n 1, 0, 0, 0, 0), (.aload_n 0, 0, 0, 0, 0), (.getfield 23, 12, 13, 3, 5), (.bipush 36, 0, 0, 0, 0), (.iload_n 2, 0, 0, 0, 0), (.iadd, 0, 0, 0, 0), (.iaload, 0, 0, 0, 0), (.isub, 0, 0, 0, 0), (.goto 4, 0, 0, 0, 0)] = true := by decide +kernel
theorem ck_M_passDay_50 : ia_cks 12 8 false prog_14_method_53_code 50 [(.iadd, 0, 0, 0, 0), (.istore_n 3, 0, 0, 0, 0), (.goto 7, 0, 0, 0, 0)] = true := by decide +kernel
theorem ck_M_passDay_181 : ia_cks 12 8 false prog_14_method_53_code 181 [(.iconst 0, 0, 0, 0, 0), (.istore_n 2, 0, 0, 0, 0)] = true := by decide +kernel
theorem ck_M_passDay_183 : ia_cks 12 8 false prog_14_method_53_code 183 [(.iload_n 2, 0, 0, 0, 0), (.aload_n 0, 0, 0, 0, 0)] = true := by decide +kernel
theorem ck_M_passDay_188 : ia_cks 12 8 false prog_14_method_53_code 188 [(.if_icmp .ge 21, 0, 0, 0, 0)] = true := by decide +kernel
theorem ck_M_passDay_191 : ia_cks 12 8 false prog_14_method_53_code 191 [(.aload_n 0, 0, 0, 0, 0), (.getfield 23, 12, 13, 3, 5), (.iload_n 2, 0, 0, 0, 0), (.aload_n 0, 0, 0, 0, 0), (.getfield 33, 12, 20, 3, 6), (.iload_n 2, 0, 0, 0, 0), (.iaload, 0, 0, 0, 0), (.iastore, 0, 0, 0, 0), (.iinc 2 1, 0, 0, 0, 0), (.goto (-23), 0, 0, 0, 0)] = true := by decide +kernel
theorem ck_M_passDay_209 : ia_cks 12 8 false prog_14_method_53_code 209 [(.aload_n 0, 0, 0, 0, 0), (.getfield 23, 12, 13, 3, 5), (.bipush 78, 0, 0, 0, 0), (.dup2, 0, 0, 0, 0), (.iaload, 0, 0, 0, 0), (.iconst 1, 0, 0, 0, 0), (.iadd, 0, 0, 0, 0), (.iastore, 0, 0, 0, 0), (.iconst 0, 0, 0, 0, 0), (.istore_n 2, 0, 0, 0, 0)] = true := by decide +kernel
theorem ck_M_passDay_222 : ia_cks 12 8 false prog_14_method_53_code 222 [(.iload_n 2, 0, 0, 0, 0), (.aload_n 0, 0, 0, 0, 0), (.getfield 7, 12, 0, 3, 1), (.aload_n 0, 0, 0, 0, 0), (.getfield 201, 12, 14, 0, 0), (.iconst 4, 0, 0, 0, 0), (.iadd, 0, 0, 0, 0), (.iaload, 0, 0, 0, 0), (.if_icmp .ge 60, 0, 0, 0, 0)] = true := by decide +kernel
theorem ck_M_passDay_237 : ia_cks 12 8 false prog_14_method_53_code 237 [(.aload_n 0, 0, 0, 0, 0), (.getfield 23, 12, 13, 3, 5), (.bipush 79, 0, 0, 0, 0), (.dup2, 0, 0, 0, 0), (.iaload, 0, 0, 0, 0), (.aload_n 0, 0, 0, 0, 0), (.iload_n 2, 0, 0, 0, 0)] = true := by decide +kernel
theorem ck_M_passDay_250 : ia_cks 12 8 false prog_14_method_53_code 250 [(.ifCond .eq 35, 0, 0, 0, 0)] = true := by decide +kernel
theorem ck_M_passDay_285 : ia_cks 12 8 false prog_14_method_53_code 285 [(.iconst 0, 0, 0, 0, 0)] = true := by decide +kernel
theorem ck_M_passDay_286 : ia_cks 12 8 false prog_14_method_53_code 286 [(.iadd, 0, 0, 0, 0), (.iastore, 0, 0, 0, 0), (.iinc 2 1, 0, 0, 0, 0), (.goto (-69), 0, 0, 0, 0)] = true := by decide +kernel
theorem ck_M_passDay_253 : ia_cks 12 8 false prog_14_method_53_code 253 [(.aload_n 0, 0, 0, 0, 0), (.getfield 7, 12, 0, 3, 1), (.aload_n 0, 0, 0, 0, 0), (.getfield 219, 12, 15, 0, 0), (.iconst 3, 0, 0, 0, 0), (.iadd, 0, 0, 0, 0), (.iaload, 0, 0, 0, 0), (.aload_n 0, 0, 0, 0, 0), (.getfield 23, 12, 13, 3, 5), (.aload_n 0, 0, 0, 0, 0), (.getfield 23, 12, 13, 3, 5), (.bipush 72, 0, 0, 0, 0), (.iload_n 2, 0, 0, 0, 0), (.iadd, 0, 0, 0, 0), (.iaload, 0, 0, 0, 0), (.iaload, 0, 0, 0, 0), (.imul, 0, 0, 0, 0), (.bipush 10, 0, 0, 0, 0), (.idiv, 0, 0, 0, 0), (.goto 4, 0, 0, 0, 0)] = true := by decide +kernel
theorem ck_M_passDay_294 : ia_cks 12 8 false prog_14_method_53_code 294 [(.aload_n 0, 0, 0, 0, 0)] = true := by decide +kernel
theorem dc_M_passDay_4 : decode prog_14_method_53_code 4 = .ok (.invokevirtual 234, 3) := by decide +kernel
theorem dc_M_passDay_61 : decode prog_14_method_53_code 61 = .ok (.invokevirtual 210, 3) := by decide +kernel
theorem dc_M_passDay_101 : decode prog_14_method_53_code 101 = .ok (.invokevirtual 216, 3) := by decide +kernel
theorem dc_M_passDay_118 : decode prog_14_method_53_code 118 = .ok (.invokevirtual 210, 3) := by decide +kernel
theorem dc_M_passDay_132 : decode prog_14_method_53_code 132 = .ok (.invokevirtual 237, 3) := by decide +kernel
theorem dc_M_passDay_75 : decode prog_14_method_53_code 75 = .ok (.invokevirtual 237, 3) := by decide +kernel
theorem dc_M_passDay_185 : decode prog_14_method_53_code 185 = .ok (.invokevirtual 234, 3) := by decide +kernel
theorem dc_M_passDay_247 : decode prog_14_method_53_code 247 = .ok (.invokevirtual 222, 3) := by decide +kernel
theorem dc_M_passDay_295 : decode prog_14_method_53_code 295 = .ok (.invokevirtual 240, 3) := by decide +kernel
theorem dc_M_passDay_298 : decode prog_14_method_53_code 298 = .ok (.return_, 1) := by decide +kernel
def j_M_passDay_141 (x1 : Int32) (kr : Int32 → Int32 → Int32 → ia_H → Option ia_H) (k149 : Int32 → Int32 → ia_H → Option ia_H) (x2 : Int32) (x5 : Int32) (s0 : Int32) (s1 : Int32) (h : ia_H) : Option ia_H := kr x2 (s0 - s1) (x5 + 1) h
theorem tj_M_passDay_141 {w : ia_O0} {d N1 W1 : Nat} {K : ia_K} (hK : ia_isK (d + 6) mm_M_passDay N1 W1 K) {x1 : Int32} {h1 : ia_H} (hret : ∀ (pc : Nat) (lv : ia_L), ia_ret mm_M_passDay pc none → K pc lv (none : Option ia_V).toList h1) {kr : Int32 → Int32 → Int32 → ia_H → Option ia_H} {k149 : Int32 → Int32 → ia_H → Option ia_H} (hkr : ∀ (x2 : Int32) (x3 : Int32) (x5 : Int32) (h : ia_H), gd_ w h → kr x2 x3 x5 h = some h1 → K 87 [some (.inr (.inr 417)), some (.inl x1), some (.inl x2), some (.inl x3), none, some (.inl x5), none, none] [] h) (hk149 : ∀ (x2 : Int32) (x3 : Int32) (h : ia_H), gd_ w h → k149 x2 x3 h = some h1 → K 149 [some (.inr (.inr 417)), some (.inl x1), some (.inl x2), some (.inl x3), none, none, none, none] [] h) : ∀ (x2 : Int32) (x5 : Int32) (s0 : Int32) (s1 : Int32) (h : ia_H), gd_ w h → j_M_passDay_141 x1 kr k149 x2 x5 s0 s1 h = some h1 → K 141 [some (.inr (.inr 417)), some (.inl x1), some (.inl x2), none, none, some (.inl x5), none, none] [.inl s1, .inl s0] h := by
  intro x2 x5 s0 s1 h hg hm
  unfold j_M_passDay_141 at hm
  refine ia_go hK ck_M_passDay_141 ?_
  show K 87 [some (.inr (.inr 417)), some (.inl x1), some (.inl x2), some (.inl (s0 - s1)), none, some (.inl (x5 + 1)), none, none] [] h
  exact hkr x2 (s0 - s1) (x5 + 1) h hg hm
theorem gj_M_passDay_141 {w : ia_O0} {x1 : Int32} {h1 : ia_H} {kr : Int32 → Int32 → Int32 → ia_H → Option ia_H} {k149 : Int32 → Int32 → ia_H → Option ia_H} (hkr : ∀ (x2 : Int32) (x3 : Int32) (x5 : Int32) (h : ia_H), gd_ w h → kr x2 x3 x5 h = some h1 → gd_ w h1) (hk149 : ∀ (x2 : Int32) (x3 : Int32) (h : ia_H), gd_ w h → k149 x2 x3 h = some h1 → gd_ w h1) : ∀ (x2 : Int32) (x5 : Int32) (s0 : Int32) (s1 : Int32) (h : ia_H), gd_ w h → j_M_passDay_141 x1 kr k149 x2 x5 s0 s1 h = some h1 → gd_ w h1 := by
  intro x2 x5 s0 s1 h hg hm
  unfold j_M_passDay_141 at hm
  exact hkr x2 (s0 - s1) (x5 + 1) h hg hm
def j_M_passDay_121 (x1 : Int32) (kr : Int32 → Int32 → Int32 → ia_H → Option ia_H) (k149 : Int32 → Int32 → ia_H → Option ia_H) (x2 : Int32) (x3 : Int32) (x5 : Int32) (s0 : Int32) (h : ia_H) : Option ia_H := if s0 < 0 then (j_M_passDay_141 x1 kr k149 x2 x5 x3 0 h) else ((f_M_stoveOf s0 h).bind fun v6 => (j_M_passDay_141 x1 kr k149 x2 x5 x3 (v6 / 2) h))
theorem tj_M_passDay_121 {w : ia_O0} {d N1 W1 : Nat} {K : ia_K} (hK : ia_isK (d + 6) mm_M_passDay N1 W1 K) {x1 : Int32} {h1 : ia_H} (hret : ∀ (pc : Nat) (lv : ia_L), ia_ret mm_M_passDay pc none → K pc lv (none : Option ia_V).toList h1) {kr : Int32 → Int32 → Int32 → ia_H → Option ia_H} {k149 : Int32 → Int32 → ia_H → Option ia_H} (hkr : ∀ (x2 : Int32) (x3 : Int32) (x5 : Int32) (h : ia_H), gd_ w h → kr x2 x3 x5 h = some h1 → K 87 [some (.inr (.inr 417)), some (.inl x1), some (.inl x2), some (.inl x3), none, some (.inl x5), none, none] [] h) (hk149 : ∀ (x2 : Int32) (x3 : Int32) (h : ia_H), gd_ w h → k149 x2 x3 h = some h1 → K 149 [some (.inr (.inr 417)), some (.inl x1), some (.inl x2), some (.inl x3), none, none, none, none] [] h) : ∀ (x2 : Int32) (x3 : Int32) (x5 : Int32) (s0 : Int32) (h : ia_H), gd_ w h → j_M_passDay_121 x1 kr k149 x2 x3 x5 s0 h = some h1 → K 121 [some (.inr (.inr 417)), some (.inl x1), some (.inl x2), some (.inl x3), none, some (.inl x5), none, none] [.inl s0] h := by
  intro x2 x3 x5 s0 h hg hm
  unfold j_M_passDay_121 at hm
  refine ia_go hK ck_M_passDay_121 ⟨fun c => ?_, fun c => ?_⟩
  · replace hm := ia_ifp hm c
    show K 140 [some (.inr (.inr 417)), some (.inl x1), some (.inl x2), some (.inl x3), none, some (.inl x5), none, some (.inl s0)] [.inl x3] h
    refine ia_go hK ck_M_passDay_140 ?_
    show K 141 [some (.inr (.inr 417)), some (.inl x1), some (.inl x2), some (.inl x3), none, some (.inl x5), none, some (.inl s0)] [.inl 0, .inl x3] h
    refine ia_fg hK (lv' := [some (.inr (.inr 417)), some (.inl x1), some (.inl x2), none, none, some (.inl x5), none, none]) ⟨rfl, rfl, rfl, rfl, trivial⟩ ?_
    exact tj_M_passDay_141 hK hret hkr hk149 x2 x5 x3 0 h hg hm
  · replace hm := ia_ifn hm c
    show K 129 [some (.inr (.inr 417)), some (.inl x1), some (.inl x2), some (.inl x3), none, some (.inl x5), none, some (.inl s0)] [.inl x3] h
    refine ia_go hK ck_M_passDay_129 ?_
    show K 132 [some (.inr (.inr 417)), some (.inl x1), some (.inl x2), some (.inl x3), none, some (.inl x5), none, some (.inl s0)] [.inl s0, .inr (.inr 417), .inl x3] h
    obtain ⟨v6, hv6, hm⟩ := ia_bnd hm
    have ev6 := t_M_stoveOf (d + 4) hg hv6
    refine ia_cV hK mk_M_stoveOf lk_12_237 dc_M_passDay_132 417 [.inl s0] [.inl x3] rfl rfl (Nat.le_of_ble_eq_true rfl) (by decide) rfl (gk_12 hg pk_417) ev6 ⟨rfl, rfl⟩ ?_
    show K 135 [some (.inr (.inr 417)), some (.inl x1), some (.inl x2), some (.inl x3), none, some (.inl x5), none, some (.inl s0)] [.inl v6, .inl x3] h
    refine ia_go hK ck_M_passDay_135 ⟨(by decide), ?_⟩
    show K 141 [some (.inr (.inr 417)), some (.inl x1), some (.inl x2), some (.inl x3), none, some (.inl x5), none, some (.inl s0)] [.inl (v6 / 2), .inl x3] h
    refine ia_fg hK (lv' := [some (.inr (.inr 417)), some (.inl x1), some (.inl x2), none, none, some (.inl x5), none, none]) ⟨rfl, rfl, rfl, rfl, trivial⟩ ?_
    exact tj_M_passDay_141 hK hret hkr hk149 x2 x5 x3 (v6 / 2) h hg hm
theorem gj_M_passDay_121 {w : ia_O0} {x1 : Int32} {h1 : ia_H} {kr : Int32 → Int32 → Int32 → ia_H → Option ia_H} {k149 : Int32 → Int32 → ia_H → Option ia_H} (hkr : ∀ (x2 : Int32) (x3 : Int32) (x5 : Int32) (h : ia_H), gd_ w h → kr x2 x3 x5 h = some h1 → gd_ w h1) (hk149 : ∀ (x2 : Int32) (x3 : Int32) (h : ia_H), gd_ w h → k149 x2 x3 h = some h1 → gd_ w h1) : ∀ (x2 : Int32) (x3 : Int32) (x5 : Int32) (s0 : Int32) (h : ia_H), gd_ w h → j_M_passDay_121 x1 kr k149 x2 x3 x5 s0 h = some h1 → gd_ w h1 := by
  intro x2 x3 x5 s0 h hg hm
  unfold j_M_passDay_121 at hm
  by_cases c : s0 < 0
  · replace hm := ia_ifp hm c
    exact gj_M_passDay_141 hkr hk149 x2 x5 x3 0 h hg hm
  · replace hm := ia_ifn hm c
    obtain ⟨v6, hv6, hm⟩ := ia_bnd hm
    exact gj_M_passDay_141 hkr hk149 x2 x5 x3 (v6 / 2) h hg hm
def l_M_passDay_87 (x1 : Int32) (k149 : Int32 → Int32 → ia_H → Option ia_H) (n : Nat) (x2 : Int32) (x3 : Int32) (x5 : Int32) (h : ia_H) : Option ia_H := match n with
  | 0 => none
  | n + 1 => if 4 ≤ x5 then (k149 x2 x3 h) else ((f_M_near (ia_i h 417 14) x2 x5 h).bind fun v4 => (if 0 ≤ v4 then ((f_M_shopIn v4 h).bind fun v5 => (j_M_passDay_121 x1 (l_M_passDay_87 x1 k149 n) k149 x2 x3 x5 v5 h)) else (j_M_passDay_121 x1 (l_M_passDay_87 x1 k149 n) k149 x2 x3 x5 (-1) h)))
theorem tl_M_passDay_87 {w : ia_O0} {d N1 W1 : Nat} {K : ia_K} (hK : ia_isK (d + 6) mm_M_passDay N1 W1 K) {x1 : Int32} {h1 : ia_H} (hret : ∀ (pc : Nat) (lv : ia_L), ia_ret mm_M_passDay pc none → K pc lv (none : Option ia_V).toList h1) {k149 : Int32 → Int32 → ia_H → Option ia_H} (hk149 : ∀ (x2 : Int32) (x3 : Int32) (h : ia_H), gd_ w h → k149 x2 x3 h = some h1 → K 149 [some (.inr (.inr 417)), some (.inl x1), some (.inl x2), some (.inl x3), none, none, none, none] [] h) : ∀ (n : Nat) (x2 : Int32) (x3 : Int32) (x5 : Int32) (h : ia_H), gd_ w h → l_M_passDay_87 x1 k149 n x2 x3 x5 h = some h1 → K 87 [some (.inr (.inr 417)), some (.inl x1), some (.inl x2), some (.inl x3), none, some (.inl x5), none, none] [] h := by
  intro n
  induction n with
  | zero =>
    intro x2 x3 x5 h hg hm
    cases (show (none : Option ia_H) = some _ from hm)
  | succ n ih =>
    intro x2 x3 x5 h hg hm
    rw [l_M_passDay_87] at hm
    refine ia_go hK ck_M_passDay_87 ⟨fun c => ?_, fun c => ?_⟩
    · replace hm := ia_ifp hm c
      show K 149 [some (.inr (.inr 417)), some (.inl x1), some (.inl x2), some (.inl x3), none, some (.inl x5), none, none] [] h
      refine ia_fg hK (lv' := [some (.inr (.inr 417)), some (.inl x1), some (.inl x2), some (.inl x3), none, none, none, none]) ⟨rfl, rfl, rfl, rfl, trivial⟩ ?_
      exact hk149 x2 x3 h hg hm
    · replace hm := ia_ifn hm c
      show K 93 [some (.inr (.inr 417)), some (.inl x1), some (.inl x2), some (.inl x3), none, some (.inl x5), none, none] [] h
      refine ia_go hK ck_M_passDay_93 ⟨gk_12 hg pk_417, ?_⟩
      show K 101 [some (.inr (.inr 417)), some (.inl x1), some (.inl x2), some (.inl x3), none, some (.inl x5), none, none] [.inl x5, .inl x2, .inl (ia_i h 417 14), .inr (.inr 417)] h
      obtain ⟨v4, hv4, hm⟩ := ia_bnd hm
      have ev4 := t_M_near (d + 3) hg hv4
      refine ia_cV hK mk_M_near lk_12_216 dc_M_passDay_101 417 [.inl (ia_i h 417 14), .inl x2, .inl x5] [] rfl rfl (Nat.le_of_ble_eq_true rfl) (by decide) rfl (gk_12 hg pk_417) ev4 ⟨rfl, rfl⟩ ?_
      show K 104 [some (.inr (.inr 417)), some (.inl x1), some (.inl x2), some (.inl x3), none, some (.inl x5), none, none] [.inl v4] h
      refine ia_go hK ck_M_passDay_104 ⟨fun c => ?_, fun c => ?_⟩
      · replace hm := ia_ifp hm c
        show K 115 [some (.inr (.inr 417)), some (.inl x1), some (.inl x2), some (.inl x3), none, some (.inl x5), some (.inl v4), none] [] h
        refine ia_go hK ck_M_passDay_115 ?_
        show K 118 [some (.inr (.inr 417)), some (.inl x1), some (.inl x2), some (.inl x3), none, some (.inl x5), some (.inl v4), none] [.inl v4, .inr (.inr 417)] h
        obtain ⟨v5, hv5, hm⟩ := ia_bnd hm
        have ev5 := t_M_shopIn (d + 5) hg hv5
        refine ia_cV hK mk_M_shopIn lk_12_210 dc_M_passDay_118 417 [.inl v4] [] rfl rfl (Nat.le_of_ble_eq_true rfl) (by decide) rfl (gk_12 hg pk_417) ev5 ⟨rfl, rfl⟩ ?_
        show K 121 [some (.inr (.inr 417)), some (.inl x1), some (.inl x2), some (.inl x3), none, some (.inl x5), some (.inl v4), none] [.inl v5] h
        refine ia_fg hK (lv' := [some (.inr (.inr 417)), some (.inl x1), some (.inl x2), some (.inl x3), none, some (.inl x5), none, none]) ⟨rfl, rfl, rfl, rfl, rfl, trivial⟩ ?_
        exact tj_M_passDay_121 hK hret ih hk149 x2 x3 x5 v5 h hg hm
      · replace hm := ia_ifn hm c
        show K 111 [some (.inr (.inr 417)), some (.inl x1), some (.inl x2), some (.inl x3), none, some (.inl x5), some (.inl v4), none] [] h
        refine ia_go hK ck_M_passDay_111 ?_
        show K 121 [some (.inr (.inr 417)), some (.inl x1), some (.inl x2), some (.inl x3), none, some (.inl x5), some (.inl v4), none] [.inl (-1)] h
        refine ia_fg hK (lv' := [some (.inr (.inr 417)), some (.inl x1), some (.inl x2), some (.inl x3), none, some (.inl x5), none, none]) ⟨rfl, rfl, rfl, rfl, rfl, trivial⟩ ?_
        exact tj_M_passDay_121 hK hret ih hk149 x2 x3 x5 (-1) h hg hm
theorem gl_M_passDay_87 {w : ia_O0} {x1 : Int32} {h1 : ia_H} {k149 : Int32 → Int32 → ia_H → Option ia_H} (hk149 : ∀ (x2 : Int32) (x3 : Int32) (h : ia_H), gd_ w h → k149 x2 x3 h = some h1 → gd_ w h1) : ∀ (n : Nat) (x2 : Int32) (x3 : Int32) (x5 : Int32) (h : ia_H), gd_ w h → l_M_passDay_87 x1 k149 n x2 x3 x5 h = some h1 → gd_ w h1 := by
  intro n
  induction n with
  | zero =>
    intro x2 x3 x5 h hg hm
    cases (show (none : Option ia_H) = some _ from hm)
  | succ n ih =>
    intro x2 x3 x5 h hg hm
    rw [l_M_passDay_87] at hm
    by_cases c : 4 ≤ x5
    · replace hm := ia_ifp hm c
      exact hk149 x2 x3 h hg hm
    · replace hm := ia_ifn hm c
      obtain ⟨v4, hv4, hm⟩ := ia_bnd hm
      by_cases c : 0 ≤ v4
      · replace hm := ia_ifp hm c
        obtain ⟨v5, hv5, hm⟩ := ia_bnd hm
        exact gj_M_passDay_121 ih hk149 x2 x3 x5 v5 h hg hm
      · replace hm := ia_ifn hm c
        exact gj_M_passDay_121 ih hk149 x2 x3 x5 (-1) h hg hm
def j_M_passDay_82 (x1 : Int32) (kr : Int32 → ia_H → Option ia_H) (k181 : ia_H → Option ia_H) (x2 : Int32) (s0 : Int32) (s1 : Int32) (h : ia_H) : Option ia_H := l_M_passDay_87 x1 (fun x2 x3 h => if 0 ≤ x3 then (if x3 ≤ 99 then (ia_gd (ia_ib x2 36) (kr (x2 + 1) (ia_wI h 423 ((x2).toNatClampNeg) x3))) else (ia_gd (ia_ib x2 36) (kr (x2 + 1) (ia_wI h 423 ((x2).toNatClampNeg) 99)))) else (ia_gd (ia_ib x2 36) (kr (x2 + 1) (ia_wI h 423 ((x2).toNatClampNeg) 0)))) fu_ x2 (s0 - s1) 0 h
theorem tj_M_passDay_82 {w : ia_O0} {d N1 W1 : Nat} {K : ia_K} (hK : ia_isK (d + 6) mm_M_passDay N1 W1 K) {x1 : Int32} {h1 : ia_H} (hret : ∀ (pc : Nat) (lv : ia_L), ia_ret mm_M_passDay pc none → K pc lv (none : Option ia_V).toList h1) {kr : Int32 → ia_H → Option ia_H} {k181 : ia_H → Option ia_H} (hkr : ∀ (x2 : Int32) (h : ia_H), gd_ w h → kr x2 h = some h1 → K 2 [some (.inr (.inr 417)), some (.inl x1), some (.inl x2), none, none, none, none, none] [] h) (hk181 : ∀ (h : ia_H), gd_ w h → k181 h = some h1 → K 181 [some (.inr (.inr 417)), none, none, none, none, none, none, none] [] h) : ∀ (x2 : Int32) (s0 : Int32) (s1 : Int32) (h : ia_H), gd_ w h → j_M_passDay_82 x1 kr k181 x2 s0 s1 h = some h1 → K 82 [some (.inr (.inr 417)), some (.inl x1), some (.inl x2), none, none, none, none, none] [.inl s1, .inl s0] h := by
  intro x2 s0 s1 h hg hm
  unfold j_M_passDay_82 at hm
  refine ia_go hK ck_M_passDay_82 ?_
  show K 87 [some (.inr (.inr 417)), some (.inl x1), some (.inl x2), some (.inl (s0 - s1)), none, some (.inl 0), none, none] [] h
  refine tl_M_passDay_87 hK hret ?_ fu_ x2 (s0 - s1) 0 h hg hm
  · intro x2 x3 h hg hm
    refine ia_go hK ck_M_passDay_149 ⟨gk_12 hg pk_417, gr_12_20 hg pk_417, fun c => ?_, fun c => ?_⟩
    · replace hm := ia_ifp hm c
      show K 162 [some (.inr (.inr 417)), some (.inl x1), some (.inl x2), some (.inl x3), none, none, none, none] [.inl x2, .inr (.inr 423)] h
      refine ia_go hK ck_M_passDay_162 ⟨fun c => ?_, fun c => ?_⟩
      · replace hm := ia_ifp hm c
        show K 173 [some (.inr (.inr 417)), some (.inl x1), some (.inl x2), some (.inl x3), none, none, none, none] [.inl x2, .inr (.inr 423)] h
        obtain ⟨c7, hm⟩ := ia_gd_some hm
        refine ia_go hK ck_M_passDay_173 ⟨ga_s100 hg (ka_12_20 pk_417) c7, ?_⟩
        show K 2 [some (.inr (.inr 417)), some (.inl x1), some (.inl (x2 + 1)), some (.inl x3), none, none, none, none] [] (ia_wI h 423 ((x2).toNatClampNeg) x3)
        refine ia_fg hK (lv' := [some (.inr (.inr 417)), some (.inl x1), some (.inl (x2 + 1)), none, none, none, none, none]) ⟨rfl, rfl, rfl, trivial⟩ ?_
        exact hkr (x2 + 1) (ia_wI h 423 ((x2).toNatClampNeg) x3) (gd_wI hg (kx_100 (ka_12_20 pk_417))) hm
      · replace hm := ia_ifn hm c
        show K 168 [some (.inr (.inr 417)), some (.inl x1), some (.inl x2), some (.inl x3), none, none, none, none] [.inl x2, .inr (.inr 423)] h
        refine ia_go hK ck_M_passDay_168 ?_
        show K 174 [some (.inr (.inr 417)), some (.inl x1), some (.inl x2), some (.inl x3), none, none, none, none] [.inl 99, .inl x2, .inr (.inr 423)] h
        obtain ⟨c8, hm⟩ := ia_gd_some hm
        refine ia_go hK ck_M_passDay_174 ⟨ga_s100 hg (ka_12_20 pk_417) c8, ?_⟩
        show K 2 [some (.inr (.inr 417)), some (.inl x1), some (.inl (x2 + 1)), some (.inl x3), none, none, none, none] [] (ia_wI h 423 ((x2).toNatClampNeg) 99)
        refine ia_fg hK (lv' := [some (.inr (.inr 417)), some (.inl x1), some (.inl (x2 + 1)), none, none, none, none, none]) ⟨rfl, rfl, rfl, trivial⟩ ?_
        exact hkr (x2 + 1) (ia_wI h 423 ((x2).toNatClampNeg) 99) (gd_wI hg (kx_100 (ka_12_20 pk_417))) hm
    · replace hm := ia_ifn hm c
      show K 158 [some (.inr (.inr 417)), some (.inl x1), some (.inl x2), some (.inl x3), none, none, none, none] [.inl x2, .inr (.inr 423)] h
      refine ia_go hK ck_M_passDay_158 ?_
      show K 174 [some (.inr (.inr 417)), some (.inl x1), some (.inl x2), some (.inl x3), none, none, none, none] [.inl 0, .inl x2, .inr (.inr 423)] h
      obtain ⟨c9, hm⟩ := ia_gd_some hm
      refine ia_go hK ck_M_passDay_174 ⟨ga_s100 hg (ka_12_20 pk_417) c9, ?_⟩
      show K 2 [some (.inr (.inr 417)), some (.inl x1), some (.inl (x2 + 1)), some (.inl x3), none, none, none, none] [] (ia_wI h 423 ((x2).toNatClampNeg) 0)
      refine ia_fg hK (lv' := [some (.inr (.inr 417)), some (.inl x1), some (.inl (x2 + 1)), none, none, none, none, none]) ⟨rfl, rfl, rfl, trivial⟩ ?_
      exact hkr (x2 + 1) (ia_wI h 423 ((x2).toNatClampNeg) 0) (gd_wI hg (kx_100 (ka_12_20 pk_417))) hm
theorem gj_M_passDay_82 {w : ia_O0} {x1 : Int32} {h1 : ia_H} {kr : Int32 → ia_H → Option ia_H} {k181 : ia_H → Option ia_H} (hkr : ∀ (x2 : Int32) (h : ia_H), gd_ w h → kr x2 h = some h1 → gd_ w h1) (hk181 : ∀ (h : ia_H), gd_ w h → k181 h = some h1 → gd_ w h1) : ∀ (x2 : Int32) (s0 : Int32) (s1 : Int32) (h : ia_H), gd_ w h → j_M_passDay_82 x1 kr k181 x2 s0 s1 h = some h1 → gd_ w h1 := by
  intro x2 s0 s1 h hg hm
  unfold j_M_passDay_82 at hm
  refine gl_M_passDay_87 ?_ fu_ x2 (s0 - s1) 0 h hg hm
  · intro x2 x3 h hg hm
    by_cases c : 0 ≤ x3
    · replace hm := ia_ifp hm c
      by_cases c : x3 ≤ 99
      · replace hm := ia_ifp hm c
        obtain ⟨c7, hm⟩ := ia_gd_some hm
        exact hkr (x2 + 1) (ia_wI h 423 ((x2).toNatClampNeg) x3) (gd_wI hg (kx_100 (ka_12_20 pk_417))) hm
      · replace hm := ia_ifn hm c
        obtain ⟨c8, hm⟩ := ia_gd_some hm
        exact hkr (x2 + 1) (ia_wI h 423 ((x2).toNatClampNeg) 99) (gd_wI hg (kx_100 (ka_12_20 pk_417))) hm
    · replace hm := ia_ifn hm c
      obtain ⟨c9, hm⟩ := ia_gd_some hm
      exact hkr (x2 + 1) (ia_wI h 423 ((x2).toNatClampNeg) 0) (gd_wI hg (kx_100 (ka_12_20 pk_417))) hm
def j_M_passDay_59 (x1 : Int32) (kr : Int32 → ia_H → Option ia_H) (k181 : ia_H → Option ia_H) (x2 : Int32) (x3 : Int32) (h : ia_H) : Option ia_H := (f_M_shopIn x2 h).bind fun v3 => (if v3 < 0 then (j_M_passDay_82 x1 kr k181 x2 x3 0 h) else ((f_M_stoveOf v3 h).bind fun v10 => (j_M_passDay_82 x1 kr k181 x2 x3 v10 h)))
theorem tj_M_passDay_59 {w : ia_O0} {d N1 W1 : Nat} {K : ia_K} (hK : ia_isK (d + 6) mm_M_passDay N1 W1 K) {x1 : Int32} {h1 : ia_H} (hret : ∀ (pc : Nat) (lv : ia_L), ia_ret mm_M_passDay pc none → K pc lv (none : Option ia_V).toList h1) {kr : Int32 → ia_H → Option ia_H} {k181 : ia_H → Option ia_H} (hkr : ∀ (x2 : Int32) (h : ia_H), gd_ w h → kr x2 h = some h1 → K 2 [some (.inr (.inr 417)), some (.inl x1), some (.inl x2), none, none, none, none, none] [] h) (hk181 : ∀ (h : ia_H), gd_ w h → k181 h = some h1 → K 181 [some (.inr (.inr 417)), none, none, none, none, none, none, none] [] h) : ∀ (x2 : Int32) (x3 : Int32) (h : ia_H), gd_ w h → j_M_passDay_59 x1 kr k181 x2 x3 h = some h1 → K 59 [some (.inr (.inr 417)), some (.inl x1), some (.inl x2), some (.inl x3), none, none, none, none] [] h := by
  intro x2 x3 h hg hm
  unfold j_M_passDay_59 at hm
  refine ia_go hK ck_M_passDay_59 ?_
  show K 61 [some (.inr (.inr 417)), some (.inl x1), some (.inl x2), some (.inl x3), none, none, none, none] [.inl x2, .inr (.inr 417)] h
  obtain ⟨v3, hv3, hm⟩ := ia_bnd hm
  have ev3 := t_M_shopIn (d + 5) hg hv3
  refine ia_cV hK mk_M_shopIn lk_12_210 dc_M_passDay_61 417 [.inl x2] [] rfl rfl (Nat.le_of_ble_eq_true rfl) (by decide) rfl (gk_12 hg pk_417) ev3 ⟨rfl, rfl⟩ ?_
  show K 64 [some (.inr (.inr 417)), some (.inl x1), some (.inl x2), some (.inl x3), none, none, none, none] [.inl v3] h
  refine ia_go hK ck_M_passDay_64 ⟨fun c => ?_, fun c => ?_⟩
  · replace hm := ia_ifp hm c
    show K 81 [some (.inr (.inr 417)), some (.inl x1), some (.inl x2), some (.inl x3), some (.inl v3), none, none, none] [.inl x3] h
    refine ia_go hK ck_M_passDay_81 ?_
    show K 82 [some (.inr (.inr 417)), some (.inl x1), some (.inl x2), some (.inl x3), some (.inl v3), none, none, none] [.inl 0, .inl x3] h
    refine ia_fg hK (lv' := [some (.inr (.inr 417)), some (.inl x1), some (.inl x2), none, none, none, none, none]) ⟨rfl, rfl, rfl, trivial⟩ ?_
    exact tj_M_passDay_82 hK hret hkr hk181 x2 x3 0 h hg hm
  · replace hm := ia_ifn hm c
    show K 72 [some (.inr (.inr 417)), some (.inl x1), some (.inl x2), some (.inl x3), some (.inl v3), none, none, none] [.inl x3] h
    refine ia_go hK ck_M_passDay_72 ?_
    show K 75 [some (.inr (.inr 417)), some (.inl x1), some (.inl x2), some (.inl x3), some (.inl v3), none, none, none] [.inl v3, .inr (.inr 417), .inl x3] h
    obtain ⟨v10, hv10, hm⟩ := ia_bnd hm
    have ev10 := t_M_stoveOf (d + 4) hg hv10
    refine ia_cV hK mk_M_stoveOf lk_12_237 dc_M_passDay_75 417 [.inl v3] [.inl x3] rfl rfl (Nat.le_of_ble_eq_true rfl) (by decide) rfl (gk_12 hg pk_417) ev10 ⟨rfl, rfl⟩ ?_
    show K 78 [some (.inr (.inr 417)), some (.inl x1), some (.inl x2), some (.inl x3), some (.inl v3), none, none, none] [.inl v10, .inl x3] h
    refine ia_go hK ck_M_passDay_78 ?_
    show K 82 [some (.inr (.inr 417)), some (.inl x1), some (.inl x2), some (.inl x3), some (.inl v3), none, none, none] [.inl v10, .inl x3] h
    refine ia_fg hK (lv' := [some (.inr (.inr 417)), some (.inl x1), some (.inl x2), none, none, none, none, none]) ⟨rfl, rfl, rfl, trivial⟩ ?_
    exact tj_M_passDay_82 hK hret hkr hk181 x2 x3 v10 h hg hm
theorem gj_M_passDay_59 {w : ia_O0} {x1 : Int32} {h1 : ia_H} {kr : Int32 → ia_H → Option ia_H} {k181 : ia_H → Option ia_H} (hkr : ∀ (x2 : Int32) (h : ia_H), gd_ w h → kr x2 h = some h1 → gd_ w h1) (hk181 : ∀ (h : ia_H), gd_ w h → k181 h = some h1 → gd_ w h1) : ∀ (x2 : Int32) (x3 : Int32) (h : ia_H), gd_ w h → j_M_passDay_59 x1 kr k181 x2 x3 h = some h1 → gd_ w h1 := by
  intro x2 x3 h hg hm
  unfold j_M_passDay_59 at hm
  obtain ⟨v3, hv3, hm⟩ := ia_bnd hm
  by_cases c : v3 < 0
  · replace hm := ia_ifp hm c
    exact gj_M_passDay_82 hkr hk181 x2 x3 0 h hg hm
  · replace hm := ia_ifn hm c
    obtain ⟨v10, hv10, hm⟩ := ia_bnd hm
    exact gj_M_passDay_82 hkr hk181 x2 x3 v10 h hg hm
def l_M_passDay_2 (x1 : Int32) (k181 : ia_H → Option ia_H) (n : Nat) (x2 : Int32) (h : ia_H) : Option ia_H := match n with
  | 0 => none
  | n + 1 => (f_M_cells h).bind fun v1 => (if v1 ≤ x2 then (k181 h) else (ia_gd (ia_ib x2 1120) (if x1 ≤ 0 then (j_M_passDay_59 x1 (l_M_passDay_2 x1 k181 n) k181 x2 ((ia_i h 422 ((x2).toNatClampNeg)) + x1) h) else (ia_gd (ia_ib (36 + x2) 1120) (if x1 ≤ (ia_i h 422 ((36 + x2).toNatClampNeg)) then (j_M_passDay_59 x1 (l_M_passDay_2 x1 k181 n) k181 x2 ((ia_i h 422 ((x2).toNatClampNeg)) + 0) h) else (ia_gd (ia_ib (36 + x2) 1120) (j_M_passDay_59 x1 (l_M_passDay_2 x1 k181 n) k181 x2 ((ia_i h 422 ((x2).toNatClampNeg)) + (x1 - (ia_i h 422 ((36 + x2).toNatClampNeg)))) h)))))))
theorem tl_M_passDay_2 {w : ia_O0} {d N1 W1 : Nat} {K : ia_K} (hK : ia_isK (d + 6) mm_M_passDay N1 W1 K) {x1 : Int32} {h1 : ia_H} (hret : ∀ (pc : Nat) (lv : ia_L), ia_ret mm_M_passDay pc none → K pc lv (none : Option ia_V).toList h1) {k181 : ia_H → Option ia_H} (hk181 : ∀ (h : ia_H), gd_ w h → k181 h = some h1 → K 181 [some (.inr (.inr 417)), none, none, none, none, none, none, none] [] h) : ∀ (n : Nat) (x2 : Int32) (h : ia_H), gd_ w h → l_M_passDay_2 x1 k181 n x2 h = some h1 → K 2 [some (.inr (.inr 417)), some (.inl x1), some (.inl x2), none, none, none, none, none] [] h := by
  intro n
  induction n with
  | zero =>
    intro x2 h hg hm
    cases (show (none : Option ia_H) = some _ from hm)
  | succ n ih =>
    intro x2 h hg hm
    rw [l_M_passDay_2] at hm
    refine ia_go hK ck_M_passDay_2 ?_
    show K 4 [some (.inr (.inr 417)), some (.inl x1), some (.inl x2), none, none, none, none, none] [.inr (.inr 417), .inl x2] h
    obtain ⟨v1, hv1, hm⟩ := ia_bnd hm
    have ev1 := t_M_cells (d + 5) hg hv1
    refine ia_cV hK mk_M_cells lk_12_234 dc_M_passDay_4 417 [] [.inl x2] rfl rfl (Nat.le_of_ble_eq_true rfl) (by decide) rfl (gk_12 hg pk_417) ev1 ⟨rfl, rfl⟩ ?_
    show K 7 [some (.inr (.inr 417)), some (.inl x1), some (.inl x2), none, none, none, none, none] [.inl v1, .inl x2] h
    refine ia_go hK ck_M_passDay_7 ⟨fun c => ?_, fun c => ?_⟩
    · replace hm := ia_ifp hm c
      show K 181 [some (.inr (.inr 417)), some (.inl x1), some (.inl x2), none, none, none, none, none] [] h
      refine ia_fg hK (lv' := [some (.inr (.inr 417)), none, none, none, none, none, none, none]) ⟨rfl, trivial⟩ ?_
      exact hk181 h hg hm
    · replace hm := ia_ifn hm c
      show K 10 [some (.inr (.inr 417)), some (.inl x1), some (.inl x2), none, none, none, none, none] [] h
      obtain ⟨c2, hm⟩ := ia_gd_some hm
      refine ia_go hK ck_M_passDay_10 ⟨gk_12 hg pk_417, gr_12_13 hg pk_417, ga_i100 hg (ka_12_13 pk_417) c2, fun c => ?_, fun c => ?_⟩
      · replace hm := ia_ifp hm c
        show K 55 [some (.inr (.inr 417)), some (.inl x1), some (.inl x2), some (.inl (ia_i h 422 ((x2).toNatClampNeg))), none, none, none, none] [] h
        refine ia_go hK ck_M_passDay_55 ?_
        show K 59 [some (.inr (.inr 417)), some (.inl x1), some (.inl x2), some (.inl ((ia_i h 422 ((x2).toNatClampNeg)) + x1)), none, none, none, none] [] h
        exact tj_M_passDay_59 hK hret ih hk181 x2 ((ia_i h 422 ((x2).toNatClampNeg)) + x1) h hg hm
      · replace hm := ia_ifn hm c
        show K 21 [some (.inr (.inr 417)), some (.inl x1), some (.inl x2), some (.inl (ia_i h 422 ((x2).toNatClampNeg))), none, none, none, none] [] h
        obtain ⟨c11, hm⟩ := ia_gd_some hm
        refine ia_go hK ck_M_passDay_21 ⟨gk_12 hg pk_417, gr_12_13 hg pk_417, ga_i100 hg (ka_12_13 pk_417) c11, fun c => ?_, fun c => ?_⟩
        · replace hm := ia_ifp hm c
          show K 49 [some (.inr (.inr 417)), some (.inl x1), some (.inl x2), some (.inl (ia_i h 422 ((x2).toNatClampNeg))), none, none, none, none] [.inl (ia_i h 422 ((x2).toNatClampNeg))] h
          refine ia_go hK ck_M_passDay_49 ?_
          show K 59 [some (.inr (.inr 417)), some (.inl x1), some (.inl x2), some (.inl ((ia_i h 422 ((x2).toNatClampNeg)) + 0)), none, none, none, none] [] h
          exact tj_M_passDay_59 hK hret ih hk181 x2 ((ia_i h 422 ((x2).toNatClampNeg)) + 0) h hg hm
        · replace hm := ia_ifn hm c
          show K 35 [some (.inr (.inr 417)), some (.inl x1), some (.inl x2), some (.inl (ia_i h 422 ((x2).toNatClampNeg))), none, none, none, none] [.inl (ia_i h 422 ((x2).toNatClampNeg))] h
          obtain ⟨c12, hm⟩ := ia_gd_some hm
          refine ia_go hK ck_M_passDay_35 ⟨gk_12 hg pk_417, gr_12_13 hg pk_417, ga_i100 hg (ka_12_13 pk_417) c12, ?_⟩
          show K 50 [some (.inr (.inr 417)), some (.inl x1), some (.inl x2), some (.inl (ia_i h 422 ((x2).toNatClampNeg))), none, none, none, none] [.inl (x1 - (ia_i h 422 ((36 + x2).toNatClampNeg))), .inl (ia_i h 422 ((x2).toNatClampNeg))] h
          refine ia_go hK ck_M_passDay_50 ?_
          show K 59 [some (.inr (.inr 417)), some (.inl x1), some (.inl x2), some (.inl ((ia_i h 422 ((x2).toNatClampNeg)) + (x1 - (ia_i h 422 ((36 + x2).toNatClampNeg))))), none, none, none, none] [] h
          exact tj_M_passDay_59 hK hret ih hk181 x2 ((ia_i h 422 ((x2).toNatClampNeg)) + (x1 - (ia_i h 422 ((36 + x2).toNatClampNeg)))) h hg hm
theorem gl_M_passDay_2 {w : ia_O0} {x1 : Int32} {h1 : ia_H} {k181 : ia_H → Option ia_H} (hk181 : ∀ (h : ia_H), gd_ w h → k181 h = some h1 → gd_ w h1) : ∀ (n : Nat) (x2 : Int32) (h : ia_H), gd_ w h → l_M_passDay_2 x1 k181 n x2 h = some h1 → gd_ w h1 := by
  intro n
  induction n with
  | zero =>
    intro x2 h hg hm
    cases (show (none : Option ia_H) = some _ from hm)
  | succ n ih =>
    intro x2 h hg hm
    rw [l_M_passDay_2] at hm
    obtain ⟨v1, hv1, hm⟩ := ia_bnd hm
    by_cases c : v1 ≤ x2
    · replace hm := ia_ifp hm c
      exact hk181 h hg hm
    · replace hm := ia_ifn hm c
      obtain ⟨c2, hm⟩ := ia_gd_some hm
      by_cases c : x1 ≤ 0
      · replace hm := ia_ifp hm c
        exact gj_M_passDay_59 ih hk181 x2 ((ia_i h 422 ((x2).toNatClampNeg)) + x1) h hg hm
      · replace hm := ia_ifn hm c
        obtain ⟨c11, hm⟩ := ia_gd_some hm
        by_cases c : x1 ≤ (ia_i h 422 ((36 + x2).toNatClampNeg))
        · replace hm := ia_ifp hm c
          exact gj_M_passDay_59 ih hk181 x2 ((ia_i h 422 ((x2).toNatClampNeg)) + 0) h hg hm
        · replace hm := ia_ifn hm c
          obtain ⟨c12, hm⟩ := ia_gd_some hm
          exact gj_M_passDay_59 ih hk181 x2 ((ia_i h 422 ((x2).toNatClampNeg)) + (x1 - (ia_i h 422 ((36 + x2).toNatClampNeg)))) h hg hm
def l_M_passDay_183 (x1 : Int32) (k209 : ia_H → Option ia_H) (n : Nat) (x2 : Int32) (h : ia_H) : Option ia_H := match n with
  | 0 => none
  | n + 1 => (f_M_cells h).bind fun v13 => (if v13 ≤ x2 then (k209 h) else (ia_gd (ia_ib x2 36) (ia_gd (ia_ib x2 1120) (l_M_passDay_183 x1 k209 n (x2 + 1) (ia_wI h 422 ((x2).toNatClampNeg) (ia_i h 423 ((x2).toNatClampNeg)))))))
theorem tl_M_passDay_183 {w : ia_O0} {d N1 W1 : Nat} {K : ia_K} (hK : ia_isK (d + 6) mm_M_passDay N1 W1 K) {x1 : Int32} {h1 : ia_H} (hret : ∀ (pc : Nat) (lv : ia_L), ia_ret mm_M_passDay pc none → K pc lv (none : Option ia_V).toList h1) {k209 : ia_H → Option ia_H} (hk209 : ∀ (h : ia_H), gd_ w h → k209 h = some h1 → K 209 [some (.inr (.inr 417)), none, none, none, none, none, none, none] [] h) : ∀ (n : Nat) (x2 : Int32) (h : ia_H), gd_ w h → l_M_passDay_183 x1 k209 n x2 h = some h1 → K 183 [some (.inr (.inr 417)), none, some (.inl x2), none, none, none, none, none] [] h := by
  intro n
  induction n with
  | zero =>
    intro x2 h hg hm
    cases (show (none : Option ia_H) = some _ from hm)
  | succ n ih =>
    intro x2 h hg hm
    rw [l_M_passDay_183] at hm
    refine ia_go hK ck_M_passDay_183 ?_
    show K 185 [some (.inr (.inr 417)), none, some (.inl x2), none, none, none, none, none] [.inr (.inr 417), .inl x2] h
    obtain ⟨v13, hv13, hm⟩ := ia_bnd hm
    have ev13 := t_M_cells (d + 5) hg hv13
    refine ia_cV hK mk_M_cells lk_12_234 dc_M_passDay_185 417 [] [.inl x2] rfl rfl (Nat.le_of_ble_eq_true rfl) (by decide) rfl (gk_12 hg pk_417) ev13 ⟨rfl, rfl⟩ ?_
    show K 188 [some (.inr (.inr 417)), none, some (.inl x2), none, none, none, none, none] [.inl v13, .inl x2] h
    refine ia_go hK ck_M_passDay_188 ⟨fun c => ?_, fun c => ?_⟩
    · replace hm := ia_ifp hm c
      show K 209 [some (.inr (.inr 417)), none, some (.inl x2), none, none, none, none, none] [] h
      refine ia_fg hK (lv' := [some (.inr (.inr 417)), none, none, none, none, none, none, none]) ⟨rfl, trivial⟩ ?_
      exact hk209 h hg hm
    · replace hm := ia_ifn hm c
      show K 191 [some (.inr (.inr 417)), none, some (.inl x2), none, none, none, none, none] [] h
      obtain ⟨c14, hm⟩ := ia_gd_some hm
      obtain ⟨c15, hm⟩ := ia_gd_some hm
      refine ia_go hK ck_M_passDay_191 ⟨gk_12 hg pk_417, gr_12_13 hg pk_417, gk_12 hg pk_417, gr_12_20 hg pk_417, ga_i100 hg (ka_12_20 pk_417) c14, ga_s100 hg (ka_12_13 pk_417) c15, ?_⟩
      show K 183 [some (.inr (.inr 417)), none, some (.inl (x2 + 1)), none, none, none, none, none] [] (ia_wI h 422 ((x2).toNatClampNeg) (ia_i h 423 ((x2).toNatClampNeg)))
      exact ih (x2 + 1) (ia_wI h 422 ((x2).toNatClampNeg) (ia_i h 423 ((x2).toNatClampNeg))) (gd_wI hg (kx_100 (ka_12_13 pk_417))) hm
theorem gl_M_passDay_183 {w : ia_O0} {x1 : Int32} {h1 : ia_H} {k209 : ia_H → Option ia_H} (hk209 : ∀ (h : ia_H), gd_ w h → k209 h = some h1 → gd_ w h1) : ∀ (n : Nat) (x2 : Int32) (h : ia_H), gd_ w h → l_M_passDay_183 x1 k209 n x2 h = some h1 → gd_ w h1 := by
  intro n
  induction n with
  | zero =>
    intro x2 h hg hm
    cases (show (none : Option ia_H) = some _ from hm)
  | succ n ih =>
    intro x2 h hg hm
    rw [l_M_passDay_183] at hm
    obtain ⟨v13, hv13, hm⟩ := ia_bnd hm
    by_cases c : v13 ≤ x2
    · replace hm := ia_ifp hm c
      exact hk209 h hg hm
    · replace hm := ia_ifn hm c
      obtain ⟨c14, hm⟩ := ia_gd_some hm
      obtain ⟨c15, hm⟩ := ia_gd_some hm
      exact ih (x2 + 1) (ia_wI h 422 ((x2).toNatClampNeg) (ia_i h 423 ((x2).toNatClampNeg))) (gd_wI hg (kx_100 (ka_12_13 pk_417))) hm
def j_M_passDay_286 (x1 : Int32) (kr : Int32 → ia_H → Option ia_H) (k294 : ia_H → Option ia_H) (x2 : Int32) (b0 : Nat) (s1 : Int32) (s2 : Int32) (s3 : Int32) (h : ia_H) : Option ia_H := ia_gd (ia_ib s1 1120) (kr (x2 + 1) (ia_wI h b0 ((s1).toNatClampNeg) (s2 + s3)))
theorem tj_M_passDay_286 {w : ia_O0} {d N1 W1 : Nat} {K : ia_K} (hK : ia_isK (d + 6) mm_M_passDay N1 W1 K) {x1 : Int32} {h1 : ia_H} (hret : ∀ (pc : Nat) (lv : ia_L), ia_ret mm_M_passDay pc none → K pc lv (none : Option ia_V).toList h1) {kr : Int32 → ia_H → Option ia_H} {k294 : ia_H → Option ia_H} (hkr : ∀ (x2 : Int32) (h : ia_H), gd_ w h → kr x2 h = some h1 → K 222 [some (.inr (.inr 417)), none, some (.inl x2), none, none, none, none, none] [] h) (hk294 : ∀ (h : ia_H), gd_ w h → k294 h = some h1 → K 294 [some (.inr (.inr 417)), none, none, none, none, none, none, none] [] h) : ∀ (x2 : Int32) (b0 : Nat) (s1 : Int32) (s2 : Int32) (s3 : Int32) (h : ia_H), gd_ w h → kd_D b0 = (100, 1120) → j_M_passDay_286 x1 kr k294 x2 b0 s1 s2 s3 h = some h1 → K 286 [some (.inr (.inr 417)), none, some (.inl x2), none, none, none, none, none] [.inl s3, .inl s2, .inl s1, .inr (.inr b0)] h := by
  intro x2 b0 s1 s2 s3 h hg q_b0 hm
  unfold j_M_passDay_286 at hm
  obtain ⟨c18, hm⟩ := ia_gd_some hm
  refine ia_go hK ck_M_passDay_286 ⟨ga_s100 hg q_b0 c18, ?_⟩
  show K 222 [some (.inr (.inr 417)), none, some (.inl (x2 + 1)), none, none, none, none, none] [] (ia_wI h b0 ((s1).toNatClampNeg) (s2 + s3))
  exact hkr (x2 + 1) (ia_wI h b0 ((s1).toNatClampNeg) (s2 + s3)) (gd_wI hg (kx_100 q_b0)) hm
theorem gj_M_passDay_286 {w : ia_O0} {x1 : Int32} {h1 : ia_H} {kr : Int32 → ia_H → Option ia_H} {k294 : ia_H → Option ia_H} (hkr : ∀ (x2 : Int32) (h : ia_H), gd_ w h → kr x2 h = some h1 → gd_ w h1) (hk294 : ∀ (h : ia_H), gd_ w h → k294 h = some h1 → gd_ w h1) : ∀ (x2 : Int32) (b0 : Nat) (s1 : Int32) (s2 : Int32) (s3 : Int32) (h : ia_H), gd_ w h → kd_D b0 = (100, 1120) → j_M_passDay_286 x1 kr k294 x2 b0 s1 s2 s3 h = some h1 → gd_ w h1 := by
  intro x2 b0 s1 s2 s3 h hg q_b0 hm
  unfold j_M_passDay_286 at hm
  obtain ⟨c18, hm⟩ := ia_gd_some hm
  exact hkr (x2 + 1) (ia_wI h b0 ((s1).toNatClampNeg) (s2 + s3)) (gd_wI hg (kx_100 q_b0)) hm
def l_M_passDay_222 (x1 : Int32) (k294 : ia_H → Option ia_H) (n : Nat) (x2 : Int32) (h : ia_H) : Option ia_H := match n with
  | 0 => none
  | n + 1 => ia_gd (ia_ib ((ia_i h 417 14) + 4) 6528) (if (ia_i h 418 (((ia_i h 417 14) + 4).toNatClampNeg)) ≤ x2 then (k294 h) else ((f_M_stands x2 h).bind fun v17 => (if v17 = 0 then (j_M_passDay_286 x1 (l_M_passDay_222 x1 k294 n) k294 x2 422 79 (ia_i h 422 79) 0 h) else (ia_gd (ia_ib ((ia_i h 417 15) + 3) 6528) (ia_gd (ia_ib (72 + x2) 1120) (ia_gd (ia_ib (ia_i h 422 ((72 + x2).toNatClampNeg)) 1120) (j_M_passDay_286 x1 (l_M_passDay_222 x1 k294 n) k294 x2 422 79 (ia_i h 422 79) (((ia_i h 418 (((ia_i h 417 15) + 3).toNatClampNeg)) * (ia_i h 422 ((ia_i h 422 ((72 + x2).toNatClampNeg)).toNatClampNeg))) / 10) h)))))))
theorem tl_M_passDay_222 {w : ia_O0} {d N1 W1 : Nat} {K : ia_K} (hK : ia_isK (d + 6) mm_M_passDay N1 W1 K) {x1 : Int32} {h1 : ia_H} (hret : ∀ (pc : Nat) (lv : ia_L), ia_ret mm_M_passDay pc none → K pc lv (none : Option ia_V).toList h1) {k294 : ia_H → Option ia_H} (hk294 : ∀ (h : ia_H), gd_ w h → k294 h = some h1 → K 294 [some (.inr (.inr 417)), none, none, none, none, none, none, none] [] h) : ∀ (n : Nat) (x2 : Int32) (h : ia_H), gd_ w h → l_M_passDay_222 x1 k294 n x2 h = some h1 → K 222 [some (.inr (.inr 417)), none, some (.inl x2), none, none, none, none, none] [] h := by
  intro n
  induction n with
  | zero =>
    intro x2 h hg hm
    cases (show (none : Option ia_H) = some _ from hm)
  | succ n ih =>
    intro x2 h hg hm
    rw [l_M_passDay_222] at hm
    obtain ⟨c16, hm⟩ := ia_gd_some hm
    refine ia_go hK ck_M_passDay_222 ⟨gk_12 hg pk_417, gr_12_0 hg pk_417, gk_12 hg pk_417, ga_i100 hg (ka_12_0 pk_417) c16, fun c => ?_, fun c => ?_⟩
    · replace hm := ia_ifp hm c
      show K 294 [some (.inr (.inr 417)), none, some (.inl x2), none, none, none, none, none] [] h
      refine ia_fg hK (lv' := [some (.inr (.inr 417)), none, none, none, none, none, none, none]) ⟨rfl, trivial⟩ ?_
      exact hk294 h hg hm
    · replace hm := ia_ifn hm c
      show K 237 [some (.inr (.inr 417)), none, some (.inl x2), none, none, none, none, none] [] h
      refine ia_go hK ck_M_passDay_237 ⟨gk_12 hg pk_417, gr_12_13 hg pk_417, ga_i100 hg (ka_12_13 pk_417) (by decide), ?_⟩
      show K 247 [some (.inr (.inr 417)), none, some (.inl x2), none, none, none, none, none] [.inl x2, .inr (.inr 417), .inl (ia_i h 422 79), .inl 79, .inr (.inr 422)] h
      obtain ⟨v17, hv17, hm⟩ := ia_bnd hm
      have ev17 := t_M_stands (d + 3) hg hv17
      refine ia_cV hK mk_M_stands lk_12_222 dc_M_passDay_247 417 [.inl x2] [.inl (ia_i h 422 79), .inl 79, .inr (.inr 422)] rfl rfl (Nat.le_of_ble_eq_true rfl) (by decide) rfl (gk_12 hg pk_417) ev17 ⟨rfl, rfl⟩ ?_
      show K 250 [some (.inr (.inr 417)), none, some (.inl x2), none, none, none, none, none] [.inl v17, .inl (ia_i h 422 79), .inl 79, .inr (.inr 422)] h
      refine ia_go hK ck_M_passDay_250 ⟨fun c => ?_, fun c => ?_⟩
      · replace hm := ia_ifp hm c
        show K 285 [some (.inr (.inr 417)), none, some (.inl x2), none, none, none, none, none] [.inl (ia_i h 422 79), .inl 79, .inr (.inr 422)] h
        refine ia_go hK ck_M_passDay_285 ?_
        show K 286 [some (.inr (.inr 417)), none, some (.inl x2), none, none, none, none, none] [.inl 0, .inl (ia_i h 422 79), .inl 79, .inr (.inr 422)] h
        exact tj_M_passDay_286 hK hret ih hk294 x2 422 79 (ia_i h 422 79) 0 h hg (ka_12_13 pk_417) hm
      · replace hm := ia_ifn hm c
        show K 253 [some (.inr (.inr 417)), none, some (.inl x2), none, none, none, none, none] [.inl (ia_i h 422 79), .inl 79, .inr (.inr 422)] h
        obtain ⟨c19, hm⟩ := ia_gd_some hm
        obtain ⟨c20, hm⟩ := ia_gd_some hm
        obtain ⟨c21, hm⟩ := ia_gd_some hm
        refine ia_go hK ck_M_passDay_253 ⟨gk_12 hg pk_417, gr_12_0 hg pk_417, gk_12 hg pk_417, ga_i100 hg (ka_12_0 pk_417) c19, gk_12 hg pk_417, gr_12_13 hg pk_417, gk_12 hg pk_417, gr_12_13 hg pk_417, ga_i100 hg (ka_12_13 pk_417) c20, ga_i100 hg (ka_12_13 pk_417) c21, (by decide), ?_⟩
        show K 286 [some (.inr (.inr 417)), none, some (.inl x2), none, none, none, none, none] [.inl (((ia_i h 418 (((ia_i h 417 15) + 3).toNatClampNeg)) * (ia_i h 422 ((ia_i h 422 ((72 + x2).toNatClampNeg)).toNatClampNeg))) / 10), .inl (ia_i h 422 79), .inl 79, .inr (.inr 422)] h
        exact tj_M_passDay_286 hK hret ih hk294 x2 422 79 (ia_i h 422 79) (((ia_i h 418 (((ia_i h 417 15) + 3).toNatClampNeg)) * (ia_i h 422 ((ia_i h 422 ((72 + x2).toNatClampNeg)).toNatClampNeg))) / 10) h hg (ka_12_13 pk_417) hm
theorem gl_M_passDay_222 {w : ia_O0} {x1 : Int32} {h1 : ia_H} {k294 : ia_H → Option ia_H} (hk294 : ∀ (h : ia_H), gd_ w h → k294 h = some h1 → gd_ w h1) : ∀ (n : Nat) (x2 : Int32) (h : ia_H), gd_ w h → l_M_passDay_222 x1 k294 n x2 h = some h1 → gd_ w h1 := by
  intro n
  induction n with
  | zero =>
    intro x2 h hg hm
    cases (show (none : Option ia_H) = some _ from hm)
  | succ n ih =>
    intro x2 h hg hm
    rw [l_M_passDay_222] at hm
    obtain ⟨c16, hm⟩ := ia_gd_some hm
    by_cases c : (ia_i h 418 (((ia_i h 417 14) + 4).toNatClampNeg)) ≤ x2
    · replace hm := ia_ifp hm c
      exact hk294 h hg hm
    · replace hm := ia_ifn hm c
      obtain ⟨v17, hv17, hm⟩ := ia_bnd hm
      by_cases c : v17 = 0
      · replace hm := ia_ifp hm c
        exact gj_M_passDay_286 ih hk294 x2 422 79 (ia_i h 422 79) 0 h hg (ka_12_13 pk_417) hm
      · replace hm := ia_ifn hm c
        obtain ⟨c19, hm⟩ := ia_gd_some hm
        obtain ⟨c20, hm⟩ := ia_gd_some hm
        obtain ⟨c21, hm⟩ := ia_gd_some hm
        exact gj_M_passDay_286 ih hk294 x2 422 79 (ia_i h 422 79) (((ia_i h 418 (((ia_i h 417 15) + 3).toNatClampNeg)) * (ia_i h 422 ((ia_i h 422 ((72 + x2).toNatClampNeg)).toNatClampNeg))) / 10) h hg (ka_12_13 pk_417) hm
def f_M_passDay (x1 : Int32) (h : ia_H) : Option ia_H := l_M_passDay_2 x1 (fun h => l_M_passDay_183 x1 (fun h => l_M_passDay_222 x1 (fun h => (f_M_falls h).bind fun v22 => (some v22)) fu_ 0 (ia_wI h 422 78 ((ia_i h 422 78) + 1))) fu_ 0 h) fu_ 0 h
theorem g_M_passDay {w : ia_O0} {x1 : Int32} {h : ia_H} (hg : gd_ w h) {q : ia_H} (hm : f_M_passDay x1 h = some q) : gd_ w q := by
  obtain ⟨h1, e1⟩ : ∃ x, x = q := ⟨_, rfl⟩
  subst e1
  unfold f_M_passDay at hm
  refine gl_M_passDay_2 ?_ fu_ 0 h hg hm
  · intro h hg hm
    refine gl_M_passDay_183 ?_ fu_ 0 h hg hm
    · intro h hg hm
      refine gl_M_passDay_222 ?_ fu_ 0 (ia_wI h 422 78 ((ia_i h 422 78) + 1)) (gd_wI hg (kx_100 (ka_12_13 pk_417))) hm
      · intro h hg hm
        obtain ⟨v22, hv22, hm⟩ := ia_bnd hm
        have gv22 := g_M_falls hg hv22
        obtain rfl := Option.some.inj hm
        exact gv22
theorem t_M_passDay {w : ia_O0} (d : Nat) {x1 : Int32} {h : ia_H} (hg : gd_ w h) {q : ia_H} (hm : f_M_passDay x1 h = some q) : ia_Ev (d + 6) mm_M_passDay [.inr (.inr 417), .inl x1] h none q := by
  have gq := g_M_passDay hg hm
  refine ia_Ev_intro ok_M_passDay (gd_le hg gq).1 (gd_le hg gq).2 (Nat.le_of_ble_eq_true rfl) (fun K hK hret => ?_)
  obtain ⟨h1, e1⟩ : ∃ x, x = q := ⟨_, rfl⟩
  subst e1
  show K 0 [some (.inr (.inr 417)), some (.inl x1), none, none, none, none, none, none] [] h
  unfold f_M_passDay at hm
  refine ia_go hK ck_M_passDay_0 ?_
  show K 2 [some (.inr (.inr 417)), some (.inl x1), some (.inl 0), none, none, none, none, none] [] h
  refine tl_M_passDay_2 hK hret ?_ fu_ 0 h hg hm
  · intro h hg hm
    refine ia_go hK ck_M_passDay_181 ?_
    show K 183 [some (.inr (.inr 417)), none, some (.inl 0), none, none, none, none, none] [] h
    refine tl_M_passDay_183 hK hret ?_ fu_ 0 h hg hm
    · intro h hg hm
      refine ia_go hK ck_M_passDay_209 ⟨gk_12 hg pk_417, gr_12_13 hg pk_417, ga_i100 hg (ka_12_13 pk_417) (by decide), ga_s100 hg (ka_12_13 pk_417) (by decide), ?_⟩
      show K 222 [some (.inr (.inr 417)), none, some (.inl 0), none, none, none, none, none] [] (ia_wI h 422 78 ((ia_i h 422 78) + 1))
      refine tl_M_passDay_222 hK hret ?_ fu_ 0 (ia_wI h 422 78 ((ia_i h 422 78) + 1)) (gd_wI hg (kx_100 (ka_12_13 pk_417))) hm
      · intro h hg hm
        refine ia_go hK ck_M_passDay_294 ?_
        show K 295 [some (.inr (.inr 417)), none, none, none, none, none, none, none] [.inr (.inr 417)] h
        obtain ⟨v22, hv22, hm⟩ := ia_bnd hm
        have ev22 := t_M_falls (d + 0) hg hv22
        have gv22 := g_M_falls hg hv22
        refine ia_cV hK mk_M_falls lk_12_240 dc_M_passDay_295 417 [] [] rfl rfl (Nat.le_of_ble_eq_true rfl) (by decide) rfl (gk_12 hg pk_417) ev22 (gd_nm hg gv22) ?_
        show K 298 [some (.inr (.inr 417)), none, none, none, none, none, none, none] [] v22
        obtain rfl := Option.some.inj hm
        exact hret 298 _ dc_M_passDay_298
def mm_M_aDay : ia_M := (⟨"IceStreetModel", "aDay", "()V"⟩, prog_14_method_55_code, 1, none, 12, false)
theorem ok_M_aDay : ia_mok mm_M_aDay := ⟨by decide +kernel, by decide +kernel, by decide +kernel, by decide +kernel⟩
theorem mk_M_aDay : ia_mkn mm_M_aDay 1 0 := ⟨ia_tb_in (List.mem_of_getElem? (i := 1979) (by decide +kernel)) rfl, ia_tb_in (List.mem_of_getElem? (i := 146) (by decide +kernel)) rfl, by decide +kernel, by decide +kernel, ⟨ia_tb_in (List.mem_of_getElem? (i := 1978) (by decide +kernel)) rfl, ia_tb_in (List.mem_of_getElem? (i := 98) (by decide +kernel)) rfl⟩⟩
theorem ck_M_aDay_0 : ia_cks 12 1 false prog_14_method_55_code 0 [(.aload_n 0, 0, 0, 0, 0), (.aload_n 0, 0, 0, 0, 0)] = true := by decide +kernel
theorem dc_M_aDay_2 : decode prog_14_method_55_code 2 = .ok (.invokevirtual 243, 3) := by decide +kernel
theorem dc_M_aDay_5 : decode prog_14_method_55_code 5 = .ok (.invokevirtual 246, 3) := by decide +kernel
theorem dc_M_aDay_8 : decode prog_14_method_55_code 8 = .ok (.return_, 1) := by decide +kernel
def f_M_aDay (h : ia_H) : Option ia_H := (f_M_frostNow h).bind fun v1 => ((f_M_passDay v1 h).bind fun v2 => (some v2))
theorem g_M_aDay {w : ia_O0} {h : ia_H} (hg : gd_ w h) {q : ia_H} (hm : f_M_aDay h = some q) : gd_ w q := by
  obtain ⟨h1, e1⟩ : ∃ x, x = q := ⟨_, rfl⟩
  subst e1
  unfold f_M_aDay at hm
  obtain ⟨v1, hv1, hm⟩ := ia_bnd hm
  obtain ⟨v2, hv2, hm⟩ := ia_bnd hm
  have gv2 := g_M_passDay hg hv2
  obtain rfl := Option.some.inj hm
  exact gv2
theorem t_M_aDay {w : ia_O0} (d : Nat) {h : ia_H} (hg : gd_ w h) {q : ia_H} (hm : f_M_aDay h = some q) : ia_Ev (d + 7) mm_M_aDay [.inr (.inr 417)] h none q := by
  have gq := g_M_aDay hg hm
  refine ia_Ev_intro ok_M_aDay (gd_le hg gq).1 (gd_le hg gq).2 (Nat.le_of_ble_eq_true rfl) (fun K hK hret => ?_)
  obtain ⟨h1, e1⟩ : ∃ x, x = q := ⟨_, rfl⟩
  subst e1
  show K 0 [some (.inr (.inr 417))] [] h
  unfold f_M_aDay at hm
  refine ia_go hK ck_M_aDay_0 ?_
  show K 2 [some (.inr (.inr 417))] [.inr (.inr 417), .inr (.inr 417)] h
  obtain ⟨v1, hv1, hm⟩ := ia_bnd hm
  have ev1 := t_M_frostNow (d + 6) hg hv1
  refine ia_cV hK mk_M_frostNow lk_12_243 dc_M_aDay_2 417 [] [.inr (.inr 417)] rfl rfl (Nat.le_of_ble_eq_true rfl) (by decide) rfl (gk_12 hg pk_417) ev1 ⟨rfl, rfl⟩ ?_
  show K 5 [some (.inr (.inr 417))] [.inl v1, .inr (.inr 417)] h
  obtain ⟨v2, hv2, hm⟩ := ia_bnd hm
  have ev2 := t_M_passDay (d + 0) hg hv2
  have gv2 := g_M_passDay hg hv2
  refine ia_cV hK mk_M_passDay lk_12_246 dc_M_aDay_5 417 [.inl v1] [] rfl rfl (Nat.le_of_ble_eq_true rfl) (by decide) rfl (gk_12 hg pk_417) ev2 (gd_nm hg gv2) ?_
  show K 8 [some (.inr (.inr 417))] [] v2
  obtain rfl := Option.some.inj hm
  exact hret 8 _ dc_M_aDay_8
def mm_M_does : ia_M := (⟨"IceStreetModel", "does", "(I)Z"⟩, prog_14_method_66_code, 7, (some .boolean), 12, false)
theorem ok_M_does : ia_mok mm_M_does := ⟨by decide +kernel, by decide +kernel, by decide +kernel, by decide +kernel⟩
theorem mk_M_does : ia_mkn mm_M_does 1 1 := ⟨ia_tb_in (List.mem_of_getElem? (i := 1931) (by decide +kernel)) rfl, ia_tb_in (List.mem_of_getElem? (i := 146) (by decide +kernel)) rfl, by decide +kernel, by decide +kernel, ⟨ia_tb_in (List.mem_of_getElem? (i := 1930) (by decide +kernel)) rfl, ia_tb_in (List.mem_of_getElem? (i := 87) (by decide +kernel)) rfl⟩⟩
theorem ck_M_does_0 : ia_cks 12 7 false prog_14_method_66_code 0 [(.aload_n 0, 0, 0, 0, 0), (.getfield 7, 12, 0, 3, 1), (.iload_n 1, 0, 0, 0, 0), (.iaload, 0, 0, 0, 0), (.istore_n 2, 0, 0, 0, 0), (.aload_n 0, 0, 0, 0, 0), (.getfield 7, 12, 0, 3, 1), (.iload_n 1, 0, 0, 0, 0), (.iconst 1, 0, 0, 0, 0), (.iadd, 0, 0, 0, 0), (.iaload, 0, 0, 0, 0), (.istore_n 3, 0, 0, 0, 0), (.aload_n 0, 0, 0, 0, 0), (.getfield 7, 12, 0, 3, 1), (.iload_n 1, 0, 0, 0, 0), (.iconst 2, 0, 0, 0, 0), (.iadd, 0, 0, 0, 0), (.iaload, 0, 0, 0, 0), (.istore 4, 0, 0, 0, 0), (.aload_n 0, 0, 0, 0, 0), (.getfield 7, 12, 0, 3, 1), (.iload_n 1, 0, 0, 0, 0), (.iconst 3, 0, 0, 0, 0), (.iadd, 0, 0, 0, 0), (.iaload, 0, 0, 0, 0), (.istore 5, 0, 0, 0, 0), (.iload_n 2, 0, 0, 0, 0), (.iconst 1, 0, 0, 0, 0), (.if_icmp .ne 29, 0, 0, 0, 0)] = true := by decide +kernel
theorem ck_M_does_67 : ia_cks 12 7 false prog_14_method_66_code 67 [(.iload_n 2, 0, 0, 0, 0), (.iconst 2, 0, 0, 0, 0), (.if_icmp .ne 26, 0, 0, 0, 0)] = true := by decide +kernel
theorem ck_M_does_95 : ia_cks 12 7 false prog_14_method_66_code 95 [(.iload_n 2, 0, 0, 0, 0), (.iconst 3, 0, 0, 0, 0), (.if_icmp .ne 80, 0, 0, 0, 0)] = true := by decide +kernel
theorem ck_M_does_177 : ia_cks 12 7 false prog_14_method_66_code 177 [(.iload_n 2, 0, 0, 0, 0), (.iconst 4, 0, 0, 0, 0), (.if_icmp .ne 30, 0, 0, 0, 0)] = true := by decide +kernel
theorem ck_M_does_209 : ia_cks 12 7 false prog_14_method_66_code 209 [(.aload_n 0, 0, 0, 0, 0)] = true := by decide +kernel
theorem ck_M_does_213 : ia_cks 12 7 false prog_14_method_66_code 213 [(.iconst 1, 0, 0, 0, 0)] = true := by decide +kernel
theorem ck_M_does_182 : ia_cks 12 7 false prog_14_method_66_code 182 [(.aload_n 0, 0, 0, 0, 0), (.aload_n 0, 0, 0, 0, 0), (.getfield 201, 12, 14, 0, 0), (.iload_n 3, 0, 0, 0, 0)] = true := by decide +kernel
theorem ck_M_does_191 : ia_cks 12 7 false prog_14_method_66_code 191 [(.ifCond .ne 5, 0, 0, 0, 0)] = true := by decide +kernel
theorem ck_M_does_196 : ia_cks 12 7 false prog_14_method_66_code 196 [(.aload_n 0, 0, 0, 0, 0), (.getfield 23, 12, 13, 3, 5), (.bipush 36, 0, 0, 0, 0), (.iload_n 3, 0, 0, 0, 0), (.iadd, 0, 0, 0, 0), (.iconst 0, 0, 0, 0, 0), (.iastore, 0, 0, 0, 0), (.goto 9, 0, 0, 0, 0)] = true := by decide +kernel
theorem ck_M_does_215 : ia_cks 12 7 false prog_14_method_66_code 215 [(.aload_n 0, 0, 0, 0, 0)] = true := by decide +kernel
theorem ck_M_does_219 : ia_cks 12 7 false prog_14_method_66_code 219 [(.iconst 1, 0, 0, 0, 0)] = true := by decide +kernel
theorem ck_M_does_194 : ia_cks 12 7 false prog_14_method_66_code 194 [(.iconst 0, 0, 0, 0, 0)] = true := by decide +kernel
theorem ck_M_does_100 : ia_cks 12 7 false prog_14_method_66_code 100 [(.aload_n 0, 0, 0, 0, 0), (.aload_n 0, 0, 0, 0, 0), (.getfield 201, 12, 14, 0, 0), (.iload 4, 0, 0, 0, 0)] = true := by decide +kernel
theorem ck_M_does_110 : ia_cks 12 7 false prog_14_method_66_code 110 [(.ifCond .eq 28, 0, 0, 0, 0)] = true := by decide +kernel
theorem ck_M_does_138 : ia_cks 12 7 false prog_14_method_66_code 138 [(.iconst 0, 0, 0, 0, 0)] = true := by decide +kernel
theorem ck_M_does_113 : ia_cks 12 7 false prog_14_method_66_code 113 [(.aload_n 0, 0, 0, 0, 0), (.aload_n 0, 0, 0, 0, 0), (.getfield 201, 12, 14, 0, 0), (.iload 5, 0, 0, 0, 0)] = true := by decide +kernel
theorem ck_M_does_123 : ia_cks 12 7 false prog_14_method_66_code 123 [(.ifCond .eq 15, 0, 0, 0, 0)] = true := by decide +kernel
theorem ck_M_does_126 : ia_cks 12 7 false prog_14_method_66_code 126 [(.aload_n 0, 0, 0, 0, 0), (.iload 4, 0, 0, 0, 0), (.iload 5, 0, 0, 0, 0), (.iload_n 3, 0, 0, 0, 0)] = true := by decide +kernel
theorem ck_M_does_135 : ia_cks 12 7 false prog_14_method_66_code 135 [(.ifCond .ne 5, 0, 0, 0, 0)] = true := by decide +kernel
theorem ck_M_does_140 : ia_cks 12 7 false prog_14_method_66_code 140 [(.iconst 0, 0, 0, 0, 0), (.istore 6, 0, 0, 0, 0)] = true := by decide +kernel
theorem ck_M_does_143 : ia_cks 12 7 false prog_14_method_66_code 143 [(.iload 6, 0, 0, 0, 0), (.aload_n 0, 0, 0, 0, 0), (.getfield 266, 12, 27, 0, 0), (.if_icmp .ge 25, 0, 0, 0, 0)] = true := by decide +kernel
theorem ck_M_does_152 : ia_cks 12 7 false prog_14_method_66_code 152 [(.aload_n 0, 0, 0, 0, 0), (.getfield 23, 12, 13, 3, 5), (.bipush 36, 0, 0, 0, 0), (.aload_n 0, 0, 0, 0, 0), (.getfield 45, 12, 26, 3, 10), (.iload 6, 0, 0, 0, 0), (.iaload, 0, 0, 0, 0), (.iadd, 0, 0, 0, 0), (.iconst 0, 0, 0, 0, 0), (.iastore, 0, 0, 0, 0), (.iinc 6 1, 0, 0, 0, 0), (.goto (-28), 0, 0, 0, 0)] = true := by decide +kernel
theorem ck_M_does_174 : ia_cks 12 7 false prog_14_method_66_code 174 [(.goto 41, 0, 0, 0, 0)] = true := by decide +kernel
theorem ck_M_does_72 : ia_cks 12 7 false prog_14_method_66_code 72 [(.aload_n 0, 0, 0, 0, 0), (.iload_n 3, 0, 0, 0, 0)] = true := by decide +kernel
theorem ck_M_does_77 : ia_cks 12 7 false prog_14_method_66_code 77 [(.ifCond .ne 5, 0, 0, 0, 0)] = true := by decide +kernel
theorem ck_M_does_82 : ia_cks 12 7 false prog_14_method_66_code 82 [(.aload_n 0, 0, 0, 0, 0), (.getfield 23, 12, 13, 3, 5), (.bipush 72, 0, 0, 0, 0), (.iload_n 3, 0, 0, 0, 0), (.iadd, 0, 0, 0, 0), (.iconst (-1), 0, 0, 0, 0), (.iastore, 0, 0, 0, 0), (.goto 123, 0, 0, 0, 0)] = true := by decide +kernel
theorem ck_M_does_80 : ia_cks 12 7 false prog_14_method_66_code 80 [(.iconst 0, 0, 0, 0, 0)] = true := by decide +kernel
theorem ck_M_does_41 : ia_cks 12 7 false prog_14_method_66_code 41 [(.aload_n 0, 0, 0, 0, 0), (.iload_n 3, 0, 0, 0, 0), (.iload 4, 0, 0, 0, 0)] = true := by decide +kernel
theorem ck_M_does_48 : ia_cks 12 7 false prog_14_method_66_code 48 [(.ifCond .ne 5, 0, 0, 0, 0)] = true := by decide +kernel
theorem ck_M_does_53 : ia_cks 12 7 false prog_14_method_66_code 53 [(.aload_n 0, 0, 0, 0, 0), (.getfield 23, 12, 13, 3, 5), (.bipush 72, 0, 0, 0, 0), (.iload_n 3, 0, 0, 0, 0), (.iadd, 0, 0, 0, 0), (.iload 4, 0, 0, 0, 0), (.iastore, 0, 0, 0, 0), (.goto 151, 0, 0, 0, 0)] = true := by decide +kernel
theorem ck_M_does_51 : ia_cks 12 7 false prog_14_method_66_code 51 [(.iconst 0, 0, 0, 0, 0)] = true := by decide +kernel
theorem dc_M_does_210 : decode prog_14_method_66_code 210 = .ok (.invokevirtual 290, 3) := by decide +kernel
theorem dc_M_does_214 : decode prog_14_method_66_code 214 = .ok (.ireturn, 1) := by decide +kernel
theorem dc_M_does_188 : decode prog_14_method_66_code 188 = .ok (.invokevirtual 192, 3) := by decide +kernel
theorem dc_M_does_216 : decode prog_14_method_66_code 216 = .ok (.invokevirtual 240, 3) := by decide +kernel
theorem dc_M_does_220 : decode prog_14_method_66_code 220 = .ok (.ireturn, 1) := by decide +kernel
theorem dc_M_does_195 : decode prog_14_method_66_code 195 = .ok (.ireturn, 1) := by decide +kernel
theorem dc_M_does_107 : decode prog_14_method_66_code 107 = .ok (.invokevirtual 192, 3) := by decide +kernel
theorem dc_M_does_139 : decode prog_14_method_66_code 139 = .ok (.ireturn, 1) := by decide +kernel
theorem dc_M_does_120 : decode prog_14_method_66_code 120 = .ok (.invokevirtual 192, 3) := by decide +kernel
theorem dc_M_does_132 : decode prog_14_method_66_code 132 = .ok (.invokevirtual 287, 3) := by decide +kernel
theorem dc_M_does_74 : decode prog_14_method_66_code 74 = .ok (.invokevirtual 284, 3) := by decide +kernel
theorem dc_M_does_81 : decode prog_14_method_66_code 81 = .ok (.ireturn, 1) := by decide +kernel
theorem dc_M_does_45 : decode prog_14_method_66_code 45 = .ok (.invokevirtual 281, 3) := by decide +kernel
theorem dc_M_does_52 : decode prog_14_method_66_code 52 = .ok (.ireturn, 1) := by decide +kernel
def j_M_does_215 (x1 : Int32) (h : ia_H) : Option (Int32 × ia_H) := (f_M_falls h).bind fun v8 => (some (1, v8))
theorem tj_M_does_215 {w : ia_O0} {d N1 W1 : Nat} {K : ia_K} (hK : ia_isK (d + 8) mm_M_does N1 W1 K) {x1 : Int32} {r : Int32} {h1 : ia_H} (hret : ∀ (pc : Nat) (lv : ia_L), ia_ret mm_M_does pc (some (.inl r)) → K pc lv ((some (.inl r)) : Option ia_V).toList h1) : ∀ (h : ia_H), gd_ w h → j_M_does_215 x1 h = some (r, h1) → K 215 [some (.inr (.inr 417)), none, none, none, none, none, none] [] h := by
  intro h hg hm
  unfold j_M_does_215 at hm
  refine ia_go hK ck_M_does_215 ?_
  show K 216 [some (.inr (.inr 417)), none, none, none, none, none, none] [.inr (.inr 417)] h
  obtain ⟨v8, hv8, hm⟩ := ia_bnd hm
  have ev8 := t_M_falls (d + 2) hg hv8
  have gv8 := g_M_falls hg hv8
  refine ia_cV hK mk_M_falls lk_12_240 dc_M_does_216 417 [] [] rfl rfl (Nat.le_of_ble_eq_true rfl) (by decide) rfl (gk_12 hg pk_417) ev8 (gd_nm hg gv8) ?_
  show K 219 [some (.inr (.inr 417)), none, none, none, none, none, none] [] v8
  refine ia_go hK ck_M_does_219 ?_
  show K 220 [some (.inr (.inr 417)), none, none, none, none, none, none] [.inl 1] v8
  obtain ⟨rfl, rfl⟩ := Prod.mk.inj (Option.some.inj hm)
  exact hret 220 _ ⟨Or.inr rfl, dc_M_does_220⟩
theorem gj_M_does_215 {w : ia_O0} {x1 : Int32} {r : Int32} {h1 : ia_H} : ∀ (h : ia_H), gd_ w h → j_M_does_215 x1 h = some (r, h1) → gd_ w h1 := by
  intro h hg hm
  unfold j_M_does_215 at hm
  obtain ⟨v8, hv8, hm⟩ := ia_bnd hm
  have gv8 := g_M_falls hg hv8
  obtain ⟨rfl, rfl⟩ := Prod.mk.inj (Option.some.inj hm)
  exact gv8
def l_M_does_143 (x1 : Int32) (k174 : ia_H → Option (Int32 × ia_H)) (n : Nat) (x6 : Int32) (h : ia_H) : Option (Int32 × ia_H) := match n with
  | 0 => none
  | n + 1 => if (ia_i h 417 27) ≤ x6 then (k174 h) else (ia_gd (ia_ib x6 36) (ia_gd (ia_ib (36 + (ia_i h 427 ((x6).toNatClampNeg))) 1120) (l_M_does_143 x1 k174 n (x6 + 1) (ia_wI h 422 ((36 + (ia_i h 427 ((x6).toNatClampNeg))).toNatClampNeg) 0))))
theorem tl_M_does_143 {w : ia_O0} {d N1 W1 : Nat} {K : ia_K} (hK : ia_isK (d + 8) mm_M_does N1 W1 K) {x1 : Int32} {r : Int32} {h1 : ia_H} (hret : ∀ (pc : Nat) (lv : ia_L), ia_ret mm_M_does pc (some (.inl r)) → K pc lv ((some (.inl r)) : Option ia_V).toList h1) {k174 : ia_H → Option (Int32 × ia_H)} (hk174 : ∀ (h : ia_H), gd_ w h → k174 h = some (r, h1) → K 174 [some (.inr (.inr 417)), none, none, none, none, none, none] [] h) : ∀ (n : Nat) (x6 : Int32) (h : ia_H), gd_ w h → l_M_does_143 x1 k174 n x6 h = some (r, h1) → K 143 [some (.inr (.inr 417)), none, none, none, none, none, some (.inl x6)] [] h := by
  intro n
  induction n with
  | zero =>
    intro x6 h hg hm
    cases (show (none : Option (Int32 × ia_H)) = some _ from hm)
  | succ n ih =>
    intro x6 h hg hm
    rw [l_M_does_143] at hm
    refine ia_go hK ck_M_does_143 ⟨gk_12 hg pk_417, fun c => ?_, fun c => ?_⟩
    · replace hm := ia_ifp hm c
      show K 174 [some (.inr (.inr 417)), none, none, none, none, none, some (.inl x6)] [] h
      refine ia_fg hK (lv' := [some (.inr (.inr 417)), none, none, none, none, none, none]) ⟨rfl, trivial⟩ ?_
      exact hk174 h hg hm
    · replace hm := ia_ifn hm c
      show K 152 [some (.inr (.inr 417)), none, none, none, none, none, some (.inl x6)] [] h
      obtain ⟨c12, hm⟩ := ia_gd_some hm
      obtain ⟨c13, hm⟩ := ia_gd_some hm
      refine ia_go hK ck_M_does_152 ⟨gk_12 hg pk_417, gr_12_13 hg pk_417, gk_12 hg pk_417, gr_12_26 hg pk_417, ga_i100 hg (ka_12_26 pk_417) c12, ga_s100 hg (ka_12_13 pk_417) c13, ?_⟩
      show K 143 [some (.inr (.inr 417)), none, none, none, none, none, some (.inl (x6 + 1))] [] (ia_wI h 422 ((36 + (ia_i h 427 ((x6).toNatClampNeg))).toNatClampNeg) 0)
      exact ih (x6 + 1) (ia_wI h 422 ((36 + (ia_i h 427 ((x6).toNatClampNeg))).toNatClampNeg) 0) (gd_wI hg (kx_100 (ka_12_13 pk_417))) hm
theorem gl_M_does_143 {w : ia_O0} {x1 : Int32} {r : Int32} {h1 : ia_H} {k174 : ia_H → Option (Int32 × ia_H)} (hk174 : ∀ (h : ia_H), gd_ w h → k174 h = some (r, h1) → gd_ w h1) : ∀ (n : Nat) (x6 : Int32) (h : ia_H), gd_ w h → l_M_does_143 x1 k174 n x6 h = some (r, h1) → gd_ w h1 := by
  intro n
  induction n with
  | zero =>
    intro x6 h hg hm
    cases (show (none : Option (Int32 × ia_H)) = some _ from hm)
  | succ n ih =>
    intro x6 h hg hm
    rw [l_M_does_143] at hm
    by_cases c : (ia_i h 417 27) ≤ x6
    · replace hm := ia_ifp hm c
      exact hk174 h hg hm
    · replace hm := ia_ifn hm c
      obtain ⟨c12, hm⟩ := ia_gd_some hm
      obtain ⟨c13, hm⟩ := ia_gd_some hm
      exact ih (x6 + 1) (ia_wI h 422 ((36 + (ia_i h 427 ((x6).toNatClampNeg))).toNatClampNeg) 0) (gd_wI hg (kx_100 (ka_12_13 pk_417))) hm
def f_M_does (x1 : Int32) (h : ia_H) : Option (Int32 × ia_H) := ia_gd (ia_ib x1 6528) (ia_gd (ia_ib (x1 + 1) 6528) (ia_gd (ia_ib (x1 + 2) 6528) (ia_gd (ia_ib (x1 + 3) 6528) (if (ia_i h 418 ((x1).toNatClampNeg)) = 1 then ((f_M_canMove (ia_i h 418 ((x1 + 1).toNatClampNeg)) (ia_i h 418 ((x1 + 2).toNatClampNeg)) h).bind fun v16 => (if v16.1 = 0 then (some (0, v16.2)) else (ia_gd (ia_ib (72 + (ia_i h 418 ((x1 + 1).toNatClampNeg))) 1120) (j_M_does_215 x1 (ia_wI v16.2 422 ((72 + (ia_i h 418 ((x1 + 1).toNatClampNeg))).toNatClampNeg) (ia_i h 418 ((x1 + 2).toNatClampNeg))))))) else (if (ia_i h 418 ((x1).toNatClampNeg)) = 2 then ((f_M_canGoOff (ia_i h 418 ((x1 + 1).toNatClampNeg)) h).bind fun v14 => (if v14.1 = 0 then (some (0, v14.2)) else (ia_gd (ia_ib (72 + (ia_i h 418 ((x1 + 1).toNatClampNeg))) 1120) (j_M_does_215 x1 (ia_wI v14.2 422 ((72 + (ia_i h 418 ((x1 + 1).toNatClampNeg))).toNatClampNeg) (-1)))))) else (if (ia_i h 418 ((x1).toNatClampNeg)) = 3 then ((f_M_isCell (ia_i h 417 14) (ia_i h 418 ((x1 + 2).toNatClampNeg)) h).bind fun v9 => (if v9 = 0 then (some (0, h)) else ((f_M_isCell (ia_i h 417 14) (ia_i h 418 ((x1 + 3).toNatClampNeg)) h).bind fun v10 => (if v10 = 0 then (some (0, h)) else ((f_M_shortWay (ia_i h 418 ((x1 + 2).toNatClampNeg)) (ia_i h 418 ((x1 + 3).toNatClampNeg)) (ia_i h 418 ((x1 + 1).toNatClampNeg)) h).bind fun v11 => (if v11.1 = 0 then (some (0, v11.2)) else (l_M_does_143 x1 (fun h => j_M_does_215 x1 h) fu_ 0 v11.2))))))) else (if (ia_i h 418 ((x1).toNatClampNeg)) = 4 then ((f_M_isCell (ia_i h 417 14) (ia_i h 418 ((x1 + 1).toNatClampNeg)) h).bind fun v6 => (if v6 = 0 then (some (0, h)) else (ia_gd (ia_ib (36 + (ia_i h 418 ((x1 + 1).toNatClampNeg))) 1120) (j_M_does_215 x1 (ia_wI h 422 ((36 + (ia_i h 418 ((x1 + 1).toNatClampNeg))).toNatClampNeg) 0))))) else ((f_M_aDay h).bind fun v5 => (some (1, v5))))))))))
theorem g_M_does {w : ia_O0} {x1 : Int32} {h : ia_H} (hg : gd_ w h) {q : (Int32 × ia_H)} (hm : f_M_does x1 h = some q) : gd_ w q.2 := by
  obtain ⟨r, h1⟩ := q
  unfold f_M_does at hm
  obtain ⟨c1, hm⟩ := ia_gd_some hm
  obtain ⟨c2, hm⟩ := ia_gd_some hm
  obtain ⟨c3, hm⟩ := ia_gd_some hm
  obtain ⟨c4, hm⟩ := ia_gd_some hm
  by_cases c : (ia_i h 418 ((x1).toNatClampNeg)) = 1
  · replace hm := ia_ifp hm c
    obtain ⟨v16, hv16, hm⟩ := ia_bnd hm
    have gv16 := g_M_canMove hg hv16
    by_cases c : v16.1 = 0
    · replace hm := ia_ifp hm c
      obtain ⟨rfl, rfl⟩ := Prod.mk.inj (Option.some.inj hm)
      exact gv16
    · replace hm := ia_ifn hm c
      obtain ⟨c17, hm⟩ := ia_gd_some hm
      exact gj_M_does_215 (ia_wI v16.2 422 ((72 + (ia_i h 418 ((x1 + 1).toNatClampNeg))).toNatClampNeg) (ia_i h 418 ((x1 + 2).toNatClampNeg))) (gd_wI gv16 (kx_100 (ka_12_13 pk_417))) hm
  · replace hm := ia_ifn hm c
    by_cases c : (ia_i h 418 ((x1).toNatClampNeg)) = 2
    · replace hm := ia_ifp hm c
      obtain ⟨v14, hv14, hm⟩ := ia_bnd hm
      have gv14 := g_M_canGoOff hg hv14
      by_cases c : v14.1 = 0
      · replace hm := ia_ifp hm c
        obtain ⟨rfl, rfl⟩ := Prod.mk.inj (Option.some.inj hm)
        exact gv14
      · replace hm := ia_ifn hm c
        obtain ⟨c15, hm⟩ := ia_gd_some hm
        exact gj_M_does_215 (ia_wI v14.2 422 ((72 + (ia_i h 418 ((x1 + 1).toNatClampNeg))).toNatClampNeg) (-1)) (gd_wI gv14 (kx_100 (ka_12_13 pk_417))) hm
    · replace hm := ia_ifn hm c
      by_cases c : (ia_i h 418 ((x1).toNatClampNeg)) = 3
      · replace hm := ia_ifp hm c
        obtain ⟨v9, hv9, hm⟩ := ia_bnd hm
        by_cases c : v9 = 0
        · replace hm := ia_ifp hm c
          obtain ⟨rfl, rfl⟩ := Prod.mk.inj (Option.some.inj hm)
          exact hg
        · replace hm := ia_ifn hm c
          obtain ⟨v10, hv10, hm⟩ := ia_bnd hm
          by_cases c : v10 = 0
          · replace hm := ia_ifp hm c
            obtain ⟨rfl, rfl⟩ := Prod.mk.inj (Option.some.inj hm)
            exact hg
          · replace hm := ia_ifn hm c
            obtain ⟨v11, hv11, hm⟩ := ia_bnd hm
            have gv11 := g_M_shortWay hg hv11
            by_cases c : v11.1 = 0
            · replace hm := ia_ifp hm c
              obtain ⟨rfl, rfl⟩ := Prod.mk.inj (Option.some.inj hm)
              exact gv11
            · replace hm := ia_ifn hm c
              refine gl_M_does_143 ?_ fu_ 0 v11.2 gv11 hm
              · intro h hg hm
                exact gj_M_does_215 h hg hm
      · replace hm := ia_ifn hm c
        by_cases c : (ia_i h 418 ((x1).toNatClampNeg)) = 4
        · replace hm := ia_ifp hm c
          obtain ⟨v6, hv6, hm⟩ := ia_bnd hm
          by_cases c : v6 = 0
          · replace hm := ia_ifp hm c
            obtain ⟨rfl, rfl⟩ := Prod.mk.inj (Option.some.inj hm)
            exact hg
          · replace hm := ia_ifn hm c
            obtain ⟨c7, hm⟩ := ia_gd_some hm
            exact gj_M_does_215 (ia_wI h 422 ((36 + (ia_i h 418 ((x1 + 1).toNatClampNeg))).toNatClampNeg) 0) (gd_wI hg (kx_100 (ka_12_13 pk_417))) hm
        · replace hm := ia_ifn hm c
          obtain ⟨v5, hv5, hm⟩ := ia_bnd hm
          have gv5 := g_M_aDay hg hv5
          obtain ⟨rfl, rfl⟩ := Prod.mk.inj (Option.some.inj hm)
          exact gv5
theorem t_M_does {w : ia_O0} (d : Nat) {x1 : Int32} {h : ia_H} (hg : gd_ w h) {q : (Int32 × ia_H)} (hm : f_M_does x1 h = some q) : ia_Ev (d + 8) mm_M_does [.inr (.inr 417), .inl x1] h (some (.inl q.1)) q.2 := by
  have gq := g_M_does hg hm
  refine ia_Ev_intro ok_M_does (gd_le hg gq).1 (gd_le hg gq).2 (Nat.le_of_ble_eq_true rfl) (fun K hK hret => ?_)
  obtain ⟨r, h1⟩ := q
  show K 0 [some (.inr (.inr 417)), some (.inl x1), none, none, none, none, none] [] h
  unfold f_M_does at hm
  obtain ⟨c1, hm⟩ := ia_gd_some hm
  obtain ⟨c2, hm⟩ := ia_gd_some hm
  obtain ⟨c3, hm⟩ := ia_gd_some hm
  obtain ⟨c4, hm⟩ := ia_gd_some hm
  refine ia_go hK ck_M_does_0 ⟨gk_12 hg pk_417, gr_12_0 hg pk_417, ga_i100 hg (ka_12_0 pk_417) c1, gk_12 hg pk_417, gr_12_0 hg pk_417, ga_i100 hg (ka_12_0 pk_417) c2, gk_12 hg pk_417, gr_12_0 hg pk_417, ga_i100 hg (ka_12_0 pk_417) c3, gk_12 hg pk_417, gr_12_0 hg pk_417, ga_i100 hg (ka_12_0 pk_417) c4, fun c => ?_, fun c => ?_⟩
  · replace hm := ia_ifn hm c
    show K 67 [some (.inr (.inr 417)), some (.inl x1), some (.inl (ia_i h 418 ((x1).toNatClampNeg))), some (.inl (ia_i h 418 ((x1 + 1).toNatClampNeg))), some (.inl (ia_i h 418 ((x1 + 2).toNatClampNeg))), some (.inl (ia_i h 418 ((x1 + 3).toNatClampNeg))), none] [] h
    refine ia_go hK ck_M_does_67 ⟨fun c => ?_, fun c => ?_⟩
    · replace hm := ia_ifn hm c
      show K 95 [some (.inr (.inr 417)), some (.inl x1), some (.inl (ia_i h 418 ((x1).toNatClampNeg))), some (.inl (ia_i h 418 ((x1 + 1).toNatClampNeg))), some (.inl (ia_i h 418 ((x1 + 2).toNatClampNeg))), some (.inl (ia_i h 418 ((x1 + 3).toNatClampNeg))), none] [] h
      refine ia_go hK ck_M_does_95 ⟨fun c => ?_, fun c => ?_⟩
      · replace hm := ia_ifn hm c
        show K 177 [some (.inr (.inr 417)), some (.inl x1), some (.inl (ia_i h 418 ((x1).toNatClampNeg))), some (.inl (ia_i h 418 ((x1 + 1).toNatClampNeg))), some (.inl (ia_i h 418 ((x1 + 2).toNatClampNeg))), some (.inl (ia_i h 418 ((x1 + 3).toNatClampNeg))), none] [] h
        refine ia_go hK ck_M_does_177 ⟨fun c => ?_, fun c => ?_⟩
        · replace hm := ia_ifn hm c
          show K 209 [some (.inr (.inr 417)), some (.inl x1), some (.inl (ia_i h 418 ((x1).toNatClampNeg))), some (.inl (ia_i h 418 ((x1 + 1).toNatClampNeg))), some (.inl (ia_i h 418 ((x1 + 2).toNatClampNeg))), some (.inl (ia_i h 418 ((x1 + 3).toNatClampNeg))), none] [] h
          refine ia_go hK ck_M_does_209 ?_
          show K 210 [some (.inr (.inr 417)), some (.inl x1), some (.inl (ia_i h 418 ((x1).toNatClampNeg))), some (.inl (ia_i h 418 ((x1 + 1).toNatClampNeg))), some (.inl (ia_i h 418 ((x1 + 2).toNatClampNeg))), some (.inl (ia_i h 418 ((x1 + 3).toNatClampNeg))), none] [.inr (.inr 417)] h
          obtain ⟨v5, hv5, hm⟩ := ia_bnd hm
          have ev5 := t_M_aDay (d + 0) hg hv5
          have gv5 := g_M_aDay hg hv5
          refine ia_cV hK mk_M_aDay lk_12_290 dc_M_does_210 417 [] [] rfl rfl (Nat.le_of_ble_eq_true rfl) (by decide) rfl (gk_12 hg pk_417) ev5 (gd_nm hg gv5) ?_
          show K 213 [some (.inr (.inr 417)), some (.inl x1), some (.inl (ia_i h 418 ((x1).toNatClampNeg))), some (.inl (ia_i h 418 ((x1 + 1).toNatClampNeg))), some (.inl (ia_i h 418 ((x1 + 2).toNatClampNeg))), some (.inl (ia_i h 418 ((x1 + 3).toNatClampNeg))), none] [] v5
          refine ia_go hK ck_M_does_213 ?_
          show K 214 [some (.inr (.inr 417)), some (.inl x1), some (.inl (ia_i h 418 ((x1).toNatClampNeg))), some (.inl (ia_i h 418 ((x1 + 1).toNatClampNeg))), some (.inl (ia_i h 418 ((x1 + 2).toNatClampNeg))), some (.inl (ia_i h 418 ((x1 + 3).toNatClampNeg))), none] [.inl 1] v5
          obtain ⟨rfl, rfl⟩ := Prod.mk.inj (Option.some.inj hm)
          exact hret 214 _ ⟨Or.inr rfl, dc_M_does_214⟩
        · replace hm := ia_ifp hm c
          show K 182 [some (.inr (.inr 417)), some (.inl x1), some (.inl (ia_i h 418 ((x1).toNatClampNeg))), some (.inl (ia_i h 418 ((x1 + 1).toNatClampNeg))), some (.inl (ia_i h 418 ((x1 + 2).toNatClampNeg))), some (.inl (ia_i h 418 ((x1 + 3).toNatClampNeg))), none] [] h
          refine ia_go hK ck_M_does_182 ⟨gk_12 hg pk_417, ?_⟩
          show K 188 [some (.inr (.inr 417)), some (.inl x1), some (.inl (ia_i h 418 ((x1).toNatClampNeg))), some (.inl (ia_i h 418 ((x1 + 1).toNatClampNeg))), some (.inl (ia_i h 418 ((x1 + 2).toNatClampNeg))), some (.inl (ia_i h 418 ((x1 + 3).toNatClampNeg))), none] [.inl (ia_i h 418 ((x1 + 1).toNatClampNeg)), .inl (ia_i h 417 14), .inr (.inr 417)] h
          obtain ⟨v6, hv6, hm⟩ := ia_bnd hm
          have ev6 := t_M_isCell (d + 6) hg hv6
          refine ia_cV hK mk_M_isCell lk_12_192 dc_M_does_188 417 [.inl (ia_i h 417 14), .inl (ia_i h 418 ((x1 + 1).toNatClampNeg))] [] rfl rfl (Nat.le_of_ble_eq_true rfl) (by decide) rfl (gk_12 hg pk_417) ev6 ⟨rfl, rfl⟩ ?_
          show K 191 [some (.inr (.inr 417)), some (.inl x1), some (.inl (ia_i h 418 ((x1).toNatClampNeg))), some (.inl (ia_i h 418 ((x1 + 1).toNatClampNeg))), some (.inl (ia_i h 418 ((x1 + 2).toNatClampNeg))), some (.inl (ia_i h 418 ((x1 + 3).toNatClampNeg))), none] [.inl v6] h
          refine ia_go hK ck_M_does_191 ⟨fun c => ?_, fun c => ?_⟩
          · replace hm := ia_ifn hm c
            show K 196 [some (.inr (.inr 417)), some (.inl x1), some (.inl (ia_i h 418 ((x1).toNatClampNeg))), some (.inl (ia_i h 418 ((x1 + 1).toNatClampNeg))), some (.inl (ia_i h 418 ((x1 + 2).toNatClampNeg))), some (.inl (ia_i h 418 ((x1 + 3).toNatClampNeg))), none] [] h
            obtain ⟨c7, hm⟩ := ia_gd_some hm
            refine ia_go hK ck_M_does_196 ⟨gk_12 hg pk_417, gr_12_13 hg pk_417, ga_s100 hg (ka_12_13 pk_417) c7, ?_⟩
            show K 215 [some (.inr (.inr 417)), some (.inl x1), some (.inl (ia_i h 418 ((x1).toNatClampNeg))), some (.inl (ia_i h 418 ((x1 + 1).toNatClampNeg))), some (.inl (ia_i h 418 ((x1 + 2).toNatClampNeg))), some (.inl (ia_i h 418 ((x1 + 3).toNatClampNeg))), none] [] (ia_wI h 422 ((36 + (ia_i h 418 ((x1 + 1).toNatClampNeg))).toNatClampNeg) 0)
            refine ia_fg hK (lv' := [some (.inr (.inr 417)), none, none, none, none, none, none]) ⟨rfl, trivial⟩ ?_
            exact tj_M_does_215 hK hret (ia_wI h 422 ((36 + (ia_i h 418 ((x1 + 1).toNatClampNeg))).toNatClampNeg) 0) (gd_wI hg (kx_100 (ka_12_13 pk_417))) hm
          · replace hm := ia_ifp hm c
            show K 194 [some (.inr (.inr 417)), some (.inl x1), some (.inl (ia_i h 418 ((x1).toNatClampNeg))), some (.inl (ia_i h 418 ((x1 + 1).toNatClampNeg))), some (.inl (ia_i h 418 ((x1 + 2).toNatClampNeg))), some (.inl (ia_i h 418 ((x1 + 3).toNatClampNeg))), none] [] h
            refine ia_go hK ck_M_does_194 ?_
            show K 195 [some (.inr (.inr 417)), some (.inl x1), some (.inl (ia_i h 418 ((x1).toNatClampNeg))), some (.inl (ia_i h 418 ((x1 + 1).toNatClampNeg))), some (.inl (ia_i h 418 ((x1 + 2).toNatClampNeg))), some (.inl (ia_i h 418 ((x1 + 3).toNatClampNeg))), none] [.inl 0] h
            obtain ⟨rfl, rfl⟩ := Prod.mk.inj (Option.some.inj hm)
            exact hret 195 _ ⟨Or.inl rfl, dc_M_does_195⟩
      · replace hm := ia_ifp hm c
        show K 100 [some (.inr (.inr 417)), some (.inl x1), some (.inl (ia_i h 418 ((x1).toNatClampNeg))), some (.inl (ia_i h 418 ((x1 + 1).toNatClampNeg))), some (.inl (ia_i h 418 ((x1 + 2).toNatClampNeg))), some (.inl (ia_i h 418 ((x1 + 3).toNatClampNeg))), none] [] h
        refine ia_go hK ck_M_does_100 ⟨gk_12 hg pk_417, ?_⟩
        show K 107 [some (.inr (.inr 417)), some (.inl x1), some (.inl (ia_i h 418 ((x1).toNatClampNeg))), some (.inl (ia_i h 418 ((x1 + 1).toNatClampNeg))), some (.inl (ia_i h 418 ((x1 + 2).toNatClampNeg))), some (.inl (ia_i h 418 ((x1 + 3).toNatClampNeg))), none] [.inl (ia_i h 418 ((x1 + 2).toNatClampNeg)), .inl (ia_i h 417 14), .inr (.inr 417)] h
        obtain ⟨v9, hv9, hm⟩ := ia_bnd hm
        have ev9 := t_M_isCell (d + 6) hg hv9
        refine ia_cV hK mk_M_isCell lk_12_192 dc_M_does_107 417 [.inl (ia_i h 417 14), .inl (ia_i h 418 ((x1 + 2).toNatClampNeg))] [] rfl rfl (Nat.le_of_ble_eq_true rfl) (by decide) rfl (gk_12 hg pk_417) ev9 ⟨rfl, rfl⟩ ?_
        show K 110 [some (.inr (.inr 417)), some (.inl x1), some (.inl (ia_i h 418 ((x1).toNatClampNeg))), some (.inl (ia_i h 418 ((x1 + 1).toNatClampNeg))), some (.inl (ia_i h 418 ((x1 + 2).toNatClampNeg))), some (.inl (ia_i h 418 ((x1 + 3).toNatClampNeg))), none] [.inl v9] h
        refine ia_go hK ck_M_does_110 ⟨fun c => ?_, fun c => ?_⟩
        · replace hm := ia_ifp hm c
          show K 138 [some (.inr (.inr 417)), some (.inl x1), some (.inl (ia_i h 418 ((x1).toNatClampNeg))), some (.inl (ia_i h 418 ((x1 + 1).toNatClampNeg))), some (.inl (ia_i h 418 ((x1 + 2).toNatClampNeg))), some (.inl (ia_i h 418 ((x1 + 3).toNatClampNeg))), none] [] h
          refine ia_go hK ck_M_does_138 ?_
          show K 139 [some (.inr (.inr 417)), some (.inl x1), some (.inl (ia_i h 418 ((x1).toNatClampNeg))), some (.inl (ia_i h 418 ((x1 + 1).toNatClampNeg))), some (.inl (ia_i h 418 ((x1 + 2).toNatClampNeg))), some (.inl (ia_i h 418 ((x1 + 3).toNatClampNeg))), none] [.inl 0] h
          obtain ⟨rfl, rfl⟩ := Prod.mk.inj (Option.some.inj hm)
          exact hret 139 _ ⟨Or.inl rfl, dc_M_does_139⟩
        · replace hm := ia_ifn hm c
          show K 113 [some (.inr (.inr 417)), some (.inl x1), some (.inl (ia_i h 418 ((x1).toNatClampNeg))), some (.inl (ia_i h 418 ((x1 + 1).toNatClampNeg))), some (.inl (ia_i h 418 ((x1 + 2).toNatClampNeg))), some (.inl (ia_i h 418 ((x1 + 3).toNatClampNeg))), none] [] h
          refine ia_go hK ck_M_does_113 ⟨gk_12 hg pk_417, ?_⟩
          show K 120 [some (.inr (.inr 417)), some (.inl x1), some (.inl (ia_i h 418 ((x1).toNatClampNeg))), some (.inl (ia_i h 418 ((x1 + 1).toNatClampNeg))), some (.inl (ia_i h 418 ((x1 + 2).toNatClampNeg))), some (.inl (ia_i h 418 ((x1 + 3).toNatClampNeg))), none] [.inl (ia_i h 418 ((x1 + 3).toNatClampNeg)), .inl (ia_i h 417 14), .inr (.inr 417)] h
          obtain ⟨v10, hv10, hm⟩ := ia_bnd hm
          have ev10 := t_M_isCell (d + 6) hg hv10
          refine ia_cV hK mk_M_isCell lk_12_192 dc_M_does_120 417 [.inl (ia_i h 417 14), .inl (ia_i h 418 ((x1 + 3).toNatClampNeg))] [] rfl rfl (Nat.le_of_ble_eq_true rfl) (by decide) rfl (gk_12 hg pk_417) ev10 ⟨rfl, rfl⟩ ?_
          show K 123 [some (.inr (.inr 417)), some (.inl x1), some (.inl (ia_i h 418 ((x1).toNatClampNeg))), some (.inl (ia_i h 418 ((x1 + 1).toNatClampNeg))), some (.inl (ia_i h 418 ((x1 + 2).toNatClampNeg))), some (.inl (ia_i h 418 ((x1 + 3).toNatClampNeg))), none] [.inl v10] h
          refine ia_go hK ck_M_does_123 ⟨fun c => ?_, fun c => ?_⟩
          · replace hm := ia_ifp hm c
            show K 138 [some (.inr (.inr 417)), some (.inl x1), some (.inl (ia_i h 418 ((x1).toNatClampNeg))), some (.inl (ia_i h 418 ((x1 + 1).toNatClampNeg))), some (.inl (ia_i h 418 ((x1 + 2).toNatClampNeg))), some (.inl (ia_i h 418 ((x1 + 3).toNatClampNeg))), none] [] h
            refine ia_go hK ck_M_does_138 ?_
            show K 139 [some (.inr (.inr 417)), some (.inl x1), some (.inl (ia_i h 418 ((x1).toNatClampNeg))), some (.inl (ia_i h 418 ((x1 + 1).toNatClampNeg))), some (.inl (ia_i h 418 ((x1 + 2).toNatClampNeg))), some (.inl (ia_i h 418 ((x1 + 3).toNatClampNeg))), none] [.inl 0] h
            obtain ⟨rfl, rfl⟩ := Prod.mk.inj (Option.some.inj hm)
            exact hret 139 _ ⟨Or.inl rfl, dc_M_does_139⟩
          · replace hm := ia_ifn hm c
            show K 126 [some (.inr (.inr 417)), some (.inl x1), some (.inl (ia_i h 418 ((x1).toNatClampNeg))), some (.inl (ia_i h 418 ((x1 + 1).toNatClampNeg))), some (.inl (ia_i h 418 ((x1 + 2).toNatClampNeg))), some (.inl (ia_i h 418 ((x1 + 3).toNatClampNeg))), none] [] h
            refine ia_go hK ck_M_does_126 ?_
            show K 132 [some (.inr (.inr 417)), some (.inl x1), some (.inl (ia_i h 418 ((x1).toNatClampNeg))), some (.inl (ia_i h 418 ((x1 + 1).toNatClampNeg))), some (.inl (ia_i h 418 ((x1 + 2).toNatClampNeg))), some (.inl (ia_i h 418 ((x1 + 3).toNatClampNeg))), none] [.inl (ia_i h 418 ((x1 + 1).toNatClampNeg)), .inl (ia_i h 418 ((x1 + 3).toNatClampNeg)), .inl (ia_i h 418 ((x1 + 2).toNatClampNeg)), .inr (.inr 417)] h
            obtain ⟨v11, hv11, hm⟩ := ia_bnd hm
            have ev11 := t_M_shortWay (d + 0) hg hv11
            have gv11 := g_M_shortWay hg hv11
            refine ia_cV hK mk_M_shortWay lk_12_287 dc_M_does_132 417 [.inl (ia_i h 418 ((x1 + 2).toNatClampNeg)), .inl (ia_i h 418 ((x1 + 3).toNatClampNeg)), .inl (ia_i h 418 ((x1 + 1).toNatClampNeg))] [] rfl rfl (Nat.le_of_ble_eq_true rfl) (by decide) rfl (gk_12 hg pk_417) ev11 (gd_nm hg gv11) ?_
            show K 135 [some (.inr (.inr 417)), some (.inl x1), some (.inl (ia_i h 418 ((x1).toNatClampNeg))), some (.inl (ia_i h 418 ((x1 + 1).toNatClampNeg))), some (.inl (ia_i h 418 ((x1 + 2).toNatClampNeg))), some (.inl (ia_i h 418 ((x1 + 3).toNatClampNeg))), none] [.inl v11.1] v11.2
            refine ia_go hK ck_M_does_135 ⟨fun c => ?_, fun c => ?_⟩
            · replace hm := ia_ifn hm c
              show K 140 [some (.inr (.inr 417)), some (.inl x1), some (.inl (ia_i h 418 ((x1).toNatClampNeg))), some (.inl (ia_i h 418 ((x1 + 1).toNatClampNeg))), some (.inl (ia_i h 418 ((x1 + 2).toNatClampNeg))), some (.inl (ia_i h 418 ((x1 + 3).toNatClampNeg))), none] [] v11.2
              refine ia_go hK ck_M_does_140 ?_
              show K 143 [some (.inr (.inr 417)), some (.inl x1), some (.inl (ia_i h 418 ((x1).toNatClampNeg))), some (.inl (ia_i h 418 ((x1 + 1).toNatClampNeg))), some (.inl (ia_i h 418 ((x1 + 2).toNatClampNeg))), some (.inl (ia_i h 418 ((x1 + 3).toNatClampNeg))), some (.inl 0)] [] v11.2
              refine ia_fg hK (lv' := [some (.inr (.inr 417)), none, none, none, none, none, some (.inl 0)]) ⟨rfl, rfl, trivial⟩ ?_
              refine tl_M_does_143 hK hret ?_ fu_ 0 v11.2 gv11 hm
              · intro h hg hm
                refine ia_go hK ck_M_does_174 ?_
                show K 215 [some (.inr (.inr 417)), none, none, none, none, none, none] [] h
                exact tj_M_does_215 hK hret h hg hm
            · replace hm := ia_ifp hm c
              show K 138 [some (.inr (.inr 417)), some (.inl x1), some (.inl (ia_i h 418 ((x1).toNatClampNeg))), some (.inl (ia_i h 418 ((x1 + 1).toNatClampNeg))), some (.inl (ia_i h 418 ((x1 + 2).toNatClampNeg))), some (.inl (ia_i h 418 ((x1 + 3).toNatClampNeg))), none] [] v11.2
              refine ia_go hK ck_M_does_138 ?_
              show K 139 [some (.inr (.inr 417)), some (.inl x1), some (.inl (ia_i h 418 ((x1).toNatClampNeg))), some (.inl (ia_i h 418 ((x1 + 1).toNatClampNeg))), some (.inl (ia_i h 418 ((x1 + 2).toNatClampNeg))), some (.inl (ia_i h 418 ((x1 + 3).toNatClampNeg))), none] [.inl 0] v11.2
              obtain ⟨rfl, rfl⟩ := Prod.mk.inj (Option.some.inj hm)
              exact hret 139 _ ⟨Or.inl rfl, dc_M_does_139⟩
    · replace hm := ia_ifp hm c
      show K 72 [some (.inr (.inr 417)), some (.inl x1), some (.inl (ia_i h 418 ((x1).toNatClampNeg))), some (.inl (ia_i h 418 ((x1 + 1).toNatClampNeg))), some (.inl (ia_i h 418 ((x1 + 2).toNatClampNeg))), some (.inl (ia_i h 418 ((x1 + 3).toNatClampNeg))), none] [] h
      refine ia_go hK ck_M_does_72 ?_
      show K 74 [some (.inr (.inr 417)), some (.inl x1), some (.inl (ia_i h 418 ((x1).toNatClampNeg))), some (.inl (ia_i h 418 ((x1 + 1).toNatClampNeg))), some (.inl (ia_i h 418 ((x1 + 2).toNatClampNeg))), some (.inl (ia_i h 418 ((x1 + 3).toNatClampNeg))), none] [.inl (ia_i h 418 ((x1 + 1).toNatClampNeg)), .inr (.inr 417)] h
      obtain ⟨v14, hv14, hm⟩ := ia_bnd hm
      have ev14 := t_M_canGoOff (d + 0) hg hv14
      have gv14 := g_M_canGoOff hg hv14
      refine ia_cV hK mk_M_canGoOff lk_12_284 dc_M_does_74 417 [.inl (ia_i h 418 ((x1 + 1).toNatClampNeg))] [] rfl rfl (Nat.le_of_ble_eq_true rfl) (by decide) rfl (gk_12 hg pk_417) ev14 (gd_nm hg gv14) ?_
      show K 77 [some (.inr (.inr 417)), some (.inl x1), some (.inl (ia_i h 418 ((x1).toNatClampNeg))), some (.inl (ia_i h 418 ((x1 + 1).toNatClampNeg))), some (.inl (ia_i h 418 ((x1 + 2).toNatClampNeg))), some (.inl (ia_i h 418 ((x1 + 3).toNatClampNeg))), none] [.inl v14.1] v14.2
      refine ia_go hK ck_M_does_77 ⟨fun c => ?_, fun c => ?_⟩
      · replace hm := ia_ifn hm c
        show K 82 [some (.inr (.inr 417)), some (.inl x1), some (.inl (ia_i h 418 ((x1).toNatClampNeg))), some (.inl (ia_i h 418 ((x1 + 1).toNatClampNeg))), some (.inl (ia_i h 418 ((x1 + 2).toNatClampNeg))), some (.inl (ia_i h 418 ((x1 + 3).toNatClampNeg))), none] [] v14.2
        obtain ⟨c15, hm⟩ := ia_gd_some hm
        refine ia_go hK ck_M_does_82 ⟨gk_12 gv14 pk_417, gr_12_13 gv14 pk_417, ga_s100 gv14 (ka_12_13 pk_417) c15, ?_⟩
        show K 215 [some (.inr (.inr 417)), some (.inl x1), some (.inl (ia_i h 418 ((x1).toNatClampNeg))), some (.inl (ia_i h 418 ((x1 + 1).toNatClampNeg))), some (.inl (ia_i h 418 ((x1 + 2).toNatClampNeg))), some (.inl (ia_i h 418 ((x1 + 3).toNatClampNeg))), none] [] (ia_wI v14.2 422 ((72 + (ia_i h 418 ((x1 + 1).toNatClampNeg))).toNatClampNeg) (-1))
        refine ia_fg hK (lv' := [some (.inr (.inr 417)), none, none, none, none, none, none]) ⟨rfl, trivial⟩ ?_
        exact tj_M_does_215 hK hret (ia_wI v14.2 422 ((72 + (ia_i h 418 ((x1 + 1).toNatClampNeg))).toNatClampNeg) (-1)) (gd_wI gv14 (kx_100 (ka_12_13 pk_417))) hm
      · replace hm := ia_ifp hm c
        show K 80 [some (.inr (.inr 417)), some (.inl x1), some (.inl (ia_i h 418 ((x1).toNatClampNeg))), some (.inl (ia_i h 418 ((x1 + 1).toNatClampNeg))), some (.inl (ia_i h 418 ((x1 + 2).toNatClampNeg))), some (.inl (ia_i h 418 ((x1 + 3).toNatClampNeg))), none] [] v14.2
        refine ia_go hK ck_M_does_80 ?_
        show K 81 [some (.inr (.inr 417)), some (.inl x1), some (.inl (ia_i h 418 ((x1).toNatClampNeg))), some (.inl (ia_i h 418 ((x1 + 1).toNatClampNeg))), some (.inl (ia_i h 418 ((x1 + 2).toNatClampNeg))), some (.inl (ia_i h 418 ((x1 + 3).toNatClampNeg))), none] [.inl 0] v14.2
        obtain ⟨rfl, rfl⟩ := Prod.mk.inj (Option.some.inj hm)
        exact hret 81 _ ⟨Or.inl rfl, dc_M_does_81⟩
  · replace hm := ia_ifp hm c
    show K 41 [some (.inr (.inr 417)), some (.inl x1), some (.inl (ia_i h 418 ((x1).toNatClampNeg))), some (.inl (ia_i h 418 ((x1 + 1).toNatClampNeg))), some (.inl (ia_i h 418 ((x1 + 2).toNatClampNeg))), some (.inl (ia_i h 418 ((x1 + 3).toNatClampNeg))), none] [] h
    refine ia_go hK ck_M_does_41 ?_
    show K 45 [some (.inr (.inr 417)), some (.inl x1), some (.inl (ia_i h 418 ((x1).toNatClampNeg))), some (.inl (ia_i h 418 ((x1 + 1).toNatClampNeg))), some (.inl (ia_i h 418 ((x1 + 2).toNatClampNeg))), some (.inl (ia_i h 418 ((x1 + 3).toNatClampNeg))), none] [.inl (ia_i h 418 ((x1 + 2).toNatClampNeg)), .inl (ia_i h 418 ((x1 + 1).toNatClampNeg)), .inr (.inr 417)] h
    obtain ⟨v16, hv16, hm⟩ := ia_bnd hm
    have ev16 := t_M_canMove (d + 0) hg hv16
    have gv16 := g_M_canMove hg hv16
    refine ia_cV hK mk_M_canMove lk_12_281 dc_M_does_45 417 [.inl (ia_i h 418 ((x1 + 1).toNatClampNeg)), .inl (ia_i h 418 ((x1 + 2).toNatClampNeg))] [] rfl rfl (Nat.le_of_ble_eq_true rfl) (by decide) rfl (gk_12 hg pk_417) ev16 (gd_nm hg gv16) ?_
    show K 48 [some (.inr (.inr 417)), some (.inl x1), some (.inl (ia_i h 418 ((x1).toNatClampNeg))), some (.inl (ia_i h 418 ((x1 + 1).toNatClampNeg))), some (.inl (ia_i h 418 ((x1 + 2).toNatClampNeg))), some (.inl (ia_i h 418 ((x1 + 3).toNatClampNeg))), none] [.inl v16.1] v16.2
    refine ia_go hK ck_M_does_48 ⟨fun c => ?_, fun c => ?_⟩
    · replace hm := ia_ifn hm c
      show K 53 [some (.inr (.inr 417)), some (.inl x1), some (.inl (ia_i h 418 ((x1).toNatClampNeg))), some (.inl (ia_i h 418 ((x1 + 1).toNatClampNeg))), some (.inl (ia_i h 418 ((x1 + 2).toNatClampNeg))), some (.inl (ia_i h 418 ((x1 + 3).toNatClampNeg))), none] [] v16.2
      obtain ⟨c17, hm⟩ := ia_gd_some hm
      refine ia_go hK ck_M_does_53 ⟨gk_12 gv16 pk_417, gr_12_13 gv16 pk_417, ga_s100 gv16 (ka_12_13 pk_417) c17, ?_⟩
      show K 215 [some (.inr (.inr 417)), some (.inl x1), some (.inl (ia_i h 418 ((x1).toNatClampNeg))), some (.inl (ia_i h 418 ((x1 + 1).toNatClampNeg))), some (.inl (ia_i h 418 ((x1 + 2).toNatClampNeg))), some (.inl (ia_i h 418 ((x1 + 3).toNatClampNeg))), none] [] (ia_wI v16.2 422 ((72 + (ia_i h 418 ((x1 + 1).toNatClampNeg))).toNatClampNeg) (ia_i h 418 ((x1 + 2).toNatClampNeg)))
      refine ia_fg hK (lv' := [some (.inr (.inr 417)), none, none, none, none, none, none]) ⟨rfl, trivial⟩ ?_
      exact tj_M_does_215 hK hret (ia_wI v16.2 422 ((72 + (ia_i h 418 ((x1 + 1).toNatClampNeg))).toNatClampNeg) (ia_i h 418 ((x1 + 2).toNatClampNeg))) (gd_wI gv16 (kx_100 (ka_12_13 pk_417))) hm
    · replace hm := ia_ifp hm c
      show K 51 [some (.inr (.inr 417)), some (.inl x1), some (.inl (ia_i h 418 ((x1).toNatClampNeg))), some (.inl (ia_i h 418 ((x1 + 1).toNatClampNeg))), some (.inl (ia_i h 418 ((x1 + 2).toNatClampNeg))), some (.inl (ia_i h 418 ((x1 + 3).toNatClampNeg))), none] [] v16.2
      refine ia_go hK ck_M_does_51 ?_
      show K 52 [some (.inr (.inr 417)), some (.inl x1), some (.inl (ia_i h 418 ((x1).toNatClampNeg))), some (.inl (ia_i h 418 ((x1 + 1).toNatClampNeg))), some (.inl (ia_i h 418 ((x1 + 2).toNatClampNeg))), some (.inl (ia_i h 418 ((x1 + 3).toNatClampNeg))), none] [.inl 0] v16.2
      obtain ⟨rfl, rfl⟩ := Prod.mk.inj (Option.some.inj hm)
      exact hret 52 _ ⟨Or.inl rfl, dc_M_does_52⟩
