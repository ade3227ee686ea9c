def mm_Wa_find : ia_M := (⟨"IceStreet$Ways", "find", "(IIII)Z"⟩, prog_12_method_4_code, 5, (some .boolean), 11, false)
theorem ok_Wa_find : ia_mok mm_Wa_find := ⟨by decide +kernel, by decide +kernel, by decide +kernel, by decide +kernel⟩
theorem mk_Wa_find : ia_mkn mm_Wa_find 1 4 := ⟨ia_tb_in (List.mem_of_getElem? (i := 1230) (by decide +kernel)) rfl, ia_tb_in (List.mem_of_getElem? (i := 141) (by decide +kernel)) rfl, by decide +kernel, by decide +kernel, ⟨ia_tb_in (List.mem_of_getElem? (i := 1228) (by decide +kernel)) rfl, ia_tb_in (List.mem_of_getElem? (i := 1229) (by decide +kernel)) rfl⟩⟩
theorem ck_Wa_find_0 : ia_cks 11 5 false prog_12_method_4_code 0 [(.iload_n 1, 0, 0, 0, 0), (.tableswitch 54 0 2 #[27, 36, 45], 0, 0, 0, 0)] = true := by decide +kernel
theorem ck_Wa_find_28 : ia_cks 11 5 false prog_12_method_4_code 28 [(.aload_n 0, 0, 0, 0, 0), (.iload_n 2, 0, 0, 0, 0), (.iload_n 3, 0, 0, 0, 0), (.iload 4, 0, 0, 0, 0)] = true := by decide +kernel
theorem ck_Wa_find_37 : ia_cks 11 5 false prog_12_method_4_code 37 [(.aload_n 0, 0, 0, 0, 0), (.iload_n 2, 0, 0, 0, 0), (.iload_n 3, 0, 0, 0, 0), (.iload 4, 0, 0, 0, 0)] = true := by decide +kernel
theorem ck_Wa_find_46 : ia_cks 11 5 false prog_12_method_4_code 46 [(.aload_n 0, 0, 0, 0, 0), (.iload_n 2, 0, 0, 0, 0), (.iload_n 3, 0, 0, 0, 0), (.iload 4, 0, 0, 0, 0)] = true := by decide +kernel
theorem ck_Wa_find_55 : ia_cks 11 5 false prog_12_method_4_code 55 [(.iconst 0, 0, 0, 0, 0)] = true := by decide +kernel
theorem dc_Wa_find_33 : decode prog_12_method_4_code 33 = .ok (.invokevirtual 73, 3) := by decide +kernel
theorem dc_Wa_find_36 : decode prog_12_method_4_code 36 = .ok (.ireturn, 1) := by decide +kernel
theorem dc_Wa_find_42 : decode prog_12_method_4_code 42 = .ok (.invokevirtual 77, 3) := by decide +kernel
theorem dc_Wa_find_45 : decode prog_12_method_4_code 45 = .ok (.ireturn, 1) := by decide +kernel
theorem dc_Wa_find_51 : decode prog_12_method_4_code 51 = .ok (.invokevirtual 80, 3) := by decide +kernel
theorem dc_Wa_find_54 : decode prog_12_method_4_code 54 = .ok (.ireturn, 1) := by decide +kernel
theorem dc_Wa_find_56 : decode prog_12_method_4_code 56 = .ok (.ireturn, 1) := by decide +kernel
def f_Wa_find (x1 : Int32) (x2 : Int32) (x3 : Int32) (x4 : Int32) (h : ia_H) : Option (Int32 × ia_H) := if x1 = 0 then ((f_Wa_findShort x2 x3 x4 h).bind fun v1 => (ia_gd (ia_z1 v1.1) (some (v1.1, v1.2)))) else if x1 = 1 then ((f_Wa_findSpare x2 x3 x4 h).bind fun v4 => (ia_gd (ia_z1 v4.1) (some (v4.1, v4.2)))) else if x1 = 2 then ((f_Wa_findLucky x2 x3 x4 h).bind fun v7 => (ia_gd (ia_z1 v7.1) (some (v7.1, v7.2)))) else (some (0, h))
theorem g_Wa_find {w : ia_O0} {x1 : Int32} {x2 : Int32} {x3 : Int32} {x4 : Int32} {h : ia_H} (hg : gd_ w h) {q : (Int32 × ia_H)} (hm : f_Wa_find x1 x2 x3 x4 h = some q) : gd_ w q.2 := by
  obtain ⟨r, h1⟩ := q
  unfold f_Wa_find at hm
  by_cases c3 : x1 = 0
  · replace hm := ia_ifp hm c3
    obtain ⟨v1, hv1, hm⟩ := ia_bnd hm
    have gv1 := g_Wa_findShort hg hv1
    obtain ⟨c2, hm⟩ := ia_gd_some hm
    obtain ⟨rfl, rfl⟩ := Prod.mk.inj (Option.some.inj hm)
    exact gv1
  · replace hm := ia_ifn hm c3
    by_cases c6 : x1 = 1
    · replace hm := ia_ifp hm c6
      obtain ⟨v4, hv4, hm⟩ := ia_bnd hm
      have gv4 := g_Wa_findSpare hg hv4
      obtain ⟨c5, hm⟩ := ia_gd_some hm
      obtain ⟨rfl, rfl⟩ := Prod.mk.inj (Option.some.inj hm)
      exact gv4
    · replace hm := ia_ifn hm c6
      by_cases c9 : x1 = 2
      · replace hm := ia_ifp hm c9
        obtain ⟨v7, hv7, hm⟩ := ia_bnd hm
        have gv7 := g_Wa_findLucky hg hv7
        obtain ⟨c8, hm⟩ := ia_gd_some hm
        obtain ⟨rfl, rfl⟩ := Prod.mk.inj (Option.some.inj hm)
        exact gv7
      · replace hm := ia_ifn hm c9
        obtain ⟨rfl, rfl⟩ := Prod.mk.inj (Option.some.inj hm)
        exact hg
theorem t_Wa_find {w : ia_O0} (d : Nat) {x1 : Int32} {x2 : Int32} {x3 : Int32} {x4 : Int32} {h : ia_H} (hg : gd_ w h) {q : (Int32 × ia_H)} (hm : f_Wa_find x1 x2 x3 x4 h = some q) : ia_Ev (d + 4) mm_Wa_find [.inr (.inr 311), .inl x1, .inl x2, .inl x3, .inl x4] h (some (.inl q.1)) q.2 := by
  have gq := g_Wa_find hg hm
  refine ia_Ev_intro ok_Wa_find (gd_le hg gq).1 (gd_le hg gq).2 (Nat.le_of_ble_eq_true rfl) (fun K hK hret => ?_)
  obtain ⟨r, h1⟩ := q
  show K 0 [some (.inr (.inr 311)), some (.inl x1), some (.inl x2), some (.inl x3), some (.inl x4)] [] h
  unfold f_Wa_find at hm
  refine ia_go hK ck_Wa_find_0 ?_
  show K (ia_tsw 1 54 0 2 #[27, 36, 45] x1) [some (.inr (.inr 311)), some (.inl x1), some (.inl x2), some (.inl x3), some (.inl x4)] [] h
  by_cases c3 : x1 = 0
  · replace hm := ia_ifp hm c3
    rw [show ia_tsw 1 54 0 2 #[27, 36, 45] x1 = 28 from by rw [c3]; decide]
    refine ia_go hK ck_Wa_find_28 ?_
    show K 33 [some (.inr (.inr 311)), some (.inl x1), some (.inl x2), some (.inl x3), some (.inl x4)] [.inl x4, .inl x3, .inl x2, .inr (.inr 311)] h
    obtain ⟨v1, hv1, hm⟩ := ia_bnd hm
    have ev1 := t_Wa_findShort (d + 1) hg hv1
    have gv1 := g_Wa_findShort hg hv1
    refine ia_cV hK mk_Wa_findShort lk_11_73 dc_Wa_find_33 311 [.inl x2, .inl x3, .inl x4] [] rfl rfl (Nat.le_of_ble_eq_true rfl) (by decide) rfl (gk_11 hg pk_311) ev1 (gd_nm hg gv1) ?_
    show K 36 [some (.inr (.inr 311)), some (.inl x1), some (.inl x2), some (.inl x3), some (.inl x4)] [.inl v1.1] v1.2
    obtain ⟨c2, hm⟩ := ia_gd_some hm
    obtain ⟨rfl, rfl⟩ := Prod.mk.inj (Option.some.inj hm)
    exact hret 36 _ ⟨ia_z1_spec c2, dc_Wa_find_36⟩
  · replace hm := ia_ifn hm c3
    by_cases c6 : x1 = 1
    · replace hm := ia_ifp hm c6
      rw [show ia_tsw 1 54 0 2 #[27, 36, 45] x1 = 37 from by rw [c6]; decide]
      refine ia_go hK ck_Wa_find_37 ?_
      show K 42 [some (.inr (.inr 311)), some (.inl x1), some (.inl x2), some (.inl x3), some (.inl x4)] [.inl x4, .inl x3, .inl x2, .inr (.inr 311)] h
      obtain ⟨v4, hv4, hm⟩ := ia_bnd hm
      have ev4 := t_Wa_findSpare (d + 0) hg hv4
      have gv4 := g_Wa_findSpare hg hv4
      refine ia_cV hK mk_Wa_findSpare lk_11_77 dc_Wa_find_42 311 [.inl x2, .inl x3, .inl x4] [] rfl rfl (Nat.le_of_ble_eq_true rfl) (by decide) rfl (gk_11 hg pk_311) ev4 (gd_nm hg gv4) ?_
      show K 45 [some (.inr (.inr 311)), some (.inl x1), some (.inl x2), some (.inl x3), some (.inl x4)] [.inl v4.1] v4.2
      obtain ⟨c5, hm⟩ := ia_gd_some hm
      obtain ⟨rfl, rfl⟩ := Prod.mk.inj (Option.some.inj hm)
      exact hret 45 _ ⟨ia_z1_spec c5, dc_Wa_find_45⟩
    · replace hm := ia_ifn hm c6
      by_cases c9 : x1 = 2
      · replace hm := ia_ifp hm c9
        rw [show ia_tsw 1 54 0 2 #[27, 36, 45] x1 = 46 from by rw [c9]; decide]
        refine ia_go hK ck_Wa_find_46 ?_
        show K 51 [some (.inr (.inr 311)), some (.inl x1), some (.inl x2), some (.inl x3), some (.inl x4)] [.inl x4, .inl x3, .inl x2, .inr (.inr 311)] h
        obtain ⟨v7, hv7, hm⟩ := ia_bnd hm
        have ev7 := t_Wa_findLucky (d + 0) hg hv7
        have gv7 := g_Wa_findLucky hg hv7
        refine ia_cV hK mk_Wa_findLucky lk_11_80 dc_Wa_find_51 311 [.inl x2, .inl x3, .inl x4] [] rfl rfl (Nat.le_of_ble_eq_true rfl) (by decide) rfl (gk_11 hg pk_311) ev7 (gd_nm hg gv7) ?_
        show K 54 [some (.inr (.inr 311)), some (.inl x1), some (.inl x2), some (.inl x3), some (.inl x4)] [.inl v7.1] v7.2
        obtain ⟨c8, hm⟩ := ia_gd_some hm
        obtain ⟨rfl, rfl⟩ := Prod.mk.inj (Option.some.inj hm)
        exact hret 54 _ ⟨ia_z1_spec c8, dc_Wa_find_54⟩
      · replace hm := ia_ifn hm c9
        rw [show ia_tsw 1 54 0 2 #[27, 36, 45] x1 = 55 from (ia_tsw_d (fun k h1 h2 => by
            rcases (show k = 0 ∨ k = 1 ∨ k = 2 by omega) with rfl | rfl | rfl
            · exact c3
            · exact c6
            · exact c9
            )).trans (by decide)]
        refine ia_go hK ck_Wa_find_55 ?_
        show K 56 [some (.inr (.inr 311)), some (.inl x1), some (.inl x2), some (.inl x3), some (.inl x4)] [.inl 0] h
        obtain ⟨rfl, rfl⟩ := Prod.mk.inj (Option.some.inj hm)
        exact hret 56 _ ⟨Or.inl rfl, dc_Wa_find_56⟩
def mm_I_way : ia_M := (⟨"IceStreet", "way", "(IIIIIIIII)I"⟩, prog_1_method_16_code, 10, (some .int), 0, false)
theorem ok_I_way : ia_mok mm_I_way := ⟨by decide +kernel, by decide +kernel, by decide +kernel, by decide +kernel⟩
theorem mk_I_way : ia_mkn mm_I_way 1 9 := ⟨ia_tb_in (List.mem_of_getElem? (i := 1218) (by decide +kernel)) rfl, ia_tb_in (List.mem_of_getElem? (i := 133) (by decide +kernel)) rfl, by decide +kernel, by decide +kernel, ⟨ia_tb_in (List.mem_of_getElem? (i := 1216) (by decide +kernel)) rfl, ia_tb_in (List.mem_of_getElem? (i := 1217) (by decide +kernel)) rfl⟩⟩
theorem ck_I_way_0 : ia_cks 0 10 false prog_1_method_16_code 0 [(.aload_n 0, 0, 0, 0, 0), (.iload_n 1, 0, 0, 0, 0), (.iload_n 2, 0, 0, 0, 0), (.iload_n 3, 0, 0, 0, 0), (.iload 4, 0, 0, 0, 0)] = true := by decide +kernel
theorem ck_I_way_9 : ia_cks 0 10 false prog_1_method_16_code 9 [(.ifCond .eq 16, 0, 0, 0, 0)] = true := by decide +kernel
theorem ck_I_way_25 : ia_cks 0 10 false prog_1_method_16_code 25 [(.iconst (-1), 0, 0, 0, 0)] = true := by decide +kernel
theorem ck_I_way_12 : ia_cks 0 10 false prog_1_method_16_code 12 [(.aload_n 0, 0, 0, 0, 0), (.iload 5, 0, 0, 0, 0), (.iload 6, 0, 0, 0, 0), (.iload 7, 0, 0, 0, 0)] = true := by decide +kernel
theorem ck_I_way_22 : ia_cks 0 10 false prog_1_method_16_code 22 [(.ifCond .ne 5, 0, 0, 0, 0)] = true := by decide +kernel
theorem ck_I_way_27 : ia_cks 0 10 false prog_1_method_16_code 27 [(.aload_n 0, 0, 0, 0, 0), (.getfield 51, 0, 5, 3, 247), (.aload_n 0, 0, 0, 0, 0), (.getfield 44, 0, 4, 3, 239), (.iconst 0, 0, 0, 0, 0)] = true := by decide +kernel
theorem ck_I_way_39 : ia_cks 0 10 false prog_1_method_16_code 39 [(.aload_n 0, 0, 0, 0, 0), (.getfield 51, 0, 5, 3, 247), (.iload 8, 0, 0, 0, 0), (.iload 5, 0, 0, 0, 0), (.iload 6, 0, 0, 0, 0), (.iload 7, 0, 0, 0, 0)] = true := by decide +kernel
theorem ck_I_way_54 : ia_cks 0 10 false prog_1_method_16_code 54 [(.ifCond .ne 5, 0, 0, 0, 0)] = true := by decide +kernel
theorem ck_I_way_59 : ia_cks 0 10 false prog_1_method_16_code 59 [(.iload 9, 0, 0, 0, 0), (.ifCond .ne 11, 0, 0, 0, 0)] = true := by decide +kernel
theorem ck_I_way_72 : ia_cks 0 10 false prog_1_method_16_code 72 [(.iload 9, 0, 0, 0, 0), (.iconst 1, 0, 0, 0, 0), (.if_icmp .ne 21, 0, 0, 0, 0)] = true := by decide +kernel
theorem ck_I_way_96 : ia_cks 0 10 false prog_1_method_16_code 96 [(.iload 9, 0, 0, 0, 0), (.bipush 10, 0, 0, 0, 0), (.if_icmp .lt 34, 0, 0, 0, 0)] = true := by decide +kernel
theorem ck_I_way_134 : ia_cks 0 10 false prog_1_method_16_code 134 [(.iconst (-1), 0, 0, 0, 0)] = true := by decide +kernel
theorem ck_I_way_103 : ia_cks 0 10 false prog_1_method_16_code 103 [(.iload 9, 0, 0, 0, 0), (.bipush 10, 0, 0, 0, 0), (.aload_n 0, 0, 0, 0, 0), (.getfield 51, 0, 5, 3, 247), (.getfield 310, 11, 0, 0, 0), (.iadd, 0, 0, 0, 0), (.if_icmp .ge 19, 0, 0, 0, 0)] = true := by decide +kernel
theorem ck_I_way_118 : ia_cks 0 10 false prog_1_method_16_code 118 [(.aload_n 0, 0, 0, 0, 0), (.getfield 51, 0, 5, 3, 247), (.getfield 316, 11, 3, 3, 1), (.iload 9, 0, 0, 0, 0), (.bipush 10, 0, 0, 0, 0), (.isub, 0, 0, 0, 0), (.iaload, 0, 0, 0, 0), (.goto 4, 0, 0, 0, 0)] = true := by decide +kernel
theorem ck_I_way_78 : ia_cks 0 10 false prog_1_method_16_code 78 [(.iload 8, 0, 0, 0, 0), (.iconst 1, 0, 0, 0, 0), (.if_icmp .ne 13, 0, 0, 0, 0)] = true := by decide +kernel
theorem ck_I_way_94 : ia_cks 0 10 false prog_1_method_16_code 94 [(.iconst 0, 0, 0, 0, 0)] = true := by decide +kernel
theorem ck_I_way_84 : ia_cks 0 10 false prog_1_method_16_code 84 [(.aload_n 0, 0, 0, 0, 0), (.getfield 51, 0, 5, 3, 247), (.getfield 313, 11, 1, 0, 0), (.goto 4, 0, 0, 0, 0)] = true := by decide +kernel
theorem ck_I_way_64 : ia_cks 0 10 false prog_1_method_16_code 64 [(.aload_n 0, 0, 0, 0, 0), (.getfield 51, 0, 5, 3, 247), (.getfield 310, 11, 0, 0, 0)] = true := by decide +kernel
theorem ck_I_way_57 : ia_cks 0 10 false prog_1_method_16_code 57 [(.iconst (-1), 0, 0, 0, 0)] = true := by decide +kernel
theorem dc_I_way_6 : decode prog_1_method_16_code 6 = .ok (.invokevirtual 266, 3) := by decide +kernel
theorem dc_I_way_26 : decode prog_1_method_16_code 26 = .ok (.ireturn, 1) := by decide +kernel
theorem dc_I_way_19 : decode prog_1_method_16_code 19 = .ok (.invokevirtual 299, 3) := by decide +kernel
theorem dc_I_way_36 : decode prog_1_method_16_code 36 = .ok (.invokevirtual 303, 3) := by decide +kernel
theorem dc_I_way_51 : decode prog_1_method_16_code 51 = .ok (.invokevirtual 307, 3) := by decide +kernel
theorem dc_I_way_135 : decode prog_1_method_16_code 135 = .ok (.ireturn, 1) := by decide +kernel
theorem dc_I_way_95 : decode prog_1_method_16_code 95 = .ok (.ireturn, 1) := by decide +kernel
theorem dc_I_way_71 : decode prog_1_method_16_code 71 = .ok (.ireturn, 1) := by decide +kernel
theorem dc_I_way_58 : decode prog_1_method_16_code 58 = .ok (.ireturn, 1) := by decide +kernel
def f_I_way (x1 : Int32) (x2 : Int32) (x3 : Int32) (x4 : Int32) (x5 : Int32) (x6 : Int32) (x7 : Int32) (x8 : Int32) (x9 : Int32) (h : ia_H) : Option (Int32 × ia_H) := (f_I_stage x1 x2 x3 x4 h).bind fun v1 => (if v1.1 = 0 then (some ((-1), v1.2)) else ((f_I_isTrip x5 x6 x7 v1.2).bind fun v2 => (if v2 = 0 then (some ((-1), v1.2)) else ((f_Wa_survey 303 0 v1.2).bind fun v3 => ((f_Wa_find x8 x5 x6 x7 v3).bind fun v4 => (if v4.1 = 0 then (some ((-1), v4.2)) else (if x9 = 0 then (some (ia_i v4.2 311 0, v4.2)) else (if x9 = 1 then (if x8 = 1 then (some (ia_i v4.2 311 1, v4.2)) else (some (0, v4.2))) else (if x9 < 10 then (some ((-1), v4.2)) else (if (10 + (ia_i v4.2 311 0)) ≤ x9 then (some ((-1), v4.2)) else (ia_gd (ia_ib (x9 - 10) 36) (some (ia_i v4.2 312 ((x9 - 10).toNatClampNeg), v4.2)))))))))))))
theorem g_I_way {w : ia_O0} {x1 : Int32} {x2 : Int32} {x3 : Int32} {x4 : Int32} {x5 : Int32} {x6 : Int32} {x7 : Int32} {x8 : Int32} {x9 : Int32} {h : ia_H} (hg : gd_ w h) {q : (Int32 × ia_H)} (hm : f_I_way x1 x2 x3 x4 x5 x6 x7 x8 x9 h = some q) : gd_ w q.2 := by
  obtain ⟨r, h1⟩ := q
  unfold f_I_way at hm
  obtain ⟨v1, hv1, hm⟩ := ia_bnd hm
  have gv1 := g_I_stage hg hv1
  by_cases c : v1.1 = 0
  · replace hm := ia_ifp hm c
    obtain ⟨rfl, rfl⟩ := Prod.mk.inj (Option.some.inj hm)
    exact gv1
  · replace hm := ia_ifn hm c
    obtain ⟨v2, hv2, hm⟩ := ia_bnd hm
    by_cases c : v2 = 0
    · replace hm := ia_ifp hm c
      obtain ⟨rfl, rfl⟩ := Prod.mk.inj (Option.some.inj hm)
      exact gv1
    · replace hm := ia_ifn hm c
      obtain ⟨v3, hv3, hm⟩ := ia_bnd hm
      have gv3 := g_Wa_survey gv1 (ka_0_4 pk_64) hv3
      obtain ⟨v4, hv4, hm⟩ := ia_bnd hm
      have gv4 := g_Wa_find gv3 hv4
      by_cases c : v4.1 = 0
      · replace hm := ia_ifp hm c
        obtain ⟨rfl, rfl⟩ := Prod.mk.inj (Option.some.inj hm)
        exact gv4
      · replace hm := ia_ifn hm c
        by_cases c : x9 = 0
        · replace hm := ia_ifp hm c
          obtain ⟨rfl, rfl⟩ := Prod.mk.inj (Option.some.inj hm)
          exact gv4
        · replace hm := ia_ifn hm c
          by_cases c : x9 = 1
          · replace hm := ia_ifp hm c
            by_cases c : x8 = 1
            · replace hm := ia_ifp hm c
              obtain ⟨rfl, rfl⟩ := Prod.mk.inj (Option.some.inj hm)
              exact gv4
            · replace hm := ia_ifn hm c
              obtain ⟨rfl, rfl⟩ := Prod.mk.inj (Option.some.inj hm)
              exact gv4
          · replace hm := ia_ifn hm c
            by_cases c : x9 < 10
            · replace hm := ia_ifp hm c
              obtain ⟨rfl, rfl⟩ := Prod.mk.inj (Option.some.inj hm)
              exact gv4
            · replace hm := ia_ifn hm c
              by_cases c : (10 + (ia_i v4.2 311 0)) ≤ x9
              · replace hm := ia_ifp hm c
                obtain ⟨rfl, rfl⟩ := Prod.mk.inj (Option.some.inj hm)
                exact gv4
              · replace hm := ia_ifn hm c
                obtain ⟨c5, hm⟩ := ia_gd_some hm
                obtain ⟨rfl, rfl⟩ := Prod.mk.inj (Option.some.inj hm)
                exact gv4
theorem t_I_way {w : ia_O0} (d : Nat) {x1 : Int32} {x2 : Int32} {x3 : Int32} {x4 : Int32} {x5 : Int32} {x6 : Int32} {x7 : Int32} {x8 : Int32} {x9 : Int32} {h : ia_H} (hg : gd_ w h) {q : (Int32 × ia_H)} (hm : f_I_way x1 x2 x3 x4 x5 x6 x7 x8 x9 h = some q) : ia_Ev (d + 7) mm_I_way [.inr (.inr 64), .inl x1, .inl x2, .inl x3, .inl x4, .inl x5, .inl x6, .inl x7, .inl x8, .inl x9] h (some (.inl q.1)) q.2 := by
  have gq := g_I_way hg hm
  refine ia_Ev_intro ok_I_way (gd_le hg gq).1 (gd_le hg gq).2 (Nat.le_of_ble_eq_true rfl) (fun K hK hret => ?_)
  obtain ⟨r, h1⟩ := q
  show K 0 [some (.inr (.inr 64)), some (.inl x1), some (.inl x2), some (.inl x3), some (.inl x4), some (.inl x5), some (.inl x6), some (.inl x7), some (.inl x8), some (.inl x9)] [] h
  unfold f_I_way at hm
  refine ia_go hK ck_I_way_0 ?_
  show K 6 [some (.inr (.inr 64)), some (.inl x1), some (.inl x2), some (.inl x3), some (.inl x4), some (.inl x5), some (.inl x6), some (.inl x7), some (.inl x8), some (.inl x9)] [.inl x4, .inl x3, .inl x2, .inl x1, .inr (.inr 64)] h
  obtain ⟨v1, hv1, hm⟩ := ia_bnd hm
  have ev1 := t_I_stage (d + 0) hg hv1
  have gv1 := g_I_stage hg hv1
  refine ia_cV hK mk_I_stage lk_0_266 dc_I_way_6 64 [.inl x1, .inl x2, .inl x3, .inl x4] [] rfl rfl (Nat.le_of_ble_eq_true rfl) (by decide) rfl (gk_0 hg pk_64) ev1 (gd_nm hg gv1) ?_
  show K 9 [some (.inr (.inr 64)), some (.inl x1), some (.inl x2), some (.inl x3), some (.inl x4), some (.inl x5), some (.inl x6), some (.inl x7), some (.inl x8), some (.inl x9)] [.inl v1.1] v1.2
  refine ia_go hK ck_I_way_9 ⟨fun c => ?_, fun c => ?_⟩
  · replace hm := ia_ifp hm c
    show K 25 [some (.inr (.inr 64)), some (.inl x1), some (.inl x2), some (.inl x3), some (.inl x4), some (.inl x5), some (.inl x6), some (.inl x7), some (.inl x8), some (.inl x9)] [] v1.2
    refine ia_go hK ck_I_way_25 ?_
    show K 26 [some (.inr (.inr 64)), some (.inl x1), some (.inl x2), some (.inl x3), some (.inl x4), some (.inl x5), some (.inl x6), some (.inl x7), some (.inl x8), some (.inl x9)] [.inl (-1)] v1.2
    obtain ⟨rfl, rfl⟩ := Prod.mk.inj (Option.some.inj hm)
    exact hret 26 _ dc_I_way_26
  · replace hm := ia_ifn hm c
    show K 12 [some (.inr (.inr 64)), some (.inl x1), some (.inl x2), some (.inl x3), some (.inl x4), some (.inl x5), some (.inl x6), some (.inl x7), some (.inl x8), some (.inl x9)] [] v1.2
    refine ia_go hK ck_I_way_12 ?_
    show K 19 [some (.inr (.inr 64)), some (.inl x1), some (.inl x2), some (.inl x3), some (.inl x4), some (.inl x5), some (.inl x6), some (.inl x7), some (.inl x8), some (.inl x9)] [.inl x7, .inl x6, .inl x5, .inr (.inr 64)] v1.2
    obtain ⟨v2, hv2, hm⟩ := ia_bnd hm
    have ev2 := t_I_isTrip (d + 5) gv1 hv2
    refine ia_cV hK mk_I_isTrip lk_0_299 dc_I_way_19 64 [.inl x5, .inl x6, .inl x7] [] rfl rfl (Nat.le_of_ble_eq_true rfl) (by decide) rfl (gk_0 gv1 pk_64) ev2 ⟨rfl, rfl⟩ ?_
    show K 22 [some (.inr (.inr 64)), some (.inl x1), some (.inl x2), some (.inl x3), some (.inl x4), some (.inl x5), some (.inl x6), some (.inl x7), some (.inl x8), some (.inl x9)] [.inl v2] v1.2
    refine ia_go hK ck_I_way_22 ⟨fun c => ?_, fun c => ?_⟩
    · replace hm := ia_ifn hm c
      show K 27 [some (.inr (.inr 64)), some (.inl x1), some (.inl x2), some (.inl x3), some (.inl x4), some (.inl x5), some (.inl x6), some (.inl x7), some (.inl x8), some (.inl x9)] [] v1.2
      refine ia_go hK ck_I_way_27 ⟨gk_0 gv1 pk_64, gr_0_5 gv1 pk_64, gk_0 gv1 pk_64, gr_0_4 gv1 pk_64, ?_⟩
      show K 36 [some (.inr (.inr 64)), some (.inl x1), some (.inl x2), some (.inl x3), some (.inl x4), some (.inl x5), some (.inl x6), some (.inl x7), some (.inl x8), some (.inl x9)] [.inl 0, .inr (.inr 303), .inr (.inr 311)] v1.2
      obtain ⟨v3, hv3, hm⟩ := ia_bnd hm
      have ev3 := t_Wa_survey (d + 5) gv1 (ka_0_4 pk_64) hv3
      have gv3 := g_Wa_survey gv1 (ka_0_4 pk_64) hv3
      refine ia_cV hK mk_Wa_survey lk_0_303 dc_I_way_36 311 [.inr (.inr 303), .inl 0] [] rfl rfl (Nat.le_of_ble_eq_true rfl) (by decide) rfl (gk_11 gv1 (ka_0_5 pk_64)) ev3 (gd_nm gv1 gv3) ?_
      show K 39 [some (.inr (.inr 64)), some (.inl x1), some (.inl x2), some (.inl x3), some (.inl x4), some (.inl x5), some (.inl x6), some (.inl x7), some (.inl x8), some (.inl x9)] [] v3
      refine ia_go hK ck_I_way_39 ⟨gk_0 gv3 pk_64, gr_0_5 gv3 pk_64, ?_⟩
      show K 51 [some (.inr (.inr 64)), some (.inl x1), some (.inl x2), some (.inl x3), some (.inl x4), some (.inl x5), some (.inl x6), some (.inl x7), some (.inl x8), some (.inl x9)] [.inl x7, .inl x6, .inl x5, .inl x8, .inr (.inr 311)] v3
      obtain ⟨v4, hv4, hm⟩ := ia_bnd hm
      have ev4 := t_Wa_find (d + 2) gv3 hv4
      have gv4 := g_Wa_find gv3 hv4
      refine ia_cV hK mk_Wa_find lk_0_307 dc_I_way_51 311 [.inl x8, .inl x5, .inl x6, .inl x7] [] rfl rfl (Nat.le_of_ble_eq_true rfl) (by decide) rfl (gk_11 gv3 (ka_0_5 pk_64)) ev4 (gd_nm gv3 gv4) ?_
      show K 54 [some (.inr (.inr 64)), some (.inl x1), some (.inl x2), some (.inl x3), some (.inl x4), some (.inl x5), some (.inl x6), some (.inl x7), some (.inl x8), some (.inl x9)] [.inl v4.1] v4.2
      refine ia_go hK ck_I_way_54 ⟨fun c => ?_, fun c => ?_⟩
      · replace hm := ia_ifn hm c
        show K 59 [some (.inr (.inr 64)), some (.inl x1), some (.inl x2), some (.inl x3), some (.inl x4), some (.inl x5), some (.inl x6), some (.inl x7), some (.inl x8), some (.inl x9)] [] v4.2
        refine ia_go hK ck_I_way_59 ⟨fun c => ?_, fun c => ?_⟩
        · replace hm := ia_ifn hm c
          show K 72 [some (.inr (.inr 64)), some (.inl x1), some (.inl x2), some (.inl x3), some (.inl x4), some (.inl x5), some (.inl x6), some (.inl x7), some (.inl x8), some (.inl x9)] [] v4.2
          refine ia_go hK ck_I_way_72 ⟨fun c => ?_, fun c => ?_⟩
          · replace hm := ia_ifn hm c
            show K 96 [some (.inr (.inr 64)), some (.inl x1), some (.inl x2), some (.inl x3), some (.inl x4), some (.inl x5), some (.inl x6), some (.inl x7), some (.inl x8), some (.inl x9)] [] v4.2
            refine ia_go hK ck_I_way_96 ⟨fun c => ?_, fun c => ?_⟩
            · replace hm := ia_ifp hm c
              show K 134 [some (.inr (.inr 64)), some (.inl x1), some (.inl x2), some (.inl x3), some (.inl x4), some (.inl x5), some (.inl x6), some (.inl x7), some (.inl x8), some (.inl x9)] [] v4.2
              refine ia_go hK ck_I_way_134 ?_
              show K 135 [some (.inr (.inr 64)), some (.inl x1), some (.inl x2), some (.inl x3), some (.inl x4), some (.inl x5), some (.inl x6), some (.inl x7), some (.inl x8), some (.inl x9)] [.inl (-1)] v4.2
              obtain ⟨rfl, rfl⟩ := Prod.mk.inj (Option.some.inj hm)
              exact hret 135 _ dc_I_way_135
            · replace hm := ia_ifn hm c
              show K 103 [some (.inr (.inr 64)), some (.inl x1), some (.inl x2), some (.inl x3), some (.inl x4), some (.inl x5), some (.inl x6), some (.inl x7), some (.inl x8), some (.inl x9)] [] v4.2
              refine ia_go hK ck_I_way_103 ⟨gk_0 gv4 pk_64, gr_0_5 gv4 pk_64, gk_11 gv4 (ka_0_5 pk_64), fun c => ?_, fun c => ?_⟩
              · replace hm := ia_ifp hm c
                show K 134 [some (.inr (.inr 64)), some (.inl x1), some (.inl x2), some (.inl x3), some (.inl x4), some (.inl x5), some (.inl x6), some (.inl x7), some (.inl x8), some (.inl x9)] [] v4.2
                refine ia_go hK ck_I_way_134 ?_
                show K 135 [some (.inr (.inr 64)), some (.inl x1), some (.inl x2), some (.inl x3), some (.inl x4), some (.inl x5), some (.inl x6), some (.inl x7), some (.inl x8), some (.inl x9)] [.inl (-1)] v4.2
                obtain ⟨rfl, rfl⟩ := Prod.mk.inj (Option.some.inj hm)
                exact hret 135 _ dc_I_way_135
              · replace hm := ia_ifn hm c
                show K 118 [some (.inr (.inr 64)), some (.inl x1), some (.inl x2), some (.inl x3), some (.inl x4), some (.inl x5), some (.inl x6), some (.inl x7), some (.inl x8), some (.inl x9)] [] v4.2
                obtain ⟨c5, hm⟩ := ia_gd_some hm
                refine ia_go hK ck_I_way_118 ⟨gk_0 gv4 pk_64, gr_0_5 gv4 pk_64, gk_11 gv4 (ka_0_5 pk_64), gr_11_3 gv4 (ka_0_5 pk_64), ga_i100 gv4 (ka_11_3 (ka_0_5 pk_64)) c5, ?_⟩
                show K 135 [some (.inr (.inr 64)), some (.inl x1), some (.inl x2), some (.inl x3), some (.inl x4), some (.inl x5), some (.inl x6), some (.inl x7), some (.inl x8), some (.inl x9)] [.inl (ia_i v4.2 312 ((x9 - 10).toNatClampNeg))] v4.2
                obtain ⟨rfl, rfl⟩ := Prod.mk.inj (Option.some.inj hm)
                exact hret 135 _ dc_I_way_135
          · replace hm := ia_ifp hm c
            show K 78 [some (.inr (.inr 64)), some (.inl x1), some (.inl x2), some (.inl x3), some (.inl x4), some (.inl x5), some (.inl x6), some (.inl x7), some (.inl x8), some (.inl x9)] [] v4.2
            refine ia_go hK ck_I_way_78 ⟨fun c => ?_, fun c => ?_⟩
            · replace hm := ia_ifn hm c
              show K 94 [some (.inr (.inr 64)), some (.inl x1), some (.inl x2), some (.inl x3), some (.inl x4), some (.inl x5), some (.inl x6), some (.inl x7), some (.inl x8), some (.inl x9)] [] v4.2
              refine ia_go hK ck_I_way_94 ?_
              show K 95 [some (.inr (.inr 64)), some (.inl x1), some (.inl x2), some (.inl x3), some (.inl x4), some (.inl x5), some (.inl x6), some (.inl x7), some (.inl x8), some (.inl x9)] [.inl 0] v4.2
              obtain ⟨rfl, rfl⟩ := Prod.mk.inj (Option.some.inj hm)
              exact hret 95 _ dc_I_way_95
            · replace hm := ia_ifp hm c
              show K 84 [some (.inr (.inr 64)), some (.inl x1), some (.inl x2), some (.inl x3), some (.inl x4), some (.inl x5), some (.inl x6), some (.inl x7), some (.inl x8), some (.inl x9)] [] v4.2
              refine ia_go hK ck_I_way_84 ⟨gk_0 gv4 pk_64, gr_0_5 gv4 pk_64, gk_11 gv4 (ka_0_5 pk_64), ?_⟩
              show K 95 [some (.inr (.inr 64)), some (.inl x1), some (.inl x2), some (.inl x3), some (.inl x4), some (.inl x5), some (.inl x6), some (.inl x7), some (.inl x8), some (.inl x9)] [.inl (ia_i v4.2 311 1)] v4.2
              obtain ⟨rfl, rfl⟩ := Prod.mk.inj (Option.some.inj hm)
              exact hret 95 _ dc_I_way_95
        · replace hm := ia_ifp hm c
          show K 64 [some (.inr (.inr 64)), some (.inl x1), some (.inl x2), some (.inl x3), some (.inl x4), some (.inl x5), some (.inl x6), some (.inl x7), some (.inl x8), some (.inl x9)] [] v4.2
          refine ia_go hK ck_I_way_64 ⟨gk_0 gv4 pk_64, gr_0_5 gv4 pk_64, gk_11 gv4 (ka_0_5 pk_64), ?_⟩
          show K 71 [some (.inr (.inr 64)), some (.inl x1), some (.inl x2), some (.inl x3), some (.inl x4), some (.inl x5), some (.inl x6), some (.inl x7), some (.inl x8), some (.inl x9)] [.inl (ia_i v4.2 311 0)] v4.2
          obtain ⟨rfl, rfl⟩ := Prod.mk.inj (Option.some.inj hm)
          exact hret 71 _ dc_I_way_71
      · replace hm := ia_ifp hm c
        show K 57 [some (.inr (.inr 64)), some (.inl x1), some (.inl x2), some (.inl x3), some (.inl x4), some (.inl x5), some (.inl x6), some (.inl x7), some (.inl x8), some (.inl x9)] [] v4.2
        refine ia_go hK ck_I_way_57 ?_
        show K 58 [some (.inr (.inr 64)), some (.inl x1), some (.inl x2), some (.inl x3), some (.inl x4), some (.inl x5), some (.inl x6), some (.inl x7), some (.inl x8), some (.inl x9)] [.inl (-1)] v4.2
        obtain ⟨rfl, rfl⟩ := Prod.mk.inj (Option.some.inj hm)
        exact hret 58 _ dc_I_way_58
    · replace hm := ia_ifp hm c
      show K 25 [some (.inr (.inr 64)), some (.inl x1), some (.inl x2), some (.inl x3), some (.inl x4), some (.inl x5), some (.inl x6), some (.inl x7), some (.inl x8), some (.inl x9)] [] v1.2
      refine ia_go hK ck_I_way_25 ?_
      show K 26 [some (.inr (.inr 64)), some (.inl x1), some (.inl x2), some (.inl x3), some (.inl x4), some (.inl x5), some (.inl x6), some (.inl x7), some (.inl x8), some (.inl x9)] [.inl (-1)] v1.2
      obtain ⟨rfl, rfl⟩ := Prod.mk.inj (Option.some.inj hm)
      exact hret 26 _ dc_I_way_26
def mm_I_luck : ia_M := (⟨"IceStreet", "luck", "(IIIIIII)J"⟩, prog_1_method_17_code, 8, (some .long), 0, false)
theorem ok_I_luck : ia_mok mm_I_luck := ⟨by decide +kernel, by decide +kernel, by decide +kernel, by decide +kernel⟩
theorem mk_I_luck : ia_mkn mm_I_luck 1 7 := ⟨ia_tb_in (List.mem_of_getElem? (i := 1264) (by decide +kernel)) rfl, ia_tb_in (List.mem_of_getElem? (i := 133) (by decide +kernel)) rfl, by decide +kernel, by decide +kernel, ⟨ia_tb_in (List.mem_of_getElem? (i := 1262) (by decide +kernel)) rfl, ia_tb_in (List.mem_of_getElem? (i := 1263) (by decide +kernel)) rfl⟩⟩
theorem ck_I_luck_0 : ia_cks 0 8 false prog_1_method_17_code 0 [(.aload_n 0, 0, 0, 0, 0), (.iload_n 1, 0, 0, 0, 0), (.iload_n 2, 0, 0, 0, 0), (.iload_n 3, 0, 0, 0, 0), (.iload 4, 0, 0, 0, 0)] = true := by decide +kernel
theorem ck_I_luck_9 : ia_cks 0 8 false prog_1_method_17_code 9 [(.ifCond .eq 16, 0, 0, 0, 0)] = true := by decide +kernel
theorem ck_I_luck_12 : ia_cks 0 8 false prog_1_method_17_code 12 [(.aload_n 0, 0, 0, 0, 0), (.iload 5, 0, 0, 0, 0), (.iload 6, 0, 0, 0, 0), (.iload 7, 0, 0, 0, 0)] = true := by decide +kernel
theorem ck_I_luck_22 : ia_cks 0 8 false prog_1_method_17_code 22 [(.ifCond .ne 7, 0, 0, 0, 0)] = true := by decide +kernel
theorem ck_I_luck_29 : ia_cks 0 8 false prog_1_method_17_code 29 [(.aload_n 0, 0, 0, 0, 0), (.getfield 51, 0, 5, 3, 247), (.aload_n 0, 0, 0, 0, 0), (.getfield 44, 0, 4, 3, 239), (.iconst 0, 0, 0, 0, 0)] = true := by decide +kernel
theorem ck_I_luck_41 : ia_cks 0 8 false prog_1_method_17_code 41 [(.aload_n 0, 0, 0, 0, 0), (.getfield 51, 0, 5, 3, 247), (.iconst 2, 0, 0, 0, 0), (.iload 5, 0, 0, 0, 0), (.iload 6, 0, 0, 0, 0), (.iload 7, 0, 0, 0, 0)] = true := by decide +kernel
theorem ck_I_luck_55 : ia_cks 0 8 false prog_1_method_17_code 55 [(.ifCond .eq 13, 0, 0, 0, 0)] = true := by decide +kernel
theorem ck_I_luck_58 : ia_cks 0 8 false prog_1_method_17_code 58 [(.aload_n 0, 0, 0, 0, 0), (.getfield 51, 0, 5, 3, 247), (.getfield 321, 11, 2, 1, 0), (.goto 6, 0, 0, 0, 0)] = true := by decide +kernel
theorem dc_I_luck_6 : decode prog_1_method_17_code 6 = .ok (.invokevirtual 266, 3) := by decide +kernel
theorem dc_I_luck_25 : decode prog_1_method_17_code 25 = .ok (.ldc2_w 319, 3) := by decide +kernel
theorem dc_I_luck_28 : decode prog_1_method_17_code 28 = .ok (.lreturn, 1) := by decide +kernel
theorem dc_I_luck_19 : decode prog_1_method_17_code 19 = .ok (.invokevirtual 299, 3) := by decide +kernel
theorem dc_I_luck_38 : decode prog_1_method_17_code 38 = .ok (.invokevirtual 303, 3) := by decide +kernel
theorem dc_I_luck_52 : decode prog_1_method_17_code 52 = .ok (.invokevirtual 307, 3) := by decide +kernel
theorem dc_I_luck_68 : decode prog_1_method_17_code 68 = .ok (.ldc2_w 319, 3) := by decide +kernel
theorem dc_I_luck_71 : decode prog_1_method_17_code 71 = .ok (.lreturn, 1) := by decide +kernel
def f_I_luck (x1 : Int32) (x2 : Int32) (x3 : Int32) (x4 : Int32) (x5 : Int32) (x6 : Int32) (x7 : Int32) (h : ia_H) : Option (Int64 × ia_H) := (f_I_stage x1 x2 x3 x4 h).bind fun v1 => (if v1.1 = 0 then (some ((-1), v1.2)) else ((f_I_isTrip x5 x6 x7 v1.2).bind fun v2 => (if v2 = 0 then (some ((-1), v1.2)) else ((f_Wa_survey 303 0 v1.2).bind fun v3 => ((f_Wa_find 2 x5 x6 x7 v3).bind fun v4 => (if v4.1 = 0 then (some ((-1), v4.2)) else (some (ia_l v4.2 311 2, v4.2))))))))
theorem g_I_luck {w : ia_O0} {x1 : Int32} {x2 : Int32} {x3 : Int32} {x4 : Int32} {x5 : Int32} {x6 : Int32} {x7 : Int32} {h : ia_H} (hg : gd_ w h) {q : (Int64 × ia_H)} (hm : f_I_luck x1 x2 x3 x4 x5 x6 x7 h = some q) : gd_ w q.2 := by
  obtain ⟨r, h1⟩ := q
  unfold f_I_luck at hm
  obtain ⟨v1, hv1, hm⟩ := ia_bnd hm
  have gv1 := g_I_stage hg hv1
  by_cases c : v1.1 = 0
  · replace hm := ia_ifp hm c
    obtain ⟨rfl, rfl⟩ := Prod.mk.inj (Option.some.inj hm)
    exact gv1
  · replace hm := ia_ifn hm c
    obtain ⟨v2, hv2, hm⟩ := ia_bnd hm
    by_cases c : v2 = 0
    · replace hm := ia_ifp hm c
      obtain ⟨rfl, rfl⟩ := Prod.mk.inj (Option.some.inj hm)
      exact gv1
    · replace hm := ia_ifn hm c
      obtain ⟨v3, hv3, hm⟩ := ia_bnd hm
      have gv3 := g_Wa_survey gv1 (ka_0_4 pk_64) hv3
      obtain ⟨v4, hv4, hm⟩ := ia_bnd hm
      have gv4 := g_Wa_find gv3 hv4
      by_cases c : v4.1 = 0
      · replace hm := ia_ifp hm c
        obtain ⟨rfl, rfl⟩ := Prod.mk.inj (Option.some.inj hm)
        exact gv4
      · replace hm := ia_ifn hm c
        obtain ⟨rfl, rfl⟩ := Prod.mk.inj (Option.some.inj hm)
        exact gv4
theorem t_I_luck {w : ia_O0} (d : Nat) {x1 : Int32} {x2 : Int32} {x3 : Int32} {x4 : Int32} {x5 : Int32} {x6 : Int32} {x7 : Int32} {h : ia_H} (hg : gd_ w h) {q : (Int64 × ia_H)} (hm : f_I_luck x1 x2 x3 x4 x5 x6 x7 h = some q) : ia_Ev (d + 7) mm_I_luck [.inr (.inr 64), .inl x1, .inl x2, .inl x3, .inl x4, .inl x5, .inl x6, .inl x7] h (some (.inr (.inl q.1))) q.2 := by
  have gq := g_I_luck hg hm
  refine ia_Ev_intro ok_I_luck (gd_le hg gq).1 (gd_le hg gq).2 (Nat.le_of_ble_eq_true rfl) (fun K hK hret => ?_)
  obtain ⟨r, h1⟩ := q
  show K 0 [some (.inr (.inr 64)), some (.inl x1), some (.inl x2), some (.inl x3), some (.inl x4), some (.inl x5), some (.inl x6), some (.inl x7)] [] h
  unfold f_I_luck at hm
  refine ia_go hK ck_I_luck_0 ?_
  show K 6 [some (.inr (.inr 64)), some (.inl x1), some (.inl x2), some (.inl x3), some (.inl x4), some (.inl x5), some (.inl x6), some (.inl x7)] [.inl x4, .inl x3, .inl x2, .inl x1, .inr (.inr 64)] h
  obtain ⟨v1, hv1, hm⟩ := ia_bnd hm
  have ev1 := t_I_stage (d + 0) hg hv1
  have gv1 := g_I_stage hg hv1
  refine ia_cV hK mk_I_stage lk_0_266 dc_I_luck_6 64 [.inl x1, .inl x2, .inl x3, .inl x4] [] rfl rfl (Nat.le_of_ble_eq_true rfl) (by decide) rfl (gk_0 hg pk_64) ev1 (gd_nm hg gv1) ?_
  show K 9 [some (.inr (.inr 64)), some (.inl x1), some (.inl x2), some (.inl x3), some (.inl x4), some (.inl x5), some (.inl x6), some (.inl x7)] [.inl v1.1] v1.2
  refine ia_go hK ck_I_luck_9 ⟨fun c => ?_, fun c => ?_⟩
  · replace hm := ia_ifp hm c
    show K 25 [some (.inr (.inr 64)), some (.inl x1), some (.inl x2), some (.inl x3), some (.inl x4), some (.inl x5), some (.inl x6), some (.inl x7)] [] v1.2
    refine ia_ldc2 hK (v := (-1)) (ia_tb_in (List.mem_of_getElem? (i := 1265) (by decide +kernel)) rfl) dc_I_luck_25 ?_
    show K 28 [some (.inr (.inr 64)), some (.inl x1), some (.inl x2), some (.inl x3), some (.inl x4), some (.inl x5), some (.inl x6), some (.inl x7)] [.inr (.inl (-1))] v1.2
    obtain ⟨rfl, rfl⟩ := Prod.mk.inj (Option.some.inj hm)
    exact hret 28 _ dc_I_luck_28
  · replace hm := ia_ifn hm c
    show K 12 [some (.inr (.inr 64)), some (.inl x1), some (.inl x2), some (.inl x3), some (.inl x4), some (.inl x5), some (.inl x6), some (.inl x7)] [] v1.2
    refine ia_go hK ck_I_luck_12 ?_
    show K 19 [some (.inr (.inr 64)), some (.inl x1), some (.inl x2), some (.inl x3), some (.inl x4), some (.inl x5), some (.inl x6), some (.inl x7)] [.inl x7, .inl x6, .inl x5, .inr (.inr 64)] v1.2
    obtain ⟨v2, hv2, hm⟩ := ia_bnd hm
    have ev2 := t_I_isTrip (d + 5) gv1 hv2
    refine ia_cV hK mk_I_isTrip lk_0_299 dc_I_luck_19 64 [.inl x5, .inl x6, .inl x7] [] rfl rfl (Nat.le_of_ble_eq_true rfl) (by decide) rfl (gk_0 gv1 pk_64) ev2 ⟨rfl, rfl⟩ ?_
    show K 22 [some (.inr (.inr 64)), some (.inl x1), some (.inl x2), some (.inl x3), some (.inl x4), some (.inl x5), some (.inl x6), some (.inl x7)] [.inl v2] v1.2
    refine ia_go hK ck_I_luck_22 ⟨fun c => ?_, fun c => ?_⟩
    · replace hm := ia_ifn hm c
      show K 29 [some (.inr (.inr 64)), some (.inl x1), some (.inl x2), some (.inl x3), some (.inl x4), some (.inl x5), some (.inl x6), some (.inl x7)] [] v1.2
      refine ia_go hK ck_I_luck_29 ⟨gk_0 gv1 pk_64, gr_0_5 gv1 pk_64, gk_0 gv1 pk_64, gr_0_4 gv1 pk_64, ?_⟩
      show K 38 [some (.inr (.inr 64)), some (.inl x1), some (.inl x2), some (.inl x3), some (.inl x4), some (.inl x5), some (.inl x6), some (.inl x7)] [.inl 0, .inr (.inr 303), .inr (.inr 311)] v1.2
      obtain ⟨v3, hv3, hm⟩ := ia_bnd hm
      have ev3 := t_Wa_survey (d + 5) gv1 (ka_0_4 pk_64) hv3
      have gv3 := g_Wa_survey gv1 (ka_0_4 pk_64) hv3
      refine ia_cV hK mk_Wa_survey lk_0_303 dc_I_luck_38 311 [.inr (.inr 303), .inl 0] [] rfl rfl (Nat.le_of_ble_eq_true rfl) (by decide) rfl (gk_11 gv1 (ka_0_5 pk_64)) ev3 (gd_nm gv1 gv3) ?_
      show K 41 [some (.inr (.inr 64)), some (.inl x1), some (.inl x2), some (.inl x3), some (.inl x4), some (.inl x5), some (.inl x6), some (.inl x7)] [] v3
      refine ia_go hK ck_I_luck_41 ⟨gk_0 gv3 pk_64, gr_0_5 gv3 pk_64, ?_⟩
      show K 52 [some (.inr (.inr 64)), some (.inl x1), some (.inl x2), some (.inl x3), some (.inl x4), some (.inl x5), some (.inl x6), some (.inl x7)] [.inl x7, .inl x6, .inl x5, .inl 2, .inr (.inr 311)] v3
      obtain ⟨v4, hv4, hm⟩ := ia_bnd hm
      have ev4 := t_Wa_find (d + 2) gv3 hv4
      have gv4 := g_Wa_find gv3 hv4
      refine ia_cV hK mk_Wa_find lk_0_307 dc_I_luck_52 311 [.inl 2, .inl x5, .inl x6, .inl x7] [] rfl rfl (Nat.le_of_ble_eq_true rfl) (by decide) rfl (gk_11 gv3 (ka_0_5 pk_64)) ev4 (gd_nm gv3 gv4) ?_
      show K 55 [some (.inr (.inr 64)), some (.inl x1), some (.inl x2), some (.inl x3), some (.inl x4), some (.inl x5), some (.inl x6), some (.inl x7)] [.inl v4.1] v4.2
      refine ia_go hK ck_I_luck_55 ⟨fun c => ?_, fun c => ?_⟩
      · replace hm := ia_ifp hm c
        show K 68 [some (.inr (.inr 64)), some (.inl x1), some (.inl x2), some (.inl x3), some (.inl x4), some (.inl x5), some (.inl x6), some (.inl x7)] [] v4.2
        refine ia_ldc2 hK (v := (-1)) (ia_tb_in (List.mem_of_getElem? (i := 1265) (by decide +kernel)) rfl) dc_I_luck_68 ?_
        show K 71 [some (.inr (.inr 64)), some (.inl x1), some (.inl x2), some (.inl x3), some (.inl x4), some (.inl x5), some (.inl x6), some (.inl x7)] [.inr (.inl (-1))] v4.2
        obtain ⟨rfl, rfl⟩ := Prod.mk.inj (Option.some.inj hm)
        exact hret 71 _ dc_I_luck_71
      · replace hm := ia_ifn hm c
        show K 58 [some (.inr (.inr 64)), some (.inl x1), some (.inl x2), some (.inl x3), some (.inl x4), some (.inl x5), some (.inl x6), some (.inl x7)] [] v4.2
        refine ia_go hK ck_I_luck_58 ⟨gk_0 gv4 pk_64, gr_0_5 gv4 pk_64, gk_11 gv4 (ka_0_5 pk_64), ?_⟩
        show K 71 [some (.inr (.inr 64)), some (.inl x1), some (.inl x2), some (.inl x3), some (.inl x4), some (.inl x5), some (.inl x6), some (.inl x7)] [.inr (.inl (ia_l v4.2 311 2))] v4.2
        obtain ⟨rfl, rfl⟩ := Prod.mk.inj (Option.some.inj hm)
        exact hret 71 _ dc_I_luck_71
    · replace hm := ia_ifp hm c
      show K 25 [some (.inr (.inr 64)), some (.inl x1), some (.inl x2), some (.inl x3), some (.inl x4), some (.inl x5), some (.inl x6), some (.inl x7)] [] v1.2
      refine ia_ldc2 hK (v := (-1)) (ia_tb_in (List.mem_of_getElem? (i := 1265) (by decide +kernel)) rfl) dc_I_luck_25 ?_
      show K 28 [some (.inr (.inr 64)), some (.inl x1), some (.inl x2), some (.inl x3), some (.inl x4), some (.inl x5), some (.inl x6), some (.inl x7)] [.inr (.inl (-1))] v1.2
      obtain ⟨rfl, rfl⟩ := Prod.mk.inj (Option.some.inj hm)
      exact hret 28 _ dc_I_luck_28
def mm_I_most : ia_M := (⟨"IceStreet", "most", "(IIIIII)I"⟩, prog_1_method_18_code, 8, (some .int), 0, false)
theorem ok_I_most : ia_mok mm_I_most := ⟨by decide +kernel, by decide +kernel, by decide +kernel, by decide +kernel⟩
theorem mk_I_most : ia_mkn mm_I_most 1 6 := ⟨ia_tb_in (List.mem_of_getElem? (i := 1269) (by decide +kernel)) rfl, ia_tb_in (List.mem_of_getElem? (i := 133) (by decide +kernel)) rfl, by decide +kernel, by decide +kernel, ⟨ia_tb_in (List.mem_of_getElem? (i := 1267) (by decide +kernel)) rfl, ia_tb_in (List.mem_of_getElem? (i := 1268) (by decide +kernel)) rfl⟩⟩
theorem ck_I_most_0 : ia_cks 0 8 false prog_1_method_18_code 0 [(.aload_n 0, 0, 0, 0, 0), (.iload_n 1, 0, 0, 0, 0), (.iload_n 2, 0, 0, 0, 0), (.iload_n 3, 0, 0, 0, 0), (.iload 4, 0, 0, 0, 0)] = true := by decide +kernel
theorem ck_I_most_9 : ia_cks 0 8 false prog_1_method_18_code 9 [(.ifCond .eq 15, 0, 0, 0, 0)] = true := by decide +kernel
theorem ck_I_most_24 : ia_cks 0 8 false prog_1_method_18_code 24 [(.iconst (-1), 0, 0, 0, 0)] = true := by decide +kernel
theorem ck_I_most_12 : ia_cks 0 8 false prog_1_method_18_code 12 [(.aload_n 0, 0, 0, 0, 0), (.iconst 1, 0, 0, 0, 0), (.iload 5, 0, 0, 0, 0), (.iload 6, 0, 0, 0, 0)] = true := by decide +kernel
theorem ck_I_most_21 : ia_cks 0 8 false prog_1_method_18_code 21 [(.ifCond .ne 5, 0, 0, 0, 0)] = true := by decide +kernel
theorem ck_I_most_26 : ia_cks 0 8 false prog_1_method_18_code 26 [(.aload_n 0, 0, 0, 0, 0), (.getfield 51, 0, 5, 3, 247), (.aload_n 0, 0, 0, 0, 0), (.getfield 44, 0, 4, 3, 239), (.iconst 0, 0, 0, 0, 0)] = true := by decide +kernel
theorem ck_I_most_38 : ia_cks 0 8 false prog_1_method_18_code 38 [(.aload_n 0, 0, 0, 0, 0), (.getfield 51, 0, 5, 3, 247), (.iload 5, 0, 0, 0, 0), (.iload 6, 0, 0, 0, 0)] = true := by decide +kernel
theorem ck_I_most_49 : ia_cks 0 8 false prog_1_method_18_code 49 [(.istore 7, 0, 0, 0, 0), (.iload 7, 0, 0, 0, 0), (.iconst 1, 0, 0, 0, 0), (.if_icmp .ge 7, 0, 0, 0, 0)] = true := by decide +kernel
theorem ck_I_most_61 : ia_cks 0 8 false prog_1_method_18_code 61 [(.iload 7, 0, 0, 0, 0), (.sipush 999, 0, 0, 0, 0)] = true := by decide +kernel
theorem ck_I_most_57 : ia_cks 0 8 false prog_1_method_18_code 57 [(.iconst (-1), 0, 0, 0, 0), (.goto 11, 0, 0, 0, 0)] = true := by decide +kernel
theorem dc_I_most_6 : decode prog_1_method_18_code 6 = .ok (.invokevirtual 266, 3) := by decide +kernel
theorem dc_I_most_25 : decode prog_1_method_18_code 25 = .ok (.ireturn, 1) := by decide +kernel
theorem dc_I_most_18 : decode prog_1_method_18_code 18 = .ok (.invokevirtual 299, 3) := by decide +kernel
theorem dc_I_most_35 : decode prog_1_method_18_code 35 = .ok (.invokevirtual 303, 3) := by decide +kernel
theorem dc_I_most_46 : decode prog_1_method_18_code 46 = .ok (.invokevirtual 324, 3) := by decide +kernel
theorem dc_I_most_66 : decode prog_1_method_18_code 66 = .ok (.invokestatic 328, 3) := by decide +kernel
theorem dc_I_most_69 : decode prog_1_method_18_code 69 = .ok (.ireturn, 1) := by decide +kernel
def f_I_most (x1 : Int32) (x2 : Int32) (x3 : Int32) (x4 : Int32) (x5 : Int32) (x6 : Int32) (h : ia_H) : Option (Int32 × ia_H) := (f_I_stage x1 x2 x3 x4 h).bind fun v1 => (if v1.1 = 0 then (some ((-1), v1.2)) else ((f_I_isTrip 1 x5 x6 v1.2).bind fun v2 => (if v2 = 0 then (some ((-1), v1.2)) else ((f_Wa_survey 303 0 v1.2).bind fun v3 => ((f_Wa_greatestLoad x5 x6 v3).bind fun v4 => (if 1 ≤ v4.1 then (some (ia_min v4.1 999, v4.2)) else (some ((-1), v4.2))))))))
theorem g_I_most {w : ia_O0} {x1 : Int32} {x2 : Int32} {x3 : Int32} {x4 : Int32} {x5 : Int32} {x6 : Int32} {h : ia_H} (hg : gd_ w h) {q : (Int32 × ia_H)} (hm : f_I_most x1 x2 x3 x4 x5 x6 h = some q) : gd_ w q.2 := by
  obtain ⟨r, h1⟩ := q
  unfold f_I_most at hm
  obtain ⟨v1, hv1, hm⟩ := ia_bnd hm
  have gv1 := g_I_stage hg hv1
  by_cases c : v1.1 = 0
  · replace hm := ia_ifp hm c
    obtain ⟨rfl, rfl⟩ := Prod.mk.inj (Option.some.inj hm)
    exact gv1
  · replace hm := ia_ifn hm c
    obtain ⟨v2, hv2, hm⟩ := ia_bnd hm
    by_cases c : v2 = 0
    · replace hm := ia_ifp hm c
      obtain ⟨rfl, rfl⟩ := Prod.mk.inj (Option.some.inj hm)
      exact gv1
    · replace hm := ia_ifn hm c
      obtain ⟨v3, hv3, hm⟩ := ia_bnd hm
      have gv3 := g_Wa_survey gv1 (ka_0_4 pk_64) hv3
      obtain ⟨v4, hv4, hm⟩ := ia_bnd hm
      have gv4 := g_Wa_greatestLoad gv3 hv4
      by_cases c : 1 ≤ v4.1
      · replace hm := ia_ifp hm c
        obtain ⟨rfl, rfl⟩ := Prod.mk.inj (Option.some.inj hm)
        exact gv4
      · replace hm := ia_ifn hm c
        obtain ⟨rfl, rfl⟩ := Prod.mk.inj (Option.some.inj hm)
        exact gv4
theorem t_I_most {w : ia_O0} (d : Nat) {x1 : Int32} {x2 : Int32} {x3 : Int32} {x4 : Int32} {x5 : Int32} {x6 : Int32} {h : ia_H} (hg : gd_ w h) {q : (Int32 × ia_H)} (hm : f_I_most x1 x2 x3 x4 x5 x6 h = some q) : ia_Ev (d + 7) mm_I_most [.inr (.inr 64), .inl x1, .inl x2, .inl x3, .inl x4, .inl x5, .inl x6] h (some (.inl q.1)) q.2 := by
  have gq := g_I_most hg hm
  refine ia_Ev_intro ok_I_most (gd_le hg gq).1 (gd_le hg gq).2 (Nat.le_of_ble_eq_true rfl) (fun K hK hret => ?_)
  obtain ⟨r, h1⟩ := q
  show K 0 [some (.inr (.inr 64)), some (.inl x1), some (.inl x2), some (.inl x3), some (.inl x4), some (.inl x5), some (.inl x6), none] [] h
  unfold f_I_most at hm
  refine ia_go hK ck_I_most_0 ?_
  show K 6 [some (.inr (.inr 64)), some (.inl x1), some (.inl x2), some (.inl x3), some (.inl x4), some (.inl x5), some (.inl x6), none] [.inl x4, .inl x3, .inl x2, .inl x1, .inr (.inr 64)] h
  obtain ⟨v1, hv1, hm⟩ := ia_bnd hm
  have ev1 := t_I_stage (d + 0) hg hv1
  have gv1 := g_I_stage hg hv1
  refine ia_cV hK mk_I_stage lk_0_266 dc_I_most_6 64 [.inl x1, .inl x2, .inl x3, .inl x4] [] rfl rfl (Nat.le_of_ble_eq_true rfl) (by decide) rfl (gk_0 hg pk_64) ev1 (gd_nm hg gv1) ?_
  show K 9 [some (.inr (.inr 64)), some (.inl x1), some (.inl x2), some (.inl x3), some (.inl x4), some (.inl x5), some (.inl x6), none] [.inl v1.1] v1.2
  refine ia_go hK ck_I_most_9 ⟨fun c => ?_, fun c => ?_⟩
  · replace hm := ia_ifp hm c
    show K 24 [some (.inr (.inr 64)), some (.inl x1), some (.inl x2), some (.inl x3), some (.inl x4), some (.inl x5), some (.inl x6), none] [] v1.2
    refine ia_go hK ck_I_most_24 ?_
    show K 25 [some (.inr (.inr 64)), some (.inl x1), some (.inl x2), some (.inl x3), some (.inl x4), some (.inl x5), some (.inl x6), none] [.inl (-1)] v1.2
    obtain ⟨rfl, rfl⟩ := Prod.mk.inj (Option.some.inj hm)
    exact hret 25 _ dc_I_most_25
  · replace hm := ia_ifn hm c
    show K 12 [some (.inr (.inr 64)), some (.inl x1), some (.inl x2), some (.inl x3), some (.inl x4), some (.inl x5), some (.inl x6), none] [] v1.2
    refine ia_go hK ck_I_most_12 ?_
    show K 18 [some (.inr (.inr 64)), some (.inl x1), some (.inl x2), some (.inl x3), some (.inl x4), some (.inl x5), some (.inl x6), none] [.inl x6, .inl x5, .inl 1, .inr (.inr 64)] v1.2
    obtain ⟨v2, hv2, hm⟩ := ia_bnd hm
    have ev2 := t_I_isTrip (d + 5) gv1 hv2
    refine ia_cV hK mk_I_isTrip lk_0_299 dc_I_most_18 64 [.inl 1, .inl x5, .inl x6] [] rfl rfl (Nat.le_of_ble_eq_true rfl) (by decide) rfl (gk_0 gv1 pk_64) ev2 ⟨rfl, rfl⟩ ?_
    show K 21 [some (.inr (.inr 64)), some (.inl x1), some (.inl x2), some (.inl x3), some (.inl x4), some (.inl x5), some (.inl x6), none] [.inl v2] v1.2
    refine ia_go hK ck_I_most_21 ⟨fun c => ?_, fun c => ?_⟩
    · replace hm := ia_ifn hm c
      show K 26 [some (.inr (.inr 64)), some (.inl x1), some (.inl x2), some (.inl x3), some (.inl x4), some (.inl x5), some (.inl x6), none] [] v1.2
      refine ia_go hK ck_I_most_26 ⟨gk_0 gv1 pk_64, gr_0_5 gv1 pk_64, gk_0 gv1 pk_64, gr_0_4 gv1 pk_64, ?_⟩
      show K 35 [some (.inr (.inr 64)), some (.inl x1), some (.inl x2), some (.inl x3), some (.inl x4), some (.inl x5), some (.inl x6), none] [.inl 0, .inr (.inr 303), .inr (.inr 311)] v1.2
      obtain ⟨v3, hv3, hm⟩ := ia_bnd hm
      have ev3 := t_Wa_survey (d + 5) gv1 (ka_0_4 pk_64) hv3
      have gv3 := g_Wa_survey gv1 (ka_0_4 pk_64) hv3
      refine ia_cV hK mk_Wa_survey lk_0_303 dc_I_most_35 311 [.inr (.inr 303), .inl 0] [] rfl rfl (Nat.le_of_ble_eq_true rfl) (by decide) rfl (gk_11 gv1 (ka_0_5 pk_64)) ev3 (gd_nm gv1 gv3) ?_
      show K 38 [some (.inr (.inr 64)), some (.inl x1), some (.inl x2), some (.inl x3), some (.inl x4), some (.inl x5), some (.inl x6), none] [] v3
      refine ia_go hK ck_I_most_38 ⟨gk_0 gv3 pk_64, gr_0_5 gv3 pk_64, ?_⟩
      show K 46 [some (.inr (.inr 64)), some (.inl x1), some (.inl x2), some (.inl x3), some (.inl x4), some (.inl x5), some (.inl x6), none] [.inl x6, .inl x5, .inr (.inr 311)] v3
      obtain ⟨v4, hv4, hm⟩ := ia_bnd hm
      have ev4 := t_Wa_greatestLoad (d + 4) gv3 hv4
      have gv4 := g_Wa_greatestLoad gv3 hv4
      refine ia_cV hK mk_Wa_greatestLoad lk_0_324 dc_I_most_46 311 [.inl x5, .inl x6] [] rfl rfl (Nat.le_of_ble_eq_true rfl) (by decide) rfl (gk_11 gv3 (ka_0_5 pk_64)) ev4 (gd_nm gv3 gv4) ?_
      show K 49 [some (.inr (.inr 64)), some (.inl x1), some (.inl x2), some (.inl x3), some (.inl x4), some (.inl x5), some (.inl x6), none] [.inl v4.1] v4.2
      refine ia_go hK ck_I_most_49 ⟨fun c => ?_, fun c => ?_⟩
      · replace hm := ia_ifp hm c
        show K 61 [some (.inr (.inr 64)), some (.inl x1), some (.inl x2), some (.inl x3), some (.inl x4), some (.inl x5), some (.inl x6), some (.inl v4.1)] [] v4.2
        refine ia_go hK ck_I_most_61 ?_
        show K 66 [some (.inr (.inr 64)), some (.inl x1), some (.inl x2), some (.inl x3), some (.inl x4), some (.inl x5), some (.inl x6), some (.inl v4.1)] [.inl 999, .inl v4.1] v4.2
        refine ia_mmin hK (ia_tb_in (List.mem_of_getElem? (i := 1271) (by decide +kernel)) rfl) dc_I_most_66 (Nat.le_of_ble_eq_true rfl) ?_
        show K 69 [some (.inr (.inr 64)), some (.inl x1), some (.inl x2), some (.inl x3), some (.inl x4), some (.inl x5), some (.inl x6), some (.inl v4.1)] [.inl (ia_min v4.1 999)] v4.2
        obtain ⟨rfl, rfl⟩ := Prod.mk.inj (Option.some.inj hm)
        exact hret 69 _ dc_I_most_69
      · replace hm := ia_ifn hm c
        show K 57 [some (.inr (.inr 64)), some (.inl x1), some (.inl x2), some (.inl x3), some (.inl x4), some (.inl x5), some (.inl x6), some (.inl v4.1)] [] v4.2
        refine ia_go hK ck_I_most_57 ?_
        show K 69 [some (.inr (.inr 64)), some (.inl x1), some (.inl x2), some (.inl x3), some (.inl x4), some (.inl x5), some (.inl x6), some (.inl v4.1)] [.inl (-1)] v4.2
        obtain ⟨rfl, rfl⟩ := Prod.mk.inj (Option.some.inj hm)
        exact hret 69 _ dc_I_most_69
    · replace hm := ia_ifp hm c
      show K 24 [some (.inr (.inr 64)), some (.inl x1), some (.inl x2), some (.inl x3), some (.inl x4), some (.inl x5), some (.inl x6), none] [] v1.2
      refine ia_go hK ck_I_most_24 ?_
      show K 25 [some (.inr (.inr 64)), some (.inl x1), some (.inl x2), some (.inl x3), some (.inl x4), some (.inl x5), some (.inl x6), none] [.inl (-1)] v1.2
      obtain ⟨rfl, rfl⟩ := Prod.mk.inj (Option.some.inj hm)
      exact hret 25 _ dc_I_most_25
def mm_I_from : ia_M := (⟨"IceStreet", "from", "(IIIIII)J"⟩, prog_1_method_19_code, 7, (some .long), 0, false)
theorem ok_I_from : ia_mok mm_I_from := ⟨by decide +kernel, by decide +kernel, by decide +kernel, by decide +kernel⟩
theorem mk_I_from : ia_mkn mm_I_from 1 6 := ⟨ia_tb_in (List.mem_of_getElem? (i := 1275) (by decide +kernel)) rfl, ia_tb_in (List.mem_of_getElem? (i := 133) (by decide +kernel)) rfl, by decide +kernel, by decide +kernel, ⟨ia_tb_in (List.mem_of_getElem? (i := 1273) (by decide +kernel)) rfl, ia_tb_in (List.mem_of_getElem? (i := 1274) (by decide +kernel)) rfl⟩⟩
theorem ck_I_from_0 : ia_cks 0 7 false prog_1_method_19_code 0 [(.aload_n 0, 0, 0, 0, 0), (.iload_n 1, 0, 0, 0, 0), (.iload_n 2, 0, 0, 0, 0), (.iload_n 3, 0, 0, 0, 0), (.iload 4, 0, 0, 0, 0)] = true := by decide +kernel
theorem ck_I_from_9 : ia_cks 0 7 false prog_1_method_19_code 9 [(.ifCond .eq 26, 0, 0, 0, 0)] = true := by decide +kernel
theorem ck_I_from_12 : ia_cks 0 7 false prog_1_method_19_code 12 [(.aload_n 0, 0, 0, 0, 0), (.getfield 44, 0, 4, 3, 239), (.getfield 283, 9, 0, 2, 0), (.iload 6, 0, 0, 0, 0)] = true := by decide +kernel
theorem ck_I_from_24 : ia_cks 0 7 false prog_1_method_19_code 24 [(.ifCond .eq 11, 0, 0, 0, 0)] = true := by decide +kernel
theorem ck_I_from_27 : ia_cks 0 7 false prog_1_method_19_code 27 [(.iload 5, 0, 0, 0, 0)] = true := by decide +kernel
theorem ck_I_from_32 : ia_cks 0 7 false prog_1_method_19_code 32 [(.ifCond .ne 7, 0, 0, 0, 0)] = true := by decide +kernel
theorem ck_I_from_39 : ia_cks 0 7 false prog_1_method_19_code 39 [(.aload_n 0, 0, 0, 0, 0), (.getfield 51, 0, 5, 3, 247), (.aload_n 0, 0, 0, 0, 0), (.getfield 44, 0, 4, 3, 239), (.iconst 0, 0, 0, 0, 0)] = true := by decide +kernel
theorem ck_I_from_51 : ia_cks 0 7 false prog_1_method_19_code 51 [(.aload_n 0, 0, 0, 0, 0), (.getfield 51, 0, 5, 3, 247), (.iload 5, 0, 0, 0, 0), (.iload 6, 0, 0, 0, 0)] = true := by decide +kernel
theorem dc_I_from_6 : decode prog_1_method_19_code 6 = .ok (.invokevirtual 266, 3) := by decide +kernel
theorem dc_I_from_35 : decode prog_1_method_19_code 35 = .ok (.ldc2_w 319, 3) := by decide +kernel
theorem dc_I_from_38 : decode prog_1_method_19_code 38 = .ok (.lreturn, 1) := by decide +kernel
theorem dc_I_from_21 : decode prog_1_method_19_code 21 = .ok (.invokevirtual 182, 3) := by decide +kernel
theorem dc_I_from_29 : decode prog_1_method_19_code 29 = .ok (.invokestatic 333, 3) := by decide +kernel
theorem dc_I_from_48 : decode prog_1_method_19_code 48 = .ok (.invokevirtual 303, 3) := by decide +kernel
theorem dc_I_from_59 : decode prog_1_method_19_code 59 = .ok (.invokevirtual 336, 3) := by decide +kernel
theorem dc_I_from_62 : decode prog_1_method_19_code 62 = .ok (.lreturn, 1) := by decide +kernel
def f_I_from (x1 : Int32) (x2 : Int32) (x3 : Int32) (x4 : Int32) (x5 : Int32) (x6 : Int32) (h : ia_H) : Option (Int64 × ia_H) := (f_I_stage x1 x2 x3 x4 h).bind fun v1 => (if v1.1 = 0 then (some ((-1), v1.2)) else ((f_La_isCell (ia_r v1.2 303 0) x6 v1.2).bind fun v2 => (if v2 = 0 then (some ((-1), v1.2)) else ((f_I_isLoad x5 v1.2).bind fun v3 => (if v3 = 0 then (some ((-1), v1.2)) else ((f_Wa_survey 303 0 v1.2).bind fun v4 => ((f_Wa_reach x5 x6 v4).bind fun v5 => (some (v5.1, v5.2)))))))))
theorem g_I_from {w : ia_O0} {x1 : Int32} {x2 : Int32} {x3 : Int32} {x4 : Int32} {x5 : Int32} {x6 : Int32} {h : ia_H} (hg : gd_ w h) {q : (Int64 × ia_H)} (hm : f_I_from x1 x2 x3 x4 x5 x6 h = some q) : gd_ w q.2 := by
  obtain ⟨r, h1⟩ := q
  unfold f_I_from at hm
  obtain ⟨v1, hv1, hm⟩ := ia_bnd hm
  have gv1 := g_I_stage hg hv1
  by_cases c : v1.1 = 0
  · replace hm := ia_ifp hm c
    obtain ⟨rfl, rfl⟩ := Prod.mk.inj (Option.some.inj hm)
    exact gv1
  · replace hm := ia_ifn hm c
    obtain ⟨v2, hv2, hm⟩ := ia_bnd hm
    by_cases c : v2 = 0
    · replace hm := ia_ifp hm c
      obtain ⟨rfl, rfl⟩ := Prod.mk.inj (Option.some.inj hm)
      exact gv1
    · replace hm := ia_ifn hm c
      obtain ⟨v3, hv3, hm⟩ := ia_bnd hm
      by_cases c : v3 = 0
      · replace hm := ia_ifp hm c
        obtain ⟨rfl, rfl⟩ := Prod.mk.inj (Option.some.inj hm)
        exact gv1
      · replace hm := ia_ifn hm c
        obtain ⟨v4, hv4, hm⟩ := ia_bnd hm
        have gv4 := g_Wa_survey gv1 (ka_0_4 pk_64) hv4
        obtain ⟨v5, hv5, hm⟩ := ia_bnd hm
        have gv5 := g_Wa_reach gv4 hv5
        obtain ⟨rfl, rfl⟩ := Prod.mk.inj (Option.some.inj hm)
        exact gv5
theorem t_I_from {w : ia_O0} (d : Nat) {x1 : Int32} {x2 : Int32} {x3 : Int32} {x4 : Int32} {x5 : Int32} {x6 : Int32} {h : ia_H} (hg : gd_ w h) {q : (Int64 × ia_H)} (hm : f_I_from x1 x2 x3 x4 x5 x6 h = some q) : ia_Ev (d + 7) mm_I_from [.inr (.inr 64), .inl x1, .inl x2, .inl x3, .inl x4, .inl x5, .inl x6] h (some (.inr (.inl q.1))) q.2 := by
  have gq := g_I_from hg hm
  refine ia_Ev_intro ok_I_from (gd_le hg gq).1 (gd_le hg gq).2 (Nat.le_of_ble_eq_true rfl) (fun K hK hret => ?_)
  obtain ⟨r, h1⟩ := q
  show K 0 [some (.inr (.inr 64)), some (.inl x1), some (.inl x2), some (.inl x3), some (.inl x4), some (.inl x5), some (.inl x6)] [] h
  unfold f_I_from at hm
  refine ia_go hK ck_I_from_0 ?_
  show K 6 [some (.inr (.inr 64)), some (.inl x1), some (.inl x2), some (.inl x3), some (.inl x4), some (.inl x5), some (.inl x6)] [.inl x4, .inl x3, .inl x2, .inl x1, .inr (.inr 64)] h
  obtain ⟨v1, hv1, hm⟩ := ia_bnd hm
  have ev1 := t_I_stage (d + 0) hg hv1
  have gv1 := g_I_stage hg hv1
  refine ia_cV hK mk_I_stage lk_0_266 dc_I_from_6 64 [.inl x1, .inl x2, .inl x3, .inl x4] [] rfl rfl (Nat.le_of_ble_eq_true rfl) (by decide) rfl (gk_0 hg pk_64) ev1 (gd_nm hg gv1) ?_
  show K 9 [some (.inr (.inr 64)), some (.inl x1), some (.inl x2), some (.inl x3), some (.inl x4), some (.inl x5), some (.inl x6)] [.inl v1.1] v1.2
  refine ia_go hK ck_I_from_9 ⟨fun c => ?_, fun c => ?_⟩
  · replace hm := ia_ifp hm c
    show K 35 [some (.inr (.inr 64)), some (.inl x1), some (.inl x2), some (.inl x3), some (.inl x4), some (.inl x5), some (.inl x6)] [] v1.2
    refine ia_ldc2 hK (v := (-1)) (ia_tb_in (List.mem_of_getElem? (i := 1265) (by decide +kernel)) rfl) dc_I_from_35 ?_
    show K 38 [some (.inr (.inr 64)), some (.inl x1), some (.inl x2), some (.inl x3), some (.inl x4), some (.inl x5), some (.inl x6)] [.inr (.inl (-1))] v1.2
    obtain ⟨rfl, rfl⟩ := Prod.mk.inj (Option.some.inj hm)
    exact hret 38 _ dc_I_from_38
  · replace hm := ia_ifn hm c
    show K 12 [some (.inr (.inr 64)), some (.inl x1), some (.inl x2), some (.inl x3), some (.inl x4), some (.inl x5), some (.inl x6)] [] v1.2
    refine ia_go hK ck_I_from_12 ⟨gk_0 gv1 pk_64, gr_0_4 gv1 pk_64, gk_9 gv1 (ka_0_4 pk_64), ?_⟩
    show K 21 [some (.inr (.inr 64)), some (.inl x1), some (.inl x2), some (.inl x3), some (.inl x4), some (.inl x5), some (.inl x6)] [.inl x6, .inr (.inr (ia_r v1.2 303 0))] v1.2
    obtain ⟨v2, hv2, hm⟩ := ia_bnd hm
    have ev2 := t_La_isCell (d + 6) gv1 (gm_9_0 gv1 (ka_0_4 pk_64)) hv2
    refine ia_cV hK mk_La_isCell lk_0_182 dc_I_from_21 (ia_r v1.2 303 0) [.inl x6] [] rfl rfl (Nat.le_of_ble_eq_true rfl) (by decide) rfl (gk_3 gv1 (gm_9_0 gv1 (ka_0_4 pk_64))) ev2 ⟨rfl, rfl⟩ ?_
    show K 24 [some (.inr (.inr 64)), some (.inl x1), some (.inl x2), some (.inl x3), some (.inl x4), some (.inl x5), some (.inl x6)] [.inl v2] v1.2
    refine ia_go hK ck_I_from_24 ⟨fun c => ?_, fun c => ?_⟩
    · replace hm := ia_ifp hm c
      show K 35 [some (.inr (.inr 64)), some (.inl x1), some (.inl x2), some (.inl x3), some (.inl x4), some (.inl x5), some (.inl x6)] [] v1.2
      refine ia_ldc2 hK (v := (-1)) (ia_tb_in (List.mem_of_getElem? (i := 1265) (by decide +kernel)) rfl) dc_I_from_35 ?_
      show K 38 [some (.inr (.inr 64)), some (.inl x1), some (.inl x2), some (.inl x3), some (.inl x4), some (.inl x5), some (.inl x6)] [.inr (.inl (-1))] v1.2
      obtain ⟨rfl, rfl⟩ := Prod.mk.inj (Option.some.inj hm)
      exact hret 38 _ dc_I_from_38
    · replace hm := ia_ifn hm c
      show K 27 [some (.inr (.inr 64)), some (.inl x1), some (.inl x2), some (.inl x3), some (.inl x4), some (.inl x5), some (.inl x6)] [] v1.2
      refine ia_go hK ck_I_from_27 ?_
      show K 29 [some (.inr (.inr 64)), some (.inl x1), some (.inl x2), some (.inl x3), some (.inl x4), some (.inl x5), some (.inl x6)] [.inl x5] v1.2
      obtain ⟨v3, hv3, hm⟩ := ia_bnd hm
      have ev3 := t_I_isLoad (d + 6) gv1 hv3
      refine ia_cS hK mk_I_isLoad lk_0_333 dc_I_from_29 [.inl x5] [] rfl rfl (Nat.le_of_ble_eq_true rfl) ev3 ⟨rfl, rfl⟩ ?_
      show K 32 [some (.inr (.inr 64)), some (.inl x1), some (.inl x2), some (.inl x3), some (.inl x4), some (.inl x5), some (.inl x6)] [.inl v3] v1.2
      refine ia_go hK ck_I_from_32 ⟨fun c => ?_, fun c => ?_⟩
      · replace hm := ia_ifn hm c
        show K 39 [some (.inr (.inr 64)), some (.inl x1), some (.inl x2), some (.inl x3), some (.inl x4), some (.inl x5), some (.inl x6)] [] v1.2
        refine ia_go hK ck_I_from_39 ⟨gk_0 gv1 pk_64, gr_0_5 gv1 pk_64, gk_0 gv1 pk_64, gr_0_4 gv1 pk_64, ?_⟩
        show K 48 [some (.inr (.inr 64)), some (.inl x1), some (.inl x2), some (.inl x3), some (.inl x4), some (.inl x5), some (.inl x6)] [.inl 0, .inr (.inr 303), .inr (.inr 311)] v1.2
        obtain ⟨v4, hv4, hm⟩ := ia_bnd hm
        have ev4 := t_Wa_survey (d + 5) gv1 (ka_0_4 pk_64) hv4
        have gv4 := g_Wa_survey gv1 (ka_0_4 pk_64) hv4
        refine ia_cV hK mk_Wa_survey lk_0_303 dc_I_from_48 311 [.inr (.inr 303), .inl 0] [] rfl rfl (Nat.le_of_ble_eq_true rfl) (by decide) rfl (gk_11 gv1 (ka_0_5 pk_64)) ev4 (gd_nm gv1 gv4) ?_
        show K 51 [some (.inr (.inr 64)), some (.inl x1), some (.inl x2), some (.inl x3), some (.inl x4), some (.inl x5), some (.inl x6)] [] v4
        refine ia_go hK ck_I_from_51 ⟨gk_0 gv4 pk_64, gr_0_5 gv4 pk_64, ?_⟩
        show K 59 [some (.inr (.inr 64)), some (.inl x1), some (.inl x2), some (.inl x3), some (.inl x4), some (.inl x5), some (.inl x6)] [.inl x6, .inl x5, .inr (.inr 311)] v4
        obtain ⟨v5, hv5, hm⟩ := ia_bnd hm
        have ev5 := t_Wa_reach (d + 5) gv4 hv5
        have gv5 := g_Wa_reach gv4 hv5
        refine ia_cV hK mk_Wa_reach lk_0_336 dc_I_from_59 311 [.inl x5, .inl x6] [] rfl rfl (Nat.le_of_ble_eq_true rfl) (by decide) rfl (gk_11 gv4 (ka_0_5 pk_64)) ev5 (gd_nm gv4 gv5) ?_
        show K 62 [some (.inr (.inr 64)), some (.inl x1), some (.inl x2), some (.inl x3), some (.inl x4), some (.inl x5), some (.inl x6)] [.inr (.inl v5.1)] v5.2
        obtain ⟨rfl, rfl⟩ := Prod.mk.inj (Option.some.inj hm)
        exact hret 62 _ dc_I_from_62
      · replace hm := ia_ifp hm c
        show K 35 [some (.inr (.inr 64)), some (.inl x1), some (.inl x2), some (.inl x3), some (.inl x4), some (.inl x5), some (.inl x6)] [] v1.2
        refine ia_ldc2 hK (v := (-1)) (ia_tb_in (List.mem_of_getElem? (i := 1265) (by decide +kernel)) rfl) dc_I_from_35 ?_
        show K 38 [some (.inr (.inr 64)), some (.inl x1), some (.inl x2), some (.inl x3), some (.inl x4), some (.inl x5), some (.inl x6)] [.inr (.inl (-1))] v1.2
        obtain ⟨rfl, rfl⟩ := Prod.mk.inj (Option.some.inj hm)
        exact hret 38 _ dc_I_from_38
def mm_Sc_duesIn : ia_M := (⟨"IceStreet$Scene", "duesIn", "(J)I"⟩, prog_10_method_24_code, 5, (some .int), 9, false)
theorem ok_Sc_duesIn : ia_mok mm_Sc_duesIn := ⟨by decide +kernel, by decide +kernel, by decide +kernel, by decide +kernel⟩
theorem mk_Sc_duesIn : ia_mkn mm_Sc_duesIn 1 1 := ⟨ia_tb_in (List.mem_of_getElem? (i := 1285) (by decide +kernel)) rfl, ia_tb_in (List.mem_of_getElem? (i := 140) (by decide +kernel)) rfl, by decide +kernel, by decide +kernel, ⟨ia_tb_in (List.mem_of_getElem? (i := 1283) (by decide +kernel)) rfl, ia_tb_in (List.mem_of_getElem? (i := 1284) (by decide +kernel)) rfl⟩⟩
theorem ck_Sc_duesIn_0 : ia_cks 9 5 false prog_10_method_24_code 0 [(.iconst 0, 0, 0, 0, 0), (.istore_n 3, 0, 0, 0, 0), (.iconst 0, 0, 0, 0, 0), (.istore 4, 0, 0, 0, 0)] = true := by decide +kernel
theorem ck_Sc_duesIn_5 : ia_cks 9 5 false prog_10_method_24_code 5 [(.iload 4, 0, 0, 0, 0), (.aload_n 0, 0, 0, 0, 0), (.getfield 33, 9, 0, 2, 0), (.getfield 66, 3, 11, 0, 0), (.if_icmp .ge 55, 0, 0, 0, 0)] = true := by decide +kernel
theorem ck_Sc_duesIn_17 : ia_cks 9 5 false prog_10_method_24_code 17 [(.aload_n 0, 0, 0, 0, 0), (.getfield 24, 9, 6, 3, 5), (.iload 4, 0, 0, 0, 0), (.iaload, 0, 0, 0, 0), (.ifCond .lt 39, 0, 0, 0, 0)] = true := by decide +kernel
theorem ck_Sc_duesIn_63 : ia_cks 9 5 false prog_10_method_24_code 63 [(.iinc 4 1, 0, 0, 0, 0), (.goto (-61), 0, 0, 0, 0)] = true := by decide +kernel
theorem ck_Sc_duesIn_27 : ia_cks 9 5 false prog_10_method_24_code 27 [(.lload_n 1, 0, 0, 0, 0), (.aload_n 0, 0, 0, 0, 0), (.getfield 24, 9, 6, 3, 5), (.iload 4, 0, 0, 0, 0), (.iaload, 0, 0, 0, 0)] = true := by decide +kernel
theorem ck_Sc_duesIn_38 : ia_cks 9 5 false prog_10_method_24_code 38 [(.ifCond .eq 25, 0, 0, 0, 0)] = true := by decide +kernel
theorem ck_Sc_duesIn_41 : ia_cks 9 5 false prog_10_method_24_code 41 [(.iload_n 3, 0, 0, 0, 0), (.aload_n 0, 0, 0, 0, 0), (.getfield 37, 9, 1, 2, 0), (.aload_n 0, 0, 0, 0, 0), (.getfield 9, 9, 2, 3, 1), (.aload_n 0, 0, 0, 0, 0), (.getfield 24, 9, 6, 3, 5), (.iload 4, 0, 0, 0, 0), (.iaload, 0, 0, 0, 0), (.iaload, 0, 0, 0, 0)] = true := by decide +kernel
theorem ck_Sc_duesIn_61 : ia_cks 9 5 false prog_10_method_24_code 61 [(.iadd, 0, 0, 0, 0), (.istore_n 3, 0, 0, 0, 0), (.iinc 4 1, 0, 0, 0, 0), (.goto (-61), 0, 0, 0, 0)] = true := by decide +kernel
theorem ck_Sc_duesIn_69 : ia_cks 9 5 false prog_10_method_24_code 69 [(.iload_n 3, 0, 0, 0, 0)] = true := by decide +kernel
theorem dc_Sc_duesIn_35 : decode prog_10_method_24_code 35 = .ok (.invokestatic 136, 3) := by decide +kernel
theorem dc_Sc_duesIn_58 : decode prog_10_method_24_code 58 = .ok (.invokevirtual 126, 3) := by decide +kernel
theorem dc_Sc_duesIn_70 : decode prog_10_method_24_code 70 = .ok (.ireturn, 1) := by decide +kernel
def l_Sc_duesIn_5 (a0 : Nat) (y1 : Int64) (h : ia_H) (k69 : Int32 → Option Int32) (n : Nat) (x3 : Int32) (x4 : Int32) : Option Int32 := match n with
  | 0 => none
  | n + 1 => if (ia_i h (ia_r h a0 0) 11) ≤ x4 then (k69 x3) else (ia_gd (ia_ib x4 6) (if (ia_i h (a0 + 5) ((x4).toNatClampNeg)) < 0 then (l_Sc_duesIn_5 a0 y1 h k69 n x3 (x4 + 1)) else (ia_gd (ia_ib x4 6) ((f_I_hasBit y1 (ia_i h (a0 + 5) ((x4).toNatClampNeg)) h).bind fun v3 => (if v3 = 0 then (l_Sc_duesIn_5 a0 y1 h k69 n x3 (x4 + 1)) else (ia_gd (ia_ib x4 6) (ia_gd (ia_ib (ia_i h (a0 + 5) ((x4).toNatClampNeg)) 36) ((f_Lw_dueFor (ia_r h a0 1) (ia_i h (a0 + 1) ((ia_i h (a0 + 5) ((x4).toNatClampNeg)).toNatClampNeg)) h).bind fun v6 => (l_Sc_duesIn_5 a0 y1 h k69 n (x3 + v6) (x4 + 1))))))))))
theorem tl_Sc_duesIn_5 {w : ia_O0} {d N1 W1 : Nat} {K : ia_K} (hK : ia_isK (d + 1) mm_Sc_duesIn N1 W1 K) {a0 : Nat} {y1 : Int64} {h : ia_H} (hg : gd_ w h) (p0 : (kd_D a0).1 = 9) {r : Int32} (hret : ∀ (pc : Nat) (lv : ia_L), ia_ret mm_Sc_duesIn pc (some (.inl r)) → K pc lv ((some (.inl r)) : Option ia_V).toList h) {k69 : Int32 → Option Int32} (hk69 : ∀ (x3 : Int32), k69 x3 = some r → K 69 [none, none, none, some (.inl x3), none] [] h) : ∀ (n : Nat) (x3 : Int32) (x4 : Int32), l_Sc_duesIn_5 a0 y1 h k69 n x3 x4 = some r → K 5 [some (.inr (.inr a0)), some (.inr (.inl y1)), none, some (.inl x3), some (.inl x4)] [] h := by
  intro n
  induction n with
  | zero =>
    intro x3 x4 hm
    cases (show (none : Option Int32) = some _ from hm)
  | succ n ih =>
    intro x3 x4 hm
    rw [l_Sc_duesIn_5] at hm
    refine ia_go hK ck_Sc_duesIn_5 ⟨gk_9 hg p0, gk_3 hg (gm_9_0 hg p0), fun c => ?_, fun c => ?_⟩
    · replace hm := ia_ifp hm c
      show K 69 [some (.inr (.inr a0)), some (.inr (.inl y1)), none, some (.inl x3), some (.inl x4)] [] h
      refine ia_fg hK (lv' := [none, none, none, some (.inl x3), none]) ⟨rfl, trivial⟩ ?_
      exact hk69 x3 hm
    · replace hm := ia_ifn hm c
      show K 17 [some (.inr (.inr a0)), some (.inr (.inl y1)), none, some (.inl x3), some (.inl x4)] [] h
      obtain ⟨c1, hm⟩ := ia_gd_some hm
      refine ia_go hK ck_Sc_duesIn_17 ⟨gk_9 hg p0, gr_9_6 hg p0, ga_i100 hg (ka_9_6 p0) c1, fun c => ?_, fun c => ?_⟩
      · replace hm := ia_ifp hm c
        show K 63 [some (.inr (.inr a0)), some (.inr (.inl y1)), none, some (.inl x3), some (.inl x4)] [] h
        refine ia_go hK ck_Sc_duesIn_63 ?_
        show K 5 [some (.inr (.inr a0)), some (.inr (.inl y1)), none, some (.inl x3), some (.inl (x4 + 1))] [] h
        exact ih x3 (x4 + 1) hm
      · replace hm := ia_ifn hm c
        show K 27 [some (.inr (.inr a0)), some (.inr (.inl y1)), none, some (.inl x3), some (.inl x4)] [] h
        obtain ⟨c2, hm⟩ := ia_gd_some hm
        refine ia_go hK ck_Sc_duesIn_27 ⟨gk_9 hg p0, gr_9_6 hg p0, ga_i100 hg (ka_9_6 p0) c2, ?_⟩
        show K 35 [some (.inr (.inr a0)), some (.inr (.inl y1)), none, some (.inl x3), some (.inl x4)] [.inl (ia_i h (a0 + 5) ((x4).toNatClampNeg)), .inr (.inl y1)] h
        obtain ⟨v3, hv3, hm⟩ := ia_bnd hm
        have ev3 := t_I_hasBit (d + 0) hg hv3
        refine ia_cS hK mk_I_hasBit lk_9_136 dc_Sc_duesIn_35 [.inr (.inl y1), .inl (ia_i h (a0 + 5) ((x4).toNatClampNeg))] [] rfl rfl (Nat.le_of_ble_eq_true rfl) ev3 ⟨rfl, rfl⟩ ?_
        show K 38 [some (.inr (.inr a0)), some (.inr (.inl y1)), none, some (.inl x3), some (.inl x4)] [.inl v3] h
        refine ia_go hK ck_Sc_duesIn_38 ⟨fun c => ?_, fun c => ?_⟩
        · replace hm := ia_ifp hm c
          show K 63 [some (.inr (.inr a0)), some (.inr (.inl y1)), none, some (.inl x3), some (.inl x4)] [] h
          refine ia_go hK ck_Sc_duesIn_63 ?_
          show K 5 [some (.inr (.inr a0)), some (.inr (.inl y1)), none, some (.inl x3), some (.inl (x4 + 1))] [] h
          exact ih x3 (x4 + 1) hm
        · replace hm := ia_ifn hm c
          show K 41 [some (.inr (.inr a0)), some (.inr (.inl y1)), none, some (.inl x3), some (.inl x4)] [] h
          obtain ⟨c4, hm⟩ := ia_gd_some hm
          obtain ⟨c5, hm⟩ := ia_gd_some hm
          refine ia_go hK ck_Sc_duesIn_41 ⟨gk_9 hg p0, gk_9 hg p0, gr_9_2 hg p0, gk_9 hg p0, gr_9_6 hg p0, ga_i100 hg (ka_9_6 p0) c4, ga_i100 hg (ka_9_2 p0) c5, ?_⟩
          show K 58 [some (.inr (.inr a0)), some (.inr (.inl y1)), none, some (.inl x3), some (.inl x4)] [.inl (ia_i h (a0 + 1) ((ia_i h (a0 + 5) ((x4).toNatClampNeg)).toNatClampNeg)), .inr (.inr (ia_r h a0 1)), .inl x3] h
          obtain ⟨v6, hv6, hm⟩ := ia_bnd hm
          have ev6 := t_Lw_dueFor (d + 0) hg (gm_9_1 hg p0) hv6
          refine ia_cV hK mk_Lw_dueFor lk_9_126 dc_Sc_duesIn_58 (ia_r h a0 1) [.inl (ia_i h (a0 + 1) ((ia_i h (a0 + 5) ((x4).toNatClampNeg)).toNatClampNeg))] [.inl x3] rfl rfl (Nat.le_of_ble_eq_true rfl) (by decide) rfl (gk_4 hg (gm_9_1 hg p0)) ev6 ⟨rfl, rfl⟩ ?_
          show K 61 [some (.inr (.inr a0)), some (.inr (.inl y1)), none, some (.inl x3), some (.inl x4)] [.inl v6, .inl x3] h
          refine ia_go hK ck_Sc_duesIn_61 ?_
          show K 5 [some (.inr (.inr a0)), some (.inr (.inl y1)), none, some (.inl (x3 + v6)), some (.inl (x4 + 1))] [] h
          exact ih (x3 + v6) (x4 + 1) hm
def f_Sc_duesIn (a0 : Nat) (y1 : Int64) (h : ia_H) : Option Int32 := l_Sc_duesIn_5 a0 y1 h (fun x3 => some x3) fu_ 0 0
theorem t_Sc_duesIn {w : ia_O0} (d : Nat) {a0 : Nat} {y1 : Int64} {h : ia_H} (hg : gd_ w h) (p0 : (kd_D a0).1 = 9) {r : Int32} (hm : f_Sc_duesIn a0 y1 h = some r) : ia_Ev (d + 1) mm_Sc_duesIn [.inr (.inr a0), .inr (.inl y1)] h (some (.inl r)) h := by
  refine ia_Ev_intro ok_Sc_duesIn (Nat.le_refl _) (Nat.le_refl _) (Nat.le_of_ble_eq_true rfl) (fun K hK hret => ?_)
  show K 0 [some (.inr (.inr a0)), some (.inr (.inl y1)), none, none, none] [] h
  unfold f_Sc_duesIn at hm
  refine ia_go hK ck_Sc_duesIn_0 ?_
  show K 5 [some (.inr (.inr a0)), some (.inr (.inl y1)), none, some (.inl 0), some (.inl 0)] [] h
  refine tl_Sc_duesIn_5 hK hg p0 hret ?_ fu_ 0 0 hm
  · intro x3 hm
    refine ia_go hK ck_Sc_duesIn_69 ?_
    show K 70 [none, none, none, some (.inl x3), none] [.inl x3] h
    obtain rfl := Option.some.inj hm
    exact hret 70 _ dc_Sc_duesIn_70
def mm_I_part : ia_M := (⟨"IceStreet", "part", "(IIIIIZ)J"⟩, prog_1_method_20_code, 9, (some .long), 0, false)
theorem ok_I_part : ia_mok mm_I_part := ⟨by decide +kernel, by decide +kernel, by decide +kernel, by decide +kernel⟩
theorem mk_I_part : ia_mkn mm_I_part 1 6 := ⟨ia_tb_in (List.mem_of_getElem? (i := 1280) (by decide +kernel)) rfl, ia_tb_in (List.mem_of_getElem? (i := 133) (by decide +kernel)) rfl, by decide +kernel, by decide +kernel, ⟨ia_tb_in (List.mem_of_getElem? (i := 1278) (by decide +kernel)) rfl, ia_tb_in (List.mem_of_getElem? (i := 1279) (by decide +kernel)) rfl⟩⟩
theorem ck_I_part_0 : ia_cks 0 9 false prog_1_method_20_code 0 [(.aload_n 0, 0, 0, 0, 0), (.iload_n 1, 0, 0, 0, 0), (.iload_n 2, 0, 0, 0, 0), (.iload_n 3, 0, 0, 0, 0), (.iload 4, 0, 0, 0, 0)] = true := by decide +kernel
theorem ck_I_part_9 : ia_cks 0 9 false prog_1_method_20_code 9 [(.ifCond .eq 18, 0, 0, 0, 0)] = true := by decide +kernel
theorem ck_I_part_12 : ia_cks 0 9 false prog_1_method_20_code 12 [(.aload_n 0, 0, 0, 0, 0), (.getfield 44, 0, 4, 3, 239), (.getfield 283, 9, 0, 2, 0), (.iload 5, 0, 0, 0, 0)] = true := by decide +kernel
theorem ck_I_part_24 : ia_cks 0 9 false prog_1_method_20_code 24 [(.ifCond .ne 7, 0, 0, 0, 0)] = true := by decide +kernel
theorem ck_I_part_31 : ia_cks 0 9 false prog_1_method_20_code 31 [(.aload_n 0, 0, 0, 0, 0), (.getfield 51, 0, 5, 3, 247), (.aload_n 0, 0, 0, 0, 0), (.getfield 44, 0, 4, 3, 239), (.getfield 283, 9, 0, 2, 0), (.iload 5, 0, 0, 0, 0)] = true := by decide +kernel
theorem ck_I_part_47 : ia_cks 0 9 false prog_1_method_20_code 47 [(.lstore 7, 0, 0, 0, 0), (.iload 6, 0, 0, 0, 0), (.ifCond .eq 16, 0, 0, 0, 0)] = true := by decide +kernel
theorem ck_I_part_67 : ia_cks 0 9 false prog_1_method_20_code 67 [(.lload 7, 0, 0, 0, 0)] = true := by decide +kernel
theorem ck_I_part_54 : ia_cks 0 9 false prog_1_method_20_code 54 [(.aload_n 0, 0, 0, 0, 0), (.getfield 44, 0, 4, 3, 239), (.lload 7, 0, 0, 0, 0)] = true := by decide +kernel
theorem ck_I_part_63 : ia_cks 0 9 false prog_1_method_20_code 63 [(.i2l, 0, 0, 0, 0), (.goto 5, 0, 0, 0, 0)] = true := by decide +kernel
theorem dc_I_part_6 : decode prog_1_method_20_code 6 = .ok (.invokevirtual 266, 3) := by decide +kernel
theorem dc_I_part_27 : decode prog_1_method_20_code 27 = .ok (.ldc2_w 319, 3) := by decide +kernel
theorem dc_I_part_30 : decode prog_1_method_20_code 30 = .ok (.lreturn, 1) := by decide +kernel
theorem dc_I_part_21 : decode prog_1_method_20_code 21 = .ok (.invokevirtual 182, 3) := by decide +kernel
theorem dc_I_part_44 : decode prog_1_method_20_code 44 = .ok (.invokevirtual 340, 3) := by decide +kernel
theorem dc_I_part_69 : decode prog_1_method_20_code 69 = .ok (.lreturn, 1) := by decide +kernel
theorem dc_I_part_60 : decode prog_1_method_20_code 60 = .ok (.invokevirtual 344, 3) := by decide +kernel
def f_I_part (x1 : Int32) (x2 : Int32) (x3 : Int32) (x4 : Int32) (x5 : Int32) (x6 : Int32) (h : ia_H) : Option (Int64 × ia_H) := (f_I_stage x1 x2 x3 x4 h).bind fun v1 => (if v1.1 = 0 then (some ((-1), v1.2)) else ((f_La_isCell (ia_r v1.2 303 0) x5 v1.2).bind fun v2 => (if v2 = 0 then (some ((-1), v1.2)) else ((f_Wa_joined (ia_r v1.2 303 0) x5 v1.2).bind fun v3 => (if x6 = 0 then (some (v3.1, v3.2)) else ((f_Sc_duesIn 303 v3.1 v3.2).bind fun v4 => (some (v4.toInt64, v3.2))))))))
theorem g_I_part {w : ia_O0} {x1 : Int32} {x2 : Int32} {x3 : Int32} {x4 : Int32} {x5 : Int32} {x6 : Int32} {h : ia_H} (hg : gd_ w h) {q : (Int64 × ia_H)} (hm : f_I_part x1 x2 x3 x4 x5 x6 h = some q) : gd_ w q.2 := by
  obtain ⟨r, h1⟩ := q
  unfold f_I_part at hm
  obtain ⟨v1, hv1, hm⟩ := ia_bnd hm
  have gv1 := g_I_stage hg hv1
  by_cases c : v1.1 = 0
  · replace hm := ia_ifp hm c
    obtain ⟨rfl, rfl⟩ := Prod.mk.inj (Option.some.inj hm)
    exact gv1
  · replace hm := ia_ifn hm c
    obtain ⟨v2, hv2, hm⟩ := ia_bnd hm
    by_cases c : v2 = 0
    · replace hm := ia_ifp hm c
      obtain ⟨rfl, rfl⟩ := Prod.mk.inj (Option.some.inj hm)
      exact gv1
    · replace hm := ia_ifn hm c
      obtain ⟨v3, hv3, hm⟩ := ia_bnd hm
      have gv3 := g_Wa_joined gv1 (gm_9_0 gv1 (ka_0_4 pk_64)) hv3
      by_cases c : x6 = 0
      · replace hm := ia_ifp hm c
        obtain ⟨rfl, rfl⟩ := Prod.mk.inj (Option.some.inj hm)
        exact gv3
      · replace hm := ia_ifn hm c
        obtain ⟨v4, hv4, hm⟩ := ia_bnd hm
        obtain ⟨rfl, rfl⟩ := Prod.mk.inj (Option.some.inj hm)
        exact gv3
theorem t_I_part {w : ia_O0} (d : Nat) {x1 : Int32} {x2 : Int32} {x3 : Int32} {x4 : Int32} {x5 : Int32} {x6 : Int32} {h : ia_H} (hg : gd_ w h) {q : (Int64 × ia_H)} (hm : f_I_part x1 x2 x3 x4 x5 x6 h = some q) : ia_Ev (d + 7) mm_I_part [.inr (.inr 64), .inl x1, .inl x2, .inl x3, .inl x4, .inl x5, .inl x6] h (some (.inr (.inl q.1))) q.2 := by
  have gq := g_I_part hg hm
  refine ia_Ev_intro ok_I_part (gd_le hg gq).1 (gd_le hg gq).2 (Nat.le_of_ble_eq_true rfl) (fun K hK hret => ?_)
  obtain ⟨r, h1⟩ := q
  show K 0 [some (.inr (.inr 64)), some (.inl x1), some (.inl x2), some (.inl x3), some (.inl x4), some (.inl x5), some (.inl x6), none, none] [] h
  unfold f_I_part at hm
  refine ia_go hK ck_I_part_0 ?_
  show K 6 [some (.inr (.inr 64)), some (.inl x1), some (.inl x2), some (.inl x3), some (.inl x4), some (.inl x5), some (.inl x6), none, none] [.inl x4, .inl x3, .inl x2, .inl x1, .inr (.inr 64)] h
  obtain ⟨v1, hv1, hm⟩ := ia_bnd hm
  have ev1 := t_I_stage (d + 0) hg hv1
  have gv1 := g_I_stage hg hv1
  refine ia_cV hK mk_I_stage lk_0_266 dc_I_part_6 64 [.inl x1, .inl x2, .inl x3, .inl x4] [] rfl rfl (Nat.le_of_ble_eq_true rfl) (by decide) rfl (gk_0 hg pk_64) ev1 (gd_nm hg gv1) ?_
  show K 9 [some (.inr (.inr 64)), some (.inl x1), some (.inl x2), some (.inl x3), some (.inl x4), some (.inl x5), some (.inl x6), none, none] [.inl v1.1] v1.2
  refine ia_go hK ck_I_part_9 ⟨fun c => ?_, fun c => ?_⟩
  · replace hm := ia_ifp hm c
    show K 27 [some (.inr (.inr 64)), some (.inl x1), some (.inl x2), some (.inl x3), some (.inl x4), some (.inl x5), some (.inl x6), none, none] [] v1.2
    refine ia_ldc2 hK (v := (-1)) (ia_tb_in (List.mem_of_getElem? (i := 1265) (by decide +kernel)) rfl) dc_I_part_27 ?_
    show K 30 [some (.inr (.inr 64)), some (.inl x1), some (.inl x2), some (.inl x3), some (.inl x4), some (.inl x5), some (.inl x6), none, none] [.inr (.inl (-1))] v1.2
    obtain ⟨rfl, rfl⟩ := Prod.mk.inj (Option.some.inj hm)
    exact hret 30 _ dc_I_part_30
  · replace hm := ia_ifn hm c
    show K 12 [some (.inr (.inr 64)), some (.inl x1), some (.inl x2), some (.inl x3), some (.inl x4), some (.inl x5), some (.inl x6), none, none] [] v1.2
    refine ia_go hK ck_I_part_12 ⟨gk_0 gv1 pk_64, gr_0_4 gv1 pk_64, gk_9 gv1 (ka_0_4 pk_64), ?_⟩
    show K 21 [some (.inr (.inr 64)), some (.inl x1), some (.inl x2), some (.inl x3), some (.inl x4), some (.inl x5), some (.inl x6), none, none] [.inl x5, .inr (.inr (ia_r v1.2 303 0))] v1.2
    obtain ⟨v2, hv2, hm⟩ := ia_bnd hm
    have ev2 := t_La_isCell (d + 6) gv1 (gm_9_0 gv1 (ka_0_4 pk_64)) hv2
    refine ia_cV hK mk_La_isCell lk_0_182 dc_I_part_21 (ia_r v1.2 303 0) [.inl x5] [] rfl rfl (Nat.le_of_ble_eq_true rfl) (by decide) rfl (gk_3 gv1 (gm_9_0 gv1 (ka_0_4 pk_64))) ev2 ⟨rfl, rfl⟩ ?_
    show K 24 [some (.inr (.inr 64)), some (.inl x1), some (.inl x2), some (.inl x3), some (.inl x4), some (.inl x5), some (.inl x6), none, none] [.inl v2] v1.2
    refine ia_go hK ck_I_part_24 ⟨fun c => ?_, fun c => ?_⟩
    · replace hm := ia_ifn hm c
      show K 31 [some (.inr (.inr 64)), some (.inl x1), some (.inl x2), some (.inl x3), some (.inl x4), some (.inl x5), some (.inl x6), none, none] [] v1.2
      refine ia_go hK ck_I_part_31 ⟨gk_0 gv1 pk_64, gr_0_5 gv1 pk_64, gk_0 gv1 pk_64, gr_0_4 gv1 pk_64, gk_9 gv1 (ka_0_4 pk_64), ?_⟩
      show K 44 [some (.inr (.inr 64)), some (.inl x1), some (.inl x2), some (.inl x3), some (.inl x4), some (.inl x5), some (.inl x6), none, none] [.inl x5, .inr (.inr (ia_r v1.2 303 0)), .inr (.inr 311)] v1.2
      obtain ⟨v3, hv3, hm⟩ := ia_bnd hm
      have ev3 := t_Wa_joined (d + 5) gv1 (gm_9_0 gv1 (ka_0_4 pk_64)) hv3
      have gv3 := g_Wa_joined gv1 (gm_9_0 gv1 (ka_0_4 pk_64)) hv3
      refine ia_cV hK mk_Wa_joined lk_0_340 dc_I_part_44 311 [.inr (.inr (ia_r v1.2 303 0)), .inl x5] [] rfl rfl (Nat.le_of_ble_eq_true rfl) (by decide) rfl (gk_11 gv1 (ka_0_5 pk_64)) ev3 (gd_nm gv1 gv3) ?_
      show K 47 [some (.inr (.inr 64)), some (.inl x1), some (.inl x2), some (.inl x3), some (.inl x4), some (.inl x5), some (.inl x6), none, none] [.inr (.inl v3.1)] v3.2
      refine ia_go hK ck_I_part_47 ⟨fun c => ?_, fun c => ?_⟩
      · replace hm := ia_ifp hm c
        show K 67 [some (.inr (.inr 64)), some (.inl x1), some (.inl x2), some (.inl x3), some (.inl x4), some (.inl x5), some (.inl x6), some (.inr (.inl v3.1)), none] [] v3.2
        refine ia_go hK ck_I_part_67 ?_
        show K 69 [some (.inr (.inr 64)), some (.inl x1), some (.inl x2), some (.inl x3), some (.inl x4), some (.inl x5), some (.inl x6), some (.inr (.inl v3.1)), none] [.inr (.inl v3.1)] v3.2
        obtain ⟨rfl, rfl⟩ := Prod.mk.inj (Option.some.inj hm)
        exact hret 69 _ dc_I_part_69
      · replace hm := ia_ifn hm c
        show K 54 [some (.inr (.inr 64)), some (.inl x1), some (.inl x2), some (.inl x3), some (.inl x4), some (.inl x5), some (.inl x6), some (.inr (.inl v3.1)), none] [] v3.2
        refine ia_go hK ck_I_part_54 ⟨gk_0 gv3 pk_64, gr_0_4 gv3 pk_64, ?_⟩
        show K 60 [some (.inr (.inr 64)), some (.inl x1), some (.inl x2), some (.inl x3), some (.inl x4), some (.inl x5), some (.inl x6), some (.inr (.inl v3.1)), none] [.inr (.inl v3.1), .inr (.inr 303)] v3.2
        obtain ⟨v4, hv4, hm⟩ := ia_bnd hm
        have ev4 := t_Sc_duesIn (d + 5) gv3 (ka_0_4 pk_64) hv4
        refine ia_cV hK mk_Sc_duesIn lk_0_344 dc_I_part_60 303 [.inr (.inl v3.1)] [] rfl rfl (Nat.le_of_ble_eq_true rfl) (by decide) rfl (gk_9 gv3 (ka_0_4 pk_64)) ev4 ⟨rfl, rfl⟩ ?_
        show K 63 [some (.inr (.inr 64)), some (.inl x1), some (.inl x2), some (.inl x3), some (.inl x4), some (.inl x5), some (.inl x6), some (.inr (.inl v3.1)), none] [.inl v4] v3.2
        refine ia_go hK ck_I_part_63 ?_
        show K 69 [some (.inr (.inr 64)), some (.inl x1), some (.inl x2), some (.inl x3), some (.inl x4), some (.inl x5), some (.inl x6), some (.inr (.inl v3.1)), none] [.inr (.inl v4.toInt64)] v3.2
        obtain ⟨rfl, rfl⟩ := Prod.mk.inj (Option.some.inj hm)
        exact hret 69 _ dc_I_part_69
    · replace hm := ia_ifp hm c
      show K 27 [some (.inr (.inr 64)), some (.inl x1), some (.inl x2), some (.inl x3), some (.inl x4), some (.inl x5), some (.inl x6), none, none] [] v1.2
      refine ia_ldc2 hK (v := (-1)) (ia_tb_in (List.mem_of_getElem? (i := 1265) (by decide +kernel)) rfl) dc_I_part_27 ?_
      show K 30 [some (.inr (.inr 64)), some (.inl x1), some (.inl x2), some (.inl x3), some (.inl x4), some (.inl x5), some (.inl x6), none, none] [.inr (.inl (-1))] v1.2
      obtain ⟨rfl, rfl⟩ := Prod.mk.inj (Option.some.inj hm)
      exact hret 30 _ dc_I_part_30
def mm_Sc_become : ia_M := (⟨"IceStreet$Scene", "become", "(LIceStreet$Scene;)V"⟩, prog_10_method_3_code, 2, none, 9, false)
theorem ok_Sc_become : ia_mok mm_Sc_become := ⟨by decide +kernel, by decide +kernel, by decide +kernel, by decide +kernel⟩
theorem mk_Sc_become : ia_mkn mm_Sc_become 1 1 := ⟨ia_tb_in (List.mem_of_getElem? (i := 1298) (by decide +kernel)) rfl, ia_tb_in (List.mem_of_getElem? (i := 140) (by decide +kernel)) rfl, by decide +kernel, by decide +kernel, ⟨ia_tb_in (List.mem_of_getElem? (i := 1296) (by decide +kernel)) rfl, ia_tb_in (List.mem_of_getElem? (i := 1297) (by decide +kernel)) rfl⟩⟩
theorem ck_Sc_become_0 : ia_cks 9 2 false prog_10_method_3_code 0 [(.aload_n 0, 0, 0, 0, 0), (.aload_n 1, 0, 0, 0, 0), (.getfield 33, 9, 0, 2, 0), (.putfield 33, 9, 0, 2, 0), (.aload_n 0, 0, 0, 0, 0), (.aload_n 1, 0, 0, 0, 0), (.getfield 37, 9, 1, 2, 0), (.putfield 37, 9, 1, 2, 0), (.aload_n 1, 0, 0, 0, 0), (.getfield 9, 9, 2, 3, 1), (.iconst 0, 0, 0, 0, 0), (.aload_n 0, 0, 0, 0, 0), (.getfield 9, 9, 2, 3, 1), (.iconst 0, 0, 0, 0, 0), (.bipush 36, 0, 0, 0, 0)] = true := by decide +kernel
theorem ck_Sc_become_31 : ia_cks 9 2 false prog_10_method_3_code 31 [(.aload_n 1, 0, 0, 0, 0), (.getfield 15, 9, 3, 3, 2), (.iconst 0, 0, 0, 0, 0), (.aload_n 0, 0, 0, 0, 0), (.getfield 15, 9, 3, 3, 2), (.iconst 0, 0, 0, 0, 0), (.bipush 36, 0, 0, 0, 0)] = true := by decide +kernel
theorem ck_Sc_become_46 : ia_cks 9 2 false prog_10_method_3_code 46 [(.aload_n 1, 0, 0, 0, 0), (.getfield 18, 9, 4, 3, 3), (.iconst 0, 0, 0, 0, 0), (.aload_n 0, 0, 0, 0, 0), (.getfield 18, 9, 4, 3, 3), (.iconst 0, 0, 0, 0, 0), (.bipush 36, 0, 0, 0, 0)] = true := by decide +kernel
theorem ck_Sc_become_61 : ia_cks 9 2 false prog_10_method_3_code 61 [(.aload_n 1, 0, 0, 0, 0), (.getfield 21, 9, 5, 3, 4), (.iconst 0, 0, 0, 0, 0), (.aload_n 0, 0, 0, 0, 0), (.getfield 21, 9, 5, 3, 4), (.iconst 0, 0, 0, 0, 0), (.bipush 36, 0, 0, 0, 0)] = true := by decide +kernel
theorem ck_Sc_become_76 : ia_cks 9 2 false prog_10_method_3_code 76 [(.aload_n 1, 0, 0, 0, 0), (.getfield 24, 9, 6, 3, 5), (.iconst 0, 0, 0, 0, 0), (.aload_n 0, 0, 0, 0, 0), (.getfield 24, 9, 6, 3, 5), (.iconst 0, 0, 0, 0, 0), (.bipush 6, 0, 0, 0, 0)] = true := by decide +kernel
theorem ck_Sc_become_91 : ia_cks 9 2 false prog_10_method_3_code 91 [(.aload_n 1, 0, 0, 0, 0), (.getfield 27, 9, 7, 3, 6), (.iconst 0, 0, 0, 0, 0), (.aload_n 0, 0, 0, 0, 0), (.getfield 27, 9, 7, 3, 6), (.iconst 0, 0, 0, 0, 0), (.bipush 6, 0, 0, 0, 0)] = true := by decide +kernel
theorem ck_Sc_become_106 : ia_cks 9 2 false prog_10_method_3_code 106 [(.aload_n 1, 0, 0, 0, 0), (.getfield 30, 9, 8, 3, 7), (.iconst 0, 0, 0, 0, 0), (.aload_n 0, 0, 0, 0, 0), (.getfield 30, 9, 8, 3, 7), (.iconst 0, 0, 0, 0, 0), (.bipush 6, 0, 0, 0, 0)] = true := by decide +kernel
theorem ck_Sc_become_121 : ia_cks 9 2 false prog_10_method_3_code 121 [(.aload_n 0, 0, 0, 0, 0), (.aload_n 1, 0, 0, 0, 0), (.getfield 59, 9, 9, 0, 0), (.putfield 59, 9, 9, 0, 0), (.aload_n 0, 0, 0, 0, 0), (.aload_n 1, 0, 0, 0, 0), (.getfield 63, 9, 10, 0, 0), (.putfield 63, 9, 10, 0, 0)] = true := by decide +kernel
theorem dc_Sc_become_28 : decode prog_10_method_3_code 28 = .ok (.invokestatic 44, 3) := by decide +kernel
theorem dc_Sc_become_43 : decode prog_10_method_3_code 43 = .ok (.invokestatic 44, 3) := by decide +kernel
theorem dc_Sc_become_58 : decode prog_10_method_3_code 58 = .ok (.invokestatic 44, 3) := by decide +kernel
theorem dc_Sc_become_73 : decode prog_10_method_3_code 73 = .ok (.invokestatic 44, 3) := by decide +kernel
theorem dc_Sc_become_88 : decode prog_10_method_3_code 88 = .ok (.invokestatic 44, 3) := by decide +kernel
theorem dc_Sc_become_103 : decode prog_10_method_3_code 103 = .ok (.invokestatic 44, 3) := by decide +kernel
theorem dc_Sc_become_118 : decode prog_10_method_3_code 118 = .ok (.invokestatic 44, 3) := by decide +kernel
theorem dc_Sc_become_137 : decode prog_10_method_3_code 137 = .ok (.return_, 1) := by decide +kernel
def j_Sc_become_121 (a0 : Nat) (a1 : Nat) (h : ia_H) : Option ia_H := some (ia_wI (ia_wI h a0 9 (ia_i h a1 9)) a0 10 (ia_i (ia_wI h a0 9 (ia_i h a1 9)) a1 10))
theorem tj_Sc_become_121 {w : ia_O0} {d N1 W1 : Nat} {K : ia_K} (hK : ia_isK (d + 0) mm_Sc_become N1 W1 K) {a0 : Nat} {a1 : Nat} (p0 : (kd_D a0).1 = 9) (p1 : (kd_D a1).1 = 9) {h1 : ia_H} (hret : ∀ (pc : Nat) (lv : ia_L), ia_ret mm_Sc_become pc none → K pc lv (none : Option ia_V).toList h1) : ∀ (h : ia_H), gd_ w h → j_Sc_become_121 a0 a1 h = some h1 → K 121 [some (.inr (.inr a0)), some (.inr (.inr a1))] [] h := by
  intro h hg hm
  unfold j_Sc_become_121 at hm
  refine ia_go hK ck_Sc_become_121 ⟨gk_9 hg p1, gk_9 hg p0, gk_9 (gd_wI hg (ko_9 p0)) p1, gk_9 (gd_wI hg (ko_9 p0)) p0, ?_⟩
  show K 137 [some (.inr (.inr a0)), some (.inr (.inr a1))] [] (ia_wI (ia_wI h a0 9 (ia_i h a1 9)) a0 10 (ia_i (ia_wI h a0 9 (ia_i h a1 9)) a1 10))
  obtain rfl := Option.some.inj hm
  exact hret 137 _ dc_Sc_become_137
theorem gj_Sc_become_121 {w : ia_O0} {a0 : Nat} {a1 : Nat} (p0 : (kd_D a0).1 = 9) (p1 : (kd_D a1).1 = 9) {h1 : ia_H} : ∀ (h : ia_H), gd_ w h → j_Sc_become_121 a0 a1 h = some h1 → gd_ w h1 := by
  intro h hg hm
  unfold j_Sc_become_121 at hm
  obtain rfl := Option.some.inj hm
  exact (gd_wI (gd_wI hg (ko_9 p0)) (ko_9 p0))
def f_Sc_become (a0 : Nat) (a1 : Nat) (h : ia_H) : Option ia_H := j_Sc_become_121 a0 a1 (ia_cpI (ia_cpI (ia_cpI (ia_cpI (ia_cpI (ia_cpI (ia_cpI (ia_wR (ia_wR h a0 0 (ia_r h a1 0)) a0 1 (ia_r (ia_wR h a0 0 (ia_r h a1 0)) a1 1)) (a1 + 1) (a0 + 1) 0 0 36) (a1 + 2) (a0 + 2) 0 0 36) (a1 + 3) (a0 + 3) 0 0 36) (a1 + 4) (a0 + 4) 0 0 36) (a1 + 5) (a0 + 5) 0 0 6) (a1 + 6) (a0 + 6) 0 0 6) (a1 + 7) (a0 + 7) 0 0 6)
theorem g_Sc_become {w : ia_O0} {a0 : Nat} {a1 : Nat} {h : ia_H} (hg : gd_ w h) (p0 : (kd_D a0).1 = 9) (p1 : (kd_D a1).1 = 9) {q : ia_H} (hm : f_Sc_become a0 a1 h = some q) : gd_ w q := by
  obtain ⟨h1, e1⟩ : ∃ x, x = q := ⟨_, rfl⟩
  subst e1
  unfold f_Sc_become at hm
  exact gj_Sc_become_121 p0 p1 (ia_cpI (ia_cpI (ia_cpI (ia_cpI (ia_cpI (ia_cpI (ia_cpI (ia_wR (ia_wR h a0 0 (ia_r h a1 0)) a0 1 (ia_r (ia_wR h a0 0 (ia_r h a1 0)) a1 1)) (a1 + 1) (a0 + 1) 0 0 36) (a1 + 2) (a0 + 2) 0 0 36) (a1 + 3) (a0 + 3) 0 0 36) (a1 + 4) (a0 + 4) 0 0 36) (a1 + 5) (a0 + 5) 0 0 6) (a1 + 6) (a0 + 6) 0 0 6) (a1 + 7) (a0 + 7) 0 0 6) (gd_cpI (gd_cpI (gd_cpI (gd_cpI (gd_cpI (gd_cpI (gd_cpI (gw_9_1 (gw_9_0 hg p0 (gm_9_0 hg p1)) p0 (gm_9_1 (gw_9_0 hg p0 (gm_9_0 hg p1)) p1)) (kx_100 (ka_9_2 p0))) (kx_100 (ka_9_3 p0))) (kx_100 (ka_9_4 p0))) (kx_100 (ka_9_5 p0))) (kx_100 (ka_9_6 p0))) (kx_100 (ka_9_7 p0))) (kx_100 (ka_9_8 p0))) hm
theorem t_Sc_become {w : ia_O0} (d : Nat) {a0 : Nat} {a1 : Nat} {h : ia_H} (hg : gd_ w h) (p0 : (kd_D a0).1 = 9) (p1 : (kd_D a1).1 = 9) {q : ia_H} (hm : f_Sc_become a0 a1 h = some q) : ia_Ev (d + 0) mm_Sc_become [.inr (.inr a0), .inr (.inr a1)] h none q := by
  have gq := g_Sc_become hg p0 p1 hm
  refine ia_Ev_intro ok_Sc_become (gd_le hg gq).1 (gd_le hg gq).2 (Nat.le_of_ble_eq_true rfl) (fun K hK hret => ?_)
  obtain ⟨h1, e1⟩ : ∃ x, x = q := ⟨_, rfl⟩
  subst e1
  show K 0 [some (.inr (.inr a0)), some (.inr (.inr a1))] [] h
  unfold f_Sc_become at hm
  refine ia_go hK ck_Sc_become_0 ⟨gk_9 hg p1, gk_9 hg p0, gk_9 (gw_9_0 hg p0 (gm_9_0 hg p1)) p1, gk_9 (gw_9_0 hg p0 (gm_9_0 hg p1)) p0, gk_9 (gw_9_1 (gw_9_0 hg p0 (gm_9_0 hg p1)) p0 (gm_9_1 (gw_9_0 hg p0 (gm_9_0 hg p1)) p1)) p1, gr_9_2 (gw_9_1 (gw_9_0 hg p0 (gm_9_0 hg p1)) p0 (gm_9_1 (gw_9_0 hg p0 (gm_9_0 hg p1)) p1)) p1, gk_9 (gw_9_1 (gw_9_0 hg p0 (gm_9_0 hg p1)) p0 (gm_9_1 (gw_9_0 hg p0 (gm_9_0 hg p1)) p1)) p0, gr_9_2 (gw_9_1 (gw_9_0 hg p0 (gm_9_0 hg p1)) p0 (gm_9_1 (gw_9_0 hg p0 (gm_9_0 hg p1)) p1)) p0, ?_⟩
  show K 28 [some (.inr (.inr a0)), some (.inr (.inr a1))] [.inl 36, .inl 0, .inr (.inr (a0 + 1)), .inl 0, .inr (.inr (a1 + 1))] (ia_wR (ia_wR h a0 0 (ia_r h a1 0)) a0 1 (ia_r (ia_wR h a0 0 (ia_r h a1 0)) a1 1))
  refine gd_cI hK (ia_tb_in (List.mem_of_getElem? (i := 1038) (by decide +kernel)) rfl) dc_Sc_become_28 (Nat.le_of_ble_eq_true rfl) (Or.inl rfl) (gw_9_1 (gw_9_0 hg p0 (gm_9_0 hg p1)) p0 (gm_9_1 (gw_9_0 hg p0 (gm_9_0 hg p1)) p1)) (ka_9_2 p1) (ka_9_2 p0) (by decide) rfl ?_
  show K 31 [some (.inr (.inr a0)), some (.inr (.inr a1))] [] (ia_cpI (ia_wR (ia_wR h a0 0 (ia_r h a1 0)) a0 1 (ia_r (ia_wR h a0 0 (ia_r h a1 0)) a1 1)) (a1 + 1) (a0 + 1) 0 0 36)
  refine ia_go hK ck_Sc_become_31 ⟨gk_9 (gd_cpI (gw_9_1 (gw_9_0 hg p0 (gm_9_0 hg p1)) p0 (gm_9_1 (gw_9_0 hg p0 (gm_9_0 hg p1)) p1)) (kx_100 (ka_9_2 p0))) p1, gr_9_3 (gd_cpI (gw_9_1 (gw_9_0 hg p0 (gm_9_0 hg p1)) p0 (gm_9_1 (gw_9_0 hg p0 (gm_9_0 hg p1)) p1)) (kx_100 (ka_9_2 p0))) p1, gk_9 (gd_cpI (gw_9_1 (gw_9_0 hg p0 (gm_9_0 hg p1)) p0 (gm_9_1 (gw_9_0 hg p0 (gm_9_0 hg p1)) p1)) (kx_100 (ka_9_2 p0))) p0, gr_9_3 (gd_cpI (gw_9_1 (gw_9_0 hg p0 (gm_9_0 hg p1)) p0 (gm_9_1 (gw_9_0 hg p0 (gm_9_0 hg p1)) p1)) (kx_100 (ka_9_2 p0))) p0, ?_⟩
  show K 43 [some (.inr (.inr a0)), some (.inr (.inr a1))] [.inl 36, .inl 0, .inr (.inr (a0 + 2)), .inl 0, .inr (.inr (a1 + 2))] (ia_cpI (ia_wR (ia_wR h a0 0 (ia_r h a1 0)) a0 1 (ia_r (ia_wR h a0 0 (ia_r h a1 0)) a1 1)) (a1 + 1) (a0 + 1) 0 0 36)
  refine gd_cI hK (ia_tb_in (List.mem_of_getElem? (i := 1038) (by decide +kernel)) rfl) dc_Sc_become_43 (Nat.le_of_ble_eq_true rfl) (Or.inl rfl) (gd_cpI (gw_9_1 (gw_9_0 hg p0 (gm_9_0 hg p1)) p0 (gm_9_1 (gw_9_0 hg p0 (gm_9_0 hg p1)) p1)) (kx_100 (ka_9_2 p0))) (ka_9_3 p1) (ka_9_3 p0) (by decide) rfl ?_
  show K 46 [some (.inr (.inr a0)), some (.inr (.inr a1))] [] (ia_cpI (ia_cpI (ia_wR (ia_wR h a0 0 (ia_r h a1 0)) a0 1 (ia_r (ia_wR h a0 0 (ia_r h a1 0)) a1 1)) (a1 + 1) (a0 + 1) 0 0 36) (a1 + 2) (a0 + 2) 0 0 36)
  refine ia_go hK ck_Sc_become_46 ⟨gk_9 (gd_cpI (gd_cpI (gw_9_1 (gw_9_0 hg p0 (gm_9_0 hg p1)) p0 (gm_9_1 (gw_9_0 hg p0 (gm_9_0 hg p1)) p1)) (kx_100 (ka_9_2 p0))) (kx_100 (ka_9_3 p0))) p1, gr_9_4 (gd_cpI (gd_cpI (gw_9_1 (gw_9_0 hg p0 (gm_9_0 hg p1)) p0 (gm_9_1 (gw_9_0 hg p0 (gm_9_0 hg p1)) p1)) (kx_100 (ka_9_2 p0))) (kx_100 (ka_9_3 p0))) p1, gk_9 (gd_cpI (gd_cpI (gw_9_1 (gw_9_0 hg p0 (gm_9_0 hg p1)) p0 (gm_9_1 (gw_9_0 hg p0 (gm_9_0 hg p1)) p1)) (kx_100 (ka_9_2 p0))) (kx_100 (ka_9_3 p0))) p0, gr_9_4 (gd_cpI (gd_cpI (gw_9_1 (gw_9_0 hg p0 (gm_9_0 hg p1)) p0 (gm_9_1 (gw_9_0 hg p0 (gm_9_0 hg p1)) p1)) (kx_100 (ka_9_2 p0))) (kx_100 (ka_9_3 p0))) p0, ?_⟩
  show K 58 [some (.inr (.inr a0)), some (.inr (.inr a1))] [.inl 36, .inl 0, .inr (.inr (a0 + 3)), .inl 0, .inr (.inr (a1 + 3))] (ia_cpI (ia_cpI (ia_wR (ia_wR h a0 0 (ia_r h a1 0)) a0 1 (ia_r (ia_wR h a0 0 (ia_r h a1 0)) a1 1)) (a1 + 1) (a0 + 1) 0 0 36) (a1 + 2) (a0 + 2) 0 0 36)
  refine gd_cI hK (ia_tb_in (List.mem_of_getElem? (i := 1038) (by decide +kernel)) rfl) dc_Sc_become_58 (Nat.le_of_ble_eq_true rfl) (Or.inl rfl) (gd_cpI (gd_cpI (gw_9_1 (gw_9_0 hg p0 (gm_9_0 hg p1)) p0 (gm_9_1 (gw_9_0 hg p0 (gm_9_0 hg p1)) p1)) (kx_100 (ka_9_2 p0))) (kx_100 (ka_9_3 p0))) (ka_9_4 p1) (ka_9_4 p0) (by decide) rfl ?_
  show K 61 [some (.inr (.inr a0)), some (.inr (.inr a1))] [] (ia_cpI (ia_cpI (ia_cpI (ia_wR (ia_wR h a0 0 (ia_r h a1 0)) a0 1 (ia_r (ia_wR h a0 0 (ia_r h a1 0)) a1 1)) (a1 + 1) (a0 + 1) 0 0 36) (a1 + 2) (a0 + 2) 0 0 36) (a1 + 3) (a0 + 3) 0 0 36)
  refine ia_go hK ck_Sc_become_61 ⟨gk_9 (gd_cpI (gd_cpI (gd_cpI (gw_9_1 (gw_9_0 hg p0 (gm_9_0 hg p1)) p0 (gm_9_1 (gw_9_0 hg p0 (gm_9_0 hg p1)) p1)) (kx_100 (ka_9_2 p0))) (kx_100 (ka_9_3 p0))) (kx_100 (ka_9_4 p0))) p1, gr_9_5 (gd_cpI (gd_cpI (gd_cpI (gw_9_1 (gw_9_0 hg p0 (gm_9_0 hg p1)) p0 (gm_9_1 (gw_9_0 hg p0 (gm_9_0 hg p1)) p1)) (kx_100 (ka_9_2 p0))) (kx_100 (ka_9_3 p0))) (kx_100 (ka_9_4 p0))) p1, gk_9 (gd_cpI (gd_cpI (gd_cpI (gw_9_1 (gw_9_0 hg p0 (gm_9_0 hg p1)) p0 (gm_9_1 (gw_9_0 hg p0 (gm_9_0 hg p1)) p1)) (kx_100 (ka_9_2 p0))) (kx_100 (ka_9_3 p0))) (kx_100 (ka_9_4 p0))) p0, gr_9_5 (gd_cpI (gd_cpI (gd_cpI (gw_9_1 (gw_9_0 hg p0 (gm_9_0 hg p1)) p0 (gm_9_1 (gw_9_0 hg p0 (gm_9_0 hg p1)) p1)) (kx_100 (ka_9_2 p0))) (kx_100 (ka_9_3 p0))) (kx_100 (ka_9_4 p0))) p0, ?_⟩
  show K 73 [some (.inr (.inr a0)), some (.inr (.inr a1))] [.inl 36, .inl 0, .inr (.inr (a0 + 4)), .inl 0, .inr (.inr (a1 + 4))] (ia_cpI (ia_cpI (ia_cpI (ia_wR (ia_wR h a0 0 (ia_r h a1 0)) a0 1 (ia_r (ia_wR h a0 0 (ia_r h a1 0)) a1 1)) (a1 + 1) (a0 + 1) 0 0 36) (a1 + 2) (a0 + 2) 0 0 36) (a1 + 3) (a0 + 3) 0 0 36)
  refine gd_cI hK (ia_tb_in (List.mem_of_getElem? (i := 1038) (by decide +kernel)) rfl) dc_Sc_become_73 (Nat.le_of_ble_eq_true rfl) (Or.inl rfl) (gd_cpI (gd_cpI (gd_cpI (gw_9_1 (gw_9_0 hg p0 (gm_9_0 hg p1)) p0 (gm_9_1 (gw_9_0 hg p0 (gm_9_0 hg p1)) p1)) (kx_100 (ka_9_2 p0))) (kx_100 (ka_9_3 p0))) (kx_100 (ka_9_4 p0))) (ka_9_5 p1) (ka_9_5 p0) (by decide) rfl ?_
  show K 76 [some (.inr (.inr a0)), some (.inr (.inr a1))] [] (ia_cpI (ia_cpI (ia_cpI (ia_cpI (ia_wR (ia_wR h a0 0 (ia_r h a1 0)) a0 1 (ia_r (ia_wR h a0 0 (ia_r h a1 0)) a1 1)) (a1 + 1) (a0 + 1) 0 0 36) (a1 + 2) (a0 + 2) 0 0 36) (a1 + 3) (a0 + 3) 0 0 36) (a1 + 4) (a0 + 4) 0 0 36)
  refine ia_go hK ck_Sc_become_76 ⟨gk_9 (gd_cpI (gd_cpI (gd_cpI (gd_cpI (gw_9_1 (gw_9_0 hg p0 (gm_9_0 hg p1)) p0 (gm_9_1 (gw_9_0 hg p0 (gm_9_0 hg p1)) p1)) (kx_100 (ka_9_2 p0))) (kx_100 (ka_9_3 p0))) (kx_100 (ka_9_4 p0))) (kx_100 (ka_9_5 p0))) p1, gr_9_6 (gd_cpI (gd_cpI (gd_cpI (gd_cpI (gw_9_1 (gw_9_0 hg p0 (gm_9_0 hg p1)) p0 (gm_9_1 (gw_9_0 hg p0 (gm_9_0 hg p1)) p1)) (kx_100 (ka_9_2 p0))) (kx_100 (ka_9_3 p0))) (kx_100 (ka_9_4 p0))) (kx_100 (ka_9_5 p0))) p1, gk_9 (gd_cpI (gd_cpI (gd_cpI (gd_cpI (gw_9_1 (gw_9_0 hg p0 (gm_9_0 hg p1)) p0 (gm_9_1 (gw_9_0 hg p0 (gm_9_0 hg p1)) p1)) (kx_100 (ka_9_2 p0))) (kx_100 (ka_9_3 p0))) (kx_100 (ka_9_4 p0))) (kx_100 (ka_9_5 p0))) p0, gr_9_6 (gd_cpI (gd_cpI (gd_cpI (gd_cpI (gw_9_1 (gw_9_0 hg p0 (gm_9_0 hg p1)) p0 (gm_9_1 (gw_9_0 hg p0 (gm_9_0 hg p1)) p1)) (kx_100 (ka_9_2 p0))) (kx_100 (ka_9_3 p0))) (kx_100 (ka_9_4 p0))) (kx_100 (ka_9_5 p0))) p0, ?_⟩
  show K 88 [some (.inr (.inr a0)), some (.inr (.inr a1))] [.inl 6, .inl 0, .inr (.inr (a0 + 5)), .inl 0, .inr (.inr (a1 + 5))] (ia_cpI (ia_cpI (ia_cpI (ia_cpI (ia_wR (ia_wR h a0 0 (ia_r h a1 0)) a0 1 (ia_r (ia_wR h a0 0 (ia_r h a1 0)) a1 1)) (a1 + 1) (a0 + 1) 0 0 36) (a1 + 2) (a0 + 2) 0 0 36) (a1 + 3) (a0 + 3) 0 0 36) (a1 + 4) (a0 + 4) 0 0 36)
  refine gd_cI hK (ia_tb_in (List.mem_of_getElem? (i := 1038) (by decide +kernel)) rfl) dc_Sc_become_88 (Nat.le_of_ble_eq_true rfl) (Or.inl rfl) (gd_cpI (gd_cpI (gd_cpI (gd_cpI (gw_9_1 (gw_9_0 hg p0 (gm_9_0 hg p1)) p0 (gm_9_1 (gw_9_0 hg p0 (gm_9_0 hg p1)) p1)) (kx_100 (ka_9_2 p0))) (kx_100 (ka_9_3 p0))) (kx_100 (ka_9_4 p0))) (kx_100 (ka_9_5 p0))) (ka_9_6 p1) (ka_9_6 p0) (by decide) rfl ?_
  show K 91 [some (.inr (.inr a0)), some (.inr (.inr a1))] [] (ia_cpI (ia_cpI (ia_cpI (ia_cpI (ia_cpI (ia_wR (ia_wR h a0 0 (ia_r h a1 0)) a0 1 (ia_r (ia_wR h a0 0 (ia_r h a1 0)) a1 1)) (a1 + 1) (a0 + 1) 0 0 36) (a1 + 2) (a0 + 2) 0 0 36) (a1 + 3) (a0 + 3) 0 0 36) (a1 + 4) (a0 + 4) 0 0 36) (a1 + 5) (a0 + 5) 0 0 6)
  refine ia_go hK ck_Sc_become_91 ⟨gk_9 (gd_cpI (gd_cpI (gd_cpI (gd_cpI (gd_cpI (gw_9_1 (gw_9_0 hg p0 (gm_9_0 hg p1)) p0 (gm_9_1 (gw_9_0 hg p0 (gm_9_0 hg p1)) p1)) (kx_100 (ka_9_2 p0))) (kx_100 (ka_9_3 p0))) (kx_100 (ka_9_4 p0))) (kx_100 (ka_9_5 p0))) (kx_100 (ka_9_6 p0))) p1, gr_9_7 (gd_cpI (gd_cpI (gd_cpI (gd_cpI (gd_cpI (gw_9_1 (gw_9_0 hg p0 (gm_9_0 hg p1)) p0 (gm_9_1 (gw_9_0 hg p0 (gm_9_0 hg p1)) p1)) (kx_100 (ka_9_2 p0))) (kx_100 (ka_9_3 p0))) (kx_100 (ka_9_4 p0))) (kx_100 (ka_9_5 p0))) (kx_100 (ka_9_6 p0))) p1, gk_9 (gd_cpI (gd_cpI (gd_cpI (gd_cpI (gd_cpI (gw_9_1 (gw_9_0 hg p0 (gm_9_0 hg p1)) p0 (gm_9_1 (gw_9_0 hg p0 (gm_9_0 hg p1)) p1)) (kx_100 (ka_9_2 p0))) (kx_100 (ka_9_3 p0))) (kx_100 (ka_9_4 p0))) (kx_100 (ka_9_5 p0))) (kx_100 (ka_9_6 p0))) p0, gr_9_7 (gd_cpI (gd_cpI (gd_cpI (gd_cpI (gd_cpI (gw_9_1 (gw_9_0 hg p0 (gm_9_0 hg p1)) p0 (gm_9_1 (gw_9_0 hg p0 (gm_9_0 hg p1)) p1)) (kx_100 (ka_9_2 p0))) (kx_100 (ka_9_3 p0))) (kx_100 (ka_9_4 p0))) (kx_100 (ka_9_5 p0))) (kx_100 (ka_9_6 p0))) p0, ?_⟩
  show K 103 [some (.inr (.inr a0)), some (.inr (.inr a1))] [.inl 6, .inl 0, .inr (.inr (a0 + 6)), .inl 0, .inr (.inr (a1 + 6))] (ia_cpI (ia_cpI (ia_cpI (ia_cpI (ia_cpI (ia_wR (ia_wR h a0 0 (ia_r h a1 0)) a0 1 (ia_r (ia_wR h a0 0 (ia_r h a1 0)) a1 1)) (a1 + 1) (a0 + 1) 0 0 36) (a1 + 2) (a0 + 2) 0 0 36) (a1 + 3) (a0 + 3) 0 0 36) (a1 + 4) (a0 + 4) 0 0 36) (a1 + 5) (a0 + 5) 0 0 6)
  refine gd_cI hK (ia_tb_in (List.mem_of_getElem? (i := 1038) (by decide +kernel)) rfl) dc_Sc_become_103 (Nat.le_of_ble_eq_true rfl) (Or.inl rfl) (gd_cpI (gd_cpI (gd_cpI (gd_cpI (gd_cpI (gw_9_1 (gw_9_0 hg p0 (gm_9_0 hg p1)) p0 (gm_9_1 (gw_9_0 hg p0 (gm_9_0 hg p1)) p1)) (kx_100 (ka_9_2 p0))) (kx_100 (ka_9_3 p0))) (kx_100 (ka_9_4 p0))) (kx_100 (ka_9_5 p0))) (kx_100 (ka_9_6 p0))) (ka_9_7 p1) (ka_9_7 p0) (by decide) rfl ?_
  show K 106 [some (.inr (.inr a0)), some (.inr (.inr a1))] [] (ia_cpI (ia_cpI (ia_cpI (ia_cpI (ia_cpI (ia_cpI (ia_wR (ia_wR h a0 0 (ia_r h a1 0)) a0 1 (ia_r (ia_wR h a0 0 (ia_r h a1 0)) a1 1)) (a1 + 1) (a0 + 1) 0 0 36) (a1 + 2) (a0 + 2) 0 0 36) (a1 + 3) (a0 + 3) 0 0 36) (a1 + 4) (a0 + 4) 0 0 36) (a1 + 5) (a0 + 5) 0 0 6) (a1 + 6) (a0 + 6) 0 0 6)
  refine ia_go hK ck_Sc_become_106 ⟨gk_9 (gd_cpI (gd_cpI (gd_cpI (gd_cpI (gd_cpI (gd_cpI (gw_9_1 (gw_9_0 hg p0 (gm_9_0 hg p1)) p0 (gm_9_1 (gw_9_0 hg p0 (gm_9_0 hg p1)) p1)) (kx_100 (ka_9_2 p0))) (kx_100 (ka_9_3 p0))) (kx_100 (ka_9_4 p0))) (kx_100 (ka_9_5 p0))) (kx_100 (ka_9_6 p0))) (kx_100 (ka_9_7 p0))) p1, gr_9_8 (gd_cpI (gd_cpI (gd_cpI (gd_cpI (gd_cpI (gd_cpI (gw_9_1 (gw_9_0 hg p0 (gm_9_0 hg p1)) p0 (gm_9_1 (gw_9_0 hg p0 (gm_9_0 hg p1)) p1)) (kx_100 (ka_9_2 p0))) (kx_100 (ka_9_3 p0))) (kx_100 (ka_9_4 p0))) (kx_100 (ka_9_5 p0))) (kx_100 (ka_9_6 p0))) (kx_100 (ka_9_7 p0))) p1, gk_9 (gd_cpI (gd_cpI (gd_cpI (gd_cpI (gd_cpI (gd_cpI (gw_9_1 (gw_9_0 hg p0 (gm_9_0 hg p1)) p0 (gm_9_1 (gw_9_0 hg p0 (gm_9_0 hg p1)) p1)) (kx_100 (ka_9_2 p0))) (kx_100 (ka_9_3 p0))) (kx_100 (ka_9_4 p0))) (kx_100 (ka_9_5 p0))) (kx_100 (ka_9_6 p0))) (kx_100 (ka_9_7 p0))) p0, gr_9_8 (gd_cpI (gd_cpI (gd_cpI (gd_cpI (gd_cpI (gd_cpI (gw_9_1 (gw_9_0 hg p0 (gm_9_0 hg p1)) p0 (gm_9_1 (gw_9_0 hg p0 (gm_9_0 hg p1)) p1)) (kx_100 (ka_9_2 p0))) (kx_100 (ka_9_3 p0))) (kx_100 (ka_9_4 p0))) (kx_100 (ka_9_5 p0))) (kx_100 (ka_9_6 p0))) (kx_100 (ka_9_7 p0))) p0, ?_⟩
  show K 118 [some (.inr (.inr a0)), some (.inr (.inr a1))] [.inl 6, .inl 0, .inr (.inr (a0 + 7)), .inl 0, .inr (.inr (a1 + 7))] (ia_cpI (ia_cpI (ia_cpI (ia_cpI (ia_cpI (ia_cpI (ia_wR (ia_wR h a0 0 (ia_r h a1 0)) a0 1 (ia_r (ia_wR h a0 0 (ia_r h a1 0)) a1 1)) (a1 + 1) (a0 + 1) 0 0 36) (a1 + 2) (a0 + 2) 0 0 36) (a1 + 3) (a0 + 3) 0 0 36) (a1 + 4) (a0 + 4) 0 0 36) (a1 + 5) (a0 + 5) 0 0 6) (a1 + 6) (a0 + 6) 0 0 6)
  refine gd_cI hK (ia_tb_in (List.mem_of_getElem? (i := 1038) (by decide +kernel)) rfl) dc_Sc_become_118 (Nat.le_of_ble_eq_true rfl) (Or.inl rfl) (gd_cpI (gd_cpI (gd_cpI (gd_cpI (gd_cpI (gd_cpI (gw_9_1 (gw_9_0 hg p0 (gm_9_0 hg p1)) p0 (gm_9_1 (gw_9_0 hg p0 (gm_9_0 hg p1)) p1)) (kx_100 (ka_9_2 p0))) (kx_100 (ka_9_3 p0))) (kx_100 (ka_9_4 p0))) (kx_100 (ka_9_5 p0))) (kx_100 (ka_9_6 p0))) (kx_100 (ka_9_7 p0))) (ka_9_8 p1) (ka_9_8 p0) (by decide) rfl ?_
  show K 121 [some (.inr (.inr a0)), some (.inr (.inr a1))] [] (ia_cpI (ia_cpI (ia_cpI (ia_cpI (ia_cpI (ia_cpI (ia_cpI (ia_wR (ia_wR h a0 0 (ia_r h a1 0)) a0 1 (ia_r (ia_wR h a0 0 (ia_r h a1 0)) a1 1)) (a1 + 1) (a0 + 1) 0 0 36) (a1 + 2) (a0 + 2) 0 0 36) (a1 + 3) (a0 + 3) 0 0 36) (a1 + 4) (a0 + 4) 0 0 36) (a1 + 5) (a0 + 5) 0 0 6) (a1 + 6) (a0 + 6) 0 0 6) (a1 + 7) (a0 + 7) 0 0 6)
  exact tj_Sc_become_121 hK p0 p1 hret (ia_cpI (ia_cpI (ia_cpI (ia_cpI (ia_cpI (ia_cpI (ia_cpI (ia_wR (ia_wR h a0 0 (ia_r h a1 0)) a0 1 (ia_r (ia_wR h a0 0 (ia_r h a1 0)) a1 1)) (a1 + 1) (a0 + 1) 0 0 36) (a1 + 2) (a0 + 2) 0 0 36) (a1 + 3) (a0 + 3) 0 0 36) (a1 + 4) (a0 + 4) 0 0 36) (a1 + 5) (a0 + 5) 0 0 6) (a1 + 6) (a0 + 6) 0 0 6) (a1 + 7) (a0 + 7) 0 0 6) (gd_cpI (gd_cpI (gd_cpI (gd_cpI (gd_cpI (gd_cpI (gd_cpI (gw_9_1 (gw_9_0 hg p0 (gm_9_0 hg p1)) p0 (gm_9_1 (gw_9_0 hg p0 (gm_9_0 hg p1)) p1)) (kx_100 (ka_9_2 p0))) (kx_100 (ka_9_3 p0))) (kx_100 (ka_9_4 p0))) (kx_100 (ka_9_5 p0))) (kx_100 (ka_9_6 p0))) (kx_100 (ka_9_7 p0))) (kx_100 (ka_9_8 p0))) hm
def mm_Sc_passDayUnderShops : ia_M := (⟨"IceStreet$Scene", "passDayUnderShops", "(I)V"⟩, prog_10_method_17_code, 3, none, 9, false)
theorem ok_Sc_passDayUnderShops : ia_mok mm_Sc_passDayUnderShops := ⟨by decide +kernel, by decide +kernel, by decide +kernel, by decide +kernel⟩
theorem mk_Sc_passDayUnderShops : ia_mkn mm_Sc_passDayUnderShops 1 1 := ⟨ia_tb_in (List.mem_of_getElem? (i := 1304) (by decide +kernel)) rfl, ia_tb_in (List.mem_of_getElem? (i := 140) (by decide +kernel)) rfl, by decide +kernel, by decide +kernel, ⟨ia_tb_in (List.mem_of_getElem? (i := 1302) (by decide +kernel)) rfl, ia_tb_in (List.mem_of_getElem? (i := 1303) (by decide +kernel)) rfl⟩⟩
theorem ck_Sc_passDayUnderShops_0 : ia_cks 9 3 false prog_10_method_17_code 0 [(.iconst 0, 0, 0, 0, 0), (.istore_n 2, 0, 0, 0, 0)] = true := by decide +kernel
theorem ck_Sc_passDayUnderShops_2 : ia_cks 9 3 false prog_10_method_17_code 2 [(.iload_n 2, 0, 0, 0, 0), (.aload_n 0, 0, 0, 0, 0), (.getfield 33, 9, 0, 2, 0), (.getfield 66, 3, 11, 0, 0), (.if_icmp .ge 29, 0, 0, 0, 0)] = true := by decide +kernel
theorem ck_Sc_passDayUnderShops_13 : ia_cks 9 3 false prog_10_method_17_code 13 [(.aload_n 0, 0, 0, 0, 0), (.getfield 24, 9, 6, 3, 5), (.iload_n 2, 0, 0, 0, 0), (.iaload, 0, 0, 0, 0), (.ifCond .lt 14, 0, 0, 0, 0)] = true := by decide +kernel
theorem ck_Sc_passDayUnderShops_33 : ia_cks 9 3 false prog_10_method_17_code 33 [(.iinc 2 1, 0, 0, 0, 0), (.goto (-34), 0, 0, 0, 0)] = true := by decide +kernel
theorem ck_Sc_passDayUnderShops_22 : ia_cks 9 3 false prog_10_method_17_code 22 [(.aload_n 0, 0, 0, 0, 0), (.aload_n 0, 0, 0, 0, 0), (.getfield 24, 9, 6, 3, 5), (.iload_n 2, 0, 0, 0, 0), (.iaload, 0, 0, 0, 0), (.iload_n 1, 0, 0, 0, 0)] = true := by decide +kernel
theorem ck_Sc_passDayUnderShops_39 : ia_cks 9 3 false prog_10_method_17_code 39 [(.aload_n 0, 0, 0, 0, 0)] = true := by decide +kernel
theorem ck_Sc_passDayUnderShops_43 : ia_cks 9 3 false prog_10_method_17_code 43 [(.aload_n 0, 0, 0, 0, 0)] = true := by decide +kernel
theorem dc_Sc_passDayUnderShops_30 : decode prog_10_method_17_code 30 = .ok (.invokevirtual 111, 3) := by decide +kernel
theorem dc_Sc_passDayUnderShops_40 : decode prog_10_method_17_code 40 = .ok (.invokevirtual 114, 3) := by decide +kernel
theorem dc_Sc_passDayUnderShops_44 : decode prog_10_method_17_code 44 = .ok (.invokevirtual 76, 3) := by decide +kernel
theorem dc_Sc_passDayUnderShops_47 : decode prog_10_method_17_code 47 = .ok (.return_, 1) := by decide +kernel
def l_Sc_passDayUnderShops_2 (a0 : Nat) (x1 : Int32) (k39 : ia_H → Option ia_H) (n : Nat) (x2 : Int32) (h : ia_H) : Option ia_H := match n with
  | 0 => none
  | n + 1 => if (ia_i h (ia_r h a0 0) 11) ≤ x2 then (k39 h) else (ia_gd (ia_ib x2 6) (if (ia_i h (a0 + 5) ((x2).toNatClampNeg)) < 0 then (l_Sc_passDayUnderShops_2 a0 x1 k39 n (x2 + 1) h) else (ia_gd (ia_ib x2 6) ((f_Sc_freeze a0 (ia_i h (a0 + 5) ((x2).toNatClampNeg)) x1 h).bind fun v3 => (l_Sc_passDayUnderShops_2 a0 x1 k39 n (x2 + 1) v3)))))
theorem tl_Sc_passDayUnderShops_2 {w : ia_O0} {d N1 W1 : Nat} {K : ia_K} (hK : ia_isK (d + 3) mm_Sc_passDayUnderShops N1 W1 K) {a0 : Nat} {x1 : Int32} (p0 : (kd_D a0).1 = 9) {h1 : ia_H} (hret : ∀ (pc : Nat) (lv : ia_L), ia_ret mm_Sc_passDayUnderShops pc none → K pc lv (none : Option ia_V).toList h1) {k39 : ia_H → Option ia_H} (hk39 : ∀ (h : ia_H), gd_ w h → k39 h = some h1 → K 39 [some (.inr (.inr a0)), none, none] [] h) : ∀ (n : Nat) (x2 : Int32) (h : ia_H), gd_ w h → l_Sc_passDayUnderShops_2 a0 x1 k39 n x2 h = some h1 → K 2 [some (.inr (.inr a0)), some (.inl x1), some (.inl x2)] [] h := by
  intro n
  induction n with
  | zero =>
    intro x2 h hg hm
    cases (show (none : Option ia_H) = some _ from hm)
  | succ n ih =>
    intro x2 h hg hm
    rw [l_Sc_passDayUnderShops_2] at hm
    refine ia_go hK ck_Sc_passDayUnderShops_2 ⟨gk_9 hg p0, gk_3 hg (gm_9_0 hg p0), fun c => ?_, fun c => ?_⟩
    · replace hm := ia_ifp hm c
      show K 39 [some (.inr (.inr a0)), some (.inl x1), some (.inl x2)] [] h
      refine ia_fg hK (lv' := [some (.inr (.inr a0)), none, none]) ⟨rfl, trivial⟩ ?_
      exact hk39 h hg hm
    · replace hm := ia_ifn hm c
      show K 13 [some (.inr (.inr a0)), some (.inl x1), some (.inl x2)] [] h
      obtain ⟨c1, hm⟩ := ia_gd_some hm
      refine ia_go hK ck_Sc_passDayUnderShops_13 ⟨gk_9 hg p0, gr_9_6 hg p0, ga_i100 hg (ka_9_6 p0) c1, fun c => ?_, fun c => ?_⟩
      · replace hm := ia_ifp hm c
        show K 33 [some (.inr (.inr a0)), some (.inl x1), some (.inl x2)] [] h
        refine ia_go hK ck_Sc_passDayUnderShops_33 ?_
        show K 2 [some (.inr (.inr a0)), some (.inl x1), some (.inl (x2 + 1))] [] h
        exact ih (x2 + 1) h hg hm
      · replace hm := ia_ifn hm c
        show K 22 [some (.inr (.inr a0)), some (.inl x1), some (.inl x2)] [] h
        obtain ⟨c2, hm⟩ := ia_gd_some hm
        refine ia_go hK ck_Sc_passDayUnderShops_22 ⟨gk_9 hg p0, gr_9_6 hg p0, ga_i100 hg (ka_9_6 p0) c2, ?_⟩
        show K 30 [some (.inr (.inr a0)), some (.inl x1), some (.inl x2)] [.inl x1, .inl (ia_i h (a0 + 5) ((x2).toNatClampNeg)), .inr (.inr a0)] h
        obtain ⟨v3, hv3, hm⟩ := ia_bnd hm
        have ev3 := t_Sc_freeze (d + 2) hg p0 hv3
        have gv3 := g_Sc_freeze hg p0 hv3
        refine ia_cV hK mk_Sc_freeze lk_9_111 dc_Sc_passDayUnderShops_30 a0 [.inl (ia_i h (a0 + 5) ((x2).toNatClampNeg)), .inl x1] [] rfl rfl (Nat.le_of_ble_eq_true rfl) (by decide) rfl (gk_9 hg p0) ev3 (gd_nm hg gv3) ?_
        show K 33 [some (.inr (.inr a0)), some (.inl x1), some (.inl x2)] [] v3
        refine ia_go hK ck_Sc_passDayUnderShops_33 ?_
        show K 2 [some (.inr (.inr a0)), some (.inl x1), some (.inl (x2 + 1))] [] v3
        exact ih (x2 + 1) v3 gv3 hm
theorem gl_Sc_passDayUnderShops_2 {w : ia_O0} {a0 : Nat} {x1 : Int32} (p0 : (kd_D a0).1 = 9) {h1 : ia_H} {k39 : ia_H → Option ia_H} (hk39 : ∀ (h : ia_H), gd_ w h → k39 h = some h1 → gd_ w h1) : ∀ (n : Nat) (x2 : Int32) (h : ia_H), gd_ w h → l_Sc_passDayUnderShops_2 a0 x1 k39 n x2 h = some h1 → gd_ w h1 := by
  intro n
  induction n with
  | zero =>
    intro x2 h hg hm
    cases (show (none : Option ia_H) = some _ from hm)
  | succ n ih =>
    intro x2 h hg hm
    rw [l_Sc_passDayUnderShops_2] at hm
    by_cases c : (ia_i h (ia_r h a0 0) 11) ≤ x2
    · replace hm := ia_ifp hm c
      exact hk39 h hg hm
    · replace hm := ia_ifn hm c
      obtain ⟨c1, hm⟩ := ia_gd_some hm
      by_cases c : (ia_i h (a0 + 5) ((x2).toNatClampNeg)) < 0
      · replace hm := ia_ifp hm c
        exact ih (x2 + 1) h hg hm
      · replace hm := ia_ifn hm c
        obtain ⟨c2, hm⟩ := ia_gd_some hm
        obtain ⟨v3, hv3, hm⟩ := ia_bnd hm
        have gv3 := g_Sc_freeze hg p0 hv3
        exact ih (x2 + 1) v3 gv3 hm
def f_Sc_passDayUnderShops (a0 : Nat) (x1 : Int32) (h : ia_H) : Option ia_H := l_Sc_passDayUnderShops_2 a0 x1 (fun h => (f_Sc_pay a0 h).bind fun v4 => ((f_Sc_settle a0 v4).bind fun v5 => (some v5))) fu_ 0 h
theorem g_Sc_passDayUnderShops {w : ia_O0} {a0 : Nat} {x1 : Int32} {h : ia_H} (hg : gd_ w h) (p0 : (kd_D a0).1 = 9) {q : ia_H} (hm : f_Sc_passDayUnderShops a0 x1 h = some q) : gd_ w q := by
  obtain ⟨h1, e1⟩ : ∃ x, x = q := ⟨_, rfl⟩
  subst e1
  unfold f_Sc_passDayUnderShops at hm
  refine gl_Sc_passDayUnderShops_2 p0 ?_ fu_ 0 h hg hm
  · intro h hg hm
    obtain ⟨v4, hv4, hm⟩ := ia_bnd hm
    have gv4 := g_Sc_pay hg p0 hv4
    obtain ⟨v5, hv5, hm⟩ := ia_bnd hm
    have gv5 := g_Sc_settle gv4 p0 hv5
    obtain rfl := Option.some.inj hm
    exact gv5
theorem t_Sc_passDayUnderShops {w : ia_O0} (d : Nat) {a0 : Nat} {x1 : Int32} {h : ia_H} (hg : gd_ w h) (p0 : (kd_D a0).1 = 9) {q : ia_H} (hm : f_Sc_passDayUnderShops a0 x1 h = some q) : ia_Ev (d + 3) mm_Sc_passDayUnderShops [.inr (.inr a0), .inl x1] h none q := by
  have gq := g_Sc_passDayUnderShops hg p0 hm
  refine ia_Ev_intro ok_Sc_passDayUnderShops (gd_le hg gq).1 (gd_le hg gq).2 (Nat.le_of_ble_eq_true rfl) (fun K hK hret => ?_)
  obtain ⟨h1, e1⟩ : ∃ x, x = q := ⟨_, rfl⟩
  subst e1
  show K 0 [some (.inr (.inr a0)), some (.inl x1), none] [] h
  unfold f_Sc_passDayUnderShops at hm
  refine ia_go hK ck_Sc_passDayUnderShops_0 ?_
  show K 2 [some (.inr (.inr a0)), some (.inl x1), some (.inl 0)] [] h
  refine tl_Sc_passDayUnderShops_2 hK p0 hret ?_ fu_ 0 h hg hm
  · intro h hg hm
    refine ia_go hK ck_Sc_passDayUnderShops_39 ?_
    show K 40 [some (.inr (.inr a0)), none, none] [.inr (.inr a0)] h
    obtain ⟨v4, hv4, hm⟩ := ia_bnd hm
    have ev4 := t_Sc_pay (d + 1) hg p0 hv4
    have gv4 := g_Sc_pay hg p0 hv4
    refine ia_cV hK mk_Sc_pay lk_9_114 dc_Sc_passDayUnderShops_40 a0 [] [] rfl rfl (Nat.le_of_ble_eq_true rfl) (by decide) rfl (gk_9 hg p0) ev4 (gd_nm hg gv4) ?_
    show K 43 [some (.inr (.inr a0)), none, none] [] v4
    refine ia_go hK ck_Sc_passDayUnderShops_43 ?_
    show K 44 [some (.inr (.inr a0)), none, none] [.inr (.inr a0)] v4
    obtain ⟨v5, hv5, hm⟩ := ia_bnd hm
    have ev5 := t_Sc_settle (d + 0) gv4 p0 hv5
    have gv5 := g_Sc_settle gv4 p0 hv5
    refine ia_cV hK mk_Sc_settle lk_9_76 dc_Sc_passDayUnderShops_44 a0 [] [] rfl rfl (Nat.le_of_ble_eq_true rfl) (by decide) rfl (gk_9 gv4 p0) ev5 (gd_nm gv4 gv5) ?_
    show K 47 [some (.inr (.inr a0)), none, none] [] v5
    obtain rfl := Option.some.inj hm
    exact hret 47 _ dc_Sc_passDayUnderShops_47
def mm_Ou_daysHeld : ia_M := (⟨"IceStreet$Outlook", "daysHeld", "(LIceStreet$Scene;I)I"⟩, prog_6_method_2_code, 4, (some .int), 5, false)
theorem ok_Ou_daysHeld : ia_mok mm_Ou_daysHeld := ⟨by decide +kernel, by decide +kernel, by decide +kernel, by decide +kernel⟩
theorem mk_Ou_daysHeld : ia_mkn mm_Ou_daysHeld 1 2 := ⟨ia_tb_in (List.mem_of_getElem? (i := 1294) (by decide +kernel)) rfl, ia_tb_in (List.mem_of_getElem? (i := 143) (by decide +kernel)) rfl, by decide +kernel, by decide +kernel, ⟨ia_tb_in (List.mem_of_getElem? (i := 1292) (by decide +kernel)) rfl, ia_tb_in (List.mem_of_getElem? (i := 1293) (by decide +kernel)) rfl⟩⟩
theorem ck_Ou_daysHeld_0 : ia_cks 5 4 false prog_6_method_2_code 0 [(.aload_n 0, 0, 0, 0, 0), (.getfield 27, 5, 1, 3, 3), (.aload_n 1, 0, 0, 0, 0)] = true := by decide +kernel
theorem ck_Ou_daysHeld_8 : ia_cks 5 4 false prog_6_method_2_code 8 [(.iconst 0, 0, 0, 0, 0), (.istore_n 3, 0, 0, 0, 0)] = true := by decide +kernel
theorem ck_Ou_daysHeld_10 : ia_cks 5 4 false prog_6_method_2_code 10 [(.iload_n 3, 0, 0, 0, 0), (.bipush 60, 0, 0, 0, 0), (.if_icmp .gt 36, 0, 0, 0, 0)] = true := by decide +kernel
theorem ck_Ou_daysHeld_16 : ia_cks 5 4 false prog_6_method_2_code 16 [(.aload_n 0, 0, 0, 0, 0), (.getfield 27, 5, 1, 3, 3), (.iload_n 2, 0, 0, 0, 0)] = true := by decide +kernel
theorem ck_Ou_daysHeld_24 : ia_cks 5 4 false prog_6_method_2_code 24 [(.ifCond .ne 5, 0, 0, 0, 0)] = true := by decide +kernel
theorem ck_Ou_daysHeld_29 : ia_cks 5 4 false prog_6_method_2_code 29 [(.aload_n 0, 0, 0, 0, 0), (.getfield 27, 5, 1, 3, 3), (.aload_n 0, 0, 0, 0, 0), (.getfield 27, 5, 1, 3, 3)] = true := by decide +kernel
theorem ck_Ou_daysHeld_43 : ia_cks 5 4 false prog_6_method_2_code 43 [(.iinc 3 1, 0, 0, 0, 0), (.goto (-36), 0, 0, 0, 0)] = true := by decide +kernel
theorem ck_Ou_daysHeld_27 : ia_cks 5 4 false prog_6_method_2_code 27 [(.iload_n 3, 0, 0, 0, 0)] = true := by decide +kernel
theorem ck_Ou_daysHeld_49 : ia_cks 5 4 false prog_6_method_2_code 49 [(.bipush 61, 0, 0, 0, 0)] = true := by decide +kernel
theorem dc_Ou_daysHeld_5 : decode prog_6_method_2_code 5 = .ok (.invokevirtual 34, 3) := by decide +kernel
theorem dc_Ou_daysHeld_21 : decode prog_6_method_2_code 21 = .ok (.invokevirtual 38, 3) := by decide +kernel
theorem dc_Ou_daysHeld_37 : decode prog_6_method_2_code 37 = .ok (.invokevirtual 42, 3) := by decide +kernel
theorem dc_Ou_daysHeld_40 : decode prog_6_method_2_code 40 = .ok (.invokevirtual 46, 3) := by decide +kernel
theorem dc_Ou_daysHeld_28 : decode prog_6_method_2_code 28 = .ok (.ireturn, 1) := by decide +kernel
theorem dc_Ou_daysHeld_51 : decode prog_6_method_2_code 51 = .ok (.ireturn, 1) := by decide +kernel
def l_Ou_daysHeld_10 (a1 : Nat) (x2 : Int32) (k27 : Int32 → ia_H → Option (Int32 × ia_H)) (k49 : ia_H → Option (Int32 × ia_H)) (n : Nat) (x3 : Int32) (h : ia_H) : Option (Int32 × ia_H) := match n with
  | 0 => none
  | n + 1 => if 60 < x3 then (k49 h) else ((f_Sc_stands 329 x2 h).bind fun v2 => (if v2 = 0 then (k27 x3 h) else ((f_Sc_frost 329 h).bind fun v3 => ((f_Sc_passDayUnderShops 329 v3 h).bind fun v4 => (l_Ou_daysHeld_10 a1 x2 k27 k49 n (x3 + 1) v4)))))
theorem tl_Ou_daysHeld_10 {w : ia_O0} {d N1 W1 : Nat} {K : ia_K} (hK : ia_isK (d + 4) mm_Ou_daysHeld N1 W1 K) {a1 : Nat} {x2 : Int32} (p1 : (kd_D a1).1 = 9) {r : Int32} {h1 : ia_H} (hret : ∀ (pc : Nat) (lv : ia_L), ia_ret mm_Ou_daysHeld pc (some (.inl r)) → K pc lv ((some (.inl r)) : Option ia_V).toList h1) {k27 : Int32 → ia_H → Option (Int32 × ia_H)} {k49 : ia_H → Option (Int32 × ia_H)} (hk27 : ∀ (x3 : Int32) (h : ia_H), gd_ w h → k27 x3 h = some (r, h1) → K 27 [none, none, none, some (.inl x3)] [] h) (hk49 : ∀ (h : ia_H), gd_ w h → k49 h = some (r, h1) → K 49 [none, none, none, none] [] h) : ∀ (n : Nat) (x3 : Int32) (h : ia_H), gd_ w h → l_Ou_daysHeld_10 a1 x2 k27 k49 n x3 h = some (r, h1) → K 10 [some (.inr (.inr 326)), none, some (.inl x2), some (.inl x3)] [] h := by
  intro n
  induction n with
  | zero =>
    intro x3 h hg hm
    cases (show (none : Option (Int32 × ia_H)) = some _ from hm)
  | succ n ih =>
    intro x3 h hg hm
    rw [l_Ou_daysHeld_10] at hm
    refine ia_go hK ck_Ou_daysHeld_10 ⟨fun c => ?_, fun c => ?_⟩
    · replace hm := ia_ifp hm c
      show K 49 [some (.inr (.inr 326)), none, some (.inl x2), some (.inl x3)] [] h
      refine ia_fg hK (lv' := [none, none, none, none]) trivial ?_
      exact hk49 h hg hm
    · replace hm := ia_ifn hm c
      show K 16 [some (.inr (.inr 326)), none, some (.inl x2), some (.inl x3)] [] h
      refine ia_go hK ck_Ou_daysHeld_16 ⟨gk_5 hg pk_326, gr_5_1 hg pk_326, ?_⟩
      show K 21 [some (.inr (.inr 326)), none, some (.inl x2), some (.inl x3)] [.inl x2, .inr (.inr 329)] h
      obtain ⟨v2, hv2, hm⟩ := ia_bnd hm
      have ev2 := t_Sc_stands (d + 3) hg (ka_5_1 pk_326) hv2
      refine ia_cV hK mk_Sc_stands lk_5_38 dc_Ou_daysHeld_21 329 [.inl x2] [] rfl rfl (Nat.le_of_ble_eq_true rfl) (by decide) rfl (gk_9 hg (ka_5_1 pk_326)) ev2 ⟨rfl, rfl⟩ ?_
      show K 24 [some (.inr (.inr 326)), none, some (.inl x2), some (.inl x3)] [.inl v2] h
      refine ia_go hK ck_Ou_daysHeld_24 ⟨fun c => ?_, fun c => ?_⟩
      · replace hm := ia_ifn hm c
        show K 29 [some (.inr (.inr 326)), none, some (.inl x2), some (.inl x3)] [] h
        refine ia_go hK ck_Ou_daysHeld_29 ⟨gk_5 hg pk_326, gr_5_1 hg pk_326, gk_5 hg pk_326, gr_5_1 hg pk_326, ?_⟩
        show K 37 [some (.inr (.inr 326)), none, some (.inl x2), some (.inl x3)] [.inr (.inr 329), .inr (.inr 329)] h
        obtain ⟨v3, hv3, hm⟩ := ia_bnd hm
        have ev3 := t_Sc_frost (d + 3) hg (ka_5_1 pk_326) hv3
        refine ia_cV hK mk_Sc_frost lk_5_42 dc_Ou_daysHeld_37 329 [] [.inr (.inr 329)] rfl rfl (Nat.le_of_ble_eq_true rfl) (by decide) rfl (gk_9 hg (ka_5_1 pk_326)) ev3 ⟨rfl, rfl⟩ ?_
        show K 40 [some (.inr (.inr 326)), none, some (.inl x2), some (.inl x3)] [.inl v3, .inr (.inr 329)] h
        obtain ⟨v4, hv4, hm⟩ := ia_bnd hm
        have ev4 := t_Sc_passDayUnderShops (d + 0) hg (ka_5_1 pk_326) hv4
        have gv4 := g_Sc_passDayUnderShops hg (ka_5_1 pk_326) hv4
        refine ia_cV hK mk_Sc_passDayUnderShops lk_5_46 dc_Ou_daysHeld_40 329 [.inl v3] [] rfl rfl (Nat.le_of_ble_eq_true rfl) (by decide) rfl (gk_9 hg (ka_5_1 pk_326)) ev4 (gd_nm hg gv4) ?_
        show K 43 [some (.inr (.inr 326)), none, some (.inl x2), some (.inl x3)] [] v4
        refine ia_go hK ck_Ou_daysHeld_43 ?_
        show K 10 [some (.inr (.inr 326)), none, some (.inl x2), some (.inl (x3 + 1))] [] v4
        exact ih (x3 + 1) v4 gv4 hm
      · replace hm := ia_ifp hm c
        show K 27 [some (.inr (.inr 326)), none, some (.inl x2), some (.inl x3)] [] h
        refine ia_fg hK (lv' := [none, none, none, some (.inl x3)]) ⟨rfl, trivial⟩ ?_
        exact hk27 x3 h hg hm
theorem gl_Ou_daysHeld_10 {w : ia_O0} {a1 : Nat} {x2 : Int32} (p1 : (kd_D a1).1 = 9) {r : Int32} {h1 : ia_H} {k27 : Int32 → ia_H → Option (Int32 × ia_H)} {k49 : ia_H → Option (Int32 × ia_H)} (hk27 : ∀ (x3 : Int32) (h : ia_H), gd_ w h → k27 x3 h = some (r, h1) → gd_ w h1) (hk49 : ∀ (h : ia_H), gd_ w h → k49 h = some (r, h1) → gd_ w h1) : ∀ (n : Nat) (x3 : Int32) (h : ia_H), gd_ w h → l_Ou_daysHeld_10 a1 x2 k27 k49 n x3 h = some (r, h1) → gd_ w h1 := by
  intro n
  induction n with
  | zero =>
    intro x3 h hg hm
    cases (show (none : Option (Int32 × ia_H)) = some _ from hm)
  | succ n ih =>
    intro x3 h hg hm
    rw [l_Ou_daysHeld_10] at hm
    by_cases c : 60 < x3
    · replace hm := ia_ifp hm c
      exact hk49 h hg hm
    · replace hm := ia_ifn hm c
      obtain ⟨v2, hv2, hm⟩ := ia_bnd hm
      by_cases c : v2 = 0
      · replace hm := ia_ifp hm c
        exact hk27 x3 h hg hm
      · replace hm := ia_ifn hm c
        obtain ⟨v3, hv3, hm⟩ := ia_bnd hm
        obtain ⟨v4, hv4, hm⟩ := ia_bnd hm
        have gv4 := g_Sc_passDayUnderShops hg (ka_5_1 pk_326) hv4
        exact ih (x3 + 1) v4 gv4 hm
def f_Ou_daysHeld (a1 : Nat) (x2 : Int32) (h : ia_H) : Option (Int32 × ia_H) := (f_Sc_become 329 a1 h).bind fun v1 => (l_Ou_daysHeld_10 a1 x2 (fun x3 h => some (x3, h)) (fun h => some (61, h)) fu_ 0 v1)
theorem g_Ou_daysHeld {w : ia_O0} {a1 : Nat} {x2 : Int32} {h : ia_H} (hg : gd_ w h) (p1 : (kd_D a1).1 = 9) {q : (Int32 × ia_H)} (hm : f_Ou_daysHeld a1 x2 h = some q) : gd_ w q.2 := by
  obtain ⟨r, h1⟩ := q
  unfold f_Ou_daysHeld at hm
  obtain ⟨v1, hv1, hm⟩ := ia_bnd hm
  have gv1 := g_Sc_become hg (ka_5_1 pk_326) p1 hv1
  refine gl_Ou_daysHeld_10 p1 ?_ ?_ fu_ 0 v1 gv1 hm
  · intro x3 h hg hm
    obtain ⟨rfl, rfl⟩ := Prod.mk.inj (Option.some.inj hm)
    exact hg
  · intro h hg hm
    obtain ⟨rfl, rfl⟩ := Prod.mk.inj (Option.some.inj hm)
    exact hg
theorem t_Ou_daysHeld {w : ia_O0} (d : Nat) {a1 : Nat} {x2 : Int32} {h : ia_H} (hg : gd_ w h) (p1 : (kd_D a1).1 = 9) {q : (Int32 × ia_H)} (hm : f_Ou_daysHeld a1 x2 h = some q) : ia_Ev (d + 4) mm_Ou_daysHeld [.inr (.inr 326), .inr (.inr a1), .inl x2] h (some (.inl q.1)) q.2 := by
  have gq := g_Ou_daysHeld hg p1 hm
  refine ia_Ev_intro ok_Ou_daysHeld (gd_le hg gq).1 (gd_le hg gq).2 (Nat.le_of_ble_eq_true rfl) (fun K hK hret => ?_)
  obtain ⟨r, h1⟩ := q
  show K 0 [some (.inr (.inr 326)), some (.inr (.inr a1)), some (.inl x2), none] [] h
  unfold f_Ou_daysHeld at hm
  refine ia_go hK ck_Ou_daysHeld_0 ⟨gk_5 hg pk_326, gr_5_1 hg pk_326, ?_⟩
  show K 5 [some (.inr (.inr 326)), some (.inr (.inr a1)), some (.inl x2), none] [.inr (.inr a1), .inr (.inr 329)] h
  obtain ⟨v1, hv1, hm⟩ := ia_bnd hm
  have ev1 := t_Sc_become (d + 3) hg (ka_5_1 pk_326) p1 hv1
  have gv1 := g_Sc_become hg (ka_5_1 pk_326) p1 hv1
  refine ia_cV hK mk_Sc_become lk_5_34 dc_Ou_daysHeld_5 329 [.inr (.inr a1)] [] rfl rfl (Nat.le_of_ble_eq_true rfl) (by decide) rfl (gk_9 hg (ka_5_1 pk_326)) ev1 (gd_nm hg gv1) ?_
  show K 8 [some (.inr (.inr 326)), some (.inr (.inr a1)), some (.inl x2), none] [] v1
  refine ia_go hK ck_Ou_daysHeld_8 ?_
  show K 10 [some (.inr (.inr 326)), some (.inr (.inr a1)), some (.inl x2), some (.inl 0)] [] v1
  refine ia_fg hK (lv' := [some (.inr (.inr 326)), none, some (.inl x2), some (.inl 0)]) ⟨rfl, rfl, rfl, trivial⟩ ?_
  refine tl_Ou_daysHeld_10 hK p1 hret ?_ ?_ fu_ 0 v1 gv1 hm
  · intro x3 h hg hm
    refine ia_go hK ck_Ou_daysHeld_27 ?_
    show K 28 [none, none, none, some (.inl x3)] [.inl x3] h
    obtain ⟨rfl, rfl⟩ := Prod.mk.inj (Option.some.inj hm)
    exact hret 28 _ dc_Ou_daysHeld_28
  · intro h hg hm
    refine ia_go hK ck_Ou_daysHeld_49 ?_
    show K 51 [none, none, none, none] [.inl 61] h
    obtain ⟨rfl, rfl⟩ := Prod.mk.inj (Option.some.inj hm)
    exact hret 51 _ dc_Ou_daysHeld_51
def mm_I_holds : ia_M := (⟨"IceStreet", "holds", "(IIIII)I"⟩, prog_1_method_21_code, 6, (some .int), 0, false)
theorem ok_I_holds : ia_mok mm_I_holds := ⟨by decide +kernel, by decide +kernel, by decide +kernel, by decide +kernel⟩
theorem mk_I_holds : ia_mkn mm_I_holds 1 5 := ⟨ia_tb_in (List.mem_of_getElem? (i := 1289) (by decide +kernel)) rfl, ia_tb_in (List.mem_of_getElem? (i := 133) (by decide +kernel)) rfl, by decide +kernel, by decide +kernel, ⟨ia_tb_in (List.mem_of_getElem? (i := 1287) (by decide +kernel)) rfl, ia_tb_in (List.mem_of_getElem? (i := 1288) (by decide +kernel)) rfl⟩⟩
theorem ck_I_holds_0 : ia_cks 0 6 false prog_1_method_21_code 0 [(.aload_n 0, 0, 0, 0, 0), (.iload_n 1, 0, 0, 0, 0), (.iload_n 2, 0, 0, 0, 0), (.iload_n 3, 0, 0, 0, 0), (.iload 4, 0, 0, 0, 0)] = true := by decide +kernel
theorem ck_I_holds_9 : ia_cks 0 6 false prog_1_method_21_code 9 [(.ifCond .eq 15, 0, 0, 0, 0)] = true := by decide +kernel
theorem ck_I_holds_24 : ia_cks 0 6 false prog_1_method_21_code 24 [(.iconst (-1), 0, 0, 0, 0)] = true := by decide +kernel
theorem ck_I_holds_12 : ia_cks 0 6 false prog_1_method_21_code 12 [(.aload_n 0, 0, 0, 0, 0), (.getfield 44, 0, 4, 3, 239), (.iload 5, 0, 0, 0, 0)] = true := by decide +kernel
theorem ck_I_holds_21 : ia_cks 0 6 false prog_1_method_21_code 21 [(.ifCond .ne 5, 0, 0, 0, 0)] = true := by decide +kernel
theorem ck_I_holds_26 : ia_cks 0 6 false prog_1_method_21_code 26 [(.aload_n 0, 0, 0, 0, 0), (.getfield 69, 0, 7, 3, 262), (.aload_n 0, 0, 0, 0, 0), (.getfield 44, 0, 4, 3, 239), (.iload 5, 0, 0, 0, 0)] = true := by decide +kernel
theorem dc_I_holds_6 : decode prog_1_method_21_code 6 = .ok (.invokevirtual 266, 3) := by decide +kernel
theorem dc_I_holds_25 : decode prog_1_method_21_code 25 = .ok (.ireturn, 1) := by decide +kernel
theorem dc_I_holds_18 : decode prog_1_method_21_code 18 = .ok (.invokevirtual 347, 3) := by decide +kernel
theorem dc_I_holds_36 : decode prog_1_method_21_code 36 = .ok (.invokevirtual 350, 3) := by decide +kernel
theorem dc_I_holds_39 : decode prog_1_method_21_code 39 = .ok (.ireturn, 1) := by decide +kernel
def f_I_holds (x1 : Int32) (x2 : Int32) (x3 : Int32) (x4 : Int32) (x5 : Int32) (h : ia_H) : Option (Int32 × ia_H) := (f_I_stage x1 x2 x3 x4 h).bind fun v1 => (if v1.1 = 0 then (some ((-1), v1.2)) else ((f_Sc_stands 303 x5 v1.2).bind fun v2 => (if v2 = 0 then (some ((-1), v1.2)) else ((f_Ou_daysHeld 303 x5 v1.2).bind fun v3 => (some (v3.1, v3.2))))))
theorem g_I_holds {w : ia_O0} {x1 : Int32} {x2 : Int32} {x3 : Int32} {x4 : Int32} {x5 : Int32} {h : ia_H} (hg : gd_ w h) {q : (Int32 × ia_H)} (hm : f_I_holds x1 x2 x3 x4 x5 h = some q) : gd_ w q.2 := by
  obtain ⟨r, h1⟩ := q
  unfold f_I_holds at hm
  obtain ⟨v1, hv1, hm⟩ := ia_bnd hm
  have gv1 := g_I_stage hg hv1
  by_cases c : v1.1 = 0
  · replace hm := ia_ifp hm c
    obtain ⟨rfl, rfl⟩ := Prod.mk.inj (Option.some.inj hm)
    exact gv1
  · replace hm := ia_ifn hm c
    obtain ⟨v2, hv2, hm⟩ := ia_bnd hm
    by_cases c : v2 = 0
    · replace hm := ia_ifp hm c
      obtain ⟨rfl, rfl⟩ := Prod.mk.inj (Option.some.inj hm)
      exact gv1
    · replace hm := ia_ifn hm c
      obtain ⟨v3, hv3, hm⟩ := ia_bnd hm
      have gv3 := g_Ou_daysHeld gv1 (ka_0_4 pk_64) hv3
      obtain ⟨rfl, rfl⟩ := Prod.mk.inj (Option.some.inj hm)
      exact gv3
theorem t_I_holds {w : ia_O0} (d : Nat) {x1 : Int32} {x2 : Int32} {x3 : Int32} {x4 : Int32} {x5 : Int32} {h : ia_H} (hg : gd_ w h) {q : (Int32 × ia_H)} (hm : f_I_holds x1 x2 x3 x4 x5 h = some q) : ia_Ev (d + 7) mm_I_holds [.inr (.inr 64), .inl x1, .inl x2, .inl x3, .inl x4, .inl x5] h (some (.inl q.1)) q.2 := by
  have gq := g_I_holds hg hm
  refine ia_Ev_intro ok_I_holds (gd_le hg gq).1 (gd_le hg gq).2 (Nat.le_of_ble_eq_true rfl) (fun K hK hret => ?_)
  obtain ⟨r, h1⟩ := q
  show K 0 [some (.inr (.inr 64)), some (.inl x1), some (.inl x2), some (.inl x3), some (.inl x4), some (.inl x5)] [] h
  unfold f_I_holds at hm
  refine ia_go hK ck_I_holds_0 ?_
  show K 6 [some (.inr (.inr 64)), some (.inl x1), some (.inl x2), some (.inl x3), some (.inl x4), some (.inl x5)] [.inl x4, .inl x3, .inl x2, .inl x1, .inr (.inr 64)] h
  obtain ⟨v1, hv1, hm⟩ := ia_bnd hm
  have ev1 := t_I_stage (d + 0) hg hv1
  have gv1 := g_I_stage hg hv1
  refine ia_cV hK mk_I_stage lk_0_266 dc_I_holds_6 64 [.inl x1, .inl x2, .inl x3, .inl x4] [] rfl rfl (Nat.le_of_ble_eq_true rfl) (by decide) rfl (gk_0 hg pk_64) ev1 (gd_nm hg gv1) ?_
  show K 9 [some (.inr (.inr 64)), some (.inl x1), some (.inl x2), some (.inl x3), some (.inl x4), some (.inl x5)] [.inl v1.1] v1.2
  refine ia_go hK ck_I_holds_9 ⟨fun c => ?_, fun c => ?_⟩
  · replace hm := ia_ifp hm c
    show K 24 [some (.inr (.inr 64)), some (.inl x1), some (.inl x2), some (.inl x3), some (.inl x4), some (.inl x5)] [] v1.2
    refine ia_go hK ck_I_holds_24 ?_
    show K 25 [some (.inr (.inr 64)), some (.inl x1), some (.inl x2), some (.inl x3), some (.inl x4), some (.inl x5)] [.inl (-1)] v1.2
    obtain ⟨rfl, rfl⟩ := Prod.mk.inj (Option.some.inj hm)
    exact hret 25 _ dc_I_holds_25
  · replace hm := ia_ifn hm c
    show K 12 [some (.inr (.inr 64)), some (.inl x1), some (.inl x2), some (.inl x3), some (.inl x4), some (.inl x5)] [] v1.2
    refine ia_go hK ck_I_holds_12 ⟨gk_0 gv1 pk_64, gr_0_4 gv1 pk_64, ?_⟩
    show K 18 [some (.inr (.inr 64)), some (.inl x1), some (.inl x2), some (.inl x3), some (.inl x4), some (.inl x5)] [.inl x5, .inr (.inr 303)] v1.2
    obtain ⟨v2, hv2, hm⟩ := ia_bnd hm
    have ev2 := t_Sc_stands (d + 6) gv1 (ka_0_4 pk_64) hv2
    refine ia_cV hK mk_Sc_stands lk_0_347 dc_I_holds_18 303 [.inl x5] [] rfl rfl (Nat.le_of_ble_eq_true rfl) (by decide) rfl (gk_9 gv1 (ka_0_4 pk_64)) ev2 ⟨rfl, rfl⟩ ?_
    show K 21 [some (.inr (.inr 64)), some (.inl x1), some (.inl x2), some (.inl x3), some (.inl x4), some (.inl x5)] [.inl v2] v1.2
    refine ia_go hK ck_I_holds_21 ⟨fun c => ?_, fun c => ?_⟩
    · replace hm := ia_ifn hm c
      show K 26 [some (.inr (.inr 64)), some (.inl x1), some (.inl x2), some (.inl x3), some (.inl x4), some (.inl x5)] [] v1.2
      refine ia_go hK ck_I_holds_26 ⟨gk_0 gv1 pk_64, gr_0_7 gv1 pk_64, gk_0 gv1 pk_64, gr_0_4 gv1 pk_64, ?_⟩
      show K 36 [some (.inr (.inr 64)), some (.inl x1), some (.inl x2), some (.inl x3), some (.inl x4), some (.inl x5)] [.inl x5, .inr (.inr 303), .inr (.inr 326)] v1.2
      obtain ⟨v3, hv3, hm⟩ := ia_bnd hm
      have ev3 := t_Ou_daysHeld (d + 2) gv1 (ka_0_4 pk_64) hv3
      have gv3 := g_Ou_daysHeld gv1 (ka_0_4 pk_64) hv3
      refine ia_cV hK mk_Ou_daysHeld lk_0_350 dc_I_holds_36 326 [.inr (.inr 303), .inl x5] [] rfl rfl (Nat.le_of_ble_eq_true rfl) (by decide) rfl (gk_5 gv1 (ka_0_7 pk_64)) ev3 (gd_nm gv1 gv3) ?_
      show K 39 [some (.inr (.inr 64)), some (.inl x1), some (.inl x2), some (.inl x3), some (.inl x4), some (.inl x5)] [.inl v3.1] v3.2
      obtain ⟨rfl, rfl⟩ := Prod.mk.inj (Option.some.inj hm)
      exact hret 39 _ dc_I_holds_39
    · replace hm := ia_ifp hm c
      show K 24 [some (.inr (.inr 64)), some (.inl x1), some (.inl x2), some (.inl x3), some (.inl x4), some (.inl x5)] [] v1.2
      refine ia_go hK ck_I_holds_24 ?_
      show K 25 [some (.inr (.inr 64)), some (.inl x1), some (.inl x2), some (.inl x3), some (.inl x4), some (.inl x5)] [.inl (-1)] v1.2
      obtain ⟨rfl, rfl⟩ := Prod.mk.inj (Option.some.inj hm)
      exact hret 25 _ dc_I_holds_25
def mm_Sc_shopCells : ia_M := (⟨"IceStreet$Scene", "shopCells", "()J"⟩, prog_10_method_23_code, 4, (some .long), 9, false)
theorem ok_Sc_shopCells : ia_mok mm_Sc_shopCells := ⟨by decide +kernel, by decide +kernel, by decide +kernel, by decide +kernel⟩
theorem mk_Sc_shopCells : ia_mkn mm_Sc_shopCells 1 0 := ⟨ia_tb_in (List.mem_of_getElem? (i := 1322) (by decide +kernel)) rfl, ia_tb_in (List.mem_of_getElem? (i := 140) (by decide +kernel)) rfl, by decide +kernel, by decide +kernel, ⟨ia_tb_in (List.mem_of_getElem? (i := 1320) (by decide +kernel)) rfl, ia_tb_in (List.mem_of_getElem? (i := 1321) (by decide +kernel)) rfl⟩⟩
theorem ck_Sc_shopCells_0 : ia_cks 9 4 false prog_10_method_23_code 0 [(.lconst 0, 0, 0, 0, 0), (.lstore_n 1, 0, 0, 0, 0), (.iconst 0, 0, 0, 0, 0), (.istore_n 3, 0, 0, 0, 0)] = true := by decide +kernel
theorem ck_Sc_shopCells_4 : ia_cks 9 4 false prog_10_method_23_code 4 [(.iload_n 3, 0, 0, 0, 0), (.aload_n 0, 0, 0, 0, 0), (.getfield 33, 9, 0, 2, 0), (.getfield 66, 3, 11, 0, 0), (.if_icmp .ge 34, 0, 0, 0, 0)] = true := by decide +kernel
theorem ck_Sc_shopCells_15 : ia_cks 9 4 false prog_10_method_23_code 15 [(.lload_n 1, 0, 0, 0, 0), (.aload_n 0, 0, 0, 0, 0), (.getfield 24, 9, 6, 3, 5), (.iload_n 3, 0, 0, 0, 0), (.iaload, 0, 0, 0, 0), (.ifCond .lt 15, 0, 0, 0, 0)] = true := by decide +kernel
theorem ck_Sc_shopCells_37 : ia_cks 9 4 false prog_10_method_23_code 37 [(.lconst 0, 0, 0, 0, 0)] = true := by decide +kernel
theorem ck_Sc_shopCells_38 : ia_cks 9 4 false prog_10_method_23_code 38 [(.lor, 0, 0, 0, 0), (.lstore_n 1, 0, 0, 0, 0), (.iinc 3 1, 0, 0, 0, 0), (.goto (-39), 0, 0, 0, 0)] = true := by decide +kernel
theorem ck_Sc_shopCells_25 : ia_cks 9 4 false prog_10_method_23_code 25 [(.aload_n 0, 0, 0, 0, 0), (.getfield 24, 9, 6, 3, 5), (.iload_n 3, 0, 0, 0, 0), (.iaload, 0, 0, 0, 0)] = true := by decide +kernel
theorem ck_Sc_shopCells_34 : ia_cks 9 4 false prog_10_method_23_code 34 [(.goto 4, 0, 0, 0, 0)] = true := by decide +kernel
theorem ck_Sc_shopCells_46 : ia_cks 9 4 false prog_10_method_23_code 46 [(.lload_n 1, 0, 0, 0, 0)] = true := by decide +kernel
theorem dc_Sc_shopCells_31 : decode prog_10_method_23_code 31 = .ok (.invokestatic 132, 3) := by decide +kernel
theorem dc_Sc_shopCells_47 : decode prog_10_method_23_code 47 = .ok (.lreturn, 1) := by decide +kernel
def j_Sc_shopCells_38 (a0 : Nat) (h : ia_H) (kr : Int64 → Int32 → Option Int64) (k46 : Int64 → Option Int64) (x3 : Int32) (z0 : Int64) (z1 : Int64) : Option Int64 := kr (z0 ||| z1) (x3 + 1)
theorem tj_Sc_shopCells_38 {w : ia_O0} {d N1 W1 : Nat} {K : ia_K} (hK : ia_isK (d + 1) mm_Sc_shopCells N1 W1 K) {a0 : Nat} {h : ia_H} (hg : gd_ w h) (p0 : (kd_D a0).1 = 9) {r : Int64} (hret : ∀ (pc : Nat) (lv : ia_L), ia_ret mm_Sc_shopCells pc (some (.inr (.inl r))) → K pc lv ((some (.inr (.inl r))) : Option ia_V).toList h) {kr : Int64 → Int32 → Option Int64} {k46 : Int64 → Option Int64} (hkr : ∀ (y1 : Int64) (x3 : Int32), kr y1 x3 = some r → K 4 [some (.inr (.inr a0)), some (.inr (.inl y1)), none, some (.inl x3)] [] h) (hk46 : ∀ (y1 : Int64), k46 y1 = some r → K 46 [none, some (.inr (.inl y1)), none, none] [] h) : ∀ (x3 : Int32) (z0 : Int64) (z1 : Int64), j_Sc_shopCells_38 a0 h kr k46 x3 z0 z1 = some r → K 38 [some (.inr (.inr a0)), none, none, some (.inl x3)] [.inr (.inl z1), .inr (.inl z0)] h := by
  intro x3 z0 z1 hm
  unfold j_Sc_shopCells_38 at hm
  refine ia_go hK ck_Sc_shopCells_38 ?_
  show K 4 [some (.inr (.inr a0)), some (.inr (.inl (z0 ||| z1))), none, some (.inl (x3 + 1))] [] h
  exact hkr (z0 ||| z1) (x3 + 1) hm
def l_Sc_shopCells_4 (a0 : Nat) (h : ia_H) (k46 : Int64 → Option Int64) (n : Nat) (y1 : Int64) (x3 : Int32) : Option Int64 := match n with
  | 0 => none
  | n + 1 => if (ia_i h (ia_r h a0 0) 11) ≤ x3 then (k46 y1) else (ia_gd (ia_ib x3 6) (if (ia_i h (a0 + 5) ((x3).toNatClampNeg)) < 0 then (j_Sc_shopCells_38 a0 h (l_Sc_shopCells_4 a0 h k46 n) k46 x3 y1 0) else (ia_gd (ia_ib x3 6) ((f_I_bit (ia_i h (a0 + 5) ((x3).toNatClampNeg)) h).bind fun v3 => (j_Sc_shopCells_38 a0 h (l_Sc_shopCells_4 a0 h k46 n) k46 x3 y1 v3)))))
theorem tl_Sc_shopCells_4 {w : ia_O0} {d N1 W1 : Nat} {K : ia_K} (hK : ia_isK (d + 1) mm_Sc_shopCells N1 W1 K) {a0 : Nat} {h : ia_H} (hg : gd_ w h) (p0 : (kd_D a0).1 = 9) {r : Int64} (hret : ∀ (pc : Nat) (lv : ia_L), ia_ret mm_Sc_shopCells pc (some (.inr (.inl r))) → K pc lv ((some (.inr (.inl r))) : Option ia_V).toList h) {k46 : Int64 → Option Int64} (hk46 : ∀ (y1 : Int64), k46 y1 = some r → K 46 [none, some (.inr (.inl y1)), none, none] [] h) : ∀ (n : Nat) (y1 : Int64) (x3 : Int32), l_Sc_shopCells_4 a0 h k46 n y1 x3 = some r → K 4 [some (.inr (.inr a0)), some (.inr (.inl y1)), none, some (.inl x3)] [] h := by
  intro n
  induction n with
  | zero =>
    intro y1 x3 hm
    cases (show (none : Option Int64) = some _ from hm)
  | succ n ih =>
    intro y1 x3 hm
    rw [l_Sc_shopCells_4] at hm
    refine ia_go hK ck_Sc_shopCells_4 ⟨gk_9 hg p0, gk_3 hg (gm_9_0 hg p0), fun c => ?_, fun c => ?_⟩
    · replace hm := ia_ifp hm c
      show K 46 [some (.inr (.inr a0)), some (.inr (.inl y1)), none, some (.inl x3)] [] h
      refine ia_fg hK (lv' := [none, some (.inr (.inl y1)), none, none]) ⟨rfl, trivial⟩ ?_
      exact hk46 y1 hm
    · replace hm := ia_ifn hm c
      show K 15 [some (.inr (.inr a0)), some (.inr (.inl y1)), none, some (.inl x3)] [] h
      obtain ⟨c1, hm⟩ := ia_gd_some hm
      refine ia_go hK ck_Sc_shopCells_15 ⟨gk_9 hg p0, gr_9_6 hg p0, ga_i100 hg (ka_9_6 p0) c1, fun c => ?_, fun c => ?_⟩
      · replace hm := ia_ifp hm c
        show K 37 [some (.inr (.inr a0)), some (.inr (.inl y1)), none, some (.inl x3)] [.inr (.inl y1)] h
        refine ia_go hK ck_Sc_shopCells_37 ?_
        show K 38 [some (.inr (.inr a0)), some (.inr (.inl y1)), none, some (.inl x3)] [.inr (.inl 0), .inr (.inl y1)] h
        refine ia_fg hK (lv' := [some (.inr (.inr a0)), none, none, some (.inl x3)]) ⟨rfl, rfl, trivial⟩ ?_
        exact tj_Sc_shopCells_38 hK hg p0 hret ih hk46 x3 y1 0 hm
      · replace hm := ia_ifn hm c
        show K 25 [some (.inr (.inr a0)), some (.inr (.inl y1)), none, some (.inl x3)] [.inr (.inl y1)] h
        obtain ⟨c2, hm⟩ := ia_gd_some hm
        refine ia_go hK ck_Sc_shopCells_25 ⟨gk_9 hg p0, gr_9_6 hg p0, ga_i100 hg (ka_9_6 p0) c2, ?_⟩
        show K 31 [some (.inr (.inr a0)), some (.inr (.inl y1)), none, some (.inl x3)] [.inl (ia_i h (a0 + 5) ((x3).toNatClampNeg)), .inr (.inl y1)] h
        obtain ⟨v3, hv3, hm⟩ := ia_bnd hm
        have ev3 := t_I_bit (d + 0) hg hv3
        refine ia_cS hK mk_I_bit lk_9_132 dc_Sc_shopCells_31 [.inl (ia_i h (a0 + 5) ((x3).toNatClampNeg))] [.inr (.inl y1)] rfl rfl (Nat.le_of_ble_eq_true rfl) ev3 ⟨rfl, rfl⟩ ?_
        show K 34 [some (.inr (.inr a0)), some (.inr (.inl y1)), none, some (.inl x3)] [.inr (.inl v3), .inr (.inl y1)] h
        refine ia_go hK ck_Sc_shopCells_34 ?_
        show K 38 [some (.inr (.inr a0)), some (.inr (.inl y1)), none, some (.inl x3)] [.inr (.inl v3), .inr (.inl y1)] h
        refine ia_fg hK (lv' := [some (.inr (.inr a0)), none, none, some (.inl x3)]) ⟨rfl, rfl, trivial⟩ ?_
        exact tj_Sc_shopCells_38 hK hg p0 hret ih hk46 x3 y1 v3 hm
def f_Sc_shopCells (a0 : Nat) (h : ia_H) : Option Int64 := l_Sc_shopCells_4 a0 h (fun y1 => some y1) fu_ 0 0
theorem t_Sc_shopCells {w : ia_O0} (d : Nat) {a0 : Nat} {h : ia_H} (hg : gd_ w h) (p0 : (kd_D a0).1 = 9) {r : Int64} (hm : f_Sc_shopCells a0 h = some r) : ia_Ev (d + 1) mm_Sc_shopCells [.inr (.inr a0)] h (some (.inr (.inl r))) h := by
  refine ia_Ev_intro ok_Sc_shopCells (Nat.le_refl _) (Nat.le_refl _) (Nat.le_of_ble_eq_true rfl) (fun K hK hret => ?_)
  show K 0 [some (.inr (.inr a0)), none, none, none] [] h
  unfold f_Sc_shopCells at hm
  refine ia_go hK ck_Sc_shopCells_0 ?_
  show K 4 [some (.inr (.inr a0)), some (.inr (.inl 0)), none, some (.inl 0)] [] h
  refine tl_Sc_shopCells_4 hK hg p0 hret ?_ fu_ 0 0 hm
  · intro y1 hm
    refine ia_go hK ck_Sc_shopCells_46 ?_
    show K 47 [none, some (.inr (.inl y1)), none, none] [.inr (.inl y1)] h
    obtain rfl := Option.some.inj hm
    exact hret 47 _ dc_Sc_shopCells_47
def mm_Ou_firmCells : ia_M := (⟨"IceStreet$Outlook", "firmCells", "(LIceStreet$Scene;I)J"⟩, prog_6_method_8_code, 5, (some .long), 5, false)
theorem ok_Ou_firmCells : ia_mok mm_Ou_firmCells := ⟨by decide +kernel, by decide +kernel, by decide +kernel, by decide +kernel⟩
theorem mk_Ou_firmCells : ia_mkn mm_Ou_firmCells 0 2 := ⟨ia_tb_in (List.mem_of_getElem? (i := 1315) (by decide +kernel)) rfl, ia_tb_in (List.mem_of_getElem? (i := 143) (by decide +kernel)) rfl, by decide +kernel, by decide +kernel, ia_tb_in (List.mem_of_getElem? (i := 1314) (by decide +kernel)) rfl⟩
theorem ck_Ou_firmCells_0 : ia_cks 5 5 false prog_6_method_8_code 0 [(.lconst 0, 0, 0, 0, 0), (.lstore_n 2, 0, 0, 0, 0), (.iconst 0, 0, 0, 0, 0), (.istore 4, 0, 0, 0, 0)] = true := by decide +kernel
theorem ck_Ou_firmCells_5 : ia_cks 5 5 false prog_6_method_8_code 5 [(.iload 4, 0, 0, 0, 0), (.aload_n 0, 0, 0, 0, 0), (.getfield 69, 9, 0, 2, 0)] = true := by decide +kernel
theorem ck_Ou_firmCells_14 : ia_cks 5 5 false prog_6_method_8_code 14 [(.if_icmp .ge 35, 0, 0, 0, 0)] = true := by decide +kernel
theorem ck_Ou_firmCells_17 : ia_cks 5 5 false prog_6_method_8_code 17 [(.aload_n 0, 0, 0, 0, 0), (.iload 4, 0, 0, 0, 0)] = true := by decide +kernel
theorem ck_Ou_firmCells_23 : ia_cks 5 5 false prog_6_method_8_code 23 [(.iload_n 1, 0, 0, 0, 0), (.aload_n 0, 0, 0, 0, 0), (.getfield 122, 9, 4, 3, 3), (.iload 4, 0, 0, 0, 0), (.iaload, 0, 0, 0, 0), (.iadd, 0, 0, 0, 0), (.if_icmp .lt 11, 0, 0, 0, 0)] = true := by decide +kernel
theorem ck_Ou_firmCells_43 : ia_cks 5 5 false prog_6_method_8_code 43 [(.iinc 4 1, 0, 0, 0, 0), (.goto (-41), 0, 0, 0, 0)] = true := by decide +kernel
theorem ck_Ou_firmCells_35 : ia_cks 5 5 false prog_6_method_8_code 35 [(.lload_n 2, 0, 0, 0, 0), (.iload 4, 0, 0, 0, 0)] = true := by decide +kernel
theorem ck_Ou_firmCells_41 : ia_cks 5 5 false prog_6_method_8_code 41 [(.lor, 0, 0, 0, 0), (.lstore_n 2, 0, 0, 0, 0), (.iinc 4 1, 0, 0, 0, 0), (.goto (-41), 0, 0, 0, 0)] = true := by decide +kernel
theorem ck_Ou_firmCells_49 : ia_cks 5 5 false prog_6_method_8_code 49 [(.lload_n 2, 0, 0, 0, 0), (.aload_n 0, 0, 0, 0, 0)] = true := by decide +kernel
theorem ck_Ou_firmCells_57 : ia_cks 5 5 false prog_6_method_8_code 57 [(.lxor, 0, 0, 0, 0), (.land, 0, 0, 0, 0)] = true := by decide +kernel
theorem dc_Ou_firmCells_11 : decode prog_6_method_8_code 11 = .ok (.invokevirtual 73, 3) := by decide +kernel
theorem dc_Ou_firmCells_20 : decode prog_6_method_8_code 20 = .ok (.invokevirtual 118, 3) := by decide +kernel
theorem dc_Ou_firmCells_38 : decode prog_6_method_8_code 38 = .ok (.invokestatic 65, 3) := by decide +kernel
theorem dc_Ou_firmCells_51 : decode prog_6_method_8_code 51 = .ok (.invokevirtual 125, 3) := by decide +kernel
theorem dc_Ou_firmCells_54 : decode prog_6_method_8_code 54 = .ok (.ldc2_w 129, 3) := by decide +kernel
theorem dc_Ou_firmCells_59 : decode prog_6_method_8_code 59 = .ok (.lreturn, 1) := by decide +kernel
def l_Ou_firmCells_5 (a0 : Nat) (x1 : Int32) (h : ia_H) (k49 : Int64 → Option Int64) (n : Nat) (y2 : Int64) (x4 : Int32) : Option Int64 := match n with
  | 0 => none
  | n + 1 => (f_La_cells (ia_r h a0 0) h).bind fun v1 => (if v1 ≤ x4 then (k49 y2) else ((f_Sc_bears a0 x4 h).bind fun v2 => (ia_gd (ia_ib x4 36) (if v2 < (x1 + (ia_i h (a0 + 3) ((x4).toNatClampNeg))) then (l_Ou_firmCells_5 a0 x1 h k49 n y2 (x4 + 1)) else ((f_I_bit x4 h).bind fun v4 => (l_Ou_firmCells_5 a0 x1 h k49 n (y2 ||| v4) (x4 + 1)))))))
theorem tl_Ou_firmCells_5 {w : ia_O0} {d N1 W1 : Nat} {K : ia_K} (hK : ia_isK (d + 2) mm_Ou_firmCells N1 W1 K) {a0 : Nat} {x1 : Int32} {h : ia_H} (hg : gd_ w h) (p0 : (kd_D a0).1 = 9) {r : Int64} (hret : ∀ (pc : Nat) (lv : ia_L), ia_ret mm_Ou_firmCells pc (some (.inr (.inl r))) → K pc lv ((some (.inr (.inl r))) : Option ia_V).toList h) {k49 : Int64 → Option Int64} (hk49 : ∀ (y2 : Int64), k49 y2 = some r → K 49 [some (.inr (.inr a0)), none, some (.inr (.inl y2)), none, none] [] h) : ∀ (n : Nat) (y2 : Int64) (x4 : Int32), l_Ou_firmCells_5 a0 x1 h k49 n y2 x4 = some r → K 5 [some (.inr (.inr a0)), some (.inl x1), some (.inr (.inl y2)), none, some (.inl x4)] [] h := by
  intro n
  induction n with
  | zero =>
    intro y2 x4 hm
    cases (show (none : Option Int64) = some _ from hm)
  | succ n ih =>
    intro y2 x4 hm
    rw [l_Ou_firmCells_5] at hm
    refine ia_go hK ck_Ou_firmCells_5 ⟨gk_9 hg p0, ?_⟩
    show K 11 [some (.inr (.inr a0)), some (.inl x1), some (.inr (.inl y2)), none, some (.inl x4)] [.inr (.inr (ia_r h a0 0)), .inl x4] h
    obtain ⟨v1, hv1, hm⟩ := ia_bnd hm
    have ev1 := t_La_cells (d + 1) hg (gm_9_0 hg p0) hv1
    refine ia_cV hK mk_La_cells lk_5_73 dc_Ou_firmCells_11 (ia_r h a0 0) [] [.inl x4] rfl rfl (Nat.le_of_ble_eq_true rfl) (by decide) rfl (gk_3 hg (gm_9_0 hg p0)) ev1 ⟨rfl, rfl⟩ ?_
    show K 14 [some (.inr (.inr a0)), some (.inl x1), some (.inr (.inl y2)), none, some (.inl x4)] [.inl v1, .inl x4] h
    refine ia_go hK ck_Ou_firmCells_14 ⟨fun c => ?_, fun c => ?_⟩
    · replace hm := ia_ifp hm c
      show K 49 [some (.inr (.inr a0)), some (.inl x1), some (.inr (.inl y2)), none, some (.inl x4)] [] h
      refine ia_fg hK (lv' := [some (.inr (.inr a0)), none, some (.inr (.inl y2)), none, none]) ⟨rfl, rfl, trivial⟩ ?_
      exact hk49 y2 hm
    · replace hm := ia_ifn hm c
      show K 17 [some (.inr (.inr a0)), some (.inl x1), some (.inr (.inl y2)), none, some (.inl x4)] [] h
      refine ia_go hK ck_Ou_firmCells_17 ?_
      show K 20 [some (.inr (.inr a0)), some (.inl x1), some (.inr (.inl y2)), none, some (.inl x4)] [.inl x4, .inr (.inr a0)] h
      obtain ⟨v2, hv2, hm⟩ := ia_bnd hm
      have ev2 := t_Sc_bears (d + 0) hg p0 hv2
      refine ia_cV hK mk_Sc_bears lk_5_118 dc_Ou_firmCells_20 a0 [.inl x4] [] rfl rfl (Nat.le_of_ble_eq_true rfl) (by decide) rfl (gk_9 hg p0) ev2 ⟨rfl, rfl⟩ ?_
      show K 23 [some (.inr (.inr a0)), some (.inl x1), some (.inr (.inl y2)), none, some (.inl x4)] [.inl v2] h
      obtain ⟨c3, hm⟩ := ia_gd_some hm
      refine ia_go hK ck_Ou_firmCells_23 ⟨gk_9 hg p0, gr_9_4 hg p0, ga_i100 hg (ka_9_4 p0) c3, fun c => ?_, fun c => ?_⟩
      · replace hm := ia_ifp hm c
        show K 43 [some (.inr (.inr a0)), some (.inl x1), some (.inr (.inl y2)), none, some (.inl x4)] [] h
        refine ia_go hK ck_Ou_firmCells_43 ?_
        show K 5 [some (.inr (.inr a0)), some (.inl x1), some (.inr (.inl y2)), none, some (.inl (x4 + 1))] [] h
        exact ih y2 (x4 + 1) hm
      · replace hm := ia_ifn hm c
        show K 35 [some (.inr (.inr a0)), some (.inl x1), some (.inr (.inl y2)), none, some (.inl x4)] [] h
        refine ia_go hK ck_Ou_firmCells_35 ?_
        show K 38 [some (.inr (.inr a0)), some (.inl x1), some (.inr (.inl y2)), none, some (.inl x4)] [.inl x4, .inr (.inl y2)] h
        obtain ⟨v4, hv4, hm⟩ := ia_bnd hm
        have ev4 := t_I_bit (d + 1) hg hv4
        refine ia_cS hK mk_I_bit lk_5_65 dc_Ou_firmCells_38 [.inl x4] [.inr (.inl y2)] rfl rfl (Nat.le_of_ble_eq_true rfl) ev4 ⟨rfl, rfl⟩ ?_
        show K 41 [some (.inr (.inr a0)), some (.inl x1), some (.inr (.inl y2)), none, some (.inl x4)] [.inr (.inl v4), .inr (.inl y2)] h
        refine ia_go hK ck_Ou_firmCells_41 ?_
        show K 5 [some (.inr (.inr a0)), some (.inl x1), some (.inr (.inl (y2 ||| v4))), none, some (.inl (x4 + 1))] [] h
        exact ih (y2 ||| v4) (x4 + 1) hm
def f_Ou_firmCells (a0 : Nat) (x1 : Int32) (h : ia_H) : Option Int64 := l_Ou_firmCells_5 a0 x1 h (fun y2 => (f_Sc_shopCells a0 h).bind fun v5 => (some (y2 &&& (v5 ^^^ (-1))))) fu_ 0 0
theorem t_Ou_firmCells {w : ia_O0} (d : Nat) {a0 : Nat} {x1 : Int32} {h : ia_H} (hg : gd_ w h) (p0 : (kd_D a0).1 = 9) {r : Int64} (hm : f_Ou_firmCells a0 x1 h = some r) : ia_Ev (d + 2) mm_Ou_firmCells [.inr (.inr a0), .inl x1] h (some (.inr (.inl r))) h := by
  refine ia_Ev_intro ok_Ou_firmCells (Nat.le_refl _) (Nat.le_refl _) (Nat.le_of_ble_eq_true rfl) (fun K hK hret => ?_)
  show K 0 [some (.inr (.inr a0)), some (.inl x1), none, none, none] [] h
  unfold f_Ou_firmCells at hm
  refine ia_go hK ck_Ou_firmCells_0 ?_
  show K 5 [some (.inr (.inr a0)), some (.inl x1), some (.inr (.inl 0)), none, some (.inl 0)] [] h
  refine tl_Ou_firmCells_5 hK hg p0 hret ?_ fu_ 0 0 hm
  · intro y2 hm
    refine ia_go hK ck_Ou_firmCells_49 ?_
    show K 51 [some (.inr (.inr a0)), none, some (.inr (.inl y2)), none, none] [.inr (.inr a0), .inr (.inl y2)] h
    obtain ⟨v5, hv5, hm⟩ := ia_bnd hm
    have ev5 := t_Sc_shopCells (d + 0) hg p0 hv5
    refine ia_cV hK mk_Sc_shopCells lk_5_125 dc_Ou_firmCells_51 a0 [] [.inr (.inl y2)] rfl rfl (Nat.le_of_ble_eq_true rfl) (by decide) rfl (gk_9 hg p0) ev5 ⟨rfl, rfl⟩ ?_
    show K 54 [some (.inr (.inr a0)), none, some (.inr (.inl y2)), none, none] [.inr (.inl v5), .inr (.inl y2)] h
    refine ia_ldc2 hK (v := (-1)) (ia_tb_in (List.mem_of_getElem? (i := 1324) (by decide +kernel)) rfl) dc_Ou_firmCells_54 ?_
    show K 57 [some (.inr (.inr a0)), none, some (.inr (.inl y2)), none, none] [.inr (.inl (-1)), .inr (.inl v5), .inr (.inl y2)] h
    refine ia_go hK ck_Ou_firmCells_57 ?_
    show K 59 [some (.inr (.inr a0)), none, some (.inr (.inl y2)), none, none] [.inr (.inl (y2 &&& (v5 ^^^ (-1))))] h
    obtain rfl := Option.some.inj hm
    exact hret 59 _ dc_Ou_firmCells_59
def mm_Ou_blocksOf : ia_M := (⟨"IceStreet$Outlook", "blocksOf", "(LIceStreet$Scene;JII)J"⟩, prog_6_method_9_code, 13, (some .long), 5, false)
theorem ok_Ou_blocksOf : ia_mok mm_Ou_blocksOf := ⟨by decide +kernel, by decide +kernel, by decide +kernel, by decide +kernel⟩
theorem mk_Ou_blocksOf : ia_mkn mm_Ou_blocksOf 0 4 := ⟨ia_tb_in (List.mem_of_getElem? (i := 1327) (by decide +kernel)) rfl, ia_tb_in (List.mem_of_getElem? (i := 143) (by decide +kernel)) rfl, by decide +kernel, by decide +kernel, ia_tb_in (List.mem_of_getElem? (i := 1326) (by decide +kernel)) rfl⟩
theorem ck_Ou_blocksOf_0 : ia_cks 5 13 false prog_6_method_9_code 0 [(.aload_n 0, 0, 0, 0, 0), (.getfield 69, 9, 0, 2, 0), (.getfield 131, 3, 0, 0, 0), (.istore 5, 0, 0, 0, 0), (.lconst 0, 0, 0, 0, 0), (.lstore 6, 0, 0, 0, 0), (.iconst 0, 0, 0, 0, 0), (.istore 8, 0, 0, 0, 0)] = true := by decide +kernel
theorem ck_Ou_blocksOf_15 : ia_cks 5 13 false prog_6_method_9_code 15 [(.iload 8, 0, 0, 0, 0), (.iload 4, 0, 0, 0, 0), (.if_icmp .ge 40, 0, 0, 0, 0)] = true := by decide +kernel
theorem ck_Ou_blocksOf_22 : ia_cks 5 13 false prog_6_method_9_code 22 [(.iconst 0, 0, 0, 0, 0), (.istore 9, 0, 0, 0, 0)] = true := by decide +kernel
theorem ck_Ou_blocksOf_25 : ia_cks 5 13 false prog_6_method_9_code 25 [(.iload 9, 0, 0, 0, 0), (.iload_n 3, 0, 0, 0, 0), (.if_icmp .ge 25, 0, 0, 0, 0)] = true := by decide +kernel
theorem ck_Ou_blocksOf_31 : ia_cks 5 13 false prog_6_method_9_code 31 [(.lload 6, 0, 0, 0, 0), (.iload 8, 0, 0, 0, 0), (.iload 5, 0, 0, 0, 0), (.imul, 0, 0, 0, 0), (.iload 9, 0, 0, 0, 0), (.iadd, 0, 0, 0, 0)] = true := by decide +kernel
theorem ck_Ou_blocksOf_44 : ia_cks 5 13 false prog_6_method_9_code 44 [(.lor, 0, 0, 0, 0), (.lstore 6, 0, 0, 0, 0), (.iinc 9 1, 0, 0, 0, 0), (.goto (-25), 0, 0, 0, 0)] = true := by decide +kernel
theorem ck_Ou_blocksOf_53 : ia_cks 5 13 false prog_6_method_9_code 53 [(.iinc 8 1, 0, 0, 0, 0), (.goto (-41), 0, 0, 0, 0)] = true := by decide +kernel
theorem ck_Ou_blocksOf_59 : ia_cks 5 13 false prog_6_method_9_code 59 [(.lconst 0, 0, 0, 0, 0), (.lstore 8, 0, 0, 0, 0), (.iconst 0, 0, 0, 0, 0), (.istore 10, 0, 0, 0, 0)] = true := by decide +kernel
theorem ck_Ou_blocksOf_65 : ia_cks 5 13 false prog_6_method_9_code 65 [(.iload 10, 0, 0, 0, 0), (.iload 4, 0, 0, 0, 0), (.iadd, 0, 0, 0, 0), (.aload_n 0, 0, 0, 0, 0), (.getfield 69, 9, 0, 2, 0), (.getfield 134, 3, 1, 0, 0), (.if_icmp .gt 63, 0, 0, 0, 0)] = true := by decide +kernel
theorem ck_Ou_blocksOf_80 : ia_cks 5 13 false prog_6_method_9_code 80 [(.iconst 0, 0, 0, 0, 0), (.istore 11, 0, 0, 0, 0)] = true := by decide +kernel
theorem ck_Ou_blocksOf_83 : ia_cks 5 13 false prog_6_method_9_code 83 [(.iload 11, 0, 0, 0, 0), (.iload_n 3, 0, 0, 0, 0), (.iadd, 0, 0, 0, 0), (.iload 5, 0, 0, 0, 0), (.if_icmp .gt 45, 0, 0, 0, 0)] = true := by decide +kernel
theorem ck_Ou_blocksOf_92 : ia_cks 5 13 false prog_6_method_9_code 92 [(.iload 10, 0, 0, 0, 0), (.iload 5, 0, 0, 0, 0), (.imul, 0, 0, 0, 0), (.iload 11, 0, 0, 0, 0), (.iadd, 0, 0, 0, 0), (.istore 12, 0, 0, 0, 0), (.lload 6, 0, 0, 0, 0), (.iload 12, 0, 0, 0, 0), (.lshl, 0, 0, 0, 0), (.lload_n 1, 0, 0, 0, 0)] = true := by decide +kernel
theorem ck_Ou_blocksOf_111 : ia_cks 5 13 false prog_6_method_9_code 111 [(.lxor, 0, 0, 0, 0), (.land, 0, 0, 0, 0), (.lconst 0, 0, 0, 0, 0), (.lcmp, 0, 0, 0, 0), (.ifCond .ne 13, 0, 0, 0, 0)] = true := by decide +kernel
theorem ck_Ou_blocksOf_128 : ia_cks 5 13 false prog_6_method_9_code 128 [(.iinc 11 1, 0, 0, 0, 0), (.goto (-48), 0, 0, 0, 0)] = true := by decide +kernel
theorem ck_Ou_blocksOf_118 : ia_cks 5 13 false prog_6_method_9_code 118 [(.lload 8, 0, 0, 0, 0), (.iload 12, 0, 0, 0, 0)] = true := by decide +kernel
theorem ck_Ou_blocksOf_125 : ia_cks 5 13 false prog_6_method_9_code 125 [(.lor, 0, 0, 0, 0), (.lstore 8, 0, 0, 0, 0), (.iinc 11 1, 0, 0, 0, 0), (.goto (-48), 0, 0, 0, 0)] = true := by decide +kernel
theorem ck_Ou_blocksOf_134 : ia_cks 5 13 false prog_6_method_9_code 134 [(.iinc 10 1, 0, 0, 0, 0), (.goto (-72), 0, 0, 0, 0)] = true := by decide +kernel
theorem ck_Ou_blocksOf_140 : ia_cks 5 13 false prog_6_method_9_code 140 [(.lload 8, 0, 0, 0, 0)] = true := by decide +kernel
theorem dc_Ou_blocksOf_41 : decode prog_6_method_9_code 41 = .ok (.invokestatic 65, 3) := by decide +kernel
theorem dc_Ou_blocksOf_108 : decode prog_6_method_9_code 108 = .ok (.ldc2_w 129, 3) := by decide +kernel
theorem dc_Ou_blocksOf_122 : decode prog_6_method_9_code 122 = .ok (.invokestatic 65, 3) := by decide +kernel
theorem dc_Ou_blocksOf_142 : decode prog_6_method_9_code 142 = .ok (.lreturn, 1) := by decide +kernel
def l_Ou_blocksOf_25 (a0 : Nat) (y1 : Int64) (x3 : Int32) (x4 : Int32) (h : ia_H) (k53 : Int32 → Int64 → Int32 → Option Int64) (n : Nat) (x5 : Int32) (y6 : Int64) (x8 : Int32) (x9 : Int32) : Option Int64 := match n with
  | 0 => none
  | n + 1 => if x3 ≤ x9 then (k53 x5 y6 x8) else ((f_I_bit ((x8 * x5) + x9) h).bind fun v1 => (l_Ou_blocksOf_25 a0 y1 x3 x4 h k53 n x5 (y6 ||| v1) x8 (x9 + 1)))
theorem tl_Ou_blocksOf_25 {w : ia_O0} {d N1 W1 : Nat} {K : ia_K} (hK : ia_isK (d + 1) mm_Ou_blocksOf N1 W1 K) {a0 : Nat} {y1 : Int64} {x3 : Int32} {x4 : Int32} {h : ia_H} (hg : gd_ w h) (p0 : (kd_D a0).1 = 9) {r : Int64} (hret : ∀ (pc : Nat) (lv : ia_L), ia_ret mm_Ou_blocksOf pc (some (.inr (.inl r))) → K pc lv ((some (.inr (.inl r))) : Option ia_V).toList h) {k53 : Int32 → Int64 → Int32 → Option Int64} (hk53 : ∀ (x5 : Int32) (y6 : Int64) (x8 : Int32), k53 x5 y6 x8 = some r → K 53 [some (.inr (.inr a0)), some (.inr (.inl y1)), none, some (.inl x3), some (.inl x4), some (.inl x5), some (.inr (.inl y6)), none, some (.inl x8), none, none, none, none] [] h) : ∀ (n : Nat) (x5 : Int32) (y6 : Int64) (x8 : Int32) (x9 : Int32), l_Ou_blocksOf_25 a0 y1 x3 x4 h k53 n x5 y6 x8 x9 = some r → K 25 [some (.inr (.inr a0)), some (.inr (.inl y1)), none, some (.inl x3), some (.inl x4), some (.inl x5), some (.inr (.inl y6)), none, some (.inl x8), some (.inl x9), none, none, none] [] h := by
  intro n
  induction n with
  | zero =>
    intro x5 y6 x8 x9 hm
    cases (show (none : Option Int64) = some _ from hm)
  | succ n ih =>
    intro x5 y6 x8 x9 hm
    rw [l_Ou_blocksOf_25] at hm
    refine ia_go hK ck_Ou_blocksOf_25 ⟨fun c => ?_, fun c => ?_⟩
    · replace hm := ia_ifp hm c
      show K 53 [some (.inr (.inr a0)), some (.inr (.inl y1)), none, some (.inl x3), some (.inl x4), some (.inl x5), some (.inr (.inl y6)), none, some (.inl x8), some (.inl x9), none, none, none] [] h
      refine ia_fg hK (lv' := [some (.inr (.inr a0)), some (.inr (.inl y1)), none, some (.inl x3), some (.inl x4), some (.inl x5), some (.inr (.inl y6)), none, some (.inl x8), none, none, none, none]) ⟨rfl, rfl, rfl, rfl, rfl, rfl, rfl, trivial⟩ ?_
      exact hk53 x5 y6 x8 hm
    · replace hm := ia_ifn hm c
      show K 31 [some (.inr (.inr a0)), some (.inr (.inl y1)), none, some (.inl x3), some (.inl x4), some (.inl x5), some (.inr (.inl y6)), none, some (.inl x8), some (.inl x9), none, none, none] [] h
      refine ia_go hK ck_Ou_blocksOf_31 ?_
      show K 41 [some (.inr (.inr a0)), some (.inr (.inl y1)), none, some (.inl x3), some (.inl x4), some (.inl x5), some (.inr (.inl y6)), none, some (.inl x8), some (.inl x9), none, none, none] [.inl ((x8 * x5) + x9), .inr (.inl y6)] h
      obtain ⟨v1, hv1, hm⟩ := ia_bnd hm
      have ev1 := t_I_bit (d + 0) hg hv1
      refine ia_cS hK mk_I_bit lk_5_65 dc_Ou_blocksOf_41 [.inl ((x8 * x5) + x9)] [.inr (.inl y6)] rfl rfl (Nat.le_of_ble_eq_true rfl) ev1 ⟨rfl, rfl⟩ ?_
      show K 44 [some (.inr (.inr a0)), some (.inr (.inl y1)), none, some (.inl x3), some (.inl x4), some (.inl x5), some (.inr (.inl y6)), none, some (.inl x8), some (.inl x9), none, none, none] [.inr (.inl v1), .inr (.inl y6)] h
      refine ia_go hK ck_Ou_blocksOf_44 ?_
      show K 25 [some (.inr (.inr a0)), some (.inr (.inl y1)), none, some (.inl x3), some (.inl x4), some (.inl x5), some (.inr (.inl (y6 ||| v1))), none, some (.inl x8), some (.inl (x9 + 1)), none, none, none] [] h
      exact ih x5 (y6 ||| v1) x8 (x9 + 1) hm
def l_Ou_blocksOf_15 (a0 : Nat) (y1 : Int64) (x3 : Int32) (x4 : Int32) (h : ia_H) (k59 : Int32 → Int64 → Option Int64) (n : Nat) (x5 : Int32) (y6 : Int64) (x8 : Int32) : Option Int64 := match n with
  | 0 => none
  | n + 1 => if x4 ≤ x8 then (k59 x5 y6) else (l_Ou_blocksOf_25 a0 y1 x3 x4 h (fun x5 y6 x8 => l_Ou_blocksOf_15 a0 y1 x3 x4 h k59 n x5 y6 (x8 + 1)) fu_ x5 y6 x8 0)
theorem tl_Ou_blocksOf_15 {w : ia_O0} {d N1 W1 : Nat} {K : ia_K} (hK : ia_isK (d + 1) mm_Ou_blocksOf N1 W1 K) {a0 : Nat} {y1 : Int64} {x3 : Int32} {x4 : Int32} {h : ia_H} (hg : gd_ w h) (p0 : (kd_D a0).1 = 9) {r : Int64} (hret : ∀ (pc : Nat) (lv : ia_L), ia_ret mm_Ou_blocksOf pc (some (.inr (.inl r))) → K pc lv ((some (.inr (.inl r))) : Option ia_V).toList h) {k59 : Int32 → Int64 → Option Int64} (hk59 : ∀ (x5 : Int32) (y6 : Int64), k59 x5 y6 = some r → K 59 [some (.inr (.inr a0)), some (.inr (.inl y1)), none, some (.inl x3), some (.inl x4), some (.inl x5), some (.inr (.inl y6)), none, none, none, none, none, none] [] h) : ∀ (n : Nat) (x5 : Int32) (y6 : Int64) (x8 : Int32), l_Ou_blocksOf_15 a0 y1 x3 x4 h k59 n x5 y6 x8 = some r → K 15 [some (.inr (.inr a0)), some (.inr (.inl y1)), none, some (.inl x3), some (.inl x4), some (.inl x5), some (.inr (.inl y6)), none, some (.inl x8), none, none, none, none] [] h := by
  intro n
  induction n with
  | zero =>
    intro x5 y6 x8 hm
    cases (show (none : Option Int64) = some _ from hm)
  | succ n ih =>
    intro x5 y6 x8 hm
    rw [l_Ou_blocksOf_15] at hm
    refine ia_go hK ck_Ou_blocksOf_15 ⟨fun c => ?_, fun c => ?_⟩
    · replace hm := ia_ifp hm c
      show K 59 [some (.inr (.inr a0)), some (.inr (.inl y1)), none, some (.inl x3), some (.inl x4), some (.inl x5), some (.inr (.inl y6)), none, some (.inl x8), none, none, none, none] [] h
      refine ia_fg hK (lv' := [some (.inr (.inr a0)), some (.inr (.inl y1)), none, some (.inl x3), some (.inl x4), some (.inl x5), some (.inr (.inl y6)), none, none, none, none, none, none]) ⟨rfl, rfl, rfl, rfl, rfl, rfl, trivial⟩ ?_
      exact hk59 x5 y6 hm
    · replace hm := ia_ifn hm c
      show K 22 [some (.inr (.inr a0)), some (.inr (.inl y1)), none, some (.inl x3), some (.inl x4), some (.inl x5), some (.inr (.inl y6)), none, some (.inl x8), none, none, none, none] [] h
      refine ia_go hK ck_Ou_blocksOf_22 ?_
      show K 25 [some (.inr (.inr a0)), some (.inr (.inl y1)), none, some (.inl x3), some (.inl x4), some (.inl x5), some (.inr (.inl y6)), none, some (.inl x8), some (.inl 0), none, none, none] [] h
      refine tl_Ou_blocksOf_25 hK hg p0 hret ?_ fu_ x5 y6 x8 0 hm
      · intro x5 y6 x8 hm
        refine ia_go hK ck_Ou_blocksOf_53 ?_
        show K 15 [some (.inr (.inr a0)), some (.inr (.inl y1)), none, some (.inl x3), some (.inl x4), some (.inl x5), some (.inr (.inl y6)), none, some (.inl (x8 + 1)), none, none, none, none] [] h
        exact ih x5 y6 (x8 + 1) hm
def l_Ou_blocksOf_83 (a0 : Nat) (y1 : Int64) (x3 : Int32) (x4 : Int32) (h : ia_H) (k134 : Int32 → Int64 → Int64 → Int32 → Option Int64) (n : Nat) (x5 : Int32) (y6 : Int64) (y8 : Int64) (x10 : Int32) (x11 : Int32) : Option Int64 := match n with
  | 0 => none
  | n + 1 => if x5 < (x11 + x3) then (k134 x5 y6 y8 x10) else (if (lg_cmp ((y6 <<< (((x10 * x5) + x11).toInt64 &&& 63)) &&& (y1 ^^^ (-1))) 0) = 0 then ((f_I_bit ((x10 * x5) + x11) h).bind fun v2 => (l_Ou_blocksOf_83 a0 y1 x3 x4 h k134 n x5 y6 (y8 ||| v2) x10 (x11 + 1))) else (l_Ou_blocksOf_83 a0 y1 x3 x4 h k134 n x5 y6 y8 x10 (x11 + 1)))
theorem tl_Ou_blocksOf_83 {w : ia_O0} {d N1 W1 : Nat} {K : ia_K} (hK : ia_isK (d + 1) mm_Ou_blocksOf N1 W1 K) {a0 : Nat} {y1 : Int64} {x3 : Int32} {x4 : Int32} {h : ia_H} (hg : gd_ w h) (p0 : (kd_D a0).1 = 9) {r : Int64} (hret : ∀ (pc : Nat) (lv : ia_L), ia_ret mm_Ou_blocksOf pc (some (.inr (.inl r))) → K pc lv ((some (.inr (.inl r))) : Option ia_V).toList h) {k134 : Int32 → Int64 → Int64 → Int32 → Option Int64} (hk134 : ∀ (x5 : Int32) (y6 : Int64) (y8 : Int64) (x10 : Int32), k134 x5 y6 y8 x10 = some r → K 134 [some (.inr (.inr a0)), some (.inr (.inl y1)), none, some (.inl x3), some (.inl x4), some (.inl x5), some (.inr (.inl y6)), none, some (.inr (.inl y8)), none, some (.inl x10), none, none] [] h) : ∀ (n : Nat) (x5 : Int32) (y6 : Int64) (y8 : Int64) (x10 : Int32) (x11 : Int32), l_Ou_blocksOf_83 a0 y1 x3 x4 h k134 n x5 y6 y8 x10 x11 = some r → K 83 [some (.inr (.inr a0)), some (.inr (.inl y1)), none, some (.inl x3), some (.inl x4), some (.inl x5), some (.inr (.inl y6)), none, some (.inr (.inl y8)), none, some (.inl x10), some (.inl x11), none] [] h := by
  intro n
  induction n with
  | zero =>
    intro x5 y6 y8 x10 x11 hm
    cases (show (none : Option Int64) = some _ from hm)
  | succ n ih =>
    intro x5 y6 y8 x10 x11 hm
    rw [l_Ou_blocksOf_83] at hm
    refine ia_go hK ck_Ou_blocksOf_83 ⟨fun c => ?_, fun c => ?_⟩
    · replace hm := ia_ifp hm c
      show K 134 [some (.inr (.inr a0)), some (.inr (.inl y1)), none, some (.inl x3), some (.inl x4), some (.inl x5), some (.inr (.inl y6)), none, some (.inr (.inl y8)), none, some (.inl x10), some (.inl x11), none] [] h
      refine ia_fg hK (lv' := [some (.inr (.inr a0)), some (.inr (.inl y1)), none, some (.inl x3), some (.inl x4), some (.inl x5), some (.inr (.inl y6)), none, some (.inr (.inl y8)), none, some (.inl x10), none, none]) ⟨rfl, rfl, rfl, rfl, rfl, rfl, rfl, rfl, trivial⟩ ?_
      exact hk134 x5 y6 y8 x10 hm
    · replace hm := ia_ifn hm c
      show K 92 [some (.inr (.inr a0)), some (.inr (.inl y1)), none, some (.inl x3), some (.inl x4), some (.inl x5), some (.inr (.inl y6)), none, some (.inr (.inl y8)), none, some (.inl x10), some (.inl x11), none] [] h
      refine ia_go hK ck_Ou_blocksOf_92 ?_
      show K 108 [some (.inr (.inr a0)), some (.inr (.inl y1)), none, some (.inl x3), some (.inl x4), some (.inl x5), some (.inr (.inl y6)), none, some (.inr (.inl y8)), none, some (.inl x10), some (.inl x11), some (.inl ((x10 * x5) + x11))] [.inr (.inl y1), .inr (.inl (y6 <<< (((x10 * x5) + x11).toInt64 &&& 63)))] h
      refine ia_ldc2 hK (v := (-1)) (ia_tb_in (List.mem_of_getElem? (i := 1324) (by decide +kernel)) rfl) dc_Ou_blocksOf_108 ?_
      show K 111 [some (.inr (.inr a0)), some (.inr (.inl y1)), none, some (.inl x3), some (.inl x4), some (.inl x5), some (.inr (.inl y6)), none, some (.inr (.inl y8)), none, some (.inl x10), some (.inl x11), some (.inl ((x10 * x5) + x11))] [.inr (.inl (-1)), .inr (.inl y1), .inr (.inl (y6 <<< (((x10 * x5) + x11).toInt64 &&& 63)))] h
      refine ia_go hK ck_Ou_blocksOf_111 ⟨fun c => ?_, fun c => ?_⟩
      · replace hm := ia_ifn hm c
        show K 128 [some (.inr (.inr a0)), some (.inr (.inl y1)), none, some (.inl x3), some (.inl x4), some (.inl x5), some (.inr (.inl y6)), none, some (.inr (.inl y8)), none, some (.inl x10), some (.inl x11), some (.inl ((x10 * x5) + x11))] [] h
        refine ia_go hK ck_Ou_blocksOf_128 ?_
        show K 83 [some (.inr (.inr a0)), some (.inr (.inl y1)), none, some (.inl x3), some (.inl x4), some (.inl x5), some (.inr (.inl y6)), none, some (.inr (.inl y8)), none, some (.inl x10), some (.inl (x11 + 1)), some (.inl ((x10 * x5) + x11))] [] h
        refine ia_fg hK (lv' := [some (.inr (.inr a0)), some (.inr (.inl y1)), none, some (.inl x3), some (.inl x4), some (.inl x5), some (.inr (.inl y6)), none, some (.inr (.inl y8)), none, some (.inl x10), some (.inl (x11 + 1)), none]) ⟨rfl, rfl, rfl, rfl, rfl, rfl, rfl, rfl, rfl, trivial⟩ ?_
        exact ih x5 y6 y8 x10 (x11 + 1) hm
      · replace hm := ia_ifp hm c
        show K 118 [some (.inr (.inr a0)), some (.inr (.inl y1)), none, some (.inl x3), some (.inl x4), some (.inl x5), some (.inr (.inl y6)), none, some (.inr (.inl y8)), none, some (.inl x10), some (.inl x11), some (.inl ((x10 * x5) + x11))] [] h
        refine ia_go hK ck_Ou_blocksOf_118 ?_
        show K 122 [some (.inr (.inr a0)), some (.inr (.inl y1)), none, some (.inl x3), some (.inl x4), some (.inl x5), some (.inr (.inl y6)), none, some (.inr (.inl y8)), none, some (.inl x10), some (.inl x11), some (.inl ((x10 * x5) + x11))] [.inl ((x10 * x5) + x11), .inr (.inl y8)] h
        obtain ⟨v2, hv2, hm⟩ := ia_bnd hm
        have ev2 := t_I_bit (d + 0) hg hv2
        refine ia_cS hK mk_I_bit lk_5_65 dc_Ou_blocksOf_122 [.inl ((x10 * x5) + x11)] [.inr (.inl y8)] rfl rfl (Nat.le_of_ble_eq_true rfl) ev2 ⟨rfl, rfl⟩ ?_
        show K 125 [some (.inr (.inr a0)), some (.inr (.inl y1)), none, some (.inl x3), some (.inl x4), some (.inl x5), some (.inr (.inl y6)), none, some (.inr (.inl y8)), none, some (.inl x10), some (.inl x11), some (.inl ((x10 * x5) + x11))] [.inr (.inl v2), .inr (.inl y8)] h
        refine ia_go hK ck_Ou_blocksOf_125 ?_
        show K 83 [some (.inr (.inr a0)), some (.inr (.inl y1)), none, some (.inl x3), some (.inl x4), some (.inl x5), some (.inr (.inl y6)), none, some (.inr (.inl (y8 ||| v2))), none, some (.inl x10), some (.inl (x11 + 1)), some (.inl ((x10 * x5) + x11))] [] h
        refine ia_fg hK (lv' := [some (.inr (.inr a0)), some (.inr (.inl y1)), none, some (.inl x3), some (.inl x4), some (.inl x5), some (.inr (.inl y6)), none, some (.inr (.inl (y8 ||| v2))), none, some (.inl x10), some (.inl (x11 + 1)), none]) ⟨rfl, rfl, rfl, rfl, rfl, rfl, rfl, rfl, rfl, trivial⟩ ?_
        exact ih x5 y6 (y8 ||| v2) x10 (x11 + 1) hm
def l_Ou_blocksOf_65 (a0 : Nat) (y1 : Int64) (x3 : Int32) (x4 : Int32) (h : ia_H) (k140 : Int64 → Option Int64) (n : Nat) (x5 : Int32) (y6 : Int64) (y8 : Int64) (x10 : Int32) : Option Int64 := match n with
  | 0 => none
  | n + 1 => if (ia_i h (ia_r h a0 0) 1) < (x10 + x4) then (k140 y8) else (l_Ou_blocksOf_83 a0 y1 x3 x4 h (fun x5 y6 y8 x10 => l_Ou_blocksOf_65 a0 y1 x3 x4 h k140 n x5 y6 y8 (x10 + 1)) fu_ x5 y6 y8 x10 0)
theorem tl_Ou_blocksOf_65 {w : ia_O0} {d N1 W1 : Nat} {K : ia_K} (hK : ia_isK (d + 1) mm_Ou_blocksOf N1 W1 K) {a0 : Nat} {y1 : Int64} {x3 : Int32} {x4 : Int32} {h : ia_H} (hg : gd_ w h) (p0 : (kd_D a0).1 = 9) {r : Int64} (hret : ∀ (pc : Nat) (lv : ia_L), ia_ret mm_Ou_blocksOf pc (some (.inr (.inl r))) → K pc lv ((some (.inr (.inl r))) : Option ia_V).toList h) {k140 : Int64 → Option Int64} (hk140 : ∀ (y8 : Int64), k140 y8 = some r → K 140 [none, none, none, none, none, none, none, none, some (.inr (.inl y8)), none, none, none, none] [] h) : ∀ (n : Nat) (x5 : Int32) (y6 : Int64) (y8 : Int64) (x10 : Int32), l_Ou_blocksOf_65 a0 y1 x3 x4 h k140 n x5 y6 y8 x10 = some r → K 65 [some (.inr (.inr a0)), some (.inr (.inl y1)), none, some (.inl x3), some (.inl x4), some (.inl x5), some (.inr (.inl y6)), none, some (.inr (.inl y8)), none, some (.inl x10), none, none] [] h := by
  intro n
  induction n with
  | zero =>
    intro x5 y6 y8 x10 hm
    cases (show (none : Option Int64) = some _ from hm)
  | succ n ih =>
    intro x5 y6 y8 x10 hm
    rw [l_Ou_blocksOf_65] at hm
    refine ia_go hK ck_Ou_blocksOf_65 ⟨gk_9 hg p0, gk_3 hg (gm_9_0 hg p0), fun c => ?_, fun c => ?_⟩
    · replace hm := ia_ifp hm c
      show K 140 [some (.inr (.inr a0)), some (.inr (.inl y1)), none, some (.inl x3), some (.inl x4), some (.inl x5), some (.inr (.inl y6)), none, some (.inr (.inl y8)), none, some (.inl x10), none, none] [] h
      refine ia_fg hK (lv' := [none, none, none, none, none, none, none, none, some (.inr (.inl y8)), none, none, none, none]) ⟨rfl, trivial⟩ ?_
      exact hk140 y8 hm
    · replace hm := ia_ifn hm c
      show K 80 [some (.inr (.inr a0)), some (.inr (.inl y1)), none, some (.inl x3), some (.inl x4), some (.inl x5), some (.inr (.inl y6)), none, some (.inr (.inl y8)), none, some (.inl x10), none, none] [] h
      refine ia_go hK ck_Ou_blocksOf_80 ?_
      show K 83 [some (.inr (.inr a0)), some (.inr (.inl y1)), none, some (.inl x3), some (.inl x4), some (.inl x5), some (.inr (.inl y6)), none, some (.inr (.inl y8)), none, some (.inl x10), some (.inl 0), none] [] h
      refine tl_Ou_blocksOf_83 hK hg p0 hret ?_ fu_ x5 y6 y8 x10 0 hm
      · intro x5 y6 y8 x10 hm
        refine ia_go hK ck_Ou_blocksOf_134 ?_
        show K 65 [some (.inr (.inr a0)), some (.inr (.inl y1)), none, some (.inl x3), some (.inl x4), some (.inl x5), some (.inr (.inl y6)), none, some (.inr (.inl y8)), none, some (.inl (x10 + 1)), none, none] [] h
        exact ih x5 y6 y8 (x10 + 1) hm
def f_Ou_blocksOf (a0 : Nat) (y1 : Int64) (x3 : Int32) (x4 : Int32) (h : ia_H) : Option Int64 := l_Ou_blocksOf_15 a0 y1 x3 x4 h (fun x5 y6 => l_Ou_blocksOf_65 a0 y1 x3 x4 h (fun y8 => some y8) fu_ x5 y6 0 0) fu_ (ia_i h (ia_r h a0 0) 0) 0 0
theorem t_Ou_blocksOf {w : ia_O0} (d : Nat) {a0 : Nat} {y1 : Int64} {x3 : Int32} {x4 : Int32} {h : ia_H} (hg : gd_ w h) (p0 : (kd_D a0).1 = 9) {r : Int64} (hm : f_Ou_blocksOf a0 y1 x3 x4 h = some r) : ia_Ev (d + 1) mm_Ou_blocksOf [.inr (.inr a0), .inr (.inl y1), .inl x3, .inl x4] h (some (.inr (.inl r))) h := by
  refine ia_Ev_intro ok_Ou_blocksOf (Nat.le_refl _) (Nat.le_refl _) (Nat.le_of_ble_eq_true rfl) (fun K hK hret => ?_)
  show K 0 [some (.inr (.inr a0)), some (.inr (.inl y1)), none, some (.inl x3), some (.inl x4), none, none, none, none, none, none, none, none] [] h
  unfold f_Ou_blocksOf at hm
  refine ia_go hK ck_Ou_blocksOf_0 ⟨gk_9 hg p0, gk_3 hg (gm_9_0 hg p0), ?_⟩
  show K 15 [some (.inr (.inr a0)), some (.inr (.inl y1)), none, some (.inl x3), some (.inl x4), some (.inl (ia_i h (ia_r h a0 0) 0)), some (.inr (.inl 0)), none, some (.inl 0), none, none, none, none] [] h
  refine tl_Ou_blocksOf_15 hK hg p0 hret ?_ fu_ (ia_i h (ia_r h a0 0) 0) 0 0 hm
  · intro x5 y6 hm
    refine ia_go hK ck_Ou_blocksOf_59 ?_
    show K 65 [some (.inr (.inr a0)), some (.inr (.inl y1)), none, some (.inl x3), some (.inl x4), some (.inl x5), some (.inr (.inl y6)), none, some (.inr (.inl 0)), none, some (.inl 0), none, none] [] h
    refine tl_Ou_blocksOf_65 hK hg p0 hret ?_ fu_ x5 y6 0 0 hm
    · intro y8 hm
      refine ia_go hK ck_Ou_blocksOf_140 ?_
      show K 142 [none, none, none, none, none, none, none, none, some (.inr (.inl y8)), none, none, none, none] [.inr (.inl y8)] h
      obtain rfl := Option.some.inj hm
      exact hret 142 _ dc_Ou_blocksOf_142
