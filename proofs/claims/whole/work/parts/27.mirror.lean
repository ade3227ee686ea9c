def mm_Sc_duesIn : ia_M := (⟨"IceStreet$Scene", "duesIn", "(J)I"⟩, prog_10_method_24_code, 5, (some .int), 9, false)
theorem ok_Sc_duesIn : ia_mok mm_Sc_duesIn := ⟨by decide +kernel, by decide +kernel, by decide +kernel, by decide +kernel⟩
theorem mk_Sc_duesIn : ia_mkn mm_Sc_duesIn 1 1 := ⟨ia_tb_in (List.mem_of_getElem? (i := 1285) (by decide +kernel)) rfl, ia_tb_in (List.mem_of_getElem? (i := 140) (by decide +kernel)) rfl, by decide +kernel, by decide +kernel, ⟨ia_tb_in (List.mem_of_getElem? (i := 1283) (by decide +kernel)) rfl, ia_tb_in (List.mem_of_getElem? (i := 1284) (by decide +kernel)) rfl⟩⟩
theorem ck_Sc_duesIn_0 : ia_cks 9 5 false prog_10_method_24_code 0 [(.iconst 0, 0, 0, 0, 0), (.istore_n 3, 0, 0, 0, 0), (.iconst 0, 0, 0, 0, 0), (.istore 4, 0, 0, 0, 0)] = true := by decide +kernel
theorem ck_Sc_duesIn_5 : ia_cks 9 5 false prog_10_method_24_code 5 [(.iload 4, 0, 0, 0, 0), (.aload_n 0, 0, 0, 0, 0), (.getfield 33, 9, 0, 2, 0), (.getfield 66, 3, 11, 0, 0), (.if_icmp .ge 55, 0, 0, 0, 0)] = true := by decide +kernel
theorem ck_Sc_duesIn_17 : ia_cks 9 5 false prog_10_method_24_code 17 [(.aload_n 0, 0, 0, 0, 0), (.getfield 24, 9, 6, 3, 5), (.iload 4, 0, 0, 0, 0), (.iaload, 0, 0, 0, 0), (.ifCond .lt 39, 0, 0, 0, 0)] = true := by decide +kernel
theorem ck_Sc_duesIn_63 : ia_cks 9 5 false prog_10_method_24_code 63 [(.iinc 4 1, 0, 0, 0, 0), (.goto (-61), 0, 0, 0, 0)] = true := by decide +kernel
theorem ck_Sc_duesIn_27 : ia_cks 9 5 false prog_10_method_24_code 27 [(.lload_n 1, 0, 0, 0, 0), (.aload_n 0, 0, 0, 0, 0), (.getfield 24, 9, 6, 3, 5), (.iload 4, 0, 0, 0, 0), (.iaload, 0, 0, 0, 0)] = true := by decide +kernel
theorem ck_Sc_duesIn_38 : ia_cks 9 5 false prog_10_method_24_code 38 [(.ifCond .eq 25, 0, 0, 0, 0)] = true := by decide +kernel
theorem ck_Sc_duesIn_41 : ia_cks 9 5 false prog_10_method_24_code 41 [(.iload_n 3, 0, 0, 0, 0), (.aload_n 0, 0, 0, 0, 0), (.getfield 37, 9, 1, 2, 0), (.aload_n 0, 0, 0, 0, 0), (.getfield 9, 9, 2, 3, 1), (.aload_n 0, 0, 0, 0, 0), (.getfield 24, 9, 6, 3, 5), (.iload 4, 0, 0, 0, 0), (.iaload, 0, 0, 0, 0), (.iaload, 0, 0, 0, 0)] = true := by decide +kernel
theorem ck_Sc_duesIn_61 : ia_cks 9 5 false prog_10_method_24_code 61 [(.iadd, 0, 0, 0, 0), (.istore_n 3, 0, 0, 0, 0), (.iinc 4 1, 0, 0, 0, 0), (.goto (-61), 0, 0, 0, 0)] = true := by decide +kernel
theorem ck_Sc_duesIn_69 : ia_cks 9 5 false prog_10_method_24_code 69 [(.iload_n 3, 0, 0, 0, 0)] = true := by decide +kernel
theorem dc_Sc_duesIn_35 : decode prog_10_method_24_code 35 = .ok (.invokestatic 136, 3) := by decide +kernel
theorem dc_Sc_duesIn_58 : decode prog_10_method_24_code 58 = .ok (.invokevirtual 126, 3) := by decide +kernel
theorem dc_Sc_duesIn_70 : decode prog_10_method_24_code 70 = .ok (.ireturn, 1) := by decide +kernel
def l_Sc_duesIn_5 (a0 : Nat) (y1 : Int64) (h : ia_H) (k69 : Int32 → Option Int32) (n : Nat) (x3 : Int32) (x4 : Int32) : Option Int32 := match n with
  | 0 => none
  | n + 1 => if (ia_i h (ia_r h a0 0) 11) ≤ x4 then (k69 x3) else (ia_gd (ia_ib x4 6) (if (ia_i h (a0 + 5) ((x4).toNatClampNeg)) < 0 then (l_Sc_duesIn_5 a0 y1 h k69 n x3 (x4 + 1)) else (ia_gd (ia_ib x4 6) ((f_I_hasBit y1 (ia_i h (a0 + 5) ((x4).toNatClampNeg)) h).bind fun v3 => (if v3 = 0 then (l_Sc_duesIn_5 a0 y1 h k69 n x3 (x4 + 1)) else (ia_gd (ia_ib x4 6) (ia_gd (ia_ib (ia_i h (a0 + 5) ((x4).toNatClampNeg)) 36) ((f_Lw_dueFor (ia_r h a0 1) (ia_i h (a0 + 1) ((ia_i h (a0 + 5) ((x4).toNatClampNeg)).toNatClampNeg)) h).bind fun v6 => (l_Sc_duesIn_5 a0 y1 h k69 n (x3 + v6) (x4 + 1))))))))))
theorem tl_Sc_duesIn_5 {d N1 W1 : Nat} {K : ia_K} (hK : ia_isK (d + 1) mm_Sc_duesIn N1 W1 K) {a0 : Nat} {y1 : Int64} {h : ia_H} (hg : gd_ h) (p0 : (kd_D a0).1 = 9) {r : Int32} (hret : ∀ (pc : Nat) (lv : ia_L), ia_ret mm_Sc_duesIn pc (some (.inl r)) → K pc lv ((some (.inl r)) : Option ia_V).toList h) {k69 : Int32 → Option Int32} (hk69 : ∀ (x3 : Int32), k69 x3 = some r → K 69 [none, none, none, some (.inl x3), none] [] h) : ∀ (n : Nat) (x3 : Int32) (x4 : Int32), l_Sc_duesIn_5 a0 y1 h k69 n x3 x4 = some r → K 5 [some (.inr (.inr a0)), some (.inr (.inl y1)), none, some (.inl x3), some (.inl x4)] [] h := by
  intro n
  induction n with
  | zero =>
    intro x3 x4 hm
    cases (show (none : Option Int32) = some _ from hm)
  | succ n ih =>
    intro x3 x4 hm
    rw [l_Sc_duesIn_5] at hm
    refine ia_go hK ck_Sc_duesIn_5 ⟨gk_9 hg p0, gk_3 hg (gm_9_0 hg p0), fun c => ?_, fun c => ?_⟩
    · replace hm := ia_ifp hm c
      show K 69 [some (.inr (.inr a0)), some (.inr (.inl y1)), none, some (.inl x3), some (.inl x4)] [] h
      refine ia_fg hK (lv' := [none, none, none, some (.inl x3), none]) ⟨rfl, trivial⟩ ?_
      exact hk69 x3 hm
    · replace hm := ia_ifn hm c
      show K 17 [some (.inr (.inr a0)), some (.inr (.inl y1)), none, some (.inl x3), some (.inl x4)] [] h
      obtain ⟨c1, hm⟩ := ia_gd_some hm
      refine ia_go hK ck_Sc_duesIn_17 ⟨gk_9 hg p0, gr_9_6 hg p0, ga_i100 hg (ka_9_6 p0) c1, fun c => ?_, fun c => ?_⟩
      · replace hm := ia_ifp hm c
        show K 63 [some (.inr (.inr a0)), some (.inr (.inl y1)), none, some (.inl x3), some (.inl x4)] [] h
        refine ia_go hK ck_Sc_duesIn_63 ?_
        show K 5 [some (.inr (.inr a0)), some (.inr (.inl y1)), none, some (.inl x3), some (.inl (x4 + 1))] [] h
        exact ih x3 (x4 + 1) hm
      · replace hm := ia_ifn hm c
        show K 27 [some (.inr (.inr a0)), some (.inr (.inl y1)), none, some (.inl x3), some (.inl x4)] [] h
        obtain ⟨c2, hm⟩ := ia_gd_some hm
        refine ia_go hK ck_Sc_duesIn_27 ⟨gk_9 hg p0, gr_9_6 hg p0, ga_i100 hg (ka_9_6 p0) c2, ?_⟩
        show K 35 [some (.inr (.inr a0)), some (.inr (.inl y1)), none, some (.inl x3), some (.inl x4)] [.inl (ia_i h (a0 + 5) ((x4).toNatClampNeg)), .inr (.inl y1)] h
        obtain ⟨v3, hv3, hm⟩ := ia_bnd hm
        have ev3 := t_I_hasBit (d + 0) hg hv3
        refine ia_cS hK mk_I_hasBit lk_9_136 dc_Sc_duesIn_35 [.inr (.inl y1), .inl (ia_i h (a0 + 5) ((x4).toNatClampNeg))] [] rfl rfl (Nat.le_of_ble_eq_true rfl) ev3 ⟨rfl, rfl⟩ ?_
        show K 38 [some (.inr (.inr a0)), some (.inr (.inl y1)), none, some (.inl x3), some (.inl x4)] [.inl v3] h
        refine ia_go hK ck_Sc_duesIn_38 ⟨fun c => ?_, fun c => ?_⟩
        · replace hm := ia_ifp hm c
          show K 63 [some (.inr (.inr a0)), some (.inr (.inl y1)), none, some (.inl x3), some (.inl x4)] [] h
          refine ia_go hK ck_Sc_duesIn_63 ?_
          show K 5 [some (.inr (.inr a0)), some (.inr (.inl y1)), none, some (.inl x3), some (.inl (x4 + 1))] [] h
          exact ih x3 (x4 + 1) hm
        · replace hm := ia_ifn hm c
          show K 41 [some (.inr (.inr a0)), some (.inr (.inl y1)), none, some (.inl x3), some (.inl x4)] [] h
          obtain ⟨c4, hm⟩ := ia_gd_some hm
          obtain ⟨c5, hm⟩ := ia_gd_some hm
          refine ia_go hK ck_Sc_duesIn_41 ⟨gk_9 hg p0, gk_9 hg p0, gr_9_2 hg p0, gk_9 hg p0, gr_9_6 hg p0, ga_i100 hg (ka_9_6 p0) c4, ga_i100 hg (ka_9_2 p0) c5, ?_⟩
          show K 58 [some (.inr (.inr a0)), some (.inr (.inl y1)), none, some (.inl x3), some (.inl x4)] [.inl (ia_i h (a0 + 1) ((ia_i h (a0 + 5) ((x4).toNatClampNeg)).toNatClampNeg)), .inr (.inr (ia_r h a0 1)), .inl x3] h
          obtain ⟨v6, hv6, hm⟩ := ia_bnd hm
          have ev6 := t_Lw_dueFor (d + 0) hg (gm_9_1 hg p0) hv6
          refine ia_cV hK mk_Lw_dueFor lk_9_126 dc_Sc_duesIn_58 (ia_r h a0 1) [.inl (ia_i h (a0 + 1) ((ia_i h (a0 + 5) ((x4).toNatClampNeg)).toNatClampNeg))] [.inl x3] rfl rfl (Nat.le_of_ble_eq_true rfl) (by decide) rfl (gk_4 hg (gm_9_1 hg p0)) ev6 ⟨rfl, rfl⟩ ?_
          show K 61 [some (.inr (.inr a0)), some (.inr (.inl y1)), none, some (.inl x3), some (.inl x4)] [.inl v6, .inl x3] h
          refine ia_go hK ck_Sc_duesIn_61 ?_
          show K 5 [some (.inr (.inr a0)), some (.inr (.inl y1)), none, some (.inl (x3 + v6)), some (.inl (x4 + 1))] [] h
          exact ih (x3 + v6) (x4 + 1) hm
def f_Sc_duesIn (a0 : Nat) (y1 : Int64) (h : ia_H) : Option Int32 := l_Sc_duesIn_5 a0 y1 h (fun x3 => some x3) fu_ 0 0
theorem t_Sc_duesIn (d : Nat) {a0 : Nat} {y1 : Int64} {h : ia_H} (hg : gd_ h) (p0 : (kd_D a0).1 = 9) {r : Int32} (hm : f_Sc_duesIn a0 y1 h = some r) : ia_Ev (d + 1) mm_Sc_duesIn [.inr (.inr a0), .inr (.inl y1)] h (some (.inl r)) h := by
  refine ia_Ev_intro ok_Sc_duesIn (Nat.le_refl _) (Nat.le_refl _) (Nat.le_of_ble_eq_true rfl) (fun K hK hret => ?_)
  show K 0 [some (.inr (.inr a0)), some (.inr (.inl y1)), none, none, none] [] h
  unfold f_Sc_duesIn at hm
  refine ia_go hK ck_Sc_duesIn_0 ?_
  show K 5 [some (.inr (.inr a0)), some (.inr (.inl y1)), none, some (.inl 0), some (.inl 0)] [] h
  refine tl_Sc_duesIn_5 hK hg p0 hret ?_ fu_ 0 0 hm
  · intro x3 hm
    refine ia_go hK ck_Sc_duesIn_69 ?_
    show K 70 [none, none, none, some (.inl x3), none] [.inl x3] h
    cases hm
    exact hret 70 _ dc_Sc_duesIn_70
def mm_I_part : ia_M := (⟨"IceStreet", "part", "(IIIIIZ)J"⟩, prog_1_method_20_code, 9, (some .long), 0, false)
theorem ok_I_part : ia_mok mm_I_part := ⟨by decide +kernel, by decide +kernel, by decide +kernel, by decide +kernel⟩
theorem mk_I_part : ia_mkn mm_I_part 1 6 := ⟨ia_tb_in (List.mem_of_getElem? (i := 1280) (by decide +kernel)) rfl, ia_tb_in (List.mem_of_getElem? (i := 133) (by decide +kernel)) rfl, by decide +kernel, by decide +kernel, ⟨ia_tb_in (List.mem_of_getElem? (i := 1278) (by decide +kernel)) rfl, ia_tb_in (List.mem_of_getElem? (i := 1279) (by decide +kernel)) rfl⟩⟩
theorem ck_I_part_0 : ia_cks 0 9 false prog_1_method_20_code 0 [(.aload_n 0, 0, 0, 0, 0), (.iload_n 1, 0, 0, 0, 0), (.iload_n 2, 0, 0, 0, 0), (.iload_n 3, 0, 0, 0, 0), (.iload 4, 0, 0, 0, 0)] = true := by decide +kernel
theorem ck_I_part_9 : ia_cks 0 9 false prog_1_method_20_code 9 [(.ifCond .eq 18, 0, 0, 0, 0)] = true := by decide +kernel
theorem ck_I_part_12 : ia_cks 0 9 false prog_1_method_20_code 12 [(.aload_n 0, 0, 0, 0, 0), (.getfield 44, 0, 4, 3, 239), (.getfield 283, 9, 0, 2, 0), (.iload 5, 0, 0, 0, 0)] = true := by decide +kernel
theorem ck_I_part_24 : ia_cks 0 9 false prog_1_method_20_code 24 [(.ifCond .ne 7, 0, 0, 0, 0)] = true := by decide +kernel
theorem ck_I_part_31 : ia_cks 0 9 false prog_1_method_20_code 31 [(.aload_n 0, 0, 0, 0, 0), (.getfield 51, 0, 5, 3, 247), (.aload_n 0, 0, 0, 0, 0), (.getfield 44, 0, 4, 3, 239), (.getfield 283, 9, 0, 2, 0), (.iload 5, 0, 0, 0, 0)] = true := by decide +kernel
theorem ck_I_part_47 : ia_cks 0 9 false prog_1_method_20_code 47 [(.lstore 7, 0, 0, 0, 0), (.iload 6, 0, 0, 0, 0), (.ifCond .eq 16, 0, 0, 0, 0)] = true := by decide +kernel
theorem ck_I_part_67 : ia_cks 0 9 false prog_1_method_20_code 67 [(.lload 7, 0, 0, 0, 0)] = true := by decide +kernel
theorem ck_I_part_54 : ia_cks 0 9 false prog_1_method_20_code 54 [(.aload_n 0, 0, 0, 0, 0), (.getfield 44, 0, 4, 3, 239), (.lload 7, 0, 0, 0, 0)] = true := by decide +kernel
theorem ck_I_part_63 : ia_cks 0 9 false prog_1_method_20_code 63 [(.i2l, 0, 0, 0, 0), (.goto 5, 0, 0, 0, 0)] = true := by decide +kernel
theorem dc_I_part_6 : decode prog_1_method_20_code 6 = .ok (.invokevirtual 266, 3) := by decide +kernel
theorem dc_I_part_27 : decode prog_1_method_20_code 27 = .ok (.ldc2_w 319, 3) := by decide +kernel
theorem dc_I_part_30 : decode prog_1_method_20_code 30 = .ok (.lreturn, 1) := by decide +kernel
theorem dc_I_part_21 : decode prog_1_method_20_code 21 = .ok (.invokevirtual 182, 3) := by decide +kernel
theorem dc_I_part_44 : decode prog_1_method_20_code 44 = .ok (.invokevirtual 340, 3) := by decide +kernel
theorem dc_I_part_69 : decode prog_1_method_20_code 69 = .ok (.lreturn, 1) := by decide +kernel
theorem dc_I_part_60 : decode prog_1_method_20_code 60 = .ok (.invokevirtual 344, 3) := by decide +kernel
def f_I_part (x1 : Int32) (x2 : Int32) (x3 : Int32) (x4 : Int32) (x5 : Int32) (x6 : Int32) (h : ia_H) : Option (Int64 × ia_H) := (f_I_stage x1 x2 x3 x4 h).bind fun v1 => (if v1.1 = 0 then (some ((-1), v1.2)) else ((f_La_isCell (ia_r v1.2 303 0) x5 v1.2).bind fun v2 => (if v2 = 0 then (some ((-1), v1.2)) else ((f_Wa_joined (ia_r v1.2 303 0) x5 v1.2).bind fun v3 => (if x6 = 0 then (some (v3.1, v3.2)) else ((f_Sc_duesIn 303 v3.1 v3.2).bind fun v4 => (some (v4.toInt64, v3.2))))))))
theorem g_I_part {x1 : Int32} {x2 : Int32} {x3 : Int32} {x4 : Int32} {x5 : Int32} {x6 : Int32} {h : ia_H} (hg : gd_ h) {q : (Int64 × ia_H)} (hm : f_I_part x1 x2 x3 x4 x5 x6 h = some q) : gd_ q.2 := by
  obtain ⟨r, h1⟩ := q
  unfold f_I_part at hm
  obtain ⟨v1, hv1, hm⟩ := ia_bnd hm
  have gv1 := g_I_stage hg hv1
  by_cases c : v1.1 = 0
  · replace hm := ia_ifp hm c
    cases hm
    exact gv1
  · replace hm := ia_ifn hm c
    obtain ⟨v2, hv2, hm⟩ := ia_bnd hm
    by_cases c : v2 = 0
    · replace hm := ia_ifp hm c
      cases hm
      exact gv1
    · replace hm := ia_ifn hm c
      obtain ⟨v3, hv3, hm⟩ := ia_bnd hm
      have gv3 := g_Wa_joined gv1 (gm_9_0 gv1 (ka_0_4 pk_64)) hv3
      by_cases c : x6 = 0
      · replace hm := ia_ifp hm c
        cases hm
        exact gv3
      · replace hm := ia_ifn hm c
        obtain ⟨v4, hv4, hm⟩ := ia_bnd hm
        cases hm
        exact gv3
theorem t_I_part (d : Nat) {x1 : Int32} {x2 : Int32} {x3 : Int32} {x4 : Int32} {x5 : Int32} {x6 : Int32} {h : ia_H} (hg : gd_ h) {q : (Int64 × ia_H)} (hm : f_I_part x1 x2 x3 x4 x5 x6 h = some q) : ia_Ev (d + 7) mm_I_part [.inr (.inr 64), .inl x1, .inl x2, .inl x3, .inl x4, .inl x5, .inl x6] h (some (.inr (.inl q.1))) q.2 := by
  have gq := g_I_part hg hm
  refine ia_Ev_intro ok_I_part (gd_le hg gq).1 (gd_le hg gq).2 (Nat.le_of_ble_eq_true rfl) (fun K hK hret => ?_)
  obtain ⟨r, h1⟩ := q
  show K 0 [some (.inr (.inr 64)), some (.inl x1), some (.inl x2), some (.inl x3), some (.inl x4), some (.inl x5), some (.inl x6), none, none] [] h
  unfold f_I_part at hm
  refine ia_go hK ck_I_part_0 ?_
  show K 6 [some (.inr (.inr 64)), some (.inl x1), some (.inl x2), some (.inl x3), some (.inl x4), some (.inl x5), some (.inl x6), none, none] [.inl x4, .inl x3, .inl x2, .inl x1, .inr (.inr 64)] h
  obtain ⟨v1, hv1, hm⟩ := ia_bnd hm
  have ev1 := t_I_stage (d + 0) hg hv1
  have gv1 := g_I_stage hg hv1
  refine ia_cV hK mk_I_stage lk_0_266 dc_I_part_6 64 [.inl x1, .inl x2, .inl x3, .inl x4] [] rfl rfl (Nat.le_of_ble_eq_true rfl) (by decide) rfl (gk_0 hg pk_64) ev1 (gd_nm hg gv1) ?_
  show K 9 [some (.inr (.inr 64)), some (.inl x1), some (.inl x2), some (.inl x3), some (.inl x4), some (.inl x5), some (.inl x6), none, none] [.inl v1.1] v1.2
  refine ia_go hK ck_I_part_9 ⟨fun c => ?_, fun c => ?_⟩
  · replace hm := ia_ifp hm c
    show K 27 [some (.inr (.inr 64)), some (.inl x1), some (.inl x2), some (.inl x3), some (.inl x4), some (.inl x5), some (.inl x6), none, none] [] v1.2
    refine ia_ldc2 hK (v := (-1)) (ia_tb_in (List.mem_of_getElem? (i := 1265) (by decide +kernel)) rfl) dc_I_part_27 ?_
    show K 30 [some (.inr (.inr 64)), some (.inl x1), some (.inl x2), some (.inl x3), some (.inl x4), some (.inl x5), some (.inl x6), none, none] [.inr (.inl (-1))] v1.2
    cases hm
    exact hret 30 _ dc_I_part_30
  · replace hm := ia_ifn hm c
    show K 12 [some (.inr (.inr 64)), some (.inl x1), some (.inl x2), some (.inl x3), some (.inl x4), some (.inl x5), some (.inl x6), none, none] [] v1.2
    refine ia_go hK ck_I_part_12 ⟨gk_0 gv1 pk_64, gr_0_4 gv1 pk_64, gk_9 gv1 (ka_0_4 pk_64), ?_⟩
    show K 21 [some (.inr (.inr 64)), some (.inl x1), some (.inl x2), some (.inl x3), some (.inl x4), some (.inl x5), some (.inl x6), none, none] [.inl x5, .inr (.inr (ia_r v1.2 303 0))] v1.2
    obtain ⟨v2, hv2, hm⟩ := ia_bnd hm
    have ev2 := t_La_isCell (d + 6) gv1 (gm_9_0 gv1 (ka_0_4 pk_64)) hv2
    refine ia_cV hK mk_La_isCell lk_0_182 dc_I_part_21 (ia_r v1.2 303 0) [.inl x5] [] rfl rfl (Nat.le_of_ble_eq_true rfl) (by decide) rfl (gk_3 gv1 (gm_9_0 gv1 (ka_0_4 pk_64))) ev2 ⟨rfl, rfl⟩ ?_
    show K 24 [some (.inr (.inr 64)), some (.inl x1), some (.inl x2), some (.inl x3), some (.inl x4), some (.inl x5), some (.inl x6), none, none] [.inl v2] v1.2
    refine ia_go hK ck_I_part_24 ⟨fun c => ?_, fun c => ?_⟩
    · replace hm := ia_ifn hm c
      show K 31 [some (.inr (.inr 64)), some (.inl x1), some (.inl x2), some (.inl x3), some (.inl x4), some (.inl x5), some (.inl x6), none, none] [] v1.2
      refine ia_go hK ck_I_part_31 ⟨gk_0 gv1 pk_64, gr_0_5 gv1 pk_64, gk_0 gv1 pk_64, gr_0_4 gv1 pk_64, gk_9 gv1 (ka_0_4 pk_64), ?_⟩
      show K 44 [some (.inr (.inr 64)), some (.inl x1), some (.inl x2), some (.inl x3), some (.inl x4), some (.inl x5), some (.inl x6), none, none] [.inl x5, .inr (.inr (ia_r v1.2 303 0)), .inr (.inr 311)] v1.2
      obtain ⟨v3, hv3, hm⟩ := ia_bnd hm
      have ev3 := t_Wa_joined (d + 5) gv1 (gm_9_0 gv1 (ka_0_4 pk_64)) hv3
      have gv3 := g_Wa_joined gv1 (gm_9_0 gv1 (ka_0_4 pk_64)) hv3
      refine ia_cV hK mk_Wa_joined lk_0_340 dc_I_part_44 311 [.inr (.inr (ia_r v1.2 303 0)), .inl x5] [] rfl rfl (Nat.le_of_ble_eq_true rfl) (by decide) rfl (gk_11 gv1 (ka_0_5 pk_64)) ev3 (gd_nm gv1 gv3) ?_
      show K 47 [some (.inr (.inr 64)), some (.inl x1), some (.inl x2), some (.inl x3), some (.inl x4), some (.inl x5), some (.inl x6), none, none] [.inr (.inl v3.1)] v3.2
      refine ia_go hK ck_I_part_47 ⟨fun c => ?_, fun c => ?_⟩
      · replace hm := ia_ifp hm c
        show K 67 [some (.inr (.inr 64)), some (.inl x1), some (.inl x2), some (.inl x3), some (.inl x4), some (.inl x5), some (.inl x6), some (.inr (.inl v3.1)), none] [] v3.2
        refine ia_go hK ck_I_part_67 ?_
        show K 69 [some (.inr (.inr 64)), some (.inl x1), some (.inl x2), some (.inl x3), some (.inl x4), some (.inl x5), some (.inl x6), some (.inr (.inl v3.1)), none] [.inr (.inl v3.1)] v3.2
        cases hm
        exact hret 69 _ dc_I_part_69
      · replace hm := ia_ifn hm c
        show K 54 [some (.inr (.inr 64)), some (.inl x1), some (.inl x2), some (.inl x3), some (.inl x4), some (.inl x5), some (.inl x6), some (.inr (.inl v3.1)), none] [] v3.2
        refine ia_go hK ck_I_part_54 ⟨gk_0 gv3 pk_64, gr_0_4 gv3 pk_64, ?_⟩
        show K 60 [some (.inr (.inr 64)), some (.inl x1), some (.inl x2), some (.inl x3), some (.inl x4), some (.inl x5), some (.inl x6), some (.inr (.inl v3.1)), none] [.inr (.inl v3.1), .inr (.inr 303)] v3.2
        obtain ⟨v4, hv4, hm⟩ := ia_bnd hm
        have ev4 := t_Sc_duesIn (d + 5) gv3 (ka_0_4 pk_64) hv4
        refine ia_cV hK mk_Sc_duesIn lk_0_344 dc_I_part_60 303 [.inr (.inl v3.1)] [] rfl rfl (Nat.le_of_ble_eq_true rfl) (by decide) rfl (gk_9 gv3 (ka_0_4 pk_64)) ev4 ⟨rfl, rfl⟩ ?_
        show K 63 [some (.inr (.inr 64)), some (.inl x1), some (.inl x2), some (.inl x3), some (.inl x4), some (.inl x5), some (.inl x6), some (.inr (.inl v3.1)), none] [.inl v4] v3.2
        refine ia_go hK ck_I_part_63 ?_
        show K 69 [some (.inr (.inr 64)), some (.inl x1), some (.inl x2), some (.inl x3), some (.inl x4), some (.inl x5), some (.inl x6), some (.inr (.inl v3.1)), none] [.inr (.inl v4.toInt64)] v3.2
        cases hm
        exact hret 69 _ dc_I_part_69
    · replace hm := ia_ifp hm c
      show K 27 [some (.inr (.inr 64)), some (.inl x1), some (.inl x2), some (.inl x3), some (.inl x4), some (.inl x5), some (.inl x6), none, none] [] v1.2
      refine ia_ldc2 hK (v := (-1)) (ia_tb_in (List.mem_of_getElem? (i := 1265) (by decide +kernel)) rfl) dc_I_part_27 ?_
      show K 30 [some (.inr (.inr 64)), some (.inl x1), some (.inl x2), some (.inl x3), some (.inl x4), some (.inl x5), some (.inl x6), none, none] [.inr (.inl (-1))] v1.2
      cases hm
      exact hret 30 _ dc_I_part_30
def mm_Sc_become : ia_M := (⟨"IceStreet$Scene", "become", "(LIceStreet$Scene;)V"⟩, prog_10_method_3_code, 2, none, 9, false)
theorem ok_Sc_become : ia_mok mm_Sc_become := ⟨by decide +kernel, by decide +kernel, by decide +kernel, by decide +kernel⟩
theorem mk_Sc_become : ia_mkn mm_Sc_become 1 1 := ⟨ia_tb_in (List.mem_of_getElem? (i := 1298) (by decide +kernel)) rfl, ia_tb_in (List.mem_of_getElem? (i := 140) (by decide +kernel)) rfl, by decide +kernel, by decide +kernel, ⟨ia_tb_in (List.mem_of_getElem? (i := 1296) (by decide +kernel)) rfl, ia_tb_in (List.mem_of_getElem? (i := 1297) (by decide +kernel)) rfl⟩⟩
theorem ck_Sc_become_0 : ia_cks 9 2 false prog_10_method_3_code 0 [(.aload_n 0, 0, 0, 0, 0), (.aload_n 1, 0, 0, 0, 0), (.getfield 33, 9, 0, 2, 0), (.putfield 33, 9, 0, 2, 0), (.aload_n 0, 0, 0, 0, 0), (.aload_n 1, 0, 0, 0, 0), (.getfield 37, 9, 1, 2, 0), (.putfield 37, 9, 1, 2, 0), (.aload_n 1, 0, 0, 0, 0), (.getfield 9, 9, 2, 3, 1), (.iconst 0, 0, 0, 0, 0), (.aload_n 0, 0, 0, 0, 0), (.getfield 9, 9, 2, 3, 1), (.iconst 0, 0, 0, 0, 0), (.bipush 36, 0, 0, 0, 0)] = true := by decide +kernel
theorem ck_Sc_become_31 : ia_cks 9 2 false prog_10_method_3_code 31 [(.aload_n 1, 0, 0, 0, 0), (.getfield 15, 9, 3, 3, 2), (.iconst 0, 0, 0, 0, 0), (.aload_n 0, 0, 0, 0, 0), (.getfield 15, 9, 3, 3, 2), (.iconst 0, 0, 0, 0, 0), (.bipush 36, 0, 0, 0, 0)] = true := by decide +kernel
theorem ck_Sc_become_46 : ia_cks 9 2 false prog_10_method_3_code 46 [(.aload_n 1, 0, 0, 0, 0), (.getfield 18, 9, 4, 3, 3), (.iconst 0, 0, 0, 0, 0), (.aload_n 0, 0, 0, 0, 0), (.getfield 18, 9, 4, 3, 3), (.iconst 0, 0, 0, 0, 0), (.bipush 36, 0, 0, 0, 0)] = true := by decide +kernel
theorem ck_Sc_become_61 : ia_cks 9 2 false prog_10_method_3_code 61 [(.aload_n 1, 0, 0, 0, 0), (.getfield 21, 9, 5, 3, 4), (.iconst 0, 0, 0, 0, 0), (.aload_n 0, 0, 0, 0, 0), (.getfield 21, 9, 5, 3, 4), (.iconst 0, 0, 0, 0, 0), (.bipush 36, 0, 0, 0, 0)] = true := by decide +kernel
theorem ck_Sc_become_76 : ia_cks 9 2 false prog_10_method_3_code 76 [(.aload_n 1, 0, 0, 0, 0), (.getfield 24, 9, 6, 3, 5), (.iconst 0, 0, 0, 0, 0), (.aload_n 0, 0, 0, 0, 0), (.getfield 24, 9, 6, 3, 5), (.iconst 0, 0, 0, 0, 0), (.bipush 6, 0, 0, 0, 0)] = true := by decide +kernel
theorem ck_Sc_become_91 : ia_cks 9 2 false prog_10_method_3_code 91 [(.aload_n 1, 0, 0, 0, 0), (.getfield 27, 9, 7, 3, 6), (.iconst 0, 0, 0, 0, 0), (.aload_n 0, 0, 0, 0, 0), (.getfield 27, 9, 7, 3, 6), (.iconst 0, 0, 0, 0, 0), (.bipush 6, 0, 0, 0, 0)] = true := by decide +kernel
theorem ck_Sc_become_106 : ia_cks 9 2 false prog_10_method_3_code 106 [(.aload_n 1, 0, 0, 0, 0), (.getfield 30, 9, 8, 3, 7), (.iconst 0, 0, 0, 0, 0), (.aload_n 0, 0, 0, 0, 0), (.getfield 30, 9, 8, 3, 7), (.iconst 0, 0, 0, 0, 0), (.bipush 6, 0, 0, 0, 0)] = true := by decide +kernel
theorem ck_Sc_become_121 : ia_cks 9 2 false prog_10_method_3_code 121 [(.aload_n 0, 0, 0, 0, 0), (.aload_n 1, 0, 0, 0, 0), (.getfield 59, 9, 9, 0, 0), (.putfield 59, 9, 9, 0, 0), (.aload_n 0, 0, 0, 0, 0), (.aload_n 1, 0, 0, 0, 0), (.getfield 63, 9, 10, 0, 0), (.putfield 63, 9, 10, 0, 0)] = true := by decide +kernel
theorem dc_Sc_become_28 : decode prog_10_method_3_code 28 = .ok (.invokestatic 44, 3) := by decide +kernel
theorem dc_Sc_become_43 : decode prog_10_method_3_code 43 = .ok (.invokestatic 44, 3) := by decide +kernel
theorem dc_Sc_become_58 : decode prog_10_method_3_code 58 = .ok (.invokestatic 44, 3) := by decide +kernel
theorem dc_Sc_become_73 : decode prog_10_method_3_code 73 = .ok (.invokestatic 44, 3) := by decide +kernel
theorem dc_Sc_become_88 : decode prog_10_method_3_code 88 = .ok (.invokestatic 44, 3) := by decide +kernel
theorem dc_Sc_become_103 : decode prog_10_method_3_code 103 = .ok (.invokestatic 44, 3) := by decide +kernel
theorem dc_Sc_become_118 : decode prog_10_method_3_code 118 = .ok (.invokestatic 44, 3) := by decide +kernel
theorem dc_Sc_become_137 : decode prog_10_method_3_code 137 = .ok (.return_, 1) := by decide +kernel
def f_Sc_become (a0 : Nat) (a1 : Nat) (h : ia_H) : Option ia_H := some (ia_wI (ia_wI (ia_cpI (ia_cpI (ia_cpI (ia_cpI (ia_cpI (ia_cpI (ia_cpI (ia_wR (ia_wR h a0 0 (ia_r h a1 0)) a0 1 (ia_r (ia_wR h a0 0 (ia_r h a1 0)) a1 1)) (a1 + 1) (a0 + 1) 0 0 36) (a1 + 2) (a0 + 2) 0 0 36) (a1 + 3) (a0 + 3) 0 0 36) (a1 + 4) (a0 + 4) 0 0 36) (a1 + 5) (a0 + 5) 0 0 6) (a1 + 6) (a0 + 6) 0 0 6) (a1 + 7) (a0 + 7) 0 0 6) a0 9 (ia_i (ia_cpI (ia_cpI (ia_cpI (ia_cpI (ia_cpI (ia_cpI (ia_cpI (ia_wR (ia_wR h a0 0 (ia_r h a1 0)) a0 1 (ia_r (ia_wR h a0 0 (ia_r h a1 0)) a1 1)) (a1 + 1) (a0 + 1) 0 0 36) (a1 + 2) (a0 + 2) 0 0 36) (a1 + 3) (a0 + 3) 0 0 36) (a1 + 4) (a0 + 4) 0 0 36) (a1 + 5) (a0 + 5) 0 0 6) (a1 + 6) (a0 + 6) 0 0 6) (a1 + 7) (a0 + 7) 0 0 6) a1 9)) a0 10 (ia_i (ia_wI (ia_cpI (ia_cpI (ia_cpI (ia_cpI (ia_cpI (ia_cpI (ia_cpI (ia_wR (ia_wR h a0 0 (ia_r h a1 0)) a0 1 (ia_r (ia_wR h a0 0 (ia_r h a1 0)) a1 1)) (a1 + 1) (a0 + 1) 0 0 36) (a1 + 2) (a0 + 2) 0 0 36) (a1 + 3) (a0 + 3) 0 0 36) (a1 + 4) (a0 + 4) 0 0 36) (a1 + 5) (a0 + 5) 0 0 6) (a1 + 6) (a0 + 6) 0 0 6) (a1 + 7) (a0 + 7) 0 0 6) a0 9 (ia_i (ia_cpI (ia_cpI (ia_cpI (ia_cpI (ia_cpI (ia_cpI (ia_cpI (ia_wR (ia_wR h a0 0 (ia_r h a1 0)) a0 1 (ia_r (ia_wR h a0 0 (ia_r h a1 0)) a1 1)) (a1 + 1) (a0 + 1) 0 0 36) (a1 + 2) (a0 + 2) 0 0 36) (a1 + 3) (a0 + 3) 0 0 36) (a1 + 4) (a0 + 4) 0 0 36) (a1 + 5) (a0 + 5) 0 0 6) (a1 + 6) (a0 + 6) 0 0 6) (a1 + 7) (a0 + 7) 0 0 6) a1 9)) a1 10))
theorem g_Sc_become {a0 : Nat} {a1 : Nat} {h : ia_H} (hg : gd_ h) (p0 : (kd_D a0).1 = 9) (p1 : (kd_D a1).1 = 9) {q : ia_H} (hm : f_Sc_become a0 a1 h = some q) : gd_ q := by
  obtain ⟨h1, e1⟩ : ∃ x, x = q := ⟨_, rfl⟩
  subst e1
  unfold f_Sc_become at hm
  cases hm
  exact (gd_wI (gd_wI (gd_cpI (gd_cpI (gd_cpI (gd_cpI (gd_cpI (gd_cpI (gd_cpI (gw_9_1 (gw_9_0 hg p0 (gm_9_0 hg p1)) p0 (gm_9_1 (gw_9_0 hg p0 (gm_9_0 hg p1)) p1)))))))))))
theorem t_Sc_become (d : Nat) {a0 : Nat} {a1 : Nat} {h : ia_H} (hg : gd_ h) (p0 : (kd_D a0).1 = 9) (p1 : (kd_D a1).1 = 9) {q : ia_H} (hm : f_Sc_become a0 a1 h = some q) : ia_Ev (d + 0) mm_Sc_become [.inr (.inr a0), .inr (.inr a1)] h none q := by
  have gq := g_Sc_become hg p0 p1 hm
  refine ia_Ev_intro ok_Sc_become (gd_le hg gq).1 (gd_le hg gq).2 (Nat.le_of_ble_eq_true rfl) (fun K hK hret => ?_)
  obtain ⟨h1, e1⟩ : ∃ x, x = q := ⟨_, rfl⟩
  subst e1
  show K 0 [some (.inr (.inr a0)), some (.inr (.inr a1))] [] h
  unfold f_Sc_become at hm
  refine ia_go hK ck_Sc_become_0 ⟨gk_9 hg p1, gk_9 hg p0, gk_9 (gw_9_0 hg p0 (gm_9_0 hg p1)) p1, gk_9 (gw_9_0 hg p0 (gm_9_0 hg p1)) p0, gk_9 (gw_9_1 (gw_9_0 hg p0 (gm_9_0 hg p1)) p0 (gm_9_1 (gw_9_0 hg p0 (gm_9_0 hg p1)) p1)) p1, gr_9_2 (gw_9_1 (gw_9_0 hg p0 (gm_9_0 hg p1)) p0 (gm_9_1 (gw_9_0 hg p0 (gm_9_0 hg p1)) p1)) p1, gk_9 (gw_9_1 (gw_9_0 hg p0 (gm_9_0 hg p1)) p0 (gm_9_1 (gw_9_0 hg p0 (gm_9_0 hg p1)) p1)) p0, gr_9_2 (gw_9_1 (gw_9_0 hg p0 (gm_9_0 hg p1)) p0 (gm_9_1 (gw_9_0 hg p0 (gm_9_0 hg p1)) p1)) p0, ?_⟩
  show K 28 [some (.inr (.inr a0)), some (.inr (.inr a1))] [.inl 36, .inl 0, .inr (.inr (a0 + 1)), .inl 0, .inr (.inr (a1 + 1))] (ia_wR (ia_wR h a0 0 (ia_r h a1 0)) a0 1 (ia_r (ia_wR h a0 0 (ia_r h a1 0)) a1 1))
  refine ia_copyI hK (ia_tb_in (List.mem_of_getElem? (i := 1038) (by decide +kernel)) rfl) dc_Sc_become_28 (Nat.le_of_ble_eq_true rfl) (Or.inl rfl) ⟨(gd_ka (gw_9_1 (gw_9_0 hg p0 (gm_9_0 hg p1)) p0 (gm_9_1 (gw_9_0 hg p0 (gm_9_0 hg p1)) p1)) (ka_9_2 p1) (by decide)).1, (gd_ka (gw_9_1 (gw_9_0 hg p0 (gm_9_0 hg p1)) p0 (gm_9_1 (gw_9_0 hg p0 (gm_9_0 hg p1)) p1)) (ka_9_2 p0) (by decide)).1⟩ (gd_ka (gw_9_1 (gw_9_0 hg p0 (gm_9_0 hg p1)) p0 (gm_9_1 (gw_9_0 hg p0 (gm_9_0 hg p1)) p1)) (ka_9_2 p1) (by decide)).2 (gd_ka (gw_9_1 (gw_9_0 hg p0 (gm_9_0 hg p1)) p0 (gm_9_1 (gw_9_0 hg p0 (gm_9_0 hg p1)) p1)) (ka_9_2 p0) (by decide)).2 (by decide) rfl ?_
  show K 31 [some (.inr (.inr a0)), some (.inr (.inr a1))] [] (ia_cpI (ia_wR (ia_wR h a0 0 (ia_r h a1 0)) a0 1 (ia_r (ia_wR h a0 0 (ia_r h a1 0)) a1 1)) (a1 + 1) (a0 + 1) 0 0 36)
  refine ia_go hK ck_Sc_become_31 ⟨gk_9 (gd_cpI (gw_9_1 (gw_9_0 hg p0 (gm_9_0 hg p1)) p0 (gm_9_1 (gw_9_0 hg p0 (gm_9_0 hg p1)) p1))) p1, gr_9_3 (gd_cpI (gw_9_1 (gw_9_0 hg p0 (gm_9_0 hg p1)) p0 (gm_9_1 (gw_9_0 hg p0 (gm_9_0 hg p1)) p1))) p1, gk_9 (gd_cpI (gw_9_1 (gw_9_0 hg p0 (gm_9_0 hg p1)) p0 (gm_9_1 (gw_9_0 hg p0 (gm_9_0 hg p1)) p1))) p0, gr_9_3 (gd_cpI (gw_9_1 (gw_9_0 hg p0 (gm_9_0 hg p1)) p0 (gm_9_1 (gw_9_0 hg p0 (gm_9_0 hg p1)) p1))) p0, ?_⟩
  show K 43 [some (.inr (.inr a0)), some (.inr (.inr a1))] [.inl 36, .inl 0, .inr (.inr (a0 + 2)), .inl 0, .inr (.inr (a1 + 2))] (ia_cpI (ia_wR (ia_wR h a0 0 (ia_r h a1 0)) a0 1 (ia_r (ia_wR h a0 0 (ia_r h a1 0)) a1 1)) (a1 + 1) (a0 + 1) 0 0 36)
  refine ia_copyI hK (ia_tb_in (List.mem_of_getElem? (i := 1038) (by decide +kernel)) rfl) dc_Sc_become_43 (Nat.le_of_ble_eq_true rfl) (Or.inl rfl) ⟨(gd_ka (gd_cpI (gw_9_1 (gw_9_0 hg p0 (gm_9_0 hg p1)) p0 (gm_9_1 (gw_9_0 hg p0 (gm_9_0 hg p1)) p1))) (ka_9_3 p1) (by decide)).1, (gd_ka (gd_cpI (gw_9_1 (gw_9_0 hg p0 (gm_9_0 hg p1)) p0 (gm_9_1 (gw_9_0 hg p0 (gm_9_0 hg p1)) p1))) (ka_9_3 p0) (by decide)).1⟩ (gd_ka (gd_cpI (gw_9_1 (gw_9_0 hg p0 (gm_9_0 hg p1)) p0 (gm_9_1 (gw_9_0 hg p0 (gm_9_0 hg p1)) p1))) (ka_9_3 p1) (by decide)).2 (gd_ka (gd_cpI (gw_9_1 (gw_9_0 hg p0 (gm_9_0 hg p1)) p0 (gm_9_1 (gw_9_0 hg p0 (gm_9_0 hg p1)) p1))) (ka_9_3 p0) (by decide)).2 (by decide) rfl ?_
  show K 46 [some (.inr (.inr a0)), some (.inr (.inr a1))] [] (ia_cpI (ia_cpI (ia_wR (ia_wR h a0 0 (ia_r h a1 0)) a0 1 (ia_r (ia_wR h a0 0 (ia_r h a1 0)) a1 1)) (a1 + 1) (a0 + 1) 0 0 36) (a1 + 2) (a0 + 2) 0 0 36)
  refine ia_go hK ck_Sc_become_46 ⟨gk_9 (gd_cpI (gd_cpI (gw_9_1 (gw_9_0 hg p0 (gm_9_0 hg p1)) p0 (gm_9_1 (gw_9_0 hg p0 (gm_9_0 hg p1)) p1)))) p1, gr_9_4 (gd_cpI (gd_cpI (gw_9_1 (gw_9_0 hg p0 (gm_9_0 hg p1)) p0 (gm_9_1 (gw_9_0 hg p0 (gm_9_0 hg p1)) p1)))) p1, gk_9 (gd_cpI (gd_cpI (gw_9_1 (gw_9_0 hg p0 (gm_9_0 hg p1)) p0 (gm_9_1 (gw_9_0 hg p0 (gm_9_0 hg p1)) p1)))) p0, gr_9_4 (gd_cpI (gd_cpI (gw_9_1 (gw_9_0 hg p0 (gm_9_0 hg p1)) p0 (gm_9_1 (gw_9_0 hg p0 (gm_9_0 hg p1)) p1)))) p0, ?_⟩
  show K 58 [some (.inr (.inr a0)), some (.inr (.inr a1))] [.inl 36, .inl 0, .inr (.inr (a0 + 3)), .inl 0, .inr (.inr (a1 + 3))] (ia_cpI (ia_cpI (ia_wR (ia_wR h a0 0 (ia_r h a1 0)) a0 1 (ia_r (ia_wR h a0 0 (ia_r h a1 0)) a1 1)) (a1 + 1) (a0 + 1) 0 0 36) (a1 + 2) (a0 + 2) 0 0 36)
  refine ia_copyI hK (ia_tb_in (List.mem_of_getElem? (i := 1038) (by decide +kernel)) rfl) dc_Sc_become_58 (Nat.le_of_ble_eq_true rfl) (Or.inl rfl) ⟨(gd_ka (gd_cpI (gd_cpI (gw_9_1 (gw_9_0 hg p0 (gm_9_0 hg p1)) p0 (gm_9_1 (gw_9_0 hg p0 (gm_9_0 hg p1)) p1)))) (ka_9_4 p1) (by decide)).1, (gd_ka (gd_cpI (gd_cpI (gw_9_1 (gw_9_0 hg p0 (gm_9_0 hg p1)) p0 (gm_9_1 (gw_9_0 hg p0 (gm_9_0 hg p1)) p1)))) (ka_9_4 p0) (by decide)).1⟩ (gd_ka (gd_cpI (gd_cpI (gw_9_1 (gw_9_0 hg p0 (gm_9_0 hg p1)) p0 (gm_9_1 (gw_9_0 hg p0 (gm_9_0 hg p1)) p1)))) (ka_9_4 p1) (by decide)).2 (gd_ka (gd_cpI (gd_cpI (gw_9_1 (gw_9_0 hg p0 (gm_9_0 hg p1)) p0 (gm_9_1 (gw_9_0 hg p0 (gm_9_0 hg p1)) p1)))) (ka_9_4 p0) (by decide)).2 (by decide) rfl ?_
  show K 61 [some (.inr (.inr a0)), some (.inr (.inr a1))] [] (ia_cpI (ia_cpI (ia_cpI (ia_wR (ia_wR h a0 0 (ia_r h a1 0)) a0 1 (ia_r (ia_wR h a0 0 (ia_r h a1 0)) a1 1)) (a1 + 1) (a0 + 1) 0 0 36) (a1 + 2) (a0 + 2) 0 0 36) (a1 + 3) (a0 + 3) 0 0 36)
  refine ia_go hK ck_Sc_become_61 ⟨gk_9 (gd_cpI (gd_cpI (gd_cpI (gw_9_1 (gw_9_0 hg p0 (gm_9_0 hg p1)) p0 (gm_9_1 (gw_9_0 hg p0 (gm_9_0 hg p1)) p1))))) p1, gr_9_5 (gd_cpI (gd_cpI (gd_cpI (gw_9_1 (gw_9_0 hg p0 (gm_9_0 hg p1)) p0 (gm_9_1 (gw_9_0 hg p0 (gm_9_0 hg p1)) p1))))) p1, gk_9 (gd_cpI (gd_cpI (gd_cpI (gw_9_1 (gw_9_0 hg p0 (gm_9_0 hg p1)) p0 (gm_9_1 (gw_9_0 hg p0 (gm_9_0 hg p1)) p1))))) p0, gr_9_5 (gd_cpI (gd_cpI (gd_cpI (gw_9_1 (gw_9_0 hg p0 (gm_9_0 hg p1)) p0 (gm_9_1 (gw_9_0 hg p0 (gm_9_0 hg p1)) p1))))) p0, ?_⟩
  show K 73 [some (.inr (.inr a0)), some (.inr (.inr a1))] [.inl 36, .inl 0, .inr (.inr (a0 + 4)), .inl 0, .inr (.inr (a1 + 4))] (ia_cpI (ia_cpI (ia_cpI (ia_wR (ia_wR h a0 0 (ia_r h a1 0)) a0 1 (ia_r (ia_wR h a0 0 (ia_r h a1 0)) a1 1)) (a1 + 1) (a0 + 1) 0 0 36) (a1 + 2) (a0 + 2) 0 0 36) (a1 + 3) (a0 + 3) 0 0 36)
  refine ia_copyI hK (ia_tb_in (List.mem_of_getElem? (i := 1038) (by decide +kernel)) rfl) dc_Sc_become_73 (Nat.le_of_ble_eq_true rfl) (Or.inl rfl) ⟨(gd_ka (gd_cpI (gd_cpI (gd_cpI (gw_9_1 (gw_9_0 hg p0 (gm_9_0 hg p1)) p0 (gm_9_1 (gw_9_0 hg p0 (gm_9_0 hg p1)) p1))))) (ka_9_5 p1) (by decide)).1, (gd_ka (gd_cpI (gd_cpI (gd_cpI (gw_9_1 (gw_9_0 hg p0 (gm_9_0 hg p1)) p0 (gm_9_1 (gw_9_0 hg p0 (gm_9_0 hg p1)) p1))))) (ka_9_5 p0) (by decide)).1⟩ (gd_ka (gd_cpI (gd_cpI (gd_cpI (gw_9_1 (gw_9_0 hg p0 (gm_9_0 hg p1)) p0 (gm_9_1 (gw_9_0 hg p0 (gm_9_0 hg p1)) p1))))) (ka_9_5 p1) (by decide)).2 (gd_ka (gd_cpI (gd_cpI (gd_cpI (gw_9_1 (gw_9_0 hg p0 (gm_9_0 hg p1)) p0 (gm_9_1 (gw_9_0 hg p0 (gm_9_0 hg p1)) p1))))) (ka_9_5 p0) (by decide)).2 (by decide) rfl ?_
  show K 76 [some (.inr (.inr a0)), some (.inr (.inr a1))] [] (ia_cpI (ia_cpI (ia_cpI (ia_cpI (ia_wR (ia_wR h a0 0 (ia_r h a1 0)) a0 1 (ia_r (ia_wR h a0 0 (ia_r h a1 0)) a1 1)) (a1 + 1) (a0 + 1) 0 0 36) (a1 + 2) (a0 + 2) 0 0 36) (a1 + 3) (a0 + 3) 0 0 36) (a1 + 4) (a0 + 4) 0 0 36)
  refine ia_go hK ck_Sc_become_76 ⟨gk_9 (gd_cpI (gd_cpI (gd_cpI (gd_cpI (gw_9_1 (gw_9_0 hg p0 (gm_9_0 hg p1)) p0 (gm_9_1 (gw_9_0 hg p0 (gm_9_0 hg p1)) p1)))))) p1, gr_9_6 (gd_cpI (gd_cpI (gd_cpI (gd_cpI (gw_9_1 (gw_9_0 hg p0 (gm_9_0 hg p1)) p0 (gm_9_1 (gw_9_0 hg p0 (gm_9_0 hg p1)) p1)))))) p1, gk_9 (gd_cpI (gd_cpI (gd_cpI (gd_cpI (gw_9_1 (gw_9_0 hg p0 (gm_9_0 hg p1)) p0 (gm_9_1 (gw_9_0 hg p0 (gm_9_0 hg p1)) p1)))))) p0, gr_9_6 (gd_cpI (gd_cpI (gd_cpI (gd_cpI (gw_9_1 (gw_9_0 hg p0 (gm_9_0 hg p1)) p0 (gm_9_1 (gw_9_0 hg p0 (gm_9_0 hg p1)) p1)))))) p0, ?_⟩
  show K 88 [some (.inr (.inr a0)), some (.inr (.inr a1))] [.inl 6, .inl 0, .inr (.inr (a0 + 5)), .inl 0, .inr (.inr (a1 + 5))] (ia_cpI (ia_cpI (ia_cpI (ia_cpI (ia_wR (ia_wR h a0 0 (ia_r h a1 0)) a0 1 (ia_r (ia_wR h a0 0 (ia_r h a1 0)) a1 1)) (a1 + 1) (a0 + 1) 0 0 36) (a1 + 2) (a0 + 2) 0 0 36) (a1 + 3) (a0 + 3) 0 0 36) (a1 + 4) (a0 + 4) 0 0 36)
  refine ia_copyI hK (ia_tb_in (List.mem_of_getElem? (i := 1038) (by decide +kernel)) rfl) dc_Sc_become_88 (Nat.le_of_ble_eq_true rfl) (Or.inl rfl) ⟨(gd_ka (gd_cpI (gd_cpI (gd_cpI (gd_cpI (gw_9_1 (gw_9_0 hg p0 (gm_9_0 hg p1)) p0 (gm_9_1 (gw_9_0 hg p0 (gm_9_0 hg p1)) p1)))))) (ka_9_6 p1) (by decide)).1, (gd_ka (gd_cpI (gd_cpI (gd_cpI (gd_cpI (gw_9_1 (gw_9_0 hg p0 (gm_9_0 hg p1)) p0 (gm_9_1 (gw_9_0 hg p0 (gm_9_0 hg p1)) p1)))))) (ka_9_6 p0) (by decide)).1⟩ (gd_ka (gd_cpI (gd_cpI (gd_cpI (gd_cpI (gw_9_1 (gw_9_0 hg p0 (gm_9_0 hg p1)) p0 (gm_9_1 (gw_9_0 hg p0 (gm_9_0 hg p1)) p1)))))) (ka_9_6 p1) (by decide)).2 (gd_ka (gd_cpI (gd_cpI (gd_cpI (gd_cpI (gw_9_1 (gw_9_0 hg p0 (gm_9_0 hg p1)) p0 (gm_9_1 (gw_9_0 hg p0 (gm_9_0 hg p1)) p1)))))) (ka_9_6 p0) (by decide)).2 (by decide) rfl ?_
  show K 91 [some (.inr (.inr a0)), some (.inr (.inr a1))] [] (ia_cpI (ia_cpI (ia_cpI (ia_cpI (ia_cpI (ia_wR (ia_wR h a0 0 (ia_r h a1 0)) a0 1 (ia_r (ia_wR h a0 0 (ia_r h a1 0)) a1 1)) (a1 + 1) (a0 + 1) 0 0 36) (a1 + 2) (a0 + 2) 0 0 36) (a1 + 3) (a0 + 3) 0 0 36) (a1 + 4) (a0 + 4) 0 0 36) (a1 + 5) (a0 + 5) 0 0 6)
  refine ia_go hK ck_Sc_become_91 ⟨gk_9 (gd_cpI (gd_cpI (gd_cpI (gd_cpI (gd_cpI (gw_9_1 (gw_9_0 hg p0 (gm_9_0 hg p1)) p0 (gm_9_1 (gw_9_0 hg p0 (gm_9_0 hg p1)) p1))))))) p1, gr_9_7 (gd_cpI (gd_cpI (gd_cpI (gd_cpI (gd_cpI (gw_9_1 (gw_9_0 hg p0 (gm_9_0 hg p1)) p0 (gm_9_1 (gw_9_0 hg p0 (gm_9_0 hg p1)) p1))))))) p1, gk_9 (gd_cpI (gd_cpI (gd_cpI (gd_cpI (gd_cpI (gw_9_1 (gw_9_0 hg p0 (gm_9_0 hg p1)) p0 (gm_9_1 (gw_9_0 hg p0 (gm_9_0 hg p1)) p1))))))) p0, gr_9_7 (gd_cpI (gd_cpI (gd_cpI (gd_cpI (gd_cpI (gw_9_1 (gw_9_0 hg p0 (gm_9_0 hg p1)) p0 (gm_9_1 (gw_9_0 hg p0 (gm_9_0 hg p1)) p1))))))) p0, ?_⟩
  show K 103 [some (.inr (.inr a0)), some (.inr (.inr a1))] [.inl 6, .inl 0, .inr (.inr (a0 + 6)), .inl 0, .inr (.inr (a1 + 6))] (ia_cpI (ia_cpI (ia_cpI (ia_cpI (ia_cpI (ia_wR (ia_wR h a0 0 (ia_r h a1 0)) a0 1 (ia_r (ia_wR h a0 0 (ia_r h a1 0)) a1 1)) (a1 + 1) (a0 + 1) 0 0 36) (a1 + 2) (a0 + 2) 0 0 36) (a1 + 3) (a0 + 3) 0 0 36) (a1 + 4) (a0 + 4) 0 0 36) (a1 + 5) (a0 + 5) 0 0 6)
  refine ia_copyI hK (ia_tb_in (List.mem_of_getElem? (i := 1038) (by decide +kernel)) rfl) dc_Sc_become_103 (Nat.le_of_ble_eq_true rfl) (Or.inl rfl) ⟨(gd_ka (gd_cpI (gd_cpI (gd_cpI (gd_cpI (gd_cpI (gw_9_1 (gw_9_0 hg p0 (gm_9_0 hg p1)) p0 (gm_9_1 (gw_9_0 hg p0 (gm_9_0 hg p1)) p1))))))) (ka_9_7 p1) (by decide)).1, (gd_ka (gd_cpI (gd_cpI (gd_cpI (gd_cpI (gd_cpI (gw_9_1 (gw_9_0 hg p0 (gm_9_0 hg p1)) p0 (gm_9_1 (gw_9_0 hg p0 (gm_9_0 hg p1)) p1))))))) (ka_9_7 p0) (by decide)).1⟩ (gd_ka (gd_cpI (gd_cpI (gd_cpI (gd_cpI (gd_cpI (gw_9_1 (gw_9_0 hg p0 (gm_9_0 hg p1)) p0 (gm_9_1 (gw_9_0 hg p0 (gm_9_0 hg p1)) p1))))))) (ka_9_7 p1) (by decide)).2 (gd_ka (gd_cpI (gd_cpI (gd_cpI (gd_cpI (gd_cpI (gw_9_1 (gw_9_0 hg p0 (gm_9_0 hg p1)) p0 (gm_9_1 (gw_9_0 hg p0 (gm_9_0 hg p1)) p1))))))) (ka_9_7 p0) (by decide)).2 (by decide) rfl ?_
  show K 106 [some (.inr (.inr a0)), some (.inr (.inr a1))] [] (ia_cpI (ia_cpI (ia_cpI (ia_cpI (ia_cpI (ia_cpI (ia_wR (ia_wR h a0 0 (ia_r h a1 0)) a0 1 (ia_r (ia_wR h a0 0 (ia_r h a1 0)) a1 1)) (a1 + 1) (a0 + 1) 0 0 36) (a1 + 2) (a0 + 2) 0 0 36) (a1 + 3) (a0 + 3) 0 0 36) (a1 + 4) (a0 + 4) 0 0 36) (a1 + 5) (a0 + 5) 0 0 6) (a1 + 6) (a0 + 6) 0 0 6)
  refine ia_go hK ck_Sc_become_106 ⟨gk_9 (gd_cpI (gd_cpI (gd_cpI (gd_cpI (gd_cpI (gd_cpI (gw_9_1 (gw_9_0 hg p0 (gm_9_0 hg p1)) p0 (gm_9_1 (gw_9_0 hg p0 (gm_9_0 hg p1)) p1)))))))) p1, gr_9_8 (gd_cpI (gd_cpI (gd_cpI (gd_cpI (gd_cpI (gd_cpI (gw_9_1 (gw_9_0 hg p0 (gm_9_0 hg p1)) p0 (gm_9_1 (gw_9_0 hg p0 (gm_9_0 hg p1)) p1)))))))) p1, gk_9 (gd_cpI (gd_cpI (gd_cpI (gd_cpI (gd_cpI (gd_cpI (gw_9_1 (gw_9_0 hg p0 (gm_9_0 hg p1)) p0 (gm_9_1 (gw_9_0 hg p0 (gm_9_0 hg p1)) p1)))))))) p0, gr_9_8 (gd_cpI (gd_cpI (gd_cpI (gd_cpI (gd_cpI (gd_cpI (gw_9_1 (gw_9_0 hg p0 (gm_9_0 hg p1)) p0 (gm_9_1 (gw_9_0 hg p0 (gm_9_0 hg p1)) p1)))))))) p0, ?_⟩
  show K 118 [some (.inr (.inr a0)), some (.inr (.inr a1))] [.inl 6, .inl 0, .inr (.inr (a0 + 7)), .inl 0, .inr (.inr (a1 + 7))] (ia_cpI (ia_cpI (ia_cpI (ia_cpI (ia_cpI (ia_cpI (ia_wR (ia_wR h a0 0 (ia_r h a1 0)) a0 1 (ia_r (ia_wR h a0 0 (ia_r h a1 0)) a1 1)) (a1 + 1) (a0 + 1) 0 0 36) (a1 + 2) (a0 + 2) 0 0 36) (a1 + 3) (a0 + 3) 0 0 36) (a1 + 4) (a0 + 4) 0 0 36) (a1 + 5) (a0 + 5) 0 0 6) (a1 + 6) (a0 + 6) 0 0 6)
  refine ia_copyI hK (ia_tb_in (List.mem_of_getElem? (i := 1038) (by decide +kernel)) rfl) dc_Sc_become_118 (Nat.le_of_ble_eq_true rfl) (Or.inl rfl) ⟨(gd_ka (gd_cpI (gd_cpI (gd_cpI (gd_cpI (gd_cpI (gd_cpI (gw_9_1 (gw_9_0 hg p0 (gm_9_0 hg p1)) p0 (gm_9_1 (gw_9_0 hg p0 (gm_9_0 hg p1)) p1)))))))) (ka_9_8 p1) (by decide)).1, (gd_ka (gd_cpI (gd_cpI (gd_cpI (gd_cpI (gd_cpI (gd_cpI (gw_9_1 (gw_9_0 hg p0 (gm_9_0 hg p1)) p0 (gm_9_1 (gw_9_0 hg p0 (gm_9_0 hg p1)) p1)))))))) (ka_9_8 p0) (by decide)).1⟩ (gd_ka (gd_cpI (gd_cpI (gd_cpI (gd_cpI (gd_cpI (gd_cpI (gw_9_1 (gw_9_0 hg p0 (gm_9_0 hg p1)) p0 (gm_9_1 (gw_9_0 hg p0 (gm_9_0 hg p1)) p1)))))))) (ka_9_8 p1) (by decide)).2 (gd_ka (gd_cpI (gd_cpI (gd_cpI (gd_cpI (gd_cpI (gd_cpI (gw_9_1 (gw_9_0 hg p0 (gm_9_0 hg p1)) p0 (gm_9_1 (gw_9_0 hg p0 (gm_9_0 hg p1)) p1)))))))) (ka_9_8 p0) (by decide)).2 (by decide) rfl ?_
  show K 121 [some (.inr (.inr a0)), some (.inr (.inr a1))] [] (ia_cpI (ia_cpI (ia_cpI (ia_cpI (ia_cpI (ia_cpI (ia_cpI (ia_wR (ia_wR h a0 0 (ia_r h a1 0)) a0 1 (ia_r (ia_wR h a0 0 (ia_r h a1 0)) a1 1)) (a1 + 1) (a0 + 1) 0 0 36) (a1 + 2) (a0 + 2) 0 0 36) (a1 + 3) (a0 + 3) 0 0 36) (a1 + 4) (a0 + 4) 0 0 36) (a1 + 5) (a0 + 5) 0 0 6) (a1 + 6) (a0 + 6) 0 0 6) (a1 + 7) (a0 + 7) 0 0 6)
  refine ia_go hK ck_Sc_become_121 ⟨gk_9 (gd_cpI (gd_cpI (gd_cpI (gd_cpI (gd_cpI (gd_cpI (gd_cpI (gw_9_1 (gw_9_0 hg p0 (gm_9_0 hg p1)) p0 (gm_9_1 (gw_9_0 hg p0 (gm_9_0 hg p1)) p1))))))))) p1, gk_9 (gd_cpI (gd_cpI (gd_cpI (gd_cpI (gd_cpI (gd_cpI (gd_cpI (gw_9_1 (gw_9_0 hg p0 (gm_9_0 hg p1)) p0 (gm_9_1 (gw_9_0 hg p0 (gm_9_0 hg p1)) p1))))))))) p0, gk_9 (gd_wI (gd_cpI (gd_cpI (gd_cpI (gd_cpI (gd_cpI (gd_cpI (gd_cpI (gw_9_1 (gw_9_0 hg p0 (gm_9_0 hg p1)) p0 (gm_9_1 (gw_9_0 hg p0 (gm_9_0 hg p1)) p1)))))))))) p1, gk_9 (gd_wI (gd_cpI (gd_cpI (gd_cpI (gd_cpI (gd_cpI (gd_cpI (gd_cpI (gw_9_1 (gw_9_0 hg p0 (gm_9_0 hg p1)) p0 (gm_9_1 (gw_9_0 hg p0 (gm_9_0 hg p1)) p1)))))))))) p0, ?_⟩
  show K 137 [some (.inr (.inr a0)), some (.inr (.inr a1))] [] (ia_wI (ia_wI (ia_cpI (ia_cpI (ia_cpI (ia_cpI (ia_cpI (ia_cpI (ia_cpI (ia_wR (ia_wR h a0 0 (ia_r h a1 0)) a0 1 (ia_r (ia_wR h a0 0 (ia_r h a1 0)) a1 1)) (a1 + 1) (a0 + 1) 0 0 36) (a1 + 2) (a0 + 2) 0 0 36) (a1 + 3) (a0 + 3) 0 0 36) (a1 + 4) (a0 + 4) 0 0 36) (a1 + 5) (a0 + 5) 0 0 6) (a1 + 6) (a0 + 6) 0 0 6) (a1 + 7) (a0 + 7) 0 0 6) a0 9 (ia_i (ia_cpI (ia_cpI (ia_cpI (ia_cpI (ia_cpI (ia_cpI (ia_cpI (ia_wR (ia_wR h a0 0 (ia_r h a1 0)) a0 1 (ia_r (ia_wR h a0 0 (ia_r h a1 0)) a1 1)) (a1 + 1) (a0 + 1) 0 0 36) (a1 + 2) (a0 + 2) 0 0 36) (a1 + 3) (a0 + 3) 0 0 36) (a1 + 4) (a0 + 4) 0 0 36) (a1 + 5) (a0 + 5) 0 0 6) (a1 + 6) (a0 + 6) 0 0 6) (a1 + 7) (a0 + 7) 0 0 6) a1 9)) a0 10 (ia_i (ia_wI (ia_cpI (ia_cpI (ia_cpI (ia_cpI (ia_cpI (ia_cpI (ia_cpI (ia_wR (ia_wR h a0 0 (ia_r h a1 0)) a0 1 (ia_r (ia_wR h a0 0 (ia_r h a1 0)) a1 1)) (a1 + 1) (a0 + 1) 0 0 36) (a1 + 2) (a0 + 2) 0 0 36) (a1 + 3) (a0 + 3) 0 0 36) (a1 + 4) (a0 + 4) 0 0 36) (a1 + 5) (a0 + 5) 0 0 6) (a1 + 6) (a0 + 6) 0 0 6) (a1 + 7) (a0 + 7) 0 0 6) a0 9 (ia_i (ia_cpI (ia_cpI (ia_cpI (ia_cpI (ia_cpI (ia_cpI (ia_cpI (ia_wR (ia_wR h a0 0 (ia_r h a1 0)) a0 1 (ia_r (ia_wR h a0 0 (ia_r h a1 0)) a1 1)) (a1 + 1) (a0 + 1) 0 0 36) (a1 + 2) (a0 + 2) 0 0 36) (a1 + 3) (a0 + 3) 0 0 36) (a1 + 4) (a0 + 4) 0 0 36) (a1 + 5) (a0 + 5) 0 0 6) (a1 + 6) (a0 + 6) 0 0 6) (a1 + 7) (a0 + 7) 0 0 6) a1 9)) a1 10))
  cases hm
  exact hret 137 _ dc_Sc_become_137
def mm_Sc_passDayUnderShops : ia_M := (⟨"IceStreet$Scene", "passDayUnderShops", "(I)V"⟩, prog_10_method_17_code, 3, none, 9, false)
theorem ok_Sc_passDayUnderShops : ia_mok mm_Sc_passDayUnderShops := ⟨by decide +kernel, by decide +kernel, by decide +kernel, by decide +kernel⟩
theorem mk_Sc_passDayUnderShops : ia_mkn mm_Sc_passDayUnderShops 1 1 := ⟨ia_tb_in (List.mem_of_getElem? (i := 1304) (by decide +kernel)) rfl, ia_tb_in (List.mem_of_getElem? (i := 140) (by decide +kernel)) rfl, by decide +kernel, by decide +kernel, ⟨ia_tb_in (List.mem_of_getElem? (i := 1302) (by decide +kernel)) rfl, ia_tb_in (List.mem_of_getElem? (i := 1303) (by decide +kernel)) rfl⟩⟩
theorem ck_Sc_passDayUnderShops_0 : ia_cks 9 3 false prog_10_method_17_code 0 [(.iconst 0, 0, 0, 0, 0), (.istore_n 2, 0, 0, 0, 0)] = true := by decide +kernel
theorem ck_Sc_passDayUnderShops_2 : ia_cks 9 3 false prog_10_method_17_code 2 [(.iload_n 2, 0, 0, 0, 0), (.aload_n 0, 0, 0, 0, 0), (.getfield 33, 9, 0, 2, 0), (.getfield 66, 3, 11, 0, 0), (.if_icmp .ge 29, 0, 0, 0, 0)] = true := by decide +kernel
theorem ck_Sc_passDayUnderShops_13 : ia_cks 9 3 false prog_10_method_17_code 13 [(.aload_n 0, 0, 0, 0, 0), (.getfield 24, 9, 6, 3, 5), (.iload_n 2, 0, 0, 0, 0), (.iaload, 0, 0, 0, 0), (.ifCond .lt 14, 0, 0, 0, 0)] = true := by decide +kernel
theorem ck_Sc_passDayUnderShops_33 : ia_cks 9 3 false prog_10_method_17_code 33 [(.iinc 2 1, 0, 0, 0, 0), (.goto (-34), 0, 0, 0, 0)] = true := by decide +kernel
theorem ck_Sc_passDayUnderShops_22 : ia_cks 9 3 false prog_10_method_17_code 22 [(.aload_n 0, 0, 0, 0, 0), (.aload_n 0, 0, 0, 0, 0), (.getfield 24, 9, 6, 3, 5), (.iload_n 2, 0, 0, 0, 0), (.iaload, 0, 0, 0, 0), (.iload_n 1, 0, 0, 0, 0)] = true := by decide +kernel
theorem ck_Sc_passDayUnderShops_39 : ia_cks 9 3 false prog_10_method_17_code 39 [(.aload_n 0, 0, 0, 0, 0)] = true := by decide +kernel
theorem ck_Sc_passDayUnderShops_43 : ia_cks 9 3 false prog_10_method_17_code 43 [(.aload_n 0, 0, 0, 0, 0)] = true := by decide +kernel
theorem dc_Sc_passDayUnderShops_30 : decode prog_10_method_17_code 30 = .ok (.invokevirtual 111, 3) := by decide +kernel
theorem dc_Sc_passDayUnderShops_40 : decode prog_10_method_17_code 40 = .ok (.invokevirtual 114, 3) := by decide +kernel
theorem dc_Sc_passDayUnderShops_44 : decode prog_10_method_17_code 44 = .ok (.invokevirtual 76, 3) := by decide +kernel
theorem dc_Sc_passDayUnderShops_47 : decode prog_10_method_17_code 47 = .ok (.return_, 1) := by decide +kernel
def l_Sc_passDayUnderShops_2 (a0 : Nat) (x1 : Int32) (k39 : ia_H → Option ia_H) (n : Nat) (x2 : Int32) (h : ia_H) : Option ia_H := match n with
  | 0 => none
  | n + 1 => if (ia_i h (ia_r h a0 0) 11) ≤ x2 then (k39 h) else (ia_gd (ia_ib x2 6) (if (ia_i h (a0 + 5) ((x2).toNatClampNeg)) < 0 then (l_Sc_passDayUnderShops_2 a0 x1 k39 n (x2 + 1) h) else (ia_gd (ia_ib x2 6) ((f_Sc_freeze a0 (ia_i h (a0 + 5) ((x2).toNatClampNeg)) x1 h).bind fun v3 => (l_Sc_passDayUnderShops_2 a0 x1 k39 n (x2 + 1) v3)))))
theorem tl_Sc_passDayUnderShops_2 {d N1 W1 : Nat} {K : ia_K} (hK : ia_isK (d + 3) mm_Sc_passDayUnderShops N1 W1 K) {a0 : Nat} {x1 : Int32} (p0 : (kd_D a0).1 = 9) {h1 : ia_H} (hret : ∀ (pc : Nat) (lv : ia_L), ia_ret mm_Sc_passDayUnderShops pc none → K pc lv (none : Option ia_V).toList h1) {k39 : ia_H → Option ia_H} (hk39 : ∀ (h : ia_H), gd_ h → k39 h = some h1 → K 39 [some (.inr (.inr a0)), none, none] [] h) : ∀ (n : Nat) (x2 : Int32) (h : ia_H), gd_ h → l_Sc_passDayUnderShops_2 a0 x1 k39 n x2 h = some h1 → K 2 [some (.inr (.inr a0)), some (.inl x1), some (.inl x2)] [] h := by
  intro n
  induction n with
  | zero =>
    intro x2 h hg hm
    cases (show (none : Option ia_H) = some _ from hm)
  | succ n ih =>
    intro x2 h hg hm
    rw [l_Sc_passDayUnderShops_2] at hm
    refine ia_go hK ck_Sc_passDayUnderShops_2 ⟨gk_9 hg p0, gk_3 hg (gm_9_0 hg p0), fun c => ?_, fun c => ?_⟩
    · replace hm := ia_ifp hm c
      show K 39 [some (.inr (.inr a0)), some (.inl x1), some (.inl x2)] [] h
      refine ia_fg hK (lv' := [some (.inr (.inr a0)), none, none]) ⟨rfl, trivial⟩ ?_
      exact hk39 h hg hm
    · replace hm := ia_ifn hm c
      show K 13 [some (.inr (.inr a0)), some (.inl x1), some (.inl x2)] [] h
      obtain ⟨c1, hm⟩ := ia_gd_some hm
      refine ia_go hK ck_Sc_passDayUnderShops_13 ⟨gk_9 hg p0, gr_9_6 hg p0, ga_i100 hg (ka_9_6 p0) c1, fun c => ?_, fun c => ?_⟩
      · replace hm := ia_ifp hm c
        show K 33 [some (.inr (.inr a0)), some (.inl x1), some (.inl x2)] [] h
        refine ia_go hK ck_Sc_passDayUnderShops_33 ?_
        show K 2 [some (.inr (.inr a0)), some (.inl x1), some (.inl (x2 + 1))] [] h
        exact ih (x2 + 1) h hg hm
      · replace hm := ia_ifn hm c
        show K 22 [some (.inr (.inr a0)), some (.inl x1), some (.inl x2)] [] h
        obtain ⟨c2, hm⟩ := ia_gd_some hm
        refine ia_go hK ck_Sc_passDayUnderShops_22 ⟨gk_9 hg p0, gr_9_6 hg p0, ga_i100 hg (ka_9_6 p0) c2, ?_⟩
        show K 30 [some (.inr (.inr a0)), some (.inl x1), some (.inl x2)] [.inl x1, .inl (ia_i h (a0 + 5) ((x2).toNatClampNeg)), .inr (.inr a0)] h
        obtain ⟨v3, hv3, hm⟩ := ia_bnd hm
        have ev3 := t_Sc_freeze (d + 2) hg p0 hv3
        have gv3 := g_Sc_freeze hg p0 hv3
        refine ia_cV hK mk_Sc_freeze lk_9_111 dc_Sc_passDayUnderShops_30 a0 [.inl (ia_i h (a0 + 5) ((x2).toNatClampNeg)), .inl x1] [] rfl rfl (Nat.le_of_ble_eq_true rfl) (by decide) rfl (gk_9 hg p0) ev3 (gd_nm hg gv3) ?_
        show K 33 [some (.inr (.inr a0)), some (.inl x1), some (.inl x2)] [] v3
        refine ia_go hK ck_Sc_passDayUnderShops_33 ?_
        show K 2 [some (.inr (.inr a0)), some (.inl x1), some (.inl (x2 + 1))] [] v3
        exact ih (x2 + 1) v3 gv3 hm
theorem gl_Sc_passDayUnderShops_2 {a0 : Nat} {x1 : Int32} (p0 : (kd_D a0).1 = 9) {h1 : ia_H} {k39 : ia_H → Option ia_H} (hk39 : ∀ (h : ia_H), gd_ h → k39 h = some h1 → gd_ h1) : ∀ (n : Nat) (x2 : Int32) (h : ia_H), gd_ h → l_Sc_passDayUnderShops_2 a0 x1 k39 n x2 h = some h1 → gd_ h1 := by
  intro n
  induction n with
  | zero =>
    intro x2 h hg hm
    cases (show (none : Option ia_H) = some _ from hm)
  | succ n ih =>
    intro x2 h hg hm
    rw [l_Sc_passDayUnderShops_2] at hm
    by_cases c : (ia_i h (ia_r h a0 0) 11) ≤ x2
    · replace hm := ia_ifp hm c
      exact hk39 h hg hm
    · replace hm := ia_ifn hm c
      obtain ⟨c1, hm⟩ := ia_gd_some hm
      by_cases c : (ia_i h (a0 + 5) ((x2).toNatClampNeg)) < 0
      · replace hm := ia_ifp hm c
        exact ih (x2 + 1) h hg hm
      · replace hm := ia_ifn hm c
        obtain ⟨c2, hm⟩ := ia_gd_some hm
        obtain ⟨v3, hv3, hm⟩ := ia_bnd hm
        have gv3 := g_Sc_freeze hg p0 hv3
        exact ih (x2 + 1) v3 gv3 hm
def f_Sc_passDayUnderShops (a0 : Nat) (x1 : Int32) (h : ia_H) : Option ia_H := l_Sc_passDayUnderShops_2 a0 x1 (fun h => (f_Sc_pay a0 h).bind fun v4 => ((f_Sc_settle a0 v4).bind fun v5 => (some v5))) fu_ 0 h
theorem g_Sc_passDayUnderShops {a0 : Nat} {x1 : Int32} {h : ia_H} (hg : gd_ h) (p0 : (kd_D a0).1 = 9) {q : ia_H} (hm : f_Sc_passDayUnderShops a0 x1 h = some q) : gd_ q := by
  obtain ⟨h1, e1⟩ : ∃ x, x = q := ⟨_, rfl⟩
  subst e1
  unfold f_Sc_passDayUnderShops at hm
  refine gl_Sc_passDayUnderShops_2 p0 ?_ fu_ 0 h hg hm
  · intro h hg hm
    obtain ⟨v4, hv4, hm⟩ := ia_bnd hm
    have gv4 := g_Sc_pay hg p0 hv4
    obtain ⟨v5, hv5, hm⟩ := ia_bnd hm
    have gv5 := g_Sc_settle gv4 p0 hv5
    cases hm
    exact gv5
theorem t_Sc_passDayUnderShops (d : Nat) {a0 : Nat} {x1 : Int32} {h : ia_H} (hg : gd_ h) (p0 : (kd_D a0).1 = 9) {q : ia_H} (hm : f_Sc_passDayUnderShops a0 x1 h = some q) : ia_Ev (d + 3) mm_Sc_passDayUnderShops [.inr (.inr a0), .inl x1] h none q := by
  have gq := g_Sc_passDayUnderShops hg p0 hm
  refine ia_Ev_intro ok_Sc_passDayUnderShops (gd_le hg gq).1 (gd_le hg gq).2 (Nat.le_of_ble_eq_true rfl) (fun K hK hret => ?_)
  obtain ⟨h1, e1⟩ : ∃ x, x = q := ⟨_, rfl⟩
  subst e1
  show K 0 [some (.inr (.inr a0)), some (.inl x1), none] [] h
  unfold f_Sc_passDayUnderShops at hm
  refine ia_go hK ck_Sc_passDayUnderShops_0 ?_
  show K 2 [some (.inr (.inr a0)), some (.inl x1), some (.inl 0)] [] h
  refine tl_Sc_passDayUnderShops_2 hK p0 hret ?_ fu_ 0 h hg hm
  · intro h hg hm
    refine ia_go hK ck_Sc_passDayUnderShops_39 ?_
    show K 40 [some (.inr (.inr a0)), none, none] [.inr (.inr a0)] h
    obtain ⟨v4, hv4, hm⟩ := ia_bnd hm
    have ev4 := t_Sc_pay (d + 1) hg p0 hv4
    have gv4 := g_Sc_pay hg p0 hv4
    refine ia_cV hK mk_Sc_pay lk_9_114 dc_Sc_passDayUnderShops_40 a0 [] [] rfl rfl (Nat.le_of_ble_eq_true rfl) (by decide) rfl (gk_9 hg p0) ev4 (gd_nm hg gv4) ?_
    show K 43 [some (.inr (.inr a0)), none, none] [] v4
    refine ia_go hK ck_Sc_passDayUnderShops_43 ?_
    show K 44 [some (.inr (.inr a0)), none, none] [.inr (.inr a0)] v4
    obtain ⟨v5, hv5, hm⟩ := ia_bnd hm
    have ev5 := t_Sc_settle (d + 0) gv4 p0 hv5
    have gv5 := g_Sc_settle gv4 p0 hv5
    refine ia_cV hK mk_Sc_settle lk_9_76 dc_Sc_passDayUnderShops_44 a0 [] [] rfl rfl (Nat.le_of_ble_eq_true rfl) (by decide) rfl (gk_9 gv4 p0) ev5 (gd_nm gv4 gv5) ?_
    show K 47 [some (.inr (.inr a0)), none, none] [] v5
    cases hm
    exact hret 47 _ dc_Sc_passDayUnderShops_47
def mm_Ou_daysHeld : ia_M := (⟨"IceStreet$Outlook", "daysHeld", "(LIceStreet$Scene;I)I"⟩, prog_6_method_2_code, 4, (some .int), 5, false)
theorem ok_Ou_daysHeld : ia_mok mm_Ou_daysHeld := ⟨by decide +kernel, by decide +kernel, by decide +kernel, by decide +kernel⟩
theorem mk_Ou_daysHeld : ia_mkn mm_Ou_daysHeld 1 2 := ⟨ia_tb_in (List.mem_of_getElem? (i := 1294) (by decide +kernel)) rfl, ia_tb_in (List.mem_of_getElem? (i := 143) (by decide +kernel)) rfl, by decide +kernel, by decide +kernel, ⟨ia_tb_in (List.mem_of_getElem? (i := 1292) (by decide +kernel)) rfl, ia_tb_in (List.mem_of_getElem? (i := 1293) (by decide +kernel)) rfl⟩⟩
theorem ck_Ou_daysHeld_0 : ia_cks 5 4 false prog_6_method_2_code 0 [(.aload_n 0, 0, 0, 0, 0), (.getfield 27, 5, 1, 3, 3), (.aload_n 1, 0, 0, 0, 0)] = true := by decide +kernel
theorem ck_Ou_daysHeld_8 : ia_cks 5 4 false prog_6_method_2_code 8 [(.iconst 0, 0, 0, 0, 0), (.istore_n 3, 0, 0, 0, 0)] = true := by decide +kernel
theorem ck_Ou_daysHeld_10 : ia_cks 5 4 false prog_6_method_2_code 10 [(.iload_n 3, 0, 0, 0, 0), (.bipush 60, 0, 0, 0, 0), (.if_icmp .gt 36, 0, 0, 0, 0)] = true := by decide +kernel
theorem ck_Ou_daysHeld_16 : ia_cks 5 4 false prog_6_method_2_code 16 [(.aload_n 0, 0, 0, 0, 0), (.getfield 27, 5, 1, 3, 3), (.iload_n 2, 0, 0, 0, 0)] = true := by decide +kernel
theorem ck_Ou_daysHeld_24 : ia_cks 5 4 false prog_6_method_2_code 24 [(.ifCond .ne 5, 0, 0, 0, 0)] = true := by decide +kernel
theorem ck_Ou_daysHeld_29 : ia_cks 5 4 false prog_6_method_2_code 29 [(.aload_n 0, 0, 0, 0, 0), (.getfield 27, 5, 1, 3, 3), (.aload_n 0, 0, 0, 0, 0), (.getfield 27, 5, 1, 3, 3)] = true := by decide +kernel
theorem ck_Ou_daysHeld_43 : ia_cks 5 4 false prog_6_method_2_code 43 [(.iinc 3 1, 0, 0, 0, 0), (.goto (-36), 0, 0, 0, 0)] = true := by decide +kernel
theorem ck_Ou_daysHeld_27 : ia_cks 5 4 false prog_6_method_2_code 27 [(.iload_n 3, 0, 0, 0, 0)] = true := by decide +kernel
theorem ck_Ou_daysHeld_49 : ia_cks 5 4 false prog_6_method_2_code 49 [(.bipush 61, 0, 0, 0, 0)] = true := by decide +kernel
theorem dc_Ou_daysHeld_5 : decode prog_6_method_2_code 5 = .ok (.invokevirtual 34, 3) := by decide +kernel
theorem dc_Ou_daysHeld_21 : decode prog_6_method_2_code 21 = .ok (.invokevirtual 38, 3) := by decide +kernel
theorem dc_Ou_daysHeld_37 : decode prog_6_method_2_code 37 = .ok (.invokevirtual 42, 3) := by decide +kernel
theorem dc_Ou_daysHeld_40 : decode prog_6_method_2_code 40 = .ok (.invokevirtual 46, 3) := by decide +kernel
theorem dc_Ou_daysHeld_28 : decode prog_6_method_2_code 28 = .ok (.ireturn, 1) := by decide +kernel
theorem dc_Ou_daysHeld_51 : decode prog_6_method_2_code 51 = .ok (.ireturn, 1) := by decide +kernel
def l_Ou_daysHeld_10 (a1 : Nat) (x2 : Int32) (k27 : Int32 → ia_H → Option (Int32 × ia_H)) (k49 : ia_H → Option (Int32 × ia_H)) (n : Nat) (x3 : Int32) (h : ia_H) : Option (Int32 × ia_H) := match n with
  | 0 => none
  | n + 1 => if 60 < x3 then (k49 h) else ((f_Sc_stands 329 x2 h).bind fun v2 => (if v2 = 0 then (k27 x3 h) else ((f_Sc_frost 329 h).bind fun v3 => ((f_Sc_passDayUnderShops 329 v3 h).bind fun v4 => (l_Ou_daysHeld_10 a1 x2 k27 k49 n (x3 + 1) v4)))))
theorem tl_Ou_daysHeld_10 {d N1 W1 : Nat} {K : ia_K} (hK : ia_isK (d + 4) mm_Ou_daysHeld N1 W1 K) {a1 : Nat} {x2 : Int32} (p1 : (kd_D a1).1 = 9) {r : Int32} {h1 : ia_H} (hret : ∀ (pc : Nat) (lv : ia_L), ia_ret mm_Ou_daysHeld pc (some (.inl r)) → K pc lv ((some (.inl r)) : Option ia_V).toList h1) {k27 : Int32 → ia_H → Option (Int32 × ia_H)} {k49 : ia_H → Option (Int32 × ia_H)} (hk27 : ∀ (x3 : Int32) (h : ia_H), gd_ h → k27 x3 h = some (r, h1) → K 27 [none, none, none, some (.inl x3)] [] h) (hk49 : ∀ (h : ia_H), gd_ h → k49 h = some (r, h1) → K 49 [none, none, none, none] [] h) : ∀ (n : Nat) (x3 : Int32) (h : ia_H), gd_ h → l_Ou_daysHeld_10 a1 x2 k27 k49 n x3 h = some (r, h1) → K 10 [some (.inr (.inr 326)), none, some (.inl x2), some (.inl x3)] [] h := by
  intro n
  induction n with
  | zero =>
    intro x3 h hg hm
    cases (show (none : Option (Int32 × ia_H)) = some _ from hm)
  | succ n ih =>
    intro x3 h hg hm
    rw [l_Ou_daysHeld_10] at hm
    refine ia_go hK ck_Ou_daysHeld_10 ⟨fun c => ?_, fun c => ?_⟩
    · replace hm := ia_ifp hm c
      show K 49 [some (.inr (.inr 326)), none, some (.inl x2), some (.inl x3)] [] h
      refine ia_fg hK (lv' := [none, none, none, none]) trivial ?_
      exact hk49 h hg hm
    · replace hm := ia_ifn hm c
      show K 16 [some (.inr (.inr 326)), none, some (.inl x2), some (.inl x3)] [] h
      refine ia_go hK ck_Ou_daysHeld_16 ⟨gk_5 hg pk_326, gr_5_1 hg pk_326, ?_⟩
      show K 21 [some (.inr (.inr 326)), none, some (.inl x2), some (.inl x3)] [.inl x2, .inr (.inr 329)] h
      obtain ⟨v2, hv2, hm⟩ := ia_bnd hm
      have ev2 := t_Sc_stands (d + 3) hg (ka_5_1 pk_326) hv2
      refine ia_cV hK mk_Sc_stands lk_5_38 dc_Ou_daysHeld_21 329 [.inl x2] [] rfl rfl (Nat.le_of_ble_eq_true rfl) (by decide) rfl (gk_9 hg (ka_5_1 pk_326)) ev2 ⟨rfl, rfl⟩ ?_
      show K 24 [some (.inr (.inr 326)), none, some (.inl x2), some (.inl x3)] [.inl v2] h
      refine ia_go hK ck_Ou_daysHeld_24 ⟨fun c => ?_, fun c => ?_⟩
      · replace hm := ia_ifn hm c
        show K 29 [some (.inr (.inr 326)), none, some (.inl x2), some (.inl x3)] [] h
        refine ia_go hK ck_Ou_daysHeld_29 ⟨gk_5 hg pk_326, gr_5_1 hg pk_326, gk_5 hg pk_326, gr_5_1 hg pk_326, ?_⟩
        show K 37 [some (.inr (.inr 326)), none, some (.inl x2), some (.inl x3)] [.inr (.inr 329), .inr (.inr 329)] h
        obtain ⟨v3, hv3, hm⟩ := ia_bnd hm
        have ev3 := t_Sc_frost (d + 3) hg (ka_5_1 pk_326) hv3
        refine ia_cV hK mk_Sc_frost lk_5_42 dc_Ou_daysHeld_37 329 [] [.inr (.inr 329)] rfl rfl (Nat.le_of_ble_eq_true rfl) (by decide) rfl (gk_9 hg (ka_5_1 pk_326)) ev3 ⟨rfl, rfl⟩ ?_
        show K 40 [some (.inr (.inr 326)), none, some (.inl x2), some (.inl x3)] [.inl v3, .inr (.inr 329)] h
        obtain ⟨v4, hv4, hm⟩ := ia_bnd hm
        have ev4 := t_Sc_passDayUnderShops (d + 0) hg (ka_5_1 pk_326) hv4
        have gv4 := g_Sc_passDayUnderShops hg (ka_5_1 pk_326) hv4
        refine ia_cV hK mk_Sc_passDayUnderShops lk_5_46 dc_Ou_daysHeld_40 329 [.inl v3] [] rfl rfl (Nat.le_of_ble_eq_true rfl) (by decide) rfl (gk_9 hg (ka_5_1 pk_326)) ev4 (gd_nm hg gv4) ?_
        show K 43 [some (.inr (.inr 326)), none, some (.inl x2), some (.inl x3)] [] v4
        refine ia_go hK ck_Ou_daysHeld_43 ?_
        show K 10 [some (.inr (.inr 326)), none, some (.inl x2), some (.inl (x3 + 1))] [] v4
        exact ih (x3 + 1) v4 gv4 hm
      · replace hm := ia_ifp hm c
        show K 27 [some (.inr (.inr 326)), none, some (.inl x2), some (.inl x3)] [] h
        refine ia_fg hK (lv' := [none, none, none, some (.inl x3)]) ⟨rfl, trivial⟩ ?_
        exact hk27 x3 h hg hm
theorem gl_Ou_daysHeld_10 {a1 : Nat} {x2 : Int32} (p1 : (kd_D a1).1 = 9) {r : Int32} {h1 : ia_H} {k27 : Int32 → ia_H → Option (Int32 × ia_H)} {k49 : ia_H → Option (Int32 × ia_H)} (hk27 : ∀ (x3 : Int32) (h : ia_H), gd_ h → k27 x3 h = some (r, h1) → gd_ h1) (hk49 : ∀ (h : ia_H), gd_ h → k49 h = some (r, h1) → gd_ h1) : ∀ (n : Nat) (x3 : Int32) (h : ia_H), gd_ h → l_Ou_daysHeld_10 a1 x2 k27 k49 n x3 h = some (r, h1) → gd_ h1 := by
  intro n
  induction n with
  | zero =>
    intro x3 h hg hm
    cases (show (none : Option (Int32 × ia_H)) = some _ from hm)
  | succ n ih =>
    intro x3 h hg hm
    rw [l_Ou_daysHeld_10] at hm
    by_cases c : 60 < x3
    · replace hm := ia_ifp hm c
      exact hk49 h hg hm
    · replace hm := ia_ifn hm c
      obtain ⟨v2, hv2, hm⟩ := ia_bnd hm
      by_cases c : v2 = 0
      · replace hm := ia_ifp hm c
        exact hk27 x3 h hg hm
      · replace hm := ia_ifn hm c
        obtain ⟨v3, hv3, hm⟩ := ia_bnd hm
        obtain ⟨v4, hv4, hm⟩ := ia_bnd hm
        have gv4 := g_Sc_passDayUnderShops hg (ka_5_1 pk_326) hv4
        exact ih (x3 + 1) v4 gv4 hm
def f_Ou_daysHeld (a1 : Nat) (x2 : Int32) (h : ia_H) : Option (Int32 × ia_H) := (f_Sc_become 329 a1 h).bind fun v1 => (l_Ou_daysHeld_10 a1 x2 (fun x3 h => some (x3, h)) (fun h => some (61, h)) fu_ 0 v1)
theorem g_Ou_daysHeld {a1 : Nat} {x2 : Int32} {h : ia_H} (hg : gd_ h) (p1 : (kd_D a1).1 = 9) {q : (Int32 × ia_H)} (hm : f_Ou_daysHeld a1 x2 h = some q) : gd_ q.2 := by
  obtain ⟨r, h1⟩ := q
  unfold f_Ou_daysHeld at hm
  obtain ⟨v1, hv1, hm⟩ := ia_bnd hm
  have gv1 := g_Sc_become hg (ka_5_1 pk_326) p1 hv1
  refine gl_Ou_daysHeld_10 p1 ?_ ?_ fu_ 0 v1 gv1 hm
  · intro x3 h hg hm
    cases hm
    exact hg
  · intro h hg hm
    cases hm
    exact hg
theorem t_Ou_daysHeld (d : Nat) {a1 : Nat} {x2 : Int32} {h : ia_H} (hg : gd_ h) (p1 : (kd_D a1).1 = 9) {q : (Int32 × ia_H)} (hm : f_Ou_daysHeld a1 x2 h = some q) : ia_Ev (d + 4) mm_Ou_daysHeld [.inr (.inr 326), .inr (.inr a1), .inl x2] h (some (.inl q.1)) q.2 := by
  have gq := g_Ou_daysHeld hg p1 hm
  refine ia_Ev_intro ok_Ou_daysHeld (gd_le hg gq).1 (gd_le hg gq).2 (Nat.le_of_ble_eq_true rfl) (fun K hK hret => ?_)
  obtain ⟨r, h1⟩ := q
  show K 0 [some (.inr (.inr 326)), some (.inr (.inr a1)), some (.inl x2), none] [] h
  unfold f_Ou_daysHeld at hm
  refine ia_go hK ck_Ou_daysHeld_0 ⟨gk_5 hg pk_326, gr_5_1 hg pk_326, ?_⟩
  show K 5 [some (.inr (.inr 326)), some (.inr (.inr a1)), some (.inl x2), none] [.inr (.inr a1), .inr (.inr 329)] h
  obtain ⟨v1, hv1, hm⟩ := ia_bnd hm
  have ev1 := t_Sc_become (d + 3) hg (ka_5_1 pk_326) p1 hv1
  have gv1 := g_Sc_become hg (ka_5_1 pk_326) p1 hv1
  refine ia_cV hK mk_Sc_become lk_5_34 dc_Ou_daysHeld_5 329 [.inr (.inr a1)] [] rfl rfl (Nat.le_of_ble_eq_true rfl) (by decide) rfl (gk_9 hg (ka_5_1 pk_326)) ev1 (gd_nm hg gv1) ?_
  show K 8 [some (.inr (.inr 326)), some (.inr (.inr a1)), some (.inl x2), none] [] v1
  refine ia_go hK ck_Ou_daysHeld_8 ?_
  show K 10 [some (.inr (.inr 326)), some (.inr (.inr a1)), some (.inl x2), some (.inl 0)] [] v1
  refine ia_fg hK (lv' := [some (.inr (.inr 326)), none, some (.inl x2), some (.inl 0)]) ⟨rfl, rfl, rfl, trivial⟩ ?_
  refine tl_Ou_daysHeld_10 hK p1 hret ?_ ?_ fu_ 0 v1 gv1 hm
  · intro x3 h hg hm
    refine ia_go hK ck_Ou_daysHeld_27 ?_
    show K 28 [none, none, none, some (.inl x3)] [.inl x3] h
    cases hm
    exact hret 28 _ dc_Ou_daysHeld_28
  · intro h hg hm
    refine ia_go hK ck_Ou_daysHeld_49 ?_
    show K 51 [none, none, none, none] [.inl 61] h
    cases hm
    exact hret 51 _ dc_Ou_daysHeld_51
def mm_I_holds : ia_M := (⟨"IceStreet", "holds", "(IIIII)I"⟩, prog_1_method_21_code, 6, (some .int), 0, false)
theorem ok_I_holds : ia_mok mm_I_holds := ⟨by decide +kernel, by decide +kernel, by decide +kernel, by decide +kernel⟩
theorem mk_I_holds : ia_mkn mm_I_holds 1 5 := ⟨ia_tb_in (List.mem_of_getElem? (i := 1289) (by decide +kernel)) rfl, ia_tb_in (List.mem_of_getElem? (i := 133) (by decide +kernel)) rfl, by decide +kernel, by decide +kernel, ⟨ia_tb_in (List.mem_of_getElem? (i := 1287) (by decide +kernel)) rfl, ia_tb_in (List.mem_of_getElem? (i := 1288) (by decide +kernel)) rfl⟩⟩
theorem ck_I_holds_0 : ia_cks 0 6 false prog_1_method_21_code 0 [(.aload_n 0, 0, 0, 0, 0), (.iload_n 1, 0, 0, 0, 0), (.iload_n 2, 0, 0, 0, 0), (.iload_n 3, 0, 0, 0, 0), (.iload 4, 0, 0, 0, 0)] = true := by decide +kernel
theorem ck_I_holds_9 : ia_cks 0 6 false prog_1_method_21_code 9 [(.ifCond .eq 15, 0, 0, 0, 0)] = true := by decide +kernel
theorem ck_I_holds_24 : ia_cks 0 6 false prog_1_method_21_code 24 [(.iconst (-1), 0, 0, 0, 0)] = true := by decide +kernel
theorem ck_I_holds_12 : ia_cks 0 6 false prog_1_method_21_code 12 [(.aload_n 0, 0, 0, 0, 0), (.getfield 44, 0, 4, 3, 239), (.iload 5, 0, 0, 0, 0)] = true := by decide +kernel
theorem ck_I_holds_21 : ia_cks 0 6 false prog_1_method_21_code 21 [(.ifCond .ne 5, 0, 0, 0, 0)] = true := by decide +kernel
theorem ck_I_holds_26 : ia_cks 0 6 false prog_1_method_21_code 26 [(.aload_n 0, 0, 0, 0, 0), (.getfield 69, 0, 7, 3, 262), (.aload_n 0, 0, 0, 0, 0), (.getfield 44, 0, 4, 3, 239), (.iload 5, 0, 0, 0, 0)] = true := by decide +kernel
theorem dc_I_holds_6 : decode prog_1_method_21_code 6 = .ok (.invokevirtual 266, 3) := by decide +kernel
theorem dc_I_holds_25 : decode prog_1_method_21_code 25 = .ok (.ireturn, 1) := by decide +kernel
theorem dc_I_holds_18 : decode prog_1_method_21_code 18 = .ok (.invokevirtual 347, 3) := by decide +kernel
theorem dc_I_holds_36 : decode prog_1_method_21_code 36 = .ok (.invokevirtual 350, 3) := by decide +kernel
theorem dc_I_holds_39 : decode prog_1_method_21_code 39 = .ok (.ireturn, 1) := by decide +kernel
def f_I_holds (x1 : Int32) (x2 : Int32) (x3 : Int32) (x4 : Int32) (x5 : Int32) (h : ia_H) : Option (Int32 × ia_H) := (f_I_stage x1 x2 x3 x4 h).bind fun v1 => (if v1.1 = 0 then (some ((-1), v1.2)) else ((f_Sc_stands 303 x5 v1.2).bind fun v2 => (if v2 = 0 then (some ((-1), v1.2)) else ((f_Ou_daysHeld 303 x5 v1.2).bind fun v3 => (some (v3.1, v3.2))))))
theorem g_I_holds {x1 : Int32} {x2 : Int32} {x3 : Int32} {x4 : Int32} {x5 : Int32} {h : ia_H} (hg : gd_ h) {q : (Int32 × ia_H)} (hm : f_I_holds x1 x2 x3 x4 x5 h = some q) : gd_ q.2 := by
  obtain ⟨r, h1⟩ := q
  unfold f_I_holds at hm
  obtain ⟨v1, hv1, hm⟩ := ia_bnd hm
  have gv1 := g_I_stage hg hv1
  by_cases c : v1.1 = 0
  · replace hm := ia_ifp hm c
    cases hm
    exact gv1
  · replace hm := ia_ifn hm c
    obtain ⟨v2, hv2, hm⟩ := ia_bnd hm
    by_cases c : v2 = 0
    · replace hm := ia_ifp hm c
      cases hm
      exact gv1
    · replace hm := ia_ifn hm c
      obtain ⟨v3, hv3, hm⟩ := ia_bnd hm
      have gv3 := g_Ou_daysHeld gv1 (ka_0_4 pk_64) hv3
      cases hm
      exact gv3
theorem t_I_holds (d : Nat) {x1 : Int32} {x2 : Int32} {x3 : Int32} {x4 : Int32} {x5 : Int32} {h : ia_H} (hg : gd_ h) {q : (Int32 × ia_H)} (hm : f_I_holds x1 x2 x3 x4 x5 h = some q) : ia_Ev (d + 7) mm_I_holds [.inr (.inr 64), .inl x1, .inl x2, .inl x3, .inl x4, .inl x5] h (some (.inl q.1)) q.2 := by
  have gq := g_I_holds hg hm
  refine ia_Ev_intro ok_I_holds (gd_le hg gq).1 (gd_le hg gq).2 (Nat.le_of_ble_eq_true rfl) (fun K hK hret => ?_)
  obtain ⟨r, h1⟩ := q
  show K 0 [some (.inr (.inr 64)), some (.inl x1), some (.inl x2), some (.inl x3), some (.inl x4), some (.inl x5)] [] h
  unfold f_I_holds at hm
  refine ia_go hK ck_I_holds_0 ?_
  show K 6 [some (.inr (.inr 64)), some (.inl x1), some (.inl x2), some (.inl x3), some (.inl x4), some (.inl x5)] [.inl x4, .inl x3, .inl x2, .inl x1, .inr (.inr 64)] h
  obtain ⟨v1, hv1, hm⟩ := ia_bnd hm
  have ev1 := t_I_stage (d + 0) hg hv1
  have gv1 := g_I_stage hg hv1
  refine ia_cV hK mk_I_stage lk_0_266 dc_I_holds_6 64 [.inl x1, .inl x2, .inl x3, .inl x4] [] rfl rfl (Nat.le_of_ble_eq_true rfl) (by decide) rfl (gk_0 hg pk_64) ev1 (gd_nm hg gv1) ?_
  show K 9 [some (.inr (.inr 64)), some (.inl x1), some (.inl x2), some (.inl x3), some (.inl x4), some (.inl x5)] [.inl v1.1] v1.2
  refine ia_go hK ck_I_holds_9 ⟨fun c => ?_, fun c => ?_⟩
  · replace hm := ia_ifp hm c
    show K 24 [some (.inr (.inr 64)), some (.inl x1), some (.inl x2), some (.inl x3), some (.inl x4), some (.inl x5)] [] v1.2
    refine ia_go hK ck_I_holds_24 ?_
    show K 25 [some (.inr (.inr 64)), some (.inl x1), some (.inl x2), some (.inl x3), some (.inl x4), some (.inl x5)] [.inl (-1)] v1.2
    cases hm
    exact hret 25 _ dc_I_holds_25
  · replace hm := ia_ifn hm c
    show K 12 [some (.inr (.inr 64)), some (.inl x1), some (.inl x2), some (.inl x3), some (.inl x4), some (.inl x5)] [] v1.2
    refine ia_go hK ck_I_holds_12 ⟨gk_0 gv1 pk_64, gr_0_4 gv1 pk_64, ?_⟩
    show K 18 [some (.inr (.inr 64)), some (.inl x1), some (.inl x2), some (.inl x3), some (.inl x4), some (.inl x5)] [.inl x5, .inr (.inr 303)] v1.2
    obtain ⟨v2, hv2, hm⟩ := ia_bnd hm
    have ev2 := t_Sc_stands (d + 6) gv1 (ka_0_4 pk_64) hv2
    refine ia_cV hK mk_Sc_stands lk_0_347 dc_I_holds_18 303 [.inl x5] [] rfl rfl (Nat.le_of_ble_eq_true rfl) (by decide) rfl (gk_9 gv1 (ka_0_4 pk_64)) ev2 ⟨rfl, rfl⟩ ?_
    show K 21 [some (.inr (.inr 64)), some (.inl x1), some (.inl x2), some (.inl x3), some (.inl x4), some (.inl x5)] [.inl v2] v1.2
    refine ia_go hK ck_I_holds_21 ⟨fun c => ?_, fun c => ?_⟩
    · replace hm := ia_ifn hm c
      show K 26 [some (.inr (.inr 64)), some (.inl x1), some (.inl x2), some (.inl x3), some (.inl x4), some (.inl x5)] [] v1.2
      refine ia_go hK ck_I_holds_26 ⟨gk_0 gv1 pk_64, gr_0_7 gv1 pk_64, gk_0 gv1 pk_64, gr_0_4 gv1 pk_64, ?_⟩
      show K 36 [some (.inr (.inr 64)), some (.inl x1), some (.inl x2), some (.inl x3), some (.inl x4), some (.inl x5)] [.inl x5, .inr (.inr 303), .inr (.inr 326)] v1.2
      obtain ⟨v3, hv3, hm⟩ := ia_bnd hm
      have ev3 := t_Ou_daysHeld (d + 2) gv1 (ka_0_4 pk_64) hv3
      have gv3 := g_Ou_daysHeld gv1 (ka_0_4 pk_64) hv3
      refine ia_cV hK mk_Ou_daysHeld lk_0_350 dc_I_holds_36 326 [.inr (.inr 303), .inl x5] [] rfl rfl (Nat.le_of_ble_eq_true rfl) (by decide) rfl (gk_5 gv1 (ka_0_7 pk_64)) ev3 (gd_nm gv1 gv3) ?_
      show K 39 [some (.inr (.inr 64)), some (.inl x1), some (.inl x2), some (.inl x3), some (.inl x4), some (.inl x5)] [.inl v3.1] v3.2
      cases hm
      exact hret 39 _ dc_I_holds_39
    · replace hm := ia_ifp hm c
      show K 24 [some (.inr (.inr 64)), some (.inl x1), some (.inl x2), some (.inl x3), some (.inl x4), some (.inl x5)] [] v1.2
      refine ia_go hK ck_I_holds_24 ?_
      show K 25 [some (.inr (.inr 64)), some (.inl x1), some (.inl x2), some (.inl x3), some (.inl x4), some (.inl x5)] [.inl (-1)] v1.2
      cases hm
      exact hret 25 _ dc_I_holds_25
def mm_Sc_shopCells : ia_M := (⟨"IceStreet$Scene", "shopCells", "()J"⟩, prog_10_method_23_code, 4, (some .long), 9, false)
theorem ok_Sc_shopCells : ia_mok mm_Sc_shopCells := ⟨by decide +kernel, by decide +kernel, by decide +kernel, by decide +kernel⟩
theorem mk_Sc_shopCells : ia_mkn mm_Sc_shopCells 1 0 := ⟨ia_tb_in (List.mem_of_getElem? (i := 1322) (by decide +kernel)) rfl, ia_tb_in (List.mem_of_getElem? (i := 140) (by decide +kernel)) rfl, by decide +kernel, by decide +kernel, ⟨ia_tb_in (List.mem_of_getElem? (i := 1320) (by decide +kernel)) rfl, ia_tb_in (List.mem_of_getElem? (i := 1321) (by decide +kernel)) rfl⟩⟩
theorem ck_Sc_shopCells_0 : ia_cks 9 4 false prog_10_method_23_code 0 [(.lconst 0, 0, 0, 0, 0), (.lstore_n 1, 0, 0, 0, 0), (.iconst 0, 0, 0, 0, 0), (.istore_n 3, 0, 0, 0, 0)] = true := by decide +kernel
theorem ck_Sc_shopCells_4 : ia_cks 9 4 false prog_10_method_23_code 4 [(.iload_n 3, 0, 0, 0, 0), (.aload_n 0, 0, 0, 0, 0), (.getfield 33, 9, 0, 2, 0), (.getfield 66, 3, 11, 0, 0), (.if_icmp .ge 34, 0, 0, 0, 0)] = true := by decide +kernel
theorem ck_Sc_shopCells_15 : ia_cks 9 4 false prog_10_method_23_code 15 [(.lload_n 1, 0, 0, 0, 0), (.aload_n 0, 0, 0, 0, 0), (.getfield 24, 9, 6, 3, 5), (.iload_n 3, 0, 0, 0, 0), (.iaload, 0, 0, 0, 0), (.ifCond .lt 15, 0, 0, 0, 0)] = true := by decide +kernel
theorem ck_Sc_shopCells_37 : ia_cks 9 4 false prog_10_method_23_code 37 [(.lconst 0, 0, 0, 0, 0)] = true := by decide +kernel
theorem ck_Sc_shopCells_38 : ia_cks 9 4 false prog_10_method_23_code 38 [(.lor, 0, 0, 0, 0), (.lstore_n 1, 0, 0, 0, 0), (.iinc 3 1, 0, 0, 0, 0), (.goto (-39), 0, 0, 0, 0)] = true := by decide +kernel
theorem ck_Sc_shopCells_25 : ia_cks 9 4 false prog_10_method_23_code 25 [(.aload_n 0, 0, 0, 0, 0), (.getfield 24, 9, 6, 3, 5), (.iload_n 3, 0, 0, 0, 0), (.iaload, 0, 0, 0, 0)] = true := by decide +kernel
theorem ck_Sc_shopCells_34 : ia_cks 9 4 false prog_10_method_23_code 34 [(.goto 4, 0, 0, 0, 0)] = true := by decide +kernel
theorem ck_Sc_shopCells_46 : ia_cks 9 4 false prog_10_method_23_code 46 [(.lload_n 1, 0, 0, 0, 0)] = true := by decide +kernel
theorem dc_Sc_shopCells_31 : decode prog_10_method_23_code 31 = .ok (.invokestatic 132, 3) := by decide +kernel
theorem dc_Sc_shopCells_47 : decode prog_10_method_23_code 47 = .ok (.lreturn, 1) := by decide +kernel
def j_Sc_shopCells_38 (a0 : Nat) (h : ia_H) (kr : Int64 → Int32 → Option Int64) (k46 : Int64 → Option Int64) (x3 : Int32) (z0 : Int64) (z1 : Int64) : Option Int64 := kr (z0 ||| z1) (x3 + 1)
theorem tj_Sc_shopCells_38 {d N1 W1 : Nat} {K : ia_K} (hK : ia_isK (d + 1) mm_Sc_shopCells N1 W1 K) {a0 : Nat} {h : ia_H} (hg : gd_ h) (p0 : (kd_D a0).1 = 9) {r : Int64} (hret : ∀ (pc : Nat) (lv : ia_L), ia_ret mm_Sc_shopCells pc (some (.inr (.inl r))) → K pc lv ((some (.inr (.inl r))) : Option ia_V).toList h) {kr : Int64 → Int32 → Option Int64} {k46 : Int64 → Option Int64} (hkr : ∀ (y1 : Int64) (x3 : Int32), kr y1 x3 = some r → K 4 [some (.inr (.inr a0)), some (.inr (.inl y1)), none, some (.inl x3)] [] h) (hk46 : ∀ (y1 : Int64), k46 y1 = some r → K 46 [none, some (.inr (.inl y1)), none, none] [] h) : ∀ (x3 : Int32) (z0 : Int64) (z1 : Int64), j_Sc_shopCells_38 a0 h kr k46 x3 z0 z1 = some r → K 38 [some (.inr (.inr a0)), none, none, some (.inl x3)] [.inr (.inl z1), .inr (.inl z0)] h := by
  intro x3 z0 z1 hm
  unfold j_Sc_shopCells_38 at hm
  refine ia_go hK ck_Sc_shopCells_38 ?_
  show K 4 [some (.inr (.inr a0)), some (.inr (.inl (z0 ||| z1))), none, some (.inl (x3 + 1))] [] h
  exact hkr (z0 ||| z1) (x3 + 1) hm
def l_Sc_shopCells_4 (a0 : Nat) (h : ia_H) (k46 : Int64 → Option Int64) (n : Nat) (y1 : Int64) (x3 : Int32) : Option Int64 := match n with
  | 0 => none
  | n + 1 => if (ia_i h (ia_r h a0 0) 11) ≤ x3 then (k46 y1) else (ia_gd (ia_ib x3 6) (if (ia_i h (a0 + 5) ((x3).toNatClampNeg)) < 0 then (j_Sc_shopCells_38 a0 h (l_Sc_shopCells_4 a0 h k46 n) k46 x3 y1 0) else (ia_gd (ia_ib x3 6) ((f_I_bit (ia_i h (a0 + 5) ((x3).toNatClampNeg)) h).bind fun v3 => (j_Sc_shopCells_38 a0 h (l_Sc_shopCells_4 a0 h k46 n) k46 x3 y1 v3)))))
theorem tl_Sc_shopCells_4 {d N1 W1 : Nat} {K : ia_K} (hK : ia_isK (d + 1) mm_Sc_shopCells N1 W1 K) {a0 : Nat} {h : ia_H} (hg : gd_ h) (p0 : (kd_D a0).1 = 9) {r : Int64} (hret : ∀ (pc : Nat) (lv : ia_L), ia_ret mm_Sc_shopCells pc (some (.inr (.inl r))) → K pc lv ((some (.inr (.inl r))) : Option ia_V).toList h) {k46 : Int64 → Option Int64} (hk46 : ∀ (y1 : Int64), k46 y1 = some r → K 46 [none, some (.inr (.inl y1)), none, none] [] h) : ∀ (n : Nat) (y1 : Int64) (x3 : Int32), l_Sc_shopCells_4 a0 h k46 n y1 x3 = some r → K 4 [some (.inr (.inr a0)), some (.inr (.inl y1)), none, some (.inl x3)] [] h := by
  intro n
  induction n with
  | zero =>
    intro y1 x3 hm
    cases (show (none : Option Int64) = some _ from hm)
  | succ n ih =>
    intro y1 x3 hm
    rw [l_Sc_shopCells_4] at hm
    refine ia_go hK ck_Sc_shopCells_4 ⟨gk_9 hg p0, gk_3 hg (gm_9_0 hg p0), fun c => ?_, fun c => ?_⟩
    · replace hm := ia_ifp hm c
      show K 46 [some (.inr (.inr a0)), some (.inr (.inl y1)), none, some (.inl x3)] [] h
      refine ia_fg hK (lv' := [none, some (.inr (.inl y1)), none, none]) ⟨rfl, trivial⟩ ?_
      exact hk46 y1 hm
    · replace hm := ia_ifn hm c
      show K 15 [some (.inr (.inr a0)), some (.inr (.inl y1)), none, some (.inl x3)] [] h
      obtain ⟨c1, hm⟩ := ia_gd_some hm
      refine ia_go hK ck_Sc_shopCells_15 ⟨gk_9 hg p0, gr_9_6 hg p0, ga_i100 hg (ka_9_6 p0) c1, fun c => ?_, fun c => ?_⟩
      · replace hm := ia_ifp hm c
        show K 37 [some (.inr (.inr a0)), some (.inr (.inl y1)), none, some (.inl x3)] [.inr (.inl y1)] h
        refine ia_go hK ck_Sc_shopCells_37 ?_
        show K 38 [some (.inr (.inr a0)), some (.inr (.inl y1)), none, some (.inl x3)] [.inr (.inl 0), .inr (.inl y1)] h
        refine ia_fg hK (lv' := [some (.inr (.inr a0)), none, none, some (.inl x3)]) ⟨rfl, rfl, trivial⟩ ?_
        exact tj_Sc_shopCells_38 hK hg p0 hret ih hk46 x3 y1 0 hm
      · replace hm := ia_ifn hm c
        show K 25 [some (.inr (.inr a0)), some (.inr (.inl y1)), none, some (.inl x3)] [.inr (.inl y1)] h
        obtain ⟨c2, hm⟩ := ia_gd_some hm
        refine ia_go hK ck_Sc_shopCells_25 ⟨gk_9 hg p0, gr_9_6 hg p0, ga_i100 hg (ka_9_6 p0) c2, ?_⟩
        show K 31 [some (.inr (.inr a0)), some (.inr (.inl y1)), none, some (.inl x3)] [.inl (ia_i h (a0 + 5) ((x3).toNatClampNeg)), .inr (.inl y1)] h
        obtain ⟨v3, hv3, hm⟩ := ia_bnd hm
        have ev3 := t_I_bit (d + 0) hg hv3
        refine ia_cS hK mk_I_bit lk_9_132 dc_Sc_shopCells_31 [.inl (ia_i h (a0 + 5) ((x3).toNatClampNeg))] [.inr (.inl y1)] rfl rfl (Nat.le_of_ble_eq_true rfl) ev3 ⟨rfl, rfl⟩ ?_
        show K 34 [some (.inr (.inr a0)), some (.inr (.inl y1)), none, some (.inl x3)] [.inr (.inl v3), .inr (.inl y1)] h
        refine ia_go hK ck_Sc_shopCells_34 ?_
        show K 38 [some (.inr (.inr a0)), some (.inr (.inl y1)), none, some (.inl x3)] [.inr (.inl v3), .inr (.inl y1)] h
        refine ia_fg hK (lv' := [some (.inr (.inr a0)), none, none, some (.inl x3)]) ⟨rfl, rfl, trivial⟩ ?_
        exact tj_Sc_shopCells_38 hK hg p0 hret ih hk46 x3 y1 v3 hm
def f_Sc_shopCells (a0 : Nat) (h : ia_H) : Option Int64 := l_Sc_shopCells_4 a0 h (fun y1 => some y1) fu_ 0 0
theorem t_Sc_shopCells (d : Nat) {a0 : Nat} {h : ia_H} (hg : gd_ h) (p0 : (kd_D a0).1 = 9) {r : Int64} (hm : f_Sc_shopCells a0 h = some r) : ia_Ev (d + 1) mm_Sc_shopCells [.inr (.inr a0)] h (some (.inr (.inl r))) h := by
  refine ia_Ev_intro ok_Sc_shopCells (Nat.le_refl _) (Nat.le_refl _) (Nat.le_of_ble_eq_true rfl) (fun K hK hret => ?_)
  show K 0 [some (.inr (.inr a0)), none, none, none] [] h
  unfold f_Sc_shopCells at hm
  refine ia_go hK ck_Sc_shopCells_0 ?_
  show K 4 [some (.inr (.inr a0)), some (.inr (.inl 0)), none, some (.inl 0)] [] h
  refine tl_Sc_shopCells_4 hK hg p0 hret ?_ fu_ 0 0 hm
  · intro y1 hm
    refine ia_go hK ck_Sc_shopCells_46 ?_
    show K 47 [none, some (.inr (.inl y1)), none, none] [.inr (.inl y1)] h
    cases hm
    exact hret 47 _ dc_Sc_shopCells_47
def mm_Ou_firmCells : ia_M := (⟨"IceStreet$Outlook", "firmCells", "(LIceStreet$Scene;I)J"⟩, prog_6_method_8_code, 5, (some .long), 5, false)
theorem ok_Ou_firmCells : ia_mok mm_Ou_firmCells := ⟨by decide +kernel, by decide +kernel, by decide +kernel, by decide +kernel⟩
theorem mk_Ou_firmCells : ia_mkn mm_Ou_firmCells 0 2 := ⟨ia_tb_in (List.mem_of_getElem? (i := 1315) (by decide +kernel)) rfl, ia_tb_in (List.mem_of_getElem? (i := 143) (by decide +kernel)) rfl, by decide +kernel, by decide +kernel, ia_tb_in (List.mem_of_getElem? (i := 1314) (by decide +kernel)) rfl⟩
theorem ck_Ou_firmCells_0 : ia_cks 5 5 false prog_6_method_8_code 0 [(.lconst 0, 0, 0, 0, 0), (.lstore_n 2, 0, 0, 0, 0), (.iconst 0, 0, 0, 0, 0), (.istore 4, 0, 0, 0, 0)] = true := by decide +kernel
theorem ck_Ou_firmCells_5 : ia_cks 5 5 false prog_6_method_8_code 5 [(.iload 4, 0, 0, 0, 0), (.aload_n 0, 0, 0, 0, 0), (.getfield 69, 9, 0, 2, 0)] = true := by decide +kernel
theorem ck_Ou_firmCells_14 : ia_cks 5 5 false prog_6_method_8_code 14 [(.if_icmp .ge 35, 0, 0, 0, 0)] = true := by decide +kernel
theorem ck_Ou_firmCells_17 : ia_cks 5 5 false prog_6_method_8_code 17 [(.aload_n 0, 0, 0, 0, 0), (.iload 4, 0, 0, 0, 0)] = true := by decide +kernel
theorem ck_Ou_firmCells_23 : ia_cks 5 5 false prog_6_method_8_code 23 [(.iload_n 1, 0, 0, 0, 0), (.aload_n 0, 0, 0, 0, 0), (.getfield 122, 9, 4, 3, 3), (.iload 4, 0, 0, 0, 0), (.iaload, 0, 0, 0, 0), (.iadd, 0, 0, 0, 0), (.if_icmp .lt 11, 0, 0, 0, 0)] = true := by decide +kernel
theorem ck_Ou_firmCells_43 : ia_cks 5 5 false prog_6_method_8_code 43 [(.iinc 4 1, 0, 0, 0, 0), (.goto (-41), 0, 0, 0, 0)] = true := by decide +kernel
theorem ck_Ou_firmCells_35 : ia_cks 5 5 false prog_6_method_8_code 35 [(.lload_n 2, 0, 0, 0, 0), (.iload 4, 0, 0, 0, 0)] = true := by decide +kernel
theorem ck_Ou_firmCells_41 : ia_cks 5 5 false prog_6_method_8_code 41 [(.lor, 0, 0, 0, 0), (.lstore_n 2, 0, 0, 0, 0), (.iinc 4 1, 0, 0, 0, 0), (.goto (-41), 0, 0, 0, 0)] = true := by decide +kernel
theorem ck_Ou_firmCells_49 : ia_cks 5 5 false prog_6_method_8_code 49 [(.lload_n 2, 0, 0, 0, 0), (.aload_n 0, 0, 0, 0, 0)] = true := by decide +kernel
theorem ck_Ou_firmCells_57 : ia_cks 5 5 false prog_6_method_8_code 57 [(.lxor, 0, 0, 0, 0), (.land, 0, 0, 0, 0)] = true := by decide +kernel
theorem dc_Ou_firmCells_11 : decode prog_6_method_8_code 11 = .ok (.invokevirtual 73, 3) := by decide +kernel
theorem dc_Ou_firmCells_20 : decode prog_6_method_8_code 20 = .ok (.invokevirtual 118, 3) := by decide +kernel
theorem dc_Ou_firmCells_38 : decode prog_6_method_8_code 38 = .ok (.invokestatic 65, 3) := by decide +kernel
theorem dc_Ou_firmCells_51 : decode prog_6_method_8_code 51 = .ok (.invokevirtual 125, 3) := by decide +kernel
theorem dc_Ou_firmCells_54 : decode prog_6_method_8_code 54 = .ok (.ldc2_w 129, 3) := by decide +kernel
theorem dc_Ou_firmCells_59 : decode prog_6_method_8_code 59 = .ok (.lreturn, 1) := by decide +kernel
def l_Ou_firmCells_5 (a0 : Nat) (x1 : Int32) (h : ia_H) (k49 : Int64 → Option Int64) (n : Nat) (y2 : Int64) (x4 : Int32) : Option Int64 := match n with
  | 0 => none
  | n + 1 => (f_La_cells (ia_r h a0 0) h).bind fun v1 => (if v1 ≤ x4 then (k49 y2) else ((f_Sc_bears a0 x4 h).bind fun v2 => (ia_gd (ia_ib x4 36) (if v2 < (x1 + (ia_i h (a0 + 3) ((x4).toNatClampNeg))) then (l_Ou_firmCells_5 a0 x1 h k49 n y2 (x4 + 1)) else ((f_I_bit x4 h).bind fun v4 => (l_Ou_firmCells_5 a0 x1 h k49 n (y2 ||| v4) (x4 + 1)))))))
theorem tl_Ou_firmCells_5 {d N1 W1 : Nat} {K : ia_K} (hK : ia_isK (d + 2) mm_Ou_firmCells N1 W1 K) {a0 : Nat} {x1 : Int32} {h : ia_H} (hg : gd_ h) (p0 : (kd_D a0).1 = 9) {r : Int64} (hret : ∀ (pc : Nat) (lv : ia_L), ia_ret mm_Ou_firmCells pc (some (.inr (.inl r))) → K pc lv ((some (.inr (.inl r))) : Option ia_V).toList h) {k49 : Int64 → Option Int64} (hk49 : ∀ (y2 : Int64), k49 y2 = some r → K 49 [some (.inr (.inr a0)), none, some (.inr (.inl y2)), none, none] [] h) : ∀ (n : Nat) (y2 : Int64) (x4 : Int32), l_Ou_firmCells_5 a0 x1 h k49 n y2 x4 = some r → K 5 [some (.inr (.inr a0)), some (.inl x1), some (.inr (.inl y2)), none, some (.inl x4)] [] h := by
  intro n
  induction n with
  | zero =>
    intro y2 x4 hm
    cases (show (none : Option Int64) = some _ from hm)
  | succ n ih =>
    intro y2 x4 hm
    rw [l_Ou_firmCells_5] at hm
    refine ia_go hK ck_Ou_firmCells_5 ⟨gk_9 hg p0, ?_⟩
    show K 11 [some (.inr (.inr a0)), some (.inl x1), some (.inr (.inl y2)), none, some (.inl x4)] [.inr (.inr (ia_r h a0 0)), .inl x4] h
    obtain ⟨v1, hv1, hm⟩ := ia_bnd hm
    have ev1 := t_La_cells (d + 1) hg (gm_9_0 hg p0) hv1
    refine ia_cV hK mk_La_cells lk_5_73 dc_Ou_firmCells_11 (ia_r h a0 0) [] [.inl x4] rfl rfl (Nat.le_of_ble_eq_true rfl) (by decide) rfl (gk_3 hg (gm_9_0 hg p0)) ev1 ⟨rfl, rfl⟩ ?_
    show K 14 [some (.inr (.inr a0)), some (.inl x1), some (.inr (.inl y2)), none, some (.inl x4)] [.inl v1, .inl x4] h
    refine ia_go hK ck_Ou_firmCells_14 ⟨fun c => ?_, fun c => ?_⟩
    · replace hm := ia_ifp hm c
      show K 49 [some (.inr (.inr a0)), some (.inl x1), some (.inr (.inl y2)), none, some (.inl x4)] [] h
      refine ia_fg hK (lv' := [some (.inr (.inr a0)), none, some (.inr (.inl y2)), none, none]) ⟨rfl, rfl, trivial⟩ ?_
      exact hk49 y2 hm
    · replace hm := ia_ifn hm c
      show K 17 [some (.inr (.inr a0)), some (.inl x1), some (.inr (.inl y2)), none, some (.inl x4)] [] h
      refine ia_go hK ck_Ou_firmCells_17 ?_
      show K 20 [some (.inr (.inr a0)), some (.inl x1), some (.inr (.inl y2)), none, some (.inl x4)] [.inl x4, .inr (.inr a0)] h
      obtain ⟨v2, hv2, hm⟩ := ia_bnd hm
      have ev2 := t_Sc_bears (d + 0) hg p0 hv2
      refine ia_cV hK mk_Sc_bears lk_5_118 dc_Ou_firmCells_20 a0 [.inl x4] [] rfl rfl (Nat.le_of_ble_eq_true rfl) (by decide) rfl (gk_9 hg p0) ev2 ⟨rfl, rfl⟩ ?_
      show K 23 [some (.inr (.inr a0)), some (.inl x1), some (.inr (.inl y2)), none, some (.inl x4)] [.inl v2] h
      obtain ⟨c3, hm⟩ := ia_gd_some hm
      refine ia_go hK ck_Ou_firmCells_23 ⟨gk_9 hg p0, gr_9_4 hg p0, ga_i100 hg (ka_9_4 p0) c3, fun c => ?_, fun c => ?_⟩
      · replace hm := ia_ifp hm c
        show K 43 [some (.inr (.inr a0)), some (.inl x1), some (.inr (.inl y2)), none, some (.inl x4)] [] h
        refine ia_go hK ck_Ou_firmCells_43 ?_
        show K 5 [some (.inr (.inr a0)), some (.inl x1), some (.inr (.inl y2)), none, some (.inl (x4 + 1))] [] h
        exact ih y2 (x4 + 1) hm
      · replace hm := ia_ifn hm c
        show K 35 [some (.inr (.inr a0)), some (.inl x1), some (.inr (.inl y2)), none, some (.inl x4)] [] h
        refine ia_go hK ck_Ou_firmCells_35 ?_
        show K 38 [some (.inr (.inr a0)), some (.inl x1), some (.inr (.inl y2)), none, some (.inl x4)] [.inl x4, .inr (.inl y2)] h
        obtain ⟨v4, hv4, hm⟩ := ia_bnd hm
        have ev4 := t_I_bit (d + 1) hg hv4
        refine ia_cS hK mk_I_bit lk_5_65 dc_Ou_firmCells_38 [.inl x4] [.inr (.inl y2)] rfl rfl (Nat.le_of_ble_eq_true rfl) ev4 ⟨rfl, rfl⟩ ?_
        show K 41 [some (.inr (.inr a0)), some (.inl x1), some (.inr (.inl y2)), none, some (.inl x4)] [.inr (.inl v4), .inr (.inl y2)] h
        refine ia_go hK ck_Ou_firmCells_41 ?_
        show K 5 [some (.inr (.inr a0)), some (.inl x1), some (.inr (.inl (y2 ||| v4))), none, some (.inl (x4 + 1))] [] h
        exact ih (y2 ||| v4) (x4 + 1) hm
def f_Ou_firmCells (a0 : Nat) (x1 : Int32) (h : ia_H) : Option Int64 := l_Ou_firmCells_5 a0 x1 h (fun y2 => (f_Sc_shopCells a0 h).bind fun v5 => (some (y2 &&& (v5 ^^^ (-1))))) fu_ 0 0
theorem t_Ou_firmCells (d : Nat) {a0 : Nat} {x1 : Int32} {h : ia_H} (hg : gd_ h) (p0 : (kd_D a0).1 = 9) {r : Int64} (hm : f_Ou_firmCells a0 x1 h = some r) : ia_Ev (d + 2) mm_Ou_firmCells [.inr (.inr a0), .inl x1] h (some (.inr (.inl r))) h := by
  refine ia_Ev_intro ok_Ou_firmCells (Nat.le_refl _) (Nat.le_refl _) (Nat.le_of_ble_eq_true rfl) (fun K hK hret => ?_)
  show K 0 [some (.inr (.inr a0)), some (.inl x1), none, none, none] [] h
  unfold f_Ou_firmCells at hm
  refine ia_go hK ck_Ou_firmCells_0 ?_
  show K 5 [some (.inr (.inr a0)), some (.inl x1), some (.inr (.inl 0)), none, some (.inl 0)] [] h
  refine tl_Ou_firmCells_5 hK hg p0 hret ?_ fu_ 0 0 hm
  · intro y2 hm
    refine ia_go hK ck_Ou_firmCells_49 ?_
    show K 51 [some (.inr (.inr a0)), none, some (.inr (.inl y2)), none, none] [.inr (.inr a0), .inr (.inl y2)] h
    obtain ⟨v5, hv5, hm⟩ := ia_bnd hm
    have ev5 := t_Sc_shopCells (d + 0) hg p0 hv5
    refine ia_cV hK mk_Sc_shopCells lk_5_125 dc_Ou_firmCells_51 a0 [] [.inr (.inl y2)] rfl rfl (Nat.le_of_ble_eq_true rfl) (by decide) rfl (gk_9 hg p0) ev5 ⟨rfl, rfl⟩ ?_
    show K 54 [some (.inr (.inr a0)), none, some (.inr (.inl y2)), none, none] [.inr (.inl v5), .inr (.inl y2)] h
    refine ia_ldc2 hK (v := (-1)) (ia_tb_in (List.mem_of_getElem? (i := 1324) (by decide +kernel)) rfl) dc_Ou_firmCells_54 ?_
    show K 57 [some (.inr (.inr a0)), none, some (.inr (.inl y2)), none, none] [.inr (.inl (-1)), .inr (.inl v5), .inr (.inl y2)] h
    refine ia_go hK ck_Ou_firmCells_57 ?_
    show K 59 [some (.inr (.inr a0)), none, some (.inr (.inl y2)), none, none] [.inr (.inl (y2 &&& (v5 ^^^ (-1))))] h
    cases hm
    exact hret 59 _ dc_Ou_firmCells_59
def mm_Ou_blocksOf : ia_M := (⟨"IceStreet$Outlook", "blocksOf", "(LIceStreet$Scene;JII)J"⟩, prog_6_method_9_code, 13, (some .long), 5, false)
theorem ok_Ou_blocksOf : ia_mok mm_Ou_blocksOf := ⟨by decide +kernel, by decide +kernel, by decide +kernel, by decide +kernel⟩
theorem mk_Ou_blocksOf : ia_mkn mm_Ou_blocksOf 0 4 := ⟨ia_tb_in (List.mem_of_getElem? (i := 1327) (by decide +kernel)) rfl, ia_tb_in (List.mem_of_getElem? (i := 143) (by decide +kernel)) rfl, by decide +kernel, by decide +kernel, ia_tb_in (List.mem_of_getElem? (i := 1326) (by decide +kernel)) rfl⟩
theorem ck_Ou_blocksOf_0 : ia_cks 5 13 false prog_6_method_9_code 0 [(.aload_n 0, 0, 0, 0, 0), (.getfield 69, 9, 0, 2, 0), (.getfield 131, 3, 0, 0, 0), (.istore 5, 0, 0, 0, 0), (.lconst 0, 0, 0, 0, 0), (.lstore 6, 0, 0, 0, 0), (.iconst 0, 0, 0, 0, 0), (.istore 8, 0, 0, 0, 0)] = true := by decide +kernel
theorem ck_Ou_blocksOf_15 : ia_cks 5 13 false prog_6_method_9_code 15 [(.iload 8, 0, 0, 0, 0), (.iload 4, 0, 0, 0, 0), (.if_icmp .ge 40, 0, 0, 0, 0)] = true := by decide +kernel
theorem ck_Ou_blocksOf_22 : ia_cks 5 13 false prog_6_method_9_code 22 [(.iconst 0, 0, 0, 0, 0), (.istore 9, 0, 0, 0, 0)] = true := by decide +kernel
theorem ck_Ou_blocksOf_25 : ia_cks 5 13 false prog_6_method_9_code 25 [(.iload 9, 0, 0, 0, 0), (.iload_n 3, 0, 0, 0, 0), (.if_icmp .ge 25, 0, 0, 0, 0)] = true := by decide +kernel
theorem ck_Ou_blocksOf_31 : ia_cks 5 13 false prog_6_method_9_code 31 [(.lload 6, 0, 0, 0, 0), (.iload 8, 0, 0, 0, 0), (.iload 5, 0, 0, 0, 0), (.imul, 0, 0, 0, 0), (.iload 9, 0, 0, 0, 0), (.iadd, 0, 0, 0, 0)] = true := by decide +kernel
theorem ck_Ou_blocksOf_44 : ia_cks 5 13 false prog_6_method_9_code 44 [(.lor, 0, 0, 0, 0), (.lstore 6, 0, 0, 0, 0), (.iinc 9 1, 0, 0, 0, 0), (.goto (-25), 0, 0, 0, 0)] = true := by decide +kernel
theorem ck_Ou_blocksOf_53 : ia_cks 5 13 false prog_6_method_9_code 53 [(.iinc 8 1, 0, 0, 0, 0), (.goto (-41), 0, 0, 0, 0)] = true := by decide +kernel
theorem ck_Ou_blocksOf_59 : ia_cks 5 13 false prog_6_method_9_code 59 [(.lconst 0, 0, 0, 0, 0), (.lstore 8, 0, 0, 0, 0), (.iconst 0, 0, 0, 0, 0), (.istore 10, 0, 0, 0, 0)] = true := by decide +kernel
theorem ck_Ou_blocksOf_65 : ia_cks 5 13 false prog_6_method_9_code 65 [(.iload 10, 0, 0, 0, 0), (.iload 4, 0, 0, 0, 0), (.iadd, 0, 0, 0, 0), (.aload_n 0, 0, 0, 0, 0), (.getfield 69, 9, 0, 2, 0), (.getfield 134, 3, 1, 0, 0), (.if_icmp .gt 63, 0, 0, 0, 0)] = true := by decide +kernel
theorem ck_Ou_blocksOf_80 : ia_cks 5 13 false prog_6_method_9_code 80 [(.iconst 0, 0, 0, 0, 0), (.istore 11, 0, 0, 0, 0)] = true := by decide +kernel
theorem ck_Ou_blocksOf_83 : ia_cks 5 13 false prog_6_method_9_code 83 [(.iload 11, 0, 0, 0, 0), (.iload_n 3, 0, 0, 0, 0), (.iadd, 0, 0, 0, 0), (.iload 5, 0, 0, 0, 0), (.if_icmp .gt 45, 0, 0, 0, 0)] = true := by decide +kernel
theorem ck_Ou_blocksOf_92 : ia_cks 5 13 false prog_6_method_9_code 92 [(.iload 10, 0, 0, 0, 0), (.iload 5, 0, 0, 0, 0), (.imul, 0, 0, 0, 0), (.iload 11, 0, 0, 0, 0), (.iadd, 0, 0, 0, 0), (.istore 12, 0, 0, 0, 0), (.lload 6, 0, 0, 0, 0), (.iload 12, 0, 0, 0, 0), (.lshl, 0, 0, 0, 0), (.lload_n 1, 0, 0, 0, 0)] = true := by decide +kernel
theorem ck_Ou_blocksOf_111 : ia_cks 5 13 false prog_6_method_9_code 111 [(.lxor, 0, 0, 0, 0), (.land, 0, 0, 0, 0), (.lconst 0, 0, 0, 0, 0), (.lcmp, 0, 0, 0, 0), (.ifCond .ne 13, 0, 0, 0, 0)] = true := by decide +kernel
theorem ck_Ou_blocksOf_128 : ia_cks 5 13 false prog_6_method_9_code 128 [(.iinc 11 1, 0, 0, 0, 0), (.goto (-48), 0, 0, 0, 0)] = true := by decide +kernel
theorem ck_Ou_blocksOf_118 : ia_cks 5 13 false prog_6_method_9_code 118 [(.lload 8, 0, 0, 0, 0), (.iload 12, 0, 0, 0, 0)] = true := by decide +kernel
theorem ck_Ou_blocksOf_125 : ia_cks 5 13 false prog_6_method_9_code 125 [(.lor, 0, 0, 0, 0), (.lstore 8, 0, 0, 0, 0), (.iinc 11 1, 0, 0, 0, 0), (.goto (-48), 0, 0, 0, 0)] = true := by decide +kernel
theorem ck_Ou_blocksOf_134 : ia_cks 5 13 false prog_6_method_9_code 134 [(.iinc 10 1, 0, 0, 0, 0), (.goto (-72), 0, 0, 0, 0)] = true := by decide +kernel
theorem ck_Ou_blocksOf_140 : ia_cks 5 13 false prog_6_method_9_code 140 [(.lload 8, 0, 0, 0, 0)] = true := by decide +kernel
theorem dc_Ou_blocksOf_41 : decode prog_6_method_9_code 41 = .ok (.invokestatic 65, 3) := by decide +kernel
theorem dc_Ou_blocksOf_108 : decode prog_6_method_9_code 108 = .ok (.ldc2_w 129, 3) := by decide +kernel
theorem dc_Ou_blocksOf_122 : decode prog_6_method_9_code 122 = .ok (.invokestatic 65, 3) := by decide +kernel
theorem dc_Ou_blocksOf_142 : decode prog_6_method_9_code 142 = .ok (.lreturn, 1) := by decide +kernel
def l_Ou_blocksOf_25 (a0 : Nat) (y1 : Int64) (x3 : Int32) (x4 : Int32) (h : ia_H) (k53 : Int32 → Int64 → Int32 → Option Int64) (n : Nat) (x5 : Int32) (y6 : Int64) (x8 : Int32) (x9 : Int32) : Option Int64 := match n with
  | 0 => none
  | n + 1 => if x3 ≤ x9 then (k53 x5 y6 x8) else ((f_I_bit ((x8 * x5) + x9) h).bind fun v1 => (l_Ou_blocksOf_25 a0 y1 x3 x4 h k53 n x5 (y6 ||| v1) x8 (x9 + 1)))
theorem tl_Ou_blocksOf_25 {d N1 W1 : Nat} {K : ia_K} (hK : ia_isK (d + 1) mm_Ou_blocksOf N1 W1 K) {a0 : Nat} {y1 : Int64} {x3 : Int32} {x4 : Int32} {h : ia_H} (hg : gd_ h) (p0 : (kd_D a0).1 = 9) {r : Int64} (hret : ∀ (pc : Nat) (lv : ia_L), ia_ret mm_Ou_blocksOf pc (some (.inr (.inl r))) → K pc lv ((some (.inr (.inl r))) : Option ia_V).toList h) {k53 : Int32 → Int64 → Int32 → Option Int64} (hk53 : ∀ (x5 : Int32) (y6 : Int64) (x8 : Int32), k53 x5 y6 x8 = some r → K 53 [some (.inr (.inr a0)), some (.inr (.inl y1)), none, some (.inl x3), some (.inl x4), some (.inl x5), some (.inr (.inl y6)), none, some (.inl x8), none, none, none, none] [] h) : ∀ (n : Nat) (x5 : Int32) (y6 : Int64) (x8 : Int32) (x9 : Int32), l_Ou_blocksOf_25 a0 y1 x3 x4 h k53 n x5 y6 x8 x9 = some r → K 25 [some (.inr (.inr a0)), some (.inr (.inl y1)), none, some (.inl x3), some (.inl x4), some (.inl x5), some (.inr (.inl y6)), none, some (.inl x8), some (.inl x9), none, none, none] [] h := by
  intro n
  induction n with
  | zero =>
    intro x5 y6 x8 x9 hm
    cases (show (none : Option Int64) = some _ from hm)
  | succ n ih =>
    intro x5 y6 x8 x9 hm
    rw [l_Ou_blocksOf_25] at hm
    refine ia_go hK ck_Ou_blocksOf_25 ⟨fun c => ?_, fun c => ?_⟩
    · replace hm := ia_ifp hm c
      show K 53 [some (.inr (.inr a0)), some (.inr (.inl y1)), none, some (.inl x3), some (.inl x4), some (.inl x5), some (.inr (.inl y6)), none, some (.inl x8), some (.inl x9), none, none, none] [] h
      refine ia_fg hK (lv' := [some (.inr (.inr a0)), some (.inr (.inl y1)), none, some (.inl x3), some (.inl x4), some (.inl x5), some (.inr (.inl y6)), none, some (.inl x8), none, none, none, none]) ⟨rfl, rfl, rfl, rfl, rfl, rfl, rfl, trivial⟩ ?_
      exact hk53 x5 y6 x8 hm
    · replace hm := ia_ifn hm c
      show K 31 [some (.inr (.inr a0)), some (.inr (.inl y1)), none, some (.inl x3), some (.inl x4), some (.inl x5), some (.inr (.inl y6)), none, some (.inl x8), some (.inl x9), none, none, none] [] h
      refine ia_go hK ck_Ou_blocksOf_31 ?_
      show K 41 [some (.inr (.inr a0)), some (.inr (.inl y1)), none, some (.inl x3), some (.inl x4), some (.inl x5), some (.inr (.inl y6)), none, some (.inl x8), some (.inl x9), none, none, none] [.inl ((x8 * x5) + x9), .inr (.inl y6)] h
      obtain ⟨v1, hv1, hm⟩ := ia_bnd hm
      have ev1 := t_I_bit (d + 0) hg hv1
      refine ia_cS hK mk_I_bit lk_5_65 dc_Ou_blocksOf_41 [.inl ((x8 * x5) + x9)] [.inr (.inl y6)] rfl rfl (Nat.le_of_ble_eq_true rfl) ev1 ⟨rfl, rfl⟩ ?_
      show K 44 [some (.inr (.inr a0)), some (.inr (.inl y1)), none, some (.inl x3), some (.inl x4), some (.inl x5), some (.inr (.inl y6)), none, some (.inl x8), some (.inl x9), none, none, none] [.inr (.inl v1), .inr (.inl y6)] h
      refine ia_go hK ck_Ou_blocksOf_44 ?_
      show K 25 [some (.inr (.inr a0)), some (.inr (.inl y1)), none, some (.inl x3), some (.inl x4), some (.inl x5), some (.inr (.inl (y6 ||| v1))), none, some (.inl x8), some (.inl (x9 + 1)), none, none, none] [] h
      exact ih x5 (y6 ||| v1) x8 (x9 + 1) hm
def l_Ou_blocksOf_15 (a0 : Nat) (y1 : Int64) (x3 : Int32) (x4 : Int32) (h : ia_H) (k59 : Int32 → Int64 → Option Int64) (n : Nat) (x5 : Int32) (y6 : Int64) (x8 : Int32) : Option Int64 := match n with
  | 0 => none
  | n + 1 => if x4 ≤ x8 then (k59 x5 y6) else (l_Ou_blocksOf_25 a0 y1 x3 x4 h (fun x5 y6 x8 => l_Ou_blocksOf_15 a0 y1 x3 x4 h k59 n x5 y6 (x8 + 1)) fu_ x5 y6 x8 0)
theorem tl_Ou_blocksOf_15 {d N1 W1 : Nat} {K : ia_K} (hK : ia_isK (d + 1) mm_Ou_blocksOf N1 W1 K) {a0 : Nat} {y1 : Int64} {x3 : Int32} {x4 : Int32} {h : ia_H} (hg : gd_ h) (p0 : (kd_D a0).1 = 9) {r : Int64} (hret : ∀ (pc : Nat) (lv : ia_L), ia_ret mm_Ou_blocksOf pc (some (.inr (.inl r))) → K pc lv ((some (.inr (.inl r))) : Option ia_V).toList h) {k59 : Int32 → Int64 → Option Int64} (hk59 : ∀ (x5 : Int32) (y6 : Int64), k59 x5 y6 = some r → K 59 [some (.inr (.inr a0)), some (.inr (.inl y1)), none, some (.inl x3), some (.inl x4), some (.inl x5), some (.inr (.inl y6)), none, none, none, none, none, none] [] h) : ∀ (n : Nat) (x5 : Int32) (y6 : Int64) (x8 : Int32), l_Ou_blocksOf_15 a0 y1 x3 x4 h k59 n x5 y6 x8 = some r → K 15 [some (.inr (.inr a0)), some (.inr (.inl y1)), none, some (.inl x3), some (.inl x4), some (.inl x5), some (.inr (.inl y6)), none, some (.inl x8), none, none, none, none] [] h := by
  intro n
  induction n with
  | zero =>
    intro x5 y6 x8 hm
    cases (show (none : Option Int64) = some _ from hm)
  | succ n ih =>
    intro x5 y6 x8 hm
    rw [l_Ou_blocksOf_15] at hm
    refine ia_go hK ck_Ou_blocksOf_15 ⟨fun c => ?_, fun c => ?_⟩
    · replace hm := ia_ifp hm c
      show K 59 [some (.inr (.inr a0)), some (.inr (.inl y1)), none, some (.inl x3), some (.inl x4), some (.inl x5), some (.inr (.inl y6)), none, some (.inl x8), none, none, none, none] [] h
      refine ia_fg hK (lv' := [some (.inr (.inr a0)), some (.inr (.inl y1)), none, some (.inl x3), some (.inl x4), some (.inl x5), some (.inr (.inl y6)), none, none, none, none, none, none]) ⟨rfl, rfl, rfl, rfl, rfl, rfl, trivial⟩ ?_
      exact hk59 x5 y6 hm
    · replace hm := ia_ifn hm c
      show K 22 [some (.inr (.inr a0)), some (.inr (.inl y1)), none, some (.inl x3), some (.inl x4), some (.inl x5), some (.inr (.inl y6)), none, some (.inl x8), none, none, none, none] [] h
      refine ia_go hK ck_Ou_blocksOf_22 ?_
      show K 25 [some (.inr (.inr a0)), some (.inr (.inl y1)), none, some (.inl x3), some (.inl x4), some (.inl x5), some (.inr (.inl y6)), none, some (.inl x8), some (.inl 0), none, none, none] [] h
      refine tl_Ou_blocksOf_25 hK hg p0 hret ?_ fu_ x5 y6 x8 0 hm
      · intro x5 y6 x8 hm
        refine ia_go hK ck_Ou_blocksOf_53 ?_
        show K 15 [some (.inr (.inr a0)), some (.inr (.inl y1)), none, some (.inl x3), some (.inl x4), some (.inl x5), some (.inr (.inl y6)), none, some (.inl (x8 + 1)), none, none, none, none] [] h
        exact ih x5 y6 (x8 + 1) hm
def l_Ou_blocksOf_83 (a0 : Nat) (y1 : Int64) (x3 : Int32) (x4 : Int32) (h : ia_H) (k134 : Int32 → Int64 → Int64 → Int32 → Option Int64) (n : Nat) (x5 : Int32) (y6 : Int64) (y8 : Int64) (x10 : Int32) (x11 : Int32) : Option Int64 := match n with
  | 0 => none
  | n + 1 => if x5 < (x11 + x3) then (k134 x5 y6 y8 x10) else (if (lg_cmp ((y6 <<< (((x10 * x5) + x11).toInt64 &&& 63)) &&& (y1 ^^^ (-1))) 0) = 0 then ((f_I_bit ((x10 * x5) + x11) h).bind fun v2 => (l_Ou_blocksOf_83 a0 y1 x3 x4 h k134 n x5 y6 (y8 ||| v2) x10 (x11 + 1))) else (l_Ou_blocksOf_83 a0 y1 x3 x4 h k134 n x5 y6 y8 x10 (x11 + 1)))
theorem tl_Ou_blocksOf_83 {d N1 W1 : Nat} {K : ia_K} (hK : ia_isK (d + 1) mm_Ou_blocksOf N1 W1 K) {a0 : Nat} {y1 : Int64} {x3 : Int32} {x4 : Int32} {h : ia_H} (hg : gd_ h) (p0 : (kd_D a0).1 = 9) {r : Int64} (hret : ∀ (pc : Nat) (lv : ia_L), ia_ret mm_Ou_blocksOf pc (some (.inr (.inl r))) → K pc lv ((some (.inr (.inl r))) : Option ia_V).toList h) {k134 : Int32 → Int64 → Int64 → Int32 → Option Int64} (hk134 : ∀ (x5 : Int32) (y6 : Int64) (y8 : Int64) (x10 : Int32), k134 x5 y6 y8 x10 = some r → K 134 [some (.inr (.inr a0)), some (.inr (.inl y1)), none, some (.inl x3), some (.inl x4), some (.inl x5), some (.inr (.inl y6)), none, some (.inr (.inl y8)), none, some (.inl x10), none, none] [] h) : ∀ (n : Nat) (x5 : Int32) (y6 : Int64) (y8 : Int64) (x10 : Int32) (x11 : Int32), l_Ou_blocksOf_83 a0 y1 x3 x4 h k134 n x5 y6 y8 x10 x11 = some r → K 83 [some (.inr (.inr a0)), some (.inr (.inl y1)), none, some (.inl x3), some (.inl x4), some (.inl x5), some (.inr (.inl y6)), none, some (.inr (.inl y8)), none, some (.inl x10), some (.inl x11), none] [] h := by
  intro n
  induction n with
  | zero =>
    intro x5 y6 y8 x10 x11 hm
    cases (show (none : Option Int64) = some _ from hm)
  | succ n ih =>
    intro x5 y6 y8 x10 x11 hm
    rw [l_Ou_blocksOf_83] at hm
    refine ia_go hK ck_Ou_blocksOf_83 ⟨fun c => ?_, fun c => ?_⟩
    · replace hm := ia_ifp hm c
      show K 134 [some (.inr (.inr a0)), some (.inr (.inl y1)), none, some (.inl x3), some (.inl x4), some (.inl x5), some (.inr (.inl y6)), none, some (.inr (.inl y8)), none, some (.inl x10), some (.inl x11), none] [] h
      refine ia_fg hK (lv' := [some (.inr (.inr a0)), some (.inr (.inl y1)), none, some (.inl x3), some (.inl x4), some (.inl x5), some (.inr (.inl y6)), none, some (.inr (.inl y8)), none, some (.inl x10), none, none]) ⟨rfl, rfl, rfl, rfl, rfl, rfl, rfl, rfl, trivial⟩ ?_
      exact hk134 x5 y6 y8 x10 hm
    · replace hm := ia_ifn hm c
      show K 92 [some (.inr (.inr a0)), some (.inr (.inl y1)), none, some (.inl x3), some (.inl x4), some (.inl x5), some (.inr (.inl y6)), none, some (.inr (.inl y8)), none, some (.inl x10), some (.inl x11), none] [] h
      refine ia_go hK ck_Ou_blocksOf_92 ?_
      show K 108 [some (.inr (.inr a0)), some (.inr (.inl y1)), none, some (.inl x3), some (.inl x4), some (.inl x5), some (.inr (.inl y6)), none, some (.inr (.inl y8)), none, some (.inl x10), some (.inl x11), some (.inl ((x10 * x5) + x11))] [.inr (.inl y1), .inr (.inl (y6 <<< (((x10 * x5) + x11).toInt64 &&& 63)))] h
      refine ia_ldc2 hK (v := (-1)) (ia_tb_in (List.mem_of_getElem? (i := 1324) (by decide +kernel)) rfl) dc_Ou_blocksOf_108 ?_
      show K 111 [some (.inr (.inr a0)), some (.inr (.inl y1)), none, some (.inl x3), some (.inl x4), some (.inl x5), some (.inr (.inl y6)), none, some (.inr (.inl y8)), none, some (.inl x10), some (.inl x11), some (.inl ((x10 * x5) + x11))] [.inr (.inl (-1)), .inr (.inl y1), .inr (.inl (y6 <<< (((x10 * x5) + x11).toInt64 &&& 63)))] h
      refine ia_go hK ck_Ou_blocksOf_111 ⟨fun c => ?_, fun c => ?_⟩
      · replace hm := ia_ifn hm c
        show K 128 [some (.inr (.inr a0)), some (.inr (.inl y1)), none, some (.inl x3), some (.inl x4), some (.inl x5), some (.inr (.inl y6)), none, some (.inr (.inl y8)), none, some (.inl x10), some (.inl x11), some (.inl ((x10 * x5) + x11))] [] h
        refine ia_go hK ck_Ou_blocksOf_128 ?_
        show K 83 [some (.inr (.inr a0)), some (.inr (.inl y1)), none, some (.inl x3), some (.inl x4), some (.inl x5), some (.inr (.inl y6)), none, some (.inr (.inl y8)), none, some (.inl x10), some (.inl (x11 + 1)), some (.inl ((x10 * x5) + x11))] [] h
        refine ia_fg hK (lv' := [some (.inr (.inr a0)), some (.inr (.inl y1)), none, some (.inl x3), some (.inl x4), some (.inl x5), some (.inr (.inl y6)), none, some (.inr (.inl y8)), none, some (.inl x10), some (.inl (x11 + 1)), none]) ⟨rfl, rfl, rfl, rfl, rfl, rfl, rfl, rfl, rfl, trivial⟩ ?_
        exact ih x5 y6 y8 x10 (x11 + 1) hm
      · replace hm := ia_ifp hm c
        show K 118 [some (.inr (.inr a0)), some (.inr (.inl y1)), none, some (.inl x3), some (.inl x4), some (.inl x5), some (.inr (.inl y6)), none, some (.inr (.inl y8)), none, some (.inl x10), some (.inl x11), some (.inl ((x10 * x5) + x11))] [] h
        refine ia_go hK ck_Ou_blocksOf_118 ?_
        show K 122 [some (.inr (.inr a0)), some (.inr (.inl y1)), none, some (.inl x3), some (.inl x4), some (.inl x5), some (.inr (.inl y6)), none, some (.inr (.inl y8)), none, some (.inl x10), some (.inl x11), some (.inl ((x10 * x5) + x11))] [.inl ((x10 * x5) + x11), .inr (.inl y8)] h
        obtain ⟨v2, hv2, hm⟩ := ia_bnd hm
        have ev2 := t_I_bit (d + 0) hg hv2
        refine ia_cS hK mk_I_bit lk_5_65 dc_Ou_blocksOf_122 [.inl ((x10 * x5) + x11)] [.inr (.inl y8)] rfl rfl (Nat.le_of_ble_eq_true rfl) ev2 ⟨rfl, rfl⟩ ?_
        show K 125 [some (.inr (.inr a0)), some (.inr (.inl y1)), none, some (.inl x3), some (.inl x4), some (.inl x5), some (.inr (.inl y6)), none, some (.inr (.inl y8)), none, some (.inl x10), some (.inl x11), some (.inl ((x10 * x5) + x11))] [.inr (.inl v2), .inr (.inl y8)] h
        refine ia_go hK ck_Ou_blocksOf_125 ?_
        show K 83 [some (.inr (.inr a0)), some (.inr (.inl y1)), none, some (.inl x3), some (.inl x4), some (.inl x5), some (.inr (.inl y6)), none, some (.inr (.inl (y8 ||| v2))), none, some (.inl x10), some (.inl (x11 + 1)), some (.inl ((x10 * x5) + x11))] [] h
        refine ia_fg hK (lv' := [some (.inr (.inr a0)), some (.inr (.inl y1)), none, some (.inl x3), some (.inl x4), some (.inl x5), some (.inr (.inl y6)), none, some (.inr (.inl (y8 ||| v2))), none, some (.inl x10), some (.inl (x11 + 1)), none]) ⟨rfl, rfl, rfl, rfl, rfl, rfl, rfl, rfl, rfl, trivial⟩ ?_
        exact ih x5 y6 (y8 ||| v2) x10 (x11 + 1) hm
def l_Ou_blocksOf_65 (a0 : Nat) (y1 : Int64) (x3 : Int32) (x4 : Int32) (h : ia_H) (k140 : Int64 → Option Int64) (n : Nat) (x5 : Int32) (y6 : Int64) (y8 : Int64) (x10 : Int32) : Option Int64 := match n with
  | 0 => none
  | n + 1 => if (ia_i h (ia_r h a0 0) 1) < (x10 + x4) then (k140 y8) else (l_Ou_blocksOf_83 a0 y1 x3 x4 h (fun x5 y6 y8 x10 => l_Ou_blocksOf_65 a0 y1 x3 x4 h k140 n x5 y6 y8 (x10 + 1)) fu_ x5 y6 y8 x10 0)
theorem tl_Ou_blocksOf_65 {d N1 W1 : Nat} {K : ia_K} (hK : ia_isK (d + 1) mm_Ou_blocksOf N1 W1 K) {a0 : Nat} {y1 : Int64} {x3 : Int32} {x4 : Int32} {h : ia_H} (hg : gd_ h) (p0 : (kd_D a0).1 = 9) {r : Int64} (hret : ∀ (pc : Nat) (lv : ia_L), ia_ret mm_Ou_blocksOf pc (some (.inr (.inl r))) → K pc lv ((some (.inr (.inl r))) : Option ia_V).toList h) {k140 : Int64 → Option Int64} (hk140 : ∀ (y8 : Int64), k140 y8 = some r → K 140 [none, none, none, none, none, none, none, none, some (.inr (.inl y8)), none, none, none, none] [] h) : ∀ (n : Nat) (x5 : Int32) (y6 : Int64) (y8 : Int64) (x10 : Int32), l_Ou_blocksOf_65 a0 y1 x3 x4 h k140 n x5 y6 y8 x10 = some r → K 65 [some (.inr (.inr a0)), some (.inr (.inl y1)), none, some (.inl x3), some (.inl x4), some (.inl x5), some (.inr (.inl y6)), none, some (.inr (.inl y8)), none, some (.inl x10), none, none] [] h := by
  intro n
  induction n with
  | zero =>
    intro x5 y6 y8 x10 hm
    cases (show (none : Option Int64) = some _ from hm)
  | succ n ih =>
    intro x5 y6 y8 x10 hm
    rw [l_Ou_blocksOf_65] at hm
    refine ia_go hK ck_Ou_blocksOf_65 ⟨gk_9 hg p0, gk_3 hg (gm_9_0 hg p0), fun c => ?_, fun c => ?_⟩
    · replace hm := ia_ifp hm c
      show K 140 [some (.inr (.inr a0)), some (.inr (.inl y1)), none, some (.inl x3), some (.inl x4), some (.inl x5), some (.inr (.inl y6)), none, some (.inr (.inl y8)), none, some (.inl x10), none, none] [] h
      refine ia_fg hK (lv' := [none, none, none, none, none, none, none, none, some (.inr (.inl y8)), none, none, none, none]) ⟨rfl, trivial⟩ ?_
      exact hk140 y8 hm
    · replace hm := ia_ifn hm c
      show K 80 [some (.inr (.inr a0)), some (.inr (.inl y1)), none, some (.inl x3), some (.inl x4), some (.inl x5), some (.inr (.inl y6)), none, some (.inr (.inl y8)), none, some (.inl x10), none, none] [] h
      refine ia_go hK ck_Ou_blocksOf_80 ?_
      show K 83 [some (.inr (.inr a0)), some (.inr (.inl y1)), none, some (.inl x3), some (.inl x4), some (.inl x5), some (.inr (.inl y6)), none, some (.inr (.inl y8)), none, some (.inl x10), some (.inl 0), none] [] h
      refine tl_Ou_blocksOf_83 hK hg p0 hret ?_ fu_ x5 y6 y8 x10 0 hm
      · intro x5 y6 y8 x10 hm
        refine ia_go hK ck_Ou_blocksOf_134 ?_
        show K 65 [some (.inr (.inr a0)), some (.inr (.inl y1)), none, some (.inl x3), some (.inl x4), some (.inl x5), some (.inr (.inl y6)), none, some (.inr (.inl y8)), none, some (.inl (x10 + 1)), none, none] [] h
        exact ih x5 y6 y8 (x10 + 1) hm
def f_Ou_blocksOf (a0 : Nat) (y1 : Int64) (x3 : Int32) (x4 : Int32) (h : ia_H) : Option Int64 := l_Ou_blocksOf_15 a0 y1 x3 x4 h (fun x5 y6 => l_Ou_blocksOf_65 a0 y1 x3 x4 h (fun y8 => some y8) fu_ x5 y6 0 0) fu_ (ia_i h (ia_r h a0 0) 0) 0 0
theorem t_Ou_blocksOf (d : Nat) {a0 : Nat} {y1 : Int64} {x3 : Int32} {x4 : Int32} {h : ia_H} (hg : gd_ h) (p0 : (kd_D a0).1 = 9) {r : Int64} (hm : f_Ou_blocksOf a0 y1 x3 x4 h = some r) : ia_Ev (d + 1) mm_Ou_blocksOf [.inr (.inr a0), .inr (.inl y1), .inl x3, .inl x4] h (some (.inr (.inl r))) h := by
  refine ia_Ev_intro ok_Ou_blocksOf (Nat.le_refl _) (Nat.le_refl _) (Nat.le_of_ble_eq_true rfl) (fun K hK hret => ?_)
  show K 0 [some (.inr (.inr a0)), some (.inr (.inl y1)), none, some (.inl x3), some (.inl x4), none, none, none, none, none, none, none, none] [] h
  unfold f_Ou_blocksOf at hm
  refine ia_go hK ck_Ou_blocksOf_0 ⟨gk_9 hg p0, gk_3 hg (gm_9_0 hg p0), ?_⟩
  show K 15 [some (.inr (.inr a0)), some (.inr (.inl y1)), none, some (.inl x3), some (.inl x4), some (.inl (ia_i h (ia_r h a0 0) 0)), some (.inr (.inl 0)), none, some (.inl 0), none, none, none, none] [] h
  refine tl_Ou_blocksOf_15 hK hg p0 hret ?_ fu_ (ia_i h (ia_r h a0 0) 0) 0 0 hm
  · intro x5 y6 hm
    refine ia_go hK ck_Ou_blocksOf_59 ?_
    show K 65 [some (.inr (.inr a0)), some (.inr (.inl y1)), none, some (.inl x3), some (.inl x4), some (.inl x5), some (.inr (.inl y6)), none, some (.inr (.inl 0)), none, some (.inl 0), none, none] [] h
    refine tl_Ou_blocksOf_65 hK hg p0 hret ?_ fu_ x5 y6 0 0 hm
    · intro y8 hm
      refine ia_go hK ck_Ou_blocksOf_140 ?_
      show K 142 [none, none, none, none, none, none, none, none, some (.inr (.inl y8)), none, none, none, none] [.inr (.inl y8)] h
      cases hm
      exact hret 142 _ dc_Ou_blocksOf_142
def mm_I_lowestBit : ia_M := (⟨"IceStreet", "lowestBit", "(J)I"⟩, prog_1_method_47_code, 3, (some .int), 0, false)
theorem ok_I_lowestBit : ia_mok mm_I_lowestBit := ⟨by decide +kernel, by decide +kernel, by decide +kernel, by decide +kernel⟩
theorem mk_I_lowestBit : ia_mkn mm_I_lowestBit 0 1 := ⟨ia_tb_in (List.mem_of_getElem? (i := 1331) (by decide +kernel)) rfl, ia_tb_in (List.mem_of_getElem? (i := 133) (by decide +kernel)) rfl, by decide +kernel, by decide +kernel, ia_tb_in (List.mem_of_getElem? (i := 1330) (by decide +kernel)) rfl⟩
theorem ck_I_lowestBit_0 : ia_cks 0 3 false prog_1_method_47_code 0 [(.iconst 0, 0, 0, 0, 0), (.istore_n 2, 0, 0, 0, 0)] = true := by decide +kernel
theorem ck_I_lowestBit_2 : ia_cks 0 3 false prog_1_method_47_code 2 [(.iload_n 2, 0, 0, 0, 0), (.bipush 36, 0, 0, 0, 0), (.if_icmp .ge 19, 0, 0, 0, 0)] = true := by decide +kernel
theorem ck_I_lowestBit_8 : ia_cks 0 3 false prog_1_method_47_code 8 [(.lload_n 0, 0, 0, 0, 0), (.iload_n 2, 0, 0, 0, 0)] = true := by decide +kernel
theorem ck_I_lowestBit_13 : ia_cks 0 3 false prog_1_method_47_code 13 [(.ifCond .eq 5, 0, 0, 0, 0)] = true := by decide +kernel
theorem ck_I_lowestBit_18 : ia_cks 0 3 false prog_1_method_47_code 18 [(.iinc 2 1, 0, 0, 0, 0), (.goto (-19), 0, 0, 0, 0)] = true := by decide +kernel
theorem ck_I_lowestBit_16 : ia_cks 0 3 false prog_1_method_47_code 16 [(.iload_n 2, 0, 0, 0, 0)] = true := by decide +kernel
theorem ck_I_lowestBit_24 : ia_cks 0 3 false prog_1_method_47_code 24 [(.iconst (-1), 0, 0, 0, 0)] = true := by decide +kernel
theorem dc_I_lowestBit_10 : decode prog_1_method_47_code 10 = .ok (.invokestatic 199, 3) := by decide +kernel
theorem dc_I_lowestBit_17 : decode prog_1_method_47_code 17 = .ok (.ireturn, 1) := by decide +kernel
theorem dc_I_lowestBit_25 : decode prog_1_method_47_code 25 = .ok (.ireturn, 1) := by decide +kernel
def l_I_lowestBit_2 (y0 : Int64) (h : ia_H) (k16 : Int32 → Option Int32) (k24 : Option Int32) (n : Nat) (x2 : Int32) : Option Int32 := match n with
  | 0 => none
  | n + 1 => if 36 ≤ x2 then k24 else ((f_I_hasBit y0 x2 h).bind fun v1 => (if v1 = 0 then (l_I_lowestBit_2 y0 h k16 k24 n (x2 + 1)) else (k16 x2)))
theorem tl_I_lowestBit_2 {d N1 W1 : Nat} {K : ia_K} (hK : ia_isK (d + 1) mm_I_lowestBit N1 W1 K) {y0 : Int64} {h : ia_H} (hg : gd_ h) {r : Int32} (hret : ∀ (pc : Nat) (lv : ia_L), ia_ret mm_I_lowestBit pc (some (.inl r)) → K pc lv ((some (.inl r)) : Option ia_V).toList h) {k16 : Int32 → Option Int32} {k24 : Option Int32} (hk16 : ∀ (x2 : Int32), k16 x2 = some r → K 16 [none, none, some (.inl x2)] [] h) (hk24 : k24 = some r → K 24 [none, none, none] [] h) : ∀ (n : Nat) (x2 : Int32), l_I_lowestBit_2 y0 h k16 k24 n x2 = some r → K 2 [some (.inr (.inl y0)), none, some (.inl x2)] [] h := by
  intro n
  induction n with
  | zero =>
    intro x2 hm
    cases (show (none : Option Int32) = some _ from hm)
  | succ n ih =>
    intro x2 hm
    rw [l_I_lowestBit_2] at hm
    refine ia_go hK ck_I_lowestBit_2 ⟨fun c => ?_, fun c => ?_⟩
    · replace hm := ia_ifp hm c
      show K 24 [some (.inr (.inl y0)), none, some (.inl x2)] [] h
      refine ia_fg hK (lv' := [none, none, none]) trivial ?_
      exact hk24 hm
    · replace hm := ia_ifn hm c
      show K 8 [some (.inr (.inl y0)), none, some (.inl x2)] [] h
      refine ia_go hK ck_I_lowestBit_8 ?_
      show K 10 [some (.inr (.inl y0)), none, some (.inl x2)] [.inl x2, .inr (.inl y0)] h
      obtain ⟨v1, hv1, hm⟩ := ia_bnd hm
      have ev1 := t_I_hasBit (d + 0) hg hv1
      refine ia_cS hK mk_I_hasBit lk_0_199 dc_I_lowestBit_10 [.inr (.inl y0), .inl x2] [] rfl rfl (Nat.le_of_ble_eq_true rfl) ev1 ⟨rfl, rfl⟩ ?_
      show K 13 [some (.inr (.inl y0)), none, some (.inl x2)] [.inl v1] h
      refine ia_go hK ck_I_lowestBit_13 ⟨fun c => ?_, fun c => ?_⟩
      · replace hm := ia_ifp hm c
        show K 18 [some (.inr (.inl y0)), none, some (.inl x2)] [] h
        refine ia_go hK ck_I_lowestBit_18 ?_
        show K 2 [some (.inr (.inl y0)), none, some (.inl (x2 + 1))] [] h
        exact ih (x2 + 1) hm
      · replace hm := ia_ifn hm c
        show K 16 [some (.inr (.inl y0)), none, some (.inl x2)] [] h
        refine ia_fg hK (lv' := [none, none, some (.inl x2)]) ⟨rfl, trivial⟩ ?_
        exact hk16 x2 hm
def f_I_lowestBit (y0 : Int64) (h : ia_H) : Option Int32 := l_I_lowestBit_2 y0 h (fun x2 => some x2) (some (-1)) fu_ 0
theorem t_I_lowestBit (d : Nat) {y0 : Int64} {h : ia_H} (hg : gd_ h) {r : Int32} (hm : f_I_lowestBit y0 h = some r) : ia_Ev (d + 1) mm_I_lowestBit [.inr (.inl y0)] h (some (.inl r)) h := by
  refine ia_Ev_intro ok_I_lowestBit (Nat.le_refl _) (Nat.le_refl _) (Nat.le_of_ble_eq_true rfl) (fun K hK hret => ?_)
  show K 0 [some (.inr (.inl y0)), none, none] [] h
  unfold f_I_lowestBit at hm
  refine ia_go hK ck_I_lowestBit_0 ?_
  show K 2 [some (.inr (.inl y0)), none, some (.inl 0)] [] h
  refine tl_I_lowestBit_2 hK hg hret ?_ ?_ fu_ 0 hm
  · intro x2 hm
    refine ia_go hK ck_I_lowestBit_16 ?_
    show K 17 [none, none, some (.inl x2)] [.inl x2] h
    cases hm
    exact hret 17 _ dc_I_lowestBit_17
  · intro hm
    refine ia_go hK ck_I_lowestBit_24 ?_
    show K 25 [none, none, none] [.inl (-1)] h
    cases hm
    exact hret 25 _ dc_I_lowestBit_25
def mm_Ou_longestFair : ia_M := (⟨"IceStreet$Outlook", "longestFair", "(LIceStreet$Scene;IIIZ)I"⟩, prog_6_method_7_code, 12, (some .int), 5, false)
theorem ok_Ou_longestFair : ia_mok mm_Ou_longestFair := ⟨by decide +kernel, by decide +kernel, by decide +kernel, by decide +kernel⟩
theorem mk_Ou_longestFair : ia_mkn mm_Ou_longestFair 1 5 := ⟨ia_tb_in (List.mem_of_getElem? (i := 1312) (by decide +kernel)) rfl, ia_tb_in (List.mem_of_getElem? (i := 143) (by decide +kernel)) rfl, by decide +kernel, by decide +kernel, ⟨ia_tb_in (List.mem_of_getElem? (i := 1310) (by decide +kernel)) rfl, ia_tb_in (List.mem_of_getElem? (i := 1311) (by decide +kernel)) rfl⟩⟩
theorem ck_Ou_longestFair_0 : ia_cks 5 12 false prog_6_method_7_code 0 [(.aload_n 1, 0, 0, 0, 0), (.aload_n 1, 0, 0, 0, 0), (.iload_n 2, 0, 0, 0, 0)] = true := by decide +kernel
theorem ck_Ou_longestFair_6 : ia_cks 5 12 false prog_6_method_7_code 6 [(.iload_n 3, 0, 0, 0, 0), (.iload 4, 0, 0, 0, 0)] = true := by decide +kernel
theorem ck_Ou_longestFair_12 : ia_cks 5 12 false prog_6_method_7_code 12 [(.lstore 6, 0, 0, 0, 0), (.lload 6, 0, 0, 0, 0), (.lconst 0, 0, 0, 0, 0), (.lcmp, 0, 0, 0, 0), (.ifCond .ne 5, 0, 0, 0, 0)] = true := by decide +kernel
theorem ck_Ou_longestFair_23 : ia_cks 5 12 false prog_6_method_7_code 23 [(.iconst 0, 0, 0, 0, 0), (.istore 8, 0, 0, 0, 0), (.iconst 1, 0, 0, 0, 0), (.istore 9, 0, 0, 0, 0)] = true := by decide +kernel
theorem ck_Ou_longestFair_29 : ia_cks 5 12 false prog_6_method_7_code 29 [(.iload 9, 0, 0, 0, 0), (.bipush 60, 0, 0, 0, 0), (.if_icmp .gt 52, 0, 0, 0, 0)] = true := by decide +kernel
theorem ck_Ou_longestFair_36 : ia_cks 5 12 false prog_6_method_7_code 36 [(.aload_n 1, 0, 0, 0, 0), (.aload_n 1, 0, 0, 0, 0)] = true := by decide +kernel
theorem ck_Ou_longestFair_44 : ia_cks 5 12 false prog_6_method_7_code 44 [(.lload 6, 0, 0, 0, 0), (.aload_n 1, 0, 0, 0, 0), (.aload_n 1, 0, 0, 0, 0), (.iload_n 2, 0, 0, 0, 0)] = true := by decide +kernel
theorem ck_Ou_longestFair_52 : ia_cks 5 12 false prog_6_method_7_code 52 [(.iload_n 3, 0, 0, 0, 0), (.iload 4, 0, 0, 0, 0)] = true := by decide +kernel
theorem ck_Ou_longestFair_58 : ia_cks 5 12 false prog_6_method_7_code 58 [(.land, 0, 0, 0, 0), (.lstore 10, 0, 0, 0, 0), (.lload 10, 0, 0, 0, 0), (.lconst 0, 0, 0, 0, 0), (.lcmp, 0, 0, 0, 0), (.ifCond .ne 6, 0, 0, 0, 0)] = true := by decide +kernel
theorem ck_Ou_longestFair_71 : ia_cks 5 12 false prog_6_method_7_code 71 [(.lload 10, 0, 0, 0, 0), (.lstore 6, 0, 0, 0, 0), (.iload 9, 0, 0, 0, 0), (.istore 8, 0, 0, 0, 0), (.iinc 9 1, 0, 0, 0, 0), (.goto (-53), 0, 0, 0, 0)] = true := by decide +kernel
theorem ck_Ou_longestFair_68 : ia_cks 5 12 false prog_6_method_7_code 68 [(.goto 17, 0, 0, 0, 0)] = true := by decide +kernel
theorem ck_Ou_longestFair_85 : ia_cks 5 12 false prog_6_method_7_code 85 [(.iload 5, 0, 0, 0, 0), (.ifCond .eq 8, 0, 0, 0, 0)] = true := by decide +kernel
theorem ck_Ou_longestFair_95 : ia_cks 5 12 false prog_6_method_7_code 95 [(.lload 6, 0, 0, 0, 0)] = true := by decide +kernel
theorem ck_Ou_longestFair_90 : ia_cks 5 12 false prog_6_method_7_code 90 [(.iload 8, 0, 0, 0, 0), (.goto 8, 0, 0, 0, 0)] = true := by decide +kernel
theorem ck_Ou_longestFair_21 : ia_cks 5 12 false prog_6_method_7_code 21 [(.iconst (-1), 0, 0, 0, 0)] = true := by decide +kernel
theorem dc_Ou_longestFair_3 : decode prog_6_method_7_code 3 = .ok (.invokestatic 104, 3) := by decide +kernel
theorem dc_Ou_longestFair_9 : decode prog_6_method_7_code 9 = .ok (.invokestatic 107, 3) := by decide +kernel
theorem dc_Ou_longestFair_38 : decode prog_6_method_7_code 38 = .ok (.invokevirtual 42, 3) := by decide +kernel
theorem dc_Ou_longestFair_41 : decode prog_6_method_7_code 41 = .ok (.invokevirtual 111, 3) := by decide +kernel
theorem dc_Ou_longestFair_49 : decode prog_6_method_7_code 49 = .ok (.invokestatic 104, 3) := by decide +kernel
theorem dc_Ou_longestFair_55 : decode prog_6_method_7_code 55 = .ok (.invokestatic 107, 3) := by decide +kernel
theorem dc_Ou_longestFair_97 : decode prog_6_method_7_code 97 = .ok (.invokestatic 114, 3) := by decide +kernel
theorem dc_Ou_longestFair_100 : decode prog_6_method_7_code 100 = .ok (.ireturn, 1) := by decide +kernel
theorem dc_Ou_longestFair_22 : decode prog_6_method_7_code 22 = .ok (.ireturn, 1) := by decide +kernel
def l_Ou_longestFair_29 (a1 : Nat) (x2 : Int32) (x3 : Int32) (x4 : Int32) (x5 : Int32) (k68 : Int64 → Int32 → ia_H → Option (Int32 × ia_H)) (k85 : Int64 → Int32 → ia_H → Option (Int32 × ia_H)) (n : Nat) (y6 : Int64) (x8 : Int32) (x9 : Int32) (h : ia_H) : Option (Int32 × ia_H) := match n with
  | 0 => none
  | n + 1 => if 60 < x9 then (k85 y6 x8 h) else ((f_Sc_frost a1 h).bind fun v3 => ((f_Sc_passDay a1 v3 h).bind fun v4 => ((f_Ou_firmCells a1 x2 v4).bind fun v5 => ((f_Ou_blocksOf a1 v5 x3 x4 v4).bind fun v6 => (if (lg_cmp (y6 &&& v6) 0) = 0 then (k68 y6 x8 v4) else (l_Ou_longestFair_29 a1 x2 x3 x4 x5 k68 k85 n (y6 &&& v6) x9 (x9 + 1) v4))))))
theorem tl_Ou_longestFair_29 {d N1 W1 : Nat} {K : ia_K} (hK : ia_isK (d + 4) mm_Ou_longestFair N1 W1 K) {a1 : Nat} {x2 : Int32} {x3 : Int32} {x4 : Int32} {x5 : Int32} (p1 : (kd_D a1).1 = 9) {r : Int32} {h1 : ia_H} (hret : ∀ (pc : Nat) (lv : ia_L), ia_ret mm_Ou_longestFair pc (some (.inl r)) → K pc lv ((some (.inl r)) : Option ia_V).toList h1) {k68 : Int64 → Int32 → ia_H → Option (Int32 × ia_H)} {k85 : Int64 → Int32 → ia_H → Option (Int32 × ia_H)} (hk68 : ∀ (y6 : Int64) (x8 : Int32) (h : ia_H), gd_ h → k68 y6 x8 h = some (r, h1) → K 68 [none, none, none, none, none, some (.inl x5), some (.inr (.inl y6)), none, some (.inl x8), none, none, none] [] h) (hk85 : ∀ (y6 : Int64) (x8 : Int32) (h : ia_H), gd_ h → k85 y6 x8 h = some (r, h1) → K 85 [none, none, none, none, none, some (.inl x5), some (.inr (.inl y6)), none, some (.inl x8), none, none, none] [] h) : ∀ (n : Nat) (y6 : Int64) (x8 : Int32) (x9 : Int32) (h : ia_H), gd_ h → l_Ou_longestFair_29 a1 x2 x3 x4 x5 k68 k85 n y6 x8 x9 h = some (r, h1) → K 29 [none, some (.inr (.inr a1)), some (.inl x2), some (.inl x3), some (.inl x4), some (.inl x5), some (.inr (.inl y6)), none, some (.inl x8), some (.inl x9), none, none] [] h := by
  intro n
  induction n with
  | zero =>
    intro y6 x8 x9 h hg hm
    cases (show (none : Option (Int32 × ia_H)) = some _ from hm)
  | succ n ih =>
    intro y6 x8 x9 h hg hm
    rw [l_Ou_longestFair_29] at hm
    refine ia_go hK ck_Ou_longestFair_29 ⟨fun c => ?_, fun c => ?_⟩
    · replace hm := ia_ifp hm c
      show K 85 [none, some (.inr (.inr a1)), some (.inl x2), some (.inl x3), some (.inl x4), some (.inl x5), some (.inr (.inl y6)), none, some (.inl x8), some (.inl x9), none, none] [] h
      refine ia_fg hK (lv' := [none, none, none, none, none, some (.inl x5), some (.inr (.inl y6)), none, some (.inl x8), none, none, none]) ⟨rfl, rfl, rfl, trivial⟩ ?_
      exact hk85 y6 x8 h hg hm
    · replace hm := ia_ifn hm c
      show K 36 [none, some (.inr (.inr a1)), some (.inl x2), some (.inl x3), some (.inl x4), some (.inl x5), some (.inr (.inl y6)), none, some (.inl x8), some (.inl x9), none, none] [] h
      refine ia_go hK ck_Ou_longestFair_36 ?_
      show K 38 [none, some (.inr (.inr a1)), some (.inl x2), some (.inl x3), some (.inl x4), some (.inl x5), some (.inr (.inl y6)), none, some (.inl x8), some (.inl x9), none, none] [.inr (.inr a1), .inr (.inr a1)] h
      obtain ⟨v3, hv3, hm⟩ := ia_bnd hm
      have ev3 := t_Sc_frost (d + 3) hg p1 hv3
      refine ia_cV hK mk_Sc_frost lk_5_42 dc_Ou_longestFair_38 a1 [] [.inr (.inr a1)] rfl rfl (Nat.le_of_ble_eq_true rfl) (by decide) rfl (gk_9 hg p1) ev3 ⟨rfl, rfl⟩ ?_
      show K 41 [none, some (.inr (.inr a1)), some (.inl x2), some (.inl x3), some (.inl x4), some (.inl x5), some (.inr (.inl y6)), none, some (.inl x8), some (.inl x9), none, none] [.inl v3, .inr (.inr a1)] h
      obtain ⟨v4, hv4, hm⟩ := ia_bnd hm
      have ev4 := t_Sc_passDay (d + 0) hg p1 hv4
      have gv4 := g_Sc_passDay hg p1 hv4
      refine ia_cV hK mk_Sc_passDay lk_5_111 dc_Ou_longestFair_41 a1 [.inl v3] [] rfl rfl (Nat.le_of_ble_eq_true rfl) (by decide) rfl (gk_9 hg p1) ev4 (gd_nm hg gv4) ?_
      show K 44 [none, some (.inr (.inr a1)), some (.inl x2), some (.inl x3), some (.inl x4), some (.inl x5), some (.inr (.inl y6)), none, some (.inl x8), some (.inl x9), none, none] [] v4
      refine ia_go hK ck_Ou_longestFair_44 ?_
      show K 49 [none, some (.inr (.inr a1)), some (.inl x2), some (.inl x3), some (.inl x4), some (.inl x5), some (.inr (.inl y6)), none, some (.inl x8), some (.inl x9), none, none] [.inl x2, .inr (.inr a1), .inr (.inr a1), .inr (.inl y6)] v4
      obtain ⟨v5, hv5, hm⟩ := ia_bnd hm
      have ev5 := t_Ou_firmCells (d + 1) gv4 p1 hv5
      refine ia_cS hK mk_Ou_firmCells lk_5_104 dc_Ou_longestFair_49 [.inr (.inr a1), .inl x2] [.inr (.inr a1), .inr (.inl y6)] rfl rfl (Nat.le_of_ble_eq_true rfl) ev5 ⟨rfl, rfl⟩ ?_
      show K 52 [none, some (.inr (.inr a1)), some (.inl x2), some (.inl x3), some (.inl x4), some (.inl x5), some (.inr (.inl y6)), none, some (.inl x8), some (.inl x9), none, none] [.inr (.inl v5), .inr (.inr a1), .inr (.inl y6)] v4
      refine ia_go hK ck_Ou_longestFair_52 ?_
      show K 55 [none, some (.inr (.inr a1)), some (.inl x2), some (.inl x3), some (.inl x4), some (.inl x5), some (.inr (.inl y6)), none, some (.inl x8), some (.inl x9), none, none] [.inl x4, .inl x3, .inr (.inl v5), .inr (.inr a1), .inr (.inl y6)] v4
      obtain ⟨v6, hv6, hm⟩ := ia_bnd hm
      have ev6 := t_Ou_blocksOf (d + 2) gv4 p1 hv6
      refine ia_cS hK mk_Ou_blocksOf lk_5_107 dc_Ou_longestFair_55 [.inr (.inr a1), .inr (.inl v5), .inl x3, .inl x4] [.inr (.inl y6)] rfl rfl (Nat.le_of_ble_eq_true rfl) ev6 ⟨rfl, rfl⟩ ?_
      show K 58 [none, some (.inr (.inr a1)), some (.inl x2), some (.inl x3), some (.inl x4), some (.inl x5), some (.inr (.inl y6)), none, some (.inl x8), some (.inl x9), none, none] [.inr (.inl v6), .inr (.inl y6)] v4
      refine ia_go hK ck_Ou_longestFair_58 ⟨fun c => ?_, fun c => ?_⟩
      · replace hm := ia_ifn hm c
        show K 71 [none, some (.inr (.inr a1)), some (.inl x2), some (.inl x3), some (.inl x4), some (.inl x5), some (.inr (.inl y6)), none, some (.inl x8), some (.inl x9), some (.inr (.inl (y6 &&& v6))), none] [] v4
        refine ia_go hK ck_Ou_longestFair_71 ?_
        show K 29 [none, some (.inr (.inr a1)), some (.inl x2), some (.inl x3), some (.inl x4), some (.inl x5), some (.inr (.inl (y6 &&& v6))), none, some (.inl x9), some (.inl (x9 + 1)), some (.inr (.inl (y6 &&& v6))), none] [] v4
        refine ia_fg hK (lv' := [none, some (.inr (.inr a1)), some (.inl x2), some (.inl x3), some (.inl x4), some (.inl x5), some (.inr (.inl (y6 &&& v6))), none, some (.inl x9), some (.inl (x9 + 1)), none, none]) ⟨rfl, rfl, rfl, rfl, rfl, rfl, rfl, rfl, trivial⟩ ?_
        exact ih (y6 &&& v6) x9 (x9 + 1) v4 gv4 hm
      · replace hm := ia_ifp hm c
        show K 68 [none, some (.inr (.inr a1)), some (.inl x2), some (.inl x3), some (.inl x4), some (.inl x5), some (.inr (.inl y6)), none, some (.inl x8), some (.inl x9), some (.inr (.inl (y6 &&& v6))), none] [] v4
        refine ia_fg hK (lv' := [none, none, none, none, none, some (.inl x5), some (.inr (.inl y6)), none, some (.inl x8), none, none, none]) ⟨rfl, rfl, rfl, trivial⟩ ?_
        exact hk68 y6 x8 v4 gv4 hm
theorem gl_Ou_longestFair_29 {a1 : Nat} {x2 : Int32} {x3 : Int32} {x4 : Int32} {x5 : Int32} (p1 : (kd_D a1).1 = 9) {r : Int32} {h1 : ia_H} {k68 : Int64 → Int32 → ia_H → Option (Int32 × ia_H)} {k85 : Int64 → Int32 → ia_H → Option (Int32 × ia_H)} (hk68 : ∀ (y6 : Int64) (x8 : Int32) (h : ia_H), gd_ h → k68 y6 x8 h = some (r, h1) → gd_ h1) (hk85 : ∀ (y6 : Int64) (x8 : Int32) (h : ia_H), gd_ h → k85 y6 x8 h = some (r, h1) → gd_ h1) : ∀ (n : Nat) (y6 : Int64) (x8 : Int32) (x9 : Int32) (h : ia_H), gd_ h → l_Ou_longestFair_29 a1 x2 x3 x4 x5 k68 k85 n y6 x8 x9 h = some (r, h1) → gd_ h1 := by
  intro n
  induction n with
  | zero =>
    intro y6 x8 x9 h hg hm
    cases (show (none : Option (Int32 × ia_H)) = some _ from hm)
  | succ n ih =>
    intro y6 x8 x9 h hg hm
    rw [l_Ou_longestFair_29] at hm
    by_cases c : 60 < x9
    · replace hm := ia_ifp hm c
      exact hk85 y6 x8 h hg hm
    · replace hm := ia_ifn hm c
      obtain ⟨v3, hv3, hm⟩ := ia_bnd hm
      obtain ⟨v4, hv4, hm⟩ := ia_bnd hm
      have gv4 := g_Sc_passDay hg p1 hv4
      obtain ⟨v5, hv5, hm⟩ := ia_bnd hm
      obtain ⟨v6, hv6, hm⟩ := ia_bnd hm
      by_cases c : (lg_cmp (y6 &&& v6) 0) = 0
      · replace hm := ia_ifp hm c
        exact hk68 y6 x8 v4 gv4 hm
      · replace hm := ia_ifn hm c
        exact ih (y6 &&& v6) x9 (x9 + 1) v4 gv4 hm
def j_Ou_longestFair_85 (a1 : Nat) (x2 : Int32) (x3 : Int32) (x4 : Int32) (x5 : Int32) (y6 : Int64) (x8 : Int32) (h : ia_H) : Option (Int32 × ia_H) := if x5 = 0 then ((f_I_lowestBit y6 h).bind fun v7 => (some (v7, h))) else (some (x8, h))
theorem tj_Ou_longestFair_85 {d N1 W1 : Nat} {K : ia_K} (hK : ia_isK (d + 4) mm_Ou_longestFair N1 W1 K) {a1 : Nat} {x2 : Int32} {x3 : Int32} {x4 : Int32} {x5 : Int32} (p1 : (kd_D a1).1 = 9) {r : Int32} {h1 : ia_H} (hret : ∀ (pc : Nat) (lv : ia_L), ia_ret mm_Ou_longestFair pc (some (.inl r)) → K pc lv ((some (.inl r)) : Option ia_V).toList h1) : ∀ (y6 : Int64) (x8 : Int32) (h : ia_H), gd_ h → j_Ou_longestFair_85 a1 x2 x3 x4 x5 y6 x8 h = some (r, h1) → K 85 [none, none, none, none, none, some (.inl x5), some (.inr (.inl y6)), none, some (.inl x8), none, none, none] [] h := by
  intro y6 x8 h hg hm
  unfold j_Ou_longestFair_85 at hm
  refine ia_go hK ck_Ou_longestFair_85 ⟨fun c => ?_, fun c => ?_⟩
  · replace hm := ia_ifp hm c
    show K 95 [none, none, none, none, none, some (.inl x5), some (.inr (.inl y6)), none, some (.inl x8), none, none, none] [] h
    refine ia_go hK ck_Ou_longestFair_95 ?_
    show K 97 [none, none, none, none, none, some (.inl x5), some (.inr (.inl y6)), none, some (.inl x8), none, none, none] [.inr (.inl y6)] h
    obtain ⟨v7, hv7, hm⟩ := ia_bnd hm
    have ev7 := t_I_lowestBit (d + 2) hg hv7
    refine ia_cS hK mk_I_lowestBit lk_5_114 dc_Ou_longestFair_97 [.inr (.inl y6)] [] rfl rfl (Nat.le_of_ble_eq_true rfl) ev7 ⟨rfl, rfl⟩ ?_
    show K 100 [none, none, none, none, none, some (.inl x5), some (.inr (.inl y6)), none, some (.inl x8), none, none, none] [.inl v7] h
    cases hm
    exact hret 100 _ dc_Ou_longestFair_100
  · replace hm := ia_ifn hm c
    show K 90 [none, none, none, none, none, some (.inl x5), some (.inr (.inl y6)), none, some (.inl x8), none, none, none] [] h
    refine ia_go hK ck_Ou_longestFair_90 ?_
    show K 100 [none, none, none, none, none, some (.inl x5), some (.inr (.inl y6)), none, some (.inl x8), none, none, none] [.inl x8] h
    cases hm
    exact hret 100 _ dc_Ou_longestFair_100
theorem gj_Ou_longestFair_85 {a1 : Nat} {x2 : Int32} {x3 : Int32} {x4 : Int32} {x5 : Int32} (p1 : (kd_D a1).1 = 9) {r : Int32} {h1 : ia_H} : ∀ (y6 : Int64) (x8 : Int32) (h : ia_H), gd_ h → j_Ou_longestFair_85 a1 x2 x3 x4 x5 y6 x8 h = some (r, h1) → gd_ h1 := by
  intro y6 x8 h hg hm
  unfold j_Ou_longestFair_85 at hm
  by_cases c : x5 = 0
  · replace hm := ia_ifp hm c
    obtain ⟨v7, hv7, hm⟩ := ia_bnd hm
    cases hm
    exact hg
  · replace hm := ia_ifn hm c
    cases hm
    exact hg
def f_Ou_longestFair (a1 : Nat) (x2 : Int32) (x3 : Int32) (x4 : Int32) (x5 : Int32) (h : ia_H) : Option (Int32 × ia_H) := (f_Ou_firmCells a1 x2 h).bind fun v1 => ((f_Ou_blocksOf a1 v1 x3 x4 h).bind fun v2 => (if (lg_cmp v2 0) = 0 then (some ((-1), h)) else (l_Ou_longestFair_29 a1 x2 x3 x4 x5 (fun y6 x8 h => j_Ou_longestFair_85 a1 x2 x3 x4 x5 y6 x8 h) (fun y6 x8 h => j_Ou_longestFair_85 a1 x2 x3 x4 x5 y6 x8 h) fu_ v2 0 1 h)))
theorem g_Ou_longestFair {a1 : Nat} {x2 : Int32} {x3 : Int32} {x4 : Int32} {x5 : Int32} {h : ia_H} (hg : gd_ h) (p1 : (kd_D a1).1 = 9) {q : (Int32 × ia_H)} (hm : f_Ou_longestFair a1 x2 x3 x4 x5 h = some q) : gd_ q.2 := by
  obtain ⟨r, h1⟩ := q
  unfold f_Ou_longestFair at hm
  obtain ⟨v1, hv1, hm⟩ := ia_bnd hm
  obtain ⟨v2, hv2, hm⟩ := ia_bnd hm
  by_cases c : (lg_cmp v2 0) = 0
  · replace hm := ia_ifp hm c
    cases hm
    exact hg
  · replace hm := ia_ifn hm c
    refine gl_Ou_longestFair_29 p1 ?_ ?_ fu_ v2 0 1 h hg hm
    · intro y6 x8 h hg hm
      exact gj_Ou_longestFair_85 p1 y6 x8 h hg hm
    · intro y6 x8 h hg hm
      exact gj_Ou_longestFair_85 p1 y6 x8 h hg hm
theorem t_Ou_longestFair (d : Nat) {a1 : Nat} {x2 : Int32} {x3 : Int32} {x4 : Int32} {x5 : Int32} {h : ia_H} (hg : gd_ h) (p1 : (kd_D a1).1 = 9) {q : (Int32 × ia_H)} (hm : f_Ou_longestFair a1 x2 x3 x4 x5 h = some q) : ia_Ev (d + 4) mm_Ou_longestFair [.inr (.inr 326), .inr (.inr a1), .inl x2, .inl x3, .inl x4, .inl x5] h (some (.inl q.1)) q.2 := by
  have gq := g_Ou_longestFair hg p1 hm
  refine ia_Ev_intro ok_Ou_longestFair (gd_le hg gq).1 (gd_le hg gq).2 (Nat.le_of_ble_eq_true rfl) (fun K hK hret => ?_)
  obtain ⟨r, h1⟩ := q
  show K 0 [some (.inr (.inr 326)), some (.inr (.inr a1)), some (.inl x2), some (.inl x3), some (.inl x4), some (.inl x5), none, none, none, none, none, none] [] h
  unfold f_Ou_longestFair at hm
  refine ia_go hK ck_Ou_longestFair_0 ?_
  show K 3 [some (.inr (.inr 326)), some (.inr (.inr a1)), some (.inl x2), some (.inl x3), some (.inl x4), some (.inl x5), none, none, none, none, none, none] [.inl x2, .inr (.inr a1), .inr (.inr a1)] h
  obtain ⟨v1, hv1, hm⟩ := ia_bnd hm
  have ev1 := t_Ou_firmCells (d + 1) hg p1 hv1
  refine ia_cS hK mk_Ou_firmCells lk_5_104 dc_Ou_longestFair_3 [.inr (.inr a1), .inl x2] [.inr (.inr a1)] rfl rfl (Nat.le_of_ble_eq_true rfl) ev1 ⟨rfl, rfl⟩ ?_
  show K 6 [some (.inr (.inr 326)), some (.inr (.inr a1)), some (.inl x2), some (.inl x3), some (.inl x4), some (.inl x5), none, none, none, none, none, none] [.inr (.inl v1), .inr (.inr a1)] h
  refine ia_go hK ck_Ou_longestFair_6 ?_
  show K 9 [some (.inr (.inr 326)), some (.inr (.inr a1)), some (.inl x2), some (.inl x3), some (.inl x4), some (.inl x5), none, none, none, none, none, none] [.inl x4, .inl x3, .inr (.inl v1), .inr (.inr a1)] h
  obtain ⟨v2, hv2, hm⟩ := ia_bnd hm
  have ev2 := t_Ou_blocksOf (d + 2) hg p1 hv2
  refine ia_cS hK mk_Ou_blocksOf lk_5_107 dc_Ou_longestFair_9 [.inr (.inr a1), .inr (.inl v1), .inl x3, .inl x4] [] rfl rfl (Nat.le_of_ble_eq_true rfl) ev2 ⟨rfl, rfl⟩ ?_
  show K 12 [some (.inr (.inr 326)), some (.inr (.inr a1)), some (.inl x2), some (.inl x3), some (.inl x4), some (.inl x5), none, none, none, none, none, none] [.inr (.inl v2)] h
  refine ia_go hK ck_Ou_longestFair_12 ⟨fun c => ?_, fun c => ?_⟩
  · replace hm := ia_ifn hm c
    show K 23 [some (.inr (.inr 326)), some (.inr (.inr a1)), some (.inl x2), some (.inl x3), some (.inl x4), some (.inl x5), some (.inr (.inl v2)), none, none, none, none, none] [] h
    refine ia_go hK ck_Ou_longestFair_23 ?_
    show K 29 [some (.inr (.inr 326)), some (.inr (.inr a1)), some (.inl x2), some (.inl x3), some (.inl x4), some (.inl x5), some (.inr (.inl v2)), none, some (.inl 0), some (.inl 1), none, none] [] h
    refine ia_fg hK (lv' := [none, some (.inr (.inr a1)), some (.inl x2), some (.inl x3), some (.inl x4), some (.inl x5), some (.inr (.inl v2)), none, some (.inl 0), some (.inl 1), none, none]) ⟨rfl, rfl, rfl, rfl, rfl, rfl, rfl, rfl, trivial⟩ ?_
    refine tl_Ou_longestFair_29 hK p1 hret ?_ ?_ fu_ v2 0 1 h hg hm
    · intro y6 x8 h hg hm
      refine ia_go hK ck_Ou_longestFair_68 ?_
      show K 85 [none, none, none, none, none, some (.inl x5), some (.inr (.inl y6)), none, some (.inl x8), none, none, none] [] h
      exact tj_Ou_longestFair_85 hK p1 hret y6 x8 h hg hm
    · intro y6 x8 h hg hm
      exact tj_Ou_longestFair_85 hK p1 hret y6 x8 h hg hm
  · replace hm := ia_ifp hm c
    show K 21 [some (.inr (.inr 326)), some (.inr (.inr a1)), some (.inl x2), some (.inl x3), some (.inl x4), some (.inl x5), some (.inr (.inl v2)), none, none, none, none, none] [] h
    refine ia_go hK ck_Ou_longestFair_21 ?_
    show K 22 [some (.inr (.inr 326)), some (.inr (.inr a1)), some (.inl x2), some (.inl x3), some (.inl x4), some (.inl x5), some (.inr (.inl v2)), none, none, none, none, none] [.inl (-1)] h
    cases hm
    exact hret 22 _ dc_Ou_longestFair_22
def mm_I_fair : ia_M := (⟨"IceStreet", "fair", "(IIIIIIIZ)I"⟩, prog_1_method_22_code, 9, (some .int), 0, false)
theorem ok_I_fair : ia_mok mm_I_fair := ⟨by decide +kernel, by decide +kernel, by decide +kernel, by decide +kernel⟩
theorem mk_I_fair : ia_mkn mm_I_fair 1 8 := ⟨ia_tb_in (List.mem_of_getElem? (i := 1308) (by decide +kernel)) rfl, ia_tb_in (List.mem_of_getElem? (i := 133) (by decide +kernel)) rfl, by decide +kernel, by decide +kernel, ⟨ia_tb_in (List.mem_of_getElem? (i := 1306) (by decide +kernel)) rfl, ia_tb_in (List.mem_of_getElem? (i := 1307) (by decide +kernel)) rfl⟩⟩
theorem ck_I_fair_0 : ia_cks 0 9 false prog_1_method_22_code 0 [(.aload_n 0, 0, 0, 0, 0), (.iload_n 1, 0, 0, 0, 0), (.iload_n 2, 0, 0, 0, 0), (.iload_n 3, 0, 0, 0, 0), (.iload 4, 0, 0, 0, 0)] = true := by decide +kernel
theorem ck_I_fair_9 : ia_cks 0 9 false prog_1_method_22_code 9 [(.ifCond .eq 37, 0, 0, 0, 0)] = true := by decide +kernel
theorem ck_I_fair_46 : ia_cks 0 9 false prog_1_method_22_code 46 [(.iconst (-1), 0, 0, 0, 0)] = true := by decide +kernel
theorem ck_I_fair_12 : ia_cks 0 9 false prog_1_method_22_code 12 [(.iload 5, 0, 0, 0, 0)] = true := by decide +kernel
theorem ck_I_fair_17 : ia_cks 0 9 false prog_1_method_22_code 17 [(.ifCond .eq 29, 0, 0, 0, 0)] = true := by decide +kernel
theorem ck_I_fair_20 : ia_cks 0 9 false prog_1_method_22_code 20 [(.iload 6, 0, 0, 0, 0), (.iconst 1, 0, 0, 0, 0), (.if_icmp .lt 23, 0, 0, 0, 0)] = true := by decide +kernel
theorem ck_I_fair_26 : ia_cks 0 9 false prog_1_method_22_code 26 [(.iload 6, 0, 0, 0, 0), (.bipush 6, 0, 0, 0, 0), (.if_icmp .gt 16, 0, 0, 0, 0)] = true := by decide +kernel
theorem ck_I_fair_33 : ia_cks 0 9 false prog_1_method_22_code 33 [(.iload 7, 0, 0, 0, 0), (.iconst 1, 0, 0, 0, 0), (.if_icmp .lt 10, 0, 0, 0, 0)] = true := by decide +kernel
theorem ck_I_fair_39 : ia_cks 0 9 false prog_1_method_22_code 39 [(.iload 7, 0, 0, 0, 0), (.bipush 6, 0, 0, 0, 0), (.if_icmp .le 5, 0, 0, 0, 0)] = true := by decide +kernel
theorem ck_I_fair_48 : ia_cks 0 9 false prog_1_method_22_code 48 [(.aload_n 0, 0, 0, 0, 0), (.getfield 69, 0, 7, 3, 262), (.aload_n 0, 0, 0, 0, 0), (.getfield 44, 0, 4, 3, 239), (.iload 5, 0, 0, 0, 0), (.iload 6, 0, 0, 0, 0), (.iload 7, 0, 0, 0, 0), (.iload 8, 0, 0, 0, 0)] = true := by decide +kernel
theorem dc_I_fair_6 : decode prog_1_method_22_code 6 = .ok (.invokevirtual 266, 3) := by decide +kernel
theorem dc_I_fair_47 : decode prog_1_method_22_code 47 = .ok (.ireturn, 1) := by decide +kernel
theorem dc_I_fair_14 : decode prog_1_method_22_code 14 = .ok (.invokestatic 333, 3) := by decide +kernel
theorem dc_I_fair_64 : decode prog_1_method_22_code 64 = .ok (.invokevirtual 354, 3) := by decide +kernel
theorem dc_I_fair_67 : decode prog_1_method_22_code 67 = .ok (.ireturn, 1) := by decide +kernel
def f_I_fair (x1 : Int32) (x2 : Int32) (x3 : Int32) (x4 : Int32) (x5 : Int32) (x6 : Int32) (x7 : Int32) (x8 : Int32) (h : ia_H) : Option (Int32 × ia_H) := (f_I_stage x1 x2 x3 x4 h).bind fun v1 => (if v1.1 = 0 then (some ((-1), v1.2)) else ((f_I_isLoad x5 v1.2).bind fun v2 => (if v2 = 0 then (some ((-1), v1.2)) else (if x6 < 1 then (some ((-1), v1.2)) else (if 6 < x6 then (some ((-1), v1.2)) else (if x7 < 1 then (some ((-1), v1.2)) else (if x7 ≤ 6 then ((f_Ou_longestFair 303 x5 x6 x7 x8 v1.2).bind fun v3 => (some (v3.1, v3.2))) else (some ((-1), v1.2)))))))))
theorem g_I_fair {x1 : Int32} {x2 : Int32} {x3 : Int32} {x4 : Int32} {x5 : Int32} {x6 : Int32} {x7 : Int32} {x8 : Int32} {h : ia_H} (hg : gd_ h) {q : (Int32 × ia_H)} (hm : f_I_fair x1 x2 x3 x4 x5 x6 x7 x8 h = some q) : gd_ q.2 := by
  obtain ⟨r, h1⟩ := q
  unfold f_I_fair at hm
  obtain ⟨v1, hv1, hm⟩ := ia_bnd hm
  have gv1 := g_I_stage hg hv1
  by_cases c : v1.1 = 0
  · replace hm := ia_ifp hm c
    cases hm
    exact gv1
  · replace hm := ia_ifn hm c
    obtain ⟨v2, hv2, hm⟩ := ia_bnd hm
    by_cases c : v2 = 0
    · replace hm := ia_ifp hm c
      cases hm
      exact gv1
    · replace hm := ia_ifn hm c
      by_cases c : x6 < 1
      · replace hm := ia_ifp hm c
        cases hm
        exact gv1
      · replace hm := ia_ifn hm c
        by_cases c : 6 < x6
        · replace hm := ia_ifp hm c
          cases hm
          exact gv1
        · replace hm := ia_ifn hm c
          by_cases c : x7 < 1
          · replace hm := ia_ifp hm c
            cases hm
            exact gv1
          · replace hm := ia_ifn hm c
            by_cases c : x7 ≤ 6
            · replace hm := ia_ifp hm c
              obtain ⟨v3, hv3, hm⟩ := ia_bnd hm
              have gv3 := g_Ou_longestFair gv1 (ka_0_4 pk_64) hv3
              cases hm
              exact gv3
            · replace hm := ia_ifn hm c
              cases hm
              exact gv1
theorem t_I_fair (d : Nat) {x1 : Int32} {x2 : Int32} {x3 : Int32} {x4 : Int32} {x5 : Int32} {x6 : Int32} {x7 : Int32} {x8 : Int32} {h : ia_H} (hg : gd_ h) {q : (Int32 × ia_H)} (hm : f_I_fair x1 x2 x3 x4 x5 x6 x7 x8 h = some q) : ia_Ev (d + 7) mm_I_fair [.inr (.inr 64), .inl x1, .inl x2, .inl x3, .inl x4, .inl x5, .inl x6, .inl x7, .inl x8] h (some (.inl q.1)) q.2 := by
  have gq := g_I_fair hg hm
  refine ia_Ev_intro ok_I_fair (gd_le hg gq).1 (gd_le hg gq).2 (Nat.le_of_ble_eq_true rfl) (fun K hK hret => ?_)
  obtain ⟨r, h1⟩ := q
  show K 0 [some (.inr (.inr 64)), some (.inl x1), some (.inl x2), some (.inl x3), some (.inl x4), some (.inl x5), some (.inl x6), some (.inl x7), some (.inl x8)] [] h
  unfold f_I_fair at hm
  refine ia_go hK ck_I_fair_0 ?_
  show K 6 [some (.inr (.inr 64)), some (.inl x1), some (.inl x2), some (.inl x3), some (.inl x4), some (.inl x5), some (.inl x6), some (.inl x7), some (.inl x8)] [.inl x4, .inl x3, .inl x2, .inl x1, .inr (.inr 64)] h
  obtain ⟨v1, hv1, hm⟩ := ia_bnd hm
  have ev1 := t_I_stage (d + 0) hg hv1
  have gv1 := g_I_stage hg hv1
  refine ia_cV hK mk_I_stage lk_0_266 dc_I_fair_6 64 [.inl x1, .inl x2, .inl x3, .inl x4] [] rfl rfl (Nat.le_of_ble_eq_true rfl) (by decide) rfl (gk_0 hg pk_64) ev1 (gd_nm hg gv1) ?_
  show K 9 [some (.inr (.inr 64)), some (.inl x1), some (.inl x2), some (.inl x3), some (.inl x4), some (.inl x5), some (.inl x6), some (.inl x7), some (.inl x8)] [.inl v1.1] v1.2
  refine ia_go hK ck_I_fair_9 ⟨fun c => ?_, fun c => ?_⟩
  · replace hm := ia_ifp hm c
    show K 46 [some (.inr (.inr 64)), some (.inl x1), some (.inl x2), some (.inl x3), some (.inl x4), some (.inl x5), some (.inl x6), some (.inl x7), some (.inl x8)] [] v1.2
    refine ia_go hK ck_I_fair_46 ?_
    show K 47 [some (.inr (.inr 64)), some (.inl x1), some (.inl x2), some (.inl x3), some (.inl x4), some (.inl x5), some (.inl x6), some (.inl x7), some (.inl x8)] [.inl (-1)] v1.2
    cases hm
    exact hret 47 _ dc_I_fair_47
  · replace hm := ia_ifn hm c
    show K 12 [some (.inr (.inr 64)), some (.inl x1), some (.inl x2), some (.inl x3), some (.inl x4), some (.inl x5), some (.inl x6), some (.inl x7), some (.inl x8)] [] v1.2
    refine ia_go hK ck_I_fair_12 ?_
    show K 14 [some (.inr (.inr 64)), some (.inl x1), some (.inl x2), some (.inl x3), some (.inl x4), some (.inl x5), some (.inl x6), some (.inl x7), some (.inl x8)] [.inl x5] v1.2
    obtain ⟨v2, hv2, hm⟩ := ia_bnd hm
    have ev2 := t_I_isLoad (d + 6) gv1 hv2
    refine ia_cS hK mk_I_isLoad lk_0_333 dc_I_fair_14 [.inl x5] [] rfl rfl (Nat.le_of_ble_eq_true rfl) ev2 ⟨rfl, rfl⟩ ?_
    show K 17 [some (.inr (.inr 64)), some (.inl x1), some (.inl x2), some (.inl x3), some (.inl x4), some (.inl x5), some (.inl x6), some (.inl x7), some (.inl x8)] [.inl v2] v1.2
    refine ia_go hK ck_I_fair_17 ⟨fun c => ?_, fun c => ?_⟩
    · replace hm := ia_ifp hm c
      show K 46 [some (.inr (.inr 64)), some (.inl x1), some (.inl x2), some (.inl x3), some (.inl x4), some (.inl x5), some (.inl x6), some (.inl x7), some (.inl x8)] [] v1.2
      refine ia_go hK ck_I_fair_46 ?_
      show K 47 [some (.inr (.inr 64)), some (.inl x1), some (.inl x2), some (.inl x3), some (.inl x4), some (.inl x5), some (.inl x6), some (.inl x7), some (.inl x8)] [.inl (-1)] v1.2
      cases hm
      exact hret 47 _ dc_I_fair_47
    · replace hm := ia_ifn hm c
      show K 20 [some (.inr (.inr 64)), some (.inl x1), some (.inl x2), some (.inl x3), some (.inl x4), some (.inl x5), some (.inl x6), some (.inl x7), some (.inl x8)] [] v1.2
      refine ia_go hK ck_I_fair_20 ⟨fun c => ?_, fun c => ?_⟩
      · replace hm := ia_ifp hm c
        show K 46 [some (.inr (.inr 64)), some (.inl x1), some (.inl x2), some (.inl x3), some (.inl x4), some (.inl x5), some (.inl x6), some (.inl x7), some (.inl x8)] [] v1.2
        refine ia_go hK ck_I_fair_46 ?_
        show K 47 [some (.inr (.inr 64)), some (.inl x1), some (.inl x2), some (.inl x3), some (.inl x4), some (.inl x5), some (.inl x6), some (.inl x7), some (.inl x8)] [.inl (-1)] v1.2
        cases hm
        exact hret 47 _ dc_I_fair_47
      · replace hm := ia_ifn hm c
        show K 26 [some (.inr (.inr 64)), some (.inl x1), some (.inl x2), some (.inl x3), some (.inl x4), some (.inl x5), some (.inl x6), some (.inl x7), some (.inl x8)] [] v1.2
        refine ia_go hK ck_I_fair_26 ⟨fun c => ?_, fun c => ?_⟩
        · replace hm := ia_ifp hm c
          show K 46 [some (.inr (.inr 64)), some (.inl x1), some (.inl x2), some (.inl x3), some (.inl x4), some (.inl x5), some (.inl x6), some (.inl x7), some (.inl x8)] [] v1.2
          refine ia_go hK ck_I_fair_46 ?_
          show K 47 [some (.inr (.inr 64)), some (.inl x1), some (.inl x2), some (.inl x3), some (.inl x4), some (.inl x5), some (.inl x6), some (.inl x7), some (.inl x8)] [.inl (-1)] v1.2
          cases hm
          exact hret 47 _ dc_I_fair_47
        · replace hm := ia_ifn hm c
          show K 33 [some (.inr (.inr 64)), some (.inl x1), some (.inl x2), some (.inl x3), some (.inl x4), some (.inl x5), some (.inl x6), some (.inl x7), some (.inl x8)] [] v1.2
          refine ia_go hK ck_I_fair_33 ⟨fun c => ?_, fun c => ?_⟩
          · replace hm := ia_ifp hm c
            show K 46 [some (.inr (.inr 64)), some (.inl x1), some (.inl x2), some (.inl x3), some (.inl x4), some (.inl x5), some (.inl x6), some (.inl x7), some (.inl x8)] [] v1.2
            refine ia_go hK ck_I_fair_46 ?_
            show K 47 [some (.inr (.inr 64)), some (.inl x1), some (.inl x2), some (.inl x3), some (.inl x4), some (.inl x5), some (.inl x6), some (.inl x7), some (.inl x8)] [.inl (-1)] v1.2
            cases hm
            exact hret 47 _ dc_I_fair_47
          · replace hm := ia_ifn hm c
            show K 39 [some (.inr (.inr 64)), some (.inl x1), some (.inl x2), some (.inl x3), some (.inl x4), some (.inl x5), some (.inl x6), some (.inl x7), some (.inl x8)] [] v1.2
            refine ia_go hK ck_I_fair_39 ⟨fun c => ?_, fun c => ?_⟩
            · replace hm := ia_ifp hm c
              show K 48 [some (.inr (.inr 64)), some (.inl x1), some (.inl x2), some (.inl x3), some (.inl x4), some (.inl x5), some (.inl x6), some (.inl x7), some (.inl x8)] [] v1.2
              refine ia_go hK ck_I_fair_48 ⟨gk_0 gv1 pk_64, gr_0_7 gv1 pk_64, gk_0 gv1 pk_64, gr_0_4 gv1 pk_64, ?_⟩
              show K 64 [some (.inr (.inr 64)), some (.inl x1), some (.inl x2), some (.inl x3), some (.inl x4), some (.inl x5), some (.inl x6), some (.inl x7), some (.inl x8)] [.inl x8, .inl x7, .inl x6, .inl x5, .inr (.inr 303), .inr (.inr 326)] v1.2
              obtain ⟨v3, hv3, hm⟩ := ia_bnd hm
              have ev3 := t_Ou_longestFair (d + 2) gv1 (ka_0_4 pk_64) hv3
              have gv3 := g_Ou_longestFair gv1 (ka_0_4 pk_64) hv3
              refine ia_cV hK mk_Ou_longestFair lk_0_354 dc_I_fair_64 326 [.inr (.inr 303), .inl x5, .inl x6, .inl x7, .inl x8] [] rfl rfl (Nat.le_of_ble_eq_true rfl) (by decide) rfl (gk_5 gv1 (ka_0_7 pk_64)) ev3 (gd_nm gv1 gv3) ?_
              show K 67 [some (.inr (.inr 64)), some (.inl x1), some (.inl x2), some (.inl x3), some (.inl x4), some (.inl x5), some (.inl x6), some (.inl x7), some (.inl x8)] [.inl v3.1] v3.2
              cases hm
              exact hret 67 _ dc_I_fair_67
            · replace hm := ia_ifn hm c
              show K 46 [some (.inr (.inr 64)), some (.inl x1), some (.inl x2), some (.inl x3), some (.inl x4), some (.inl x5), some (.inl x6), some (.inl x7), some (.inl x8)] [] v1.2
              refine ia_go hK ck_I_fair_46 ?_
              show K 47 [some (.inr (.inr 64)), some (.inl x1), some (.inl x2), some (.inl x3), some (.inl x4), some (.inl x5), some (.inl x6), some (.inl x7), some (.inl x8)] [.inl (-1)] v1.2
              cases hm
              exact hret 47 _ dc_I_fair_47
def mm_Dr_ready : ia_M := (⟨"IceStreet$Drawing", "ready", "(LIceStreet$Scene;I)V"⟩, prog_3_method_2_code, 3, none, 2, false)
theorem ok_Dr_ready : ia_mok mm_Dr_ready := ⟨by decide +kernel, by decide +kernel, by decide +kernel, by decide +kernel⟩
theorem mk_Dr_ready : ia_mkn mm_Dr_ready 1 2 := ⟨ia_tb_in (List.mem_of_getElem? (i := 1339) (by decide +kernel)) rfl, ia_tb_in (List.mem_of_getElem? (i := 144) (by decide +kernel)) rfl, by decide +kernel, by decide +kernel, ⟨ia_tb_in (List.mem_of_getElem? (i := 1337) (by decide +kernel)) rfl, ia_tb_in (List.mem_of_getElem? (i := 1338) (by decide +kernel)) rfl⟩⟩
theorem ck_Dr_ready_0 : ia_cks 2 3 false prog_3_method_2_code 0 [(.aload_n 0, 0, 0, 0, 0), (.iload_n 2, 0, 0, 0, 0), (.bipush 6, 0, 0, 0, 0)] = true := by decide +kernel
theorem ck_Dr_ready_7 : ia_cks 2 3 false prog_3_method_2_code 7 [(.putfield 41, 2, 6, 0, 0), (.aload_n 0, 0, 0, 0, 0), (.getfield 20, 2, 4, 3, 3), (.iconst 0, 0, 0, 0, 0), (.aaload, 113, 8, 0, 0), (.aload_n 1, 0, 0, 0, 0)] = true := by decide +kernel
theorem ck_Dr_ready_20 : ia_cks 2 3 false prog_3_method_2_code 20 [(.aload_n 0, 0, 0, 0, 0), (.sipush 1000, 0, 0, 0, 0), (.putfield 49, 2, 0, 0, 0)] = true := by decide +kernel
theorem dc_Dr_ready_4 : decode prog_3_method_2_code 4 = .ok (.invokestatic 35, 3) := by decide +kernel
theorem dc_Dr_ready_17 : decode prog_3_method_2_code 17 = .ok (.invokevirtual 45, 3) := by decide +kernel
theorem dc_Dr_ready_27 : decode prog_3_method_2_code 27 = .ok (.return_, 1) := by decide +kernel
def f_Dr_ready (a1 : Nat) (x2 : Int32) (h : ia_H) : Option ia_H := (f_Sc_become 349 a1 (ia_wI h 345 6 (ia_min x2 6))).bind fun v1 => (some (ia_wI v1 345 0 1000))
theorem g_Dr_ready {a1 : Nat} {x2 : Int32} {h : ia_H} (hg : gd_ h) (p1 : (kd_D a1).1 = 9) {q : ia_H} (hm : f_Dr_ready a1 x2 h = some q) : gd_ q := by
  obtain ⟨h1, e1⟩ : ∃ x, x = q := ⟨_, rfl⟩
  subst e1
  unfold f_Dr_ready at hm
  obtain ⟨v1, hv1, hm⟩ := ia_bnd hm
  have gv1 := g_Sc_become (gd_wI hg) (ke_113 (ka_2_4 pk_345) (i := 0) (by decide)) p1 hv1
  cases hm
  exact (gd_wI gv1)
theorem t_Dr_ready (d : Nat) {a1 : Nat} {x2 : Int32} {h : ia_H} (hg : gd_ h) (p1 : (kd_D a1).1 = 9) {q : ia_H} (hm : f_Dr_ready a1 x2 h = some q) : ia_Ev (d + 1) mm_Dr_ready [.inr (.inr 345), .inr (.inr a1), .inl x2] h none q := by
  have gq := g_Dr_ready hg p1 hm
  refine ia_Ev_intro ok_Dr_ready (gd_le hg gq).1 (gd_le hg gq).2 (Nat.le_of_ble_eq_true rfl) (fun K hK hret => ?_)
  obtain ⟨h1, e1⟩ : ∃ x, x = q := ⟨_, rfl⟩
  subst e1
  show K 0 [some (.inr (.inr 345)), some (.inr (.inr a1)), some (.inl x2)] [] h
  unfold f_Dr_ready at hm
  refine ia_go hK ck_Dr_ready_0 ?_
  show K 4 [some (.inr (.inr 345)), some (.inr (.inr a1)), some (.inl x2)] [.inl 6, .inl x2, .inr (.inr 345)] h
  refine ia_mmin hK (ia_tb_in (List.mem_of_getElem? (i := 1340) (by decide +kernel)) rfl) dc_Dr_ready_4 (Nat.le_of_ble_eq_true rfl) ?_
  show K 7 [some (.inr (.inr 345)), some (.inr (.inr a1)), some (.inl x2)] [.inl (ia_min x2 6), .inr (.inr 345)] h
  refine ia_go hK ck_Dr_ready_7 ⟨gk_2 hg pk_345, gk_2 (gd_wI hg) pk_345, gr_2_4 (gd_wI hg) pk_345, ga_r113 (gd_wI hg) (ka_2_4 pk_345) (by decide), ?_⟩
  show K 17 [some (.inr (.inr 345)), some (.inr (.inr a1)), some (.inl x2)] [.inr (.inr a1), .inr (.inr 349)] (ia_wI h 345 6 (ia_min x2 6))
  obtain ⟨v1, hv1, hm⟩ := ia_bnd hm
  have ev1 := t_Sc_become (d + 0) (gd_wI hg) (ke_113 (ka_2_4 pk_345) (i := 0) (by decide)) p1 hv1
  have gv1 := g_Sc_become (gd_wI hg) (ke_113 (ka_2_4 pk_345) (i := 0) (by decide)) p1 hv1
  refine ia_cV hK mk_Sc_become lk_2_45 dc_Dr_ready_17 349 [.inr (.inr a1)] [] rfl rfl (Nat.le_of_ble_eq_true rfl) (by decide) rfl (gk_9 (gd_wI hg) (ke_113 (ka_2_4 pk_345) (i := 0) (by decide))) ev1 (gd_nm (gd_wI hg) gv1) ?_
  show K 20 [some (.inr (.inr 345)), some (.inr (.inr a1)), some (.inl x2)] [] v1
  refine ia_go hK ck_Dr_ready_20 ⟨gk_2 gv1 pk_345, ?_⟩
  show K 27 [some (.inr (.inr 345)), some (.inr (.inr a1)), some (.inl x2)] [] (ia_wI v1 345 0 1000)
  cases hm
  exact hret 27 _ dc_Dr_ready_27
def mm_Sc_worthNotOff : ia_M := (⟨"IceStreet$Scene", "worthNotOff", "()I"⟩, prog_10_method_21_code, 3, (some .int), 9, false)
theorem ok_Sc_worthNotOff : ia_mok mm_Sc_worthNotOff := ⟨by decide +kernel, by decide +kernel, by decide +kernel, by decide +kernel⟩
theorem mk_Sc_worthNotOff : ia_mkn mm_Sc_worthNotOff 1 0 := ⟨ia_tb_in (List.mem_of_getElem? (i := 1349) (by decide +kernel)) rfl, ia_tb_in (List.mem_of_getElem? (i := 140) (by decide +kernel)) rfl, by decide +kernel, by decide +kernel, ⟨ia_tb_in (List.mem_of_getElem? (i := 1347) (by decide +kernel)) rfl, ia_tb_in (List.mem_of_getElem? (i := 1348) (by decide +kernel)) rfl⟩⟩
theorem ck_Sc_worthNotOff_0 : ia_cks 9 3 false prog_10_method_21_code 0 [(.iconst 0, 0, 0, 0, 0), (.istore_n 1, 0, 0, 0, 0), (.iconst 0, 0, 0, 0, 0), (.istore_n 2, 0, 0, 0, 0)] = true := by decide +kernel
theorem ck_Sc_worthNotOff_4 : ia_cks 9 3 false prog_10_method_21_code 4 [(.iload_n 2, 0, 0, 0, 0), (.aload_n 0, 0, 0, 0, 0), (.getfield 33, 9, 0, 2, 0), (.getfield 66, 3, 11, 0, 0), (.if_icmp .ge 35, 0, 0, 0, 0)] = true := by decide +kernel
theorem ck_Sc_worthNotOff_15 : ia_cks 9 3 false prog_10_method_21_code 15 [(.iload_n 1, 0, 0, 0, 0), (.aload_n 0, 0, 0, 0, 0), (.getfield 24, 9, 6, 3, 5), (.iload_n 2, 0, 0, 0, 0), (.iaload, 0, 0, 0, 0), (.iconst (-1), 0, 0, 0, 0), (.if_icmp .ne 7, 0, 0, 0, 0)] = true := by decide +kernel
theorem ck_Sc_worthNotOff_30 : ia_cks 9 3 false prog_10_method_21_code 30 [(.aload_n 0, 0, 0, 0, 0), (.getfield 33, 9, 0, 2, 0), (.getfield 129, 3, 15, 3, 9), (.iload_n 2, 0, 0, 0, 0), (.iaload, 0, 0, 0, 0)] = true := by decide +kernel
theorem ck_Sc_worthNotOff_39 : ia_cks 9 3 false prog_10_method_21_code 39 [(.iadd, 0, 0, 0, 0), (.istore_n 1, 0, 0, 0, 0), (.iinc 2 1, 0, 0, 0, 0), (.goto (-40), 0, 0, 0, 0)] = true := by decide +kernel
theorem ck_Sc_worthNotOff_26 : ia_cks 9 3 false prog_10_method_21_code 26 [(.iconst 0, 0, 0, 0, 0), (.goto 12, 0, 0, 0, 0)] = true := by decide +kernel
theorem ck_Sc_worthNotOff_47 : ia_cks 9 3 false prog_10_method_21_code 47 [(.iload_n 1, 0, 0, 0, 0)] = true := by decide +kernel
theorem dc_Sc_worthNotOff_48 : decode prog_10_method_21_code 48 = .ok (.ireturn, 1) := by decide +kernel
def j_Sc_worthNotOff_39 (a0 : Nat) (h : ia_H) (kr : Int32 → Int32 → Option Int32) (k47 : Int32 → Option Int32) (x2 : Int32) (s0 : Int32) (s1 : Int32) : Option Int32 := kr (s0 + s1) (x2 + 1)
theorem tj_Sc_worthNotOff_39 {d N1 W1 : Nat} {K : ia_K} (hK : ia_isK (d + 0) mm_Sc_worthNotOff N1 W1 K) {a0 : Nat} {h : ia_H} (hg : gd_ h) (p0 : (kd_D a0).1 = 9) {r : Int32} (hret : ∀ (pc : Nat) (lv : ia_L), ia_ret mm_Sc_worthNotOff pc (some (.inl r)) → K pc lv ((some (.inl r)) : Option ia_V).toList h) {kr : Int32 → Int32 → Option Int32} {k47 : Int32 → Option Int32} (hkr : ∀ (x1 : Int32) (x2 : Int32), kr x1 x2 = some r → K 4 [some (.inr (.inr a0)), some (.inl x1), some (.inl x2)] [] h) (hk47 : ∀ (x1 : Int32), k47 x1 = some r → K 47 [none, some (.inl x1), none] [] h) : ∀ (x2 : Int32) (s0 : Int32) (s1 : Int32), j_Sc_worthNotOff_39 a0 h kr k47 x2 s0 s1 = some r → K 39 [some (.inr (.inr a0)), none, some (.inl x2)] [.inl s1, .inl s0] h := by
  intro x2 s0 s1 hm
  unfold j_Sc_worthNotOff_39 at hm
  refine ia_go hK ck_Sc_worthNotOff_39 ?_
  show K 4 [some (.inr (.inr a0)), some (.inl (s0 + s1)), some (.inl (x2 + 1))] [] h
  exact hkr (s0 + s1) (x2 + 1) hm
def l_Sc_worthNotOff_4 (a0 : Nat) (h : ia_H) (k47 : Int32 → Option Int32) (n : Nat) (x1 : Int32) (x2 : Int32) : Option Int32 := match n with
  | 0 => none
  | n + 1 => if (ia_i h (ia_r h a0 0) 11) ≤ x2 then (k47 x1) else (ia_gd (ia_ib x2 6) (if (ia_i h (a0 + 5) ((x2).toNatClampNeg)) = (-1) then (j_Sc_worthNotOff_39 a0 h (l_Sc_worthNotOff_4 a0 h k47 n) k47 x2 x1 0) else (ia_gd (ia_ib x2 6) (j_Sc_worthNotOff_39 a0 h (l_Sc_worthNotOff_4 a0 h k47 n) k47 x2 x1 (ia_i h ((ia_r h a0 0) + 9) ((x2).toNatClampNeg))))))
theorem tl_Sc_worthNotOff_4 {d N1 W1 : Nat} {K : ia_K} (hK : ia_isK (d + 0) mm_Sc_worthNotOff N1 W1 K) {a0 : Nat} {h : ia_H} (hg : gd_ h) (p0 : (kd_D a0).1 = 9) {r : Int32} (hret : ∀ (pc : Nat) (lv : ia_L), ia_ret mm_Sc_worthNotOff pc (some (.inl r)) → K pc lv ((some (.inl r)) : Option ia_V).toList h) {k47 : Int32 → Option Int32} (hk47 : ∀ (x1 : Int32), k47 x1 = some r → K 47 [none, some (.inl x1), none] [] h) : ∀ (n : Nat) (x1 : Int32) (x2 : Int32), l_Sc_worthNotOff_4 a0 h k47 n x1 x2 = some r → K 4 [some (.inr (.inr a0)), some (.inl x1), some (.inl x2)] [] h := by
  intro n
  induction n with
  | zero =>
    intro x1 x2 hm
    cases (show (none : Option Int32) = some _ from hm)
  | succ n ih =>
    intro x1 x2 hm
    rw [l_Sc_worthNotOff_4] at hm
    refine ia_go hK ck_Sc_worthNotOff_4 ⟨gk_9 hg p0, gk_3 hg (gm_9_0 hg p0), fun c => ?_, fun c => ?_⟩
    · replace hm := ia_ifp hm c
      show K 47 [some (.inr (.inr a0)), some (.inl x1), some (.inl x2)] [] h
      refine ia_fg hK (lv' := [none, some (.inl x1), none]) ⟨rfl, trivial⟩ ?_
      exact hk47 x1 hm
    · replace hm := ia_ifn hm c
      show K 15 [some (.inr (.inr a0)), some (.inl x1), some (.inl x2)] [] h
      obtain ⟨c1, hm⟩ := ia_gd_some hm
      refine ia_go hK ck_Sc_worthNotOff_15 ⟨gk_9 hg p0, gr_9_6 hg p0, ga_i100 hg (ka_9_6 p0) c1, fun c => ?_, fun c => ?_⟩
      · replace hm := ia_ifn hm c
        show K 30 [some (.inr (.inr a0)), some (.inl x1), some (.inl x2)] [.inl x1] h
        obtain ⟨c2, hm⟩ := ia_gd_some hm
        refine ia_go hK ck_Sc_worthNotOff_30 ⟨gk_9 hg p0, gk_3 hg (gm_9_0 hg p0), gr_3_15 hg (gm_9_0 hg p0), ga_i100 hg (ka_3_15 (gm_9_0 hg p0)) c2, ?_⟩
        show K 39 [some (.inr (.inr a0)), some (.inl x1), some (.inl x2)] [.inl (ia_i h ((ia_r h a0 0) + 9) ((x2).toNatClampNeg)), .inl x1] h
        refine ia_fg hK (lv' := [some (.inr (.inr a0)), none, some (.inl x2)]) ⟨rfl, rfl, trivial⟩ ?_
        exact tj_Sc_worthNotOff_39 hK hg p0 hret ih hk47 x2 x1 (ia_i h ((ia_r h a0 0) + 9) ((x2).toNatClampNeg)) hm
      · replace hm := ia_ifp hm c
        show K 26 [some (.inr (.inr a0)), some (.inl x1), some (.inl x2)] [.inl x1] h
        refine ia_go hK ck_Sc_worthNotOff_26 ?_
        show K 39 [some (.inr (.inr a0)), some (.inl x1), some (.inl x2)] [.inl 0, .inl x1] h
        refine ia_fg hK (lv' := [some (.inr (.inr a0)), none, some (.inl x2)]) ⟨rfl, rfl, trivial⟩ ?_
        exact tj_Sc_worthNotOff_39 hK hg p0 hret ih hk47 x2 x1 0 hm
def f_Sc_worthNotOff (a0 : Nat) (h : ia_H) : Option Int32 := l_Sc_worthNotOff_4 a0 h (fun x1 => some x1) fu_ 0 0
theorem t_Sc_worthNotOff (d : Nat) {a0 : Nat} {h : ia_H} (hg : gd_ h) (p0 : (kd_D a0).1 = 9) {r : Int32} (hm : f_Sc_worthNotOff a0 h = some r) : ia_Ev (d + 0) mm_Sc_worthNotOff [.inr (.inr a0)] h (some (.inl r)) h := by
  refine ia_Ev_intro ok_Sc_worthNotOff (Nat.le_refl _) (Nat.le_refl _) (Nat.le_of_ble_eq_true rfl) (fun K hK hret => ?_)
  show K 0 [some (.inr (.inr a0)), none, none] [] h
  unfold f_Sc_worthNotOff at hm
  refine ia_go hK ck_Sc_worthNotOff_0 ?_
  show K 4 [some (.inr (.inr a0)), some (.inl 0), some (.inl 0)] [] h
  refine tl_Sc_worthNotOff_4 hK hg p0 hret ?_ fu_ 0 0 hm
  · intro x1 hm
    refine ia_go hK ck_Sc_worthNotOff_47 ?_
    show K 48 [none, some (.inl x1), none] [.inl x1] h
    cases hm
    exact hret 48 _ dc_Sc_worthNotOff_48
