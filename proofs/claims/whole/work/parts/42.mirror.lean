def mm_M_atMinute : ia_M := (⟨"IceStreetModel", "atMinute", "(II)I"⟩, prog_14_method_112_code, 2, (some .int), 12, false)
theorem ok_M_atMinute : ia_mok mm_M_atMinute := ⟨by decide +kernel, by decide +kernel, by decide +kernel, by decide +kernel⟩
theorem mk_M_atMinute : ia_mkn mm_M_atMinute 0 2 := ⟨ia_tb_in (List.mem_of_getElem? (i := 2167) (by decide +kernel)) rfl, ia_tb_in (List.mem_of_getElem? (i := 146) (by decide +kernel)) rfl, by decide +kernel, by decide +kernel, ia_tb_in (List.mem_of_getElem? (i := 2166) (by decide +kernel)) rfl⟩
theorem ck_M_atMinute_0 : ia_cks 12 2 false prog_14_method_112_code 0 [(.iload_n 0, 0, 0, 0, 0), (.iconst 0, 0, 0, 0, 0), (.iload_n 1, 0, 0, 0, 0), (.iconst 1, 0, 0, 0, 0), (.isub, 0, 0, 0, 0)] = true := by decide +kernel
theorem ck_M_atMinute_8 : ia_cks 12 2 false prog_14_method_112_code 8 [(.ifCond .eq 7, 0, 0, 0, 0)] = true := by decide +kernel
theorem ck_M_atMinute_15 : ia_cks 12 2 false prog_14_method_112_code 15 [(.iconst (-1), 0, 0, 0, 0)] = true := by decide +kernel
theorem ck_M_atMinute_11 : ia_cks 12 2 false prog_14_method_112_code 11 [(.iload_n 0, 0, 0, 0, 0), (.goto 4, 0, 0, 0, 0)] = true := by decide +kernel
theorem dc_M_atMinute_5 : decode prog_14_method_112_code 5 = .ok (.invokestatic 116, 3) := by decide +kernel
theorem dc_M_atMinute_16 : decode prog_14_method_112_code 16 = .ok (.ireturn, 1) := by decide +kernel
def f_M_atMinute (x0 : Int32) (x1 : Int32) (h : ia_H) : Option Int32 := (f_M_isIn x0 0 (x1 - 1) h).bind fun v1 => (if v1 = 0 then (some (-1)) else (some x0))
theorem t_M_atMinute {w : ia_O0} (d : Nat) {x0 : Int32} {x1 : Int32} {h : ia_H} (hg : gd_ w h) {r : Int32} (hm : f_M_atMinute x0 x1 h = some r) : ia_Ev (d + 1) mm_M_atMinute [.inl x0, .inl x1] h (some (.inl r)) h := by
  refine ia_Ev_intro ok_M_atMinute (Nat.le_refl _) (Nat.le_refl _) (Nat.le_of_ble_eq_true rfl) (fun K hK hret => ?_)
  show K 0 [some (.inl x0), some (.inl x1)] [] h
  unfold f_M_atMinute at hm
  refine ia_go hK ck_M_atMinute_0 ?_
  show K 5 [some (.inl x0), some (.inl x1)] [.inl (x1 - 1), .inl 0, .inl x0] h
  obtain ⟨v1, hv1, hm⟩ := ia_bnd hm
  have ev1 := t_M_isIn (d + 0) hg hv1
  refine ia_cS hK mk_M_isIn lk_12_116 dc_M_atMinute_5 [.inl x0, .inl 0, .inl (x1 - 1)] [] rfl rfl (Nat.le_of_ble_eq_true rfl) ev1 ⟨rfl, rfl⟩ ?_
  show K 8 [some (.inl x0), some (.inl x1)] [.inl v1] h
  refine ia_go hK ck_M_atMinute_8 ⟨fun c => ?_, fun c => ?_⟩
  · replace hm := ia_ifp hm c
    show K 15 [some (.inl x0), some (.inl x1)] [] h
    refine ia_go hK ck_M_atMinute_15 ?_
    show K 16 [some (.inl x0), some (.inl x1)] [.inl (-1)] h
    obtain rfl := Option.some.inj hm
    exact hret 16 _ dc_M_atMinute_16
  · replace hm := ia_ifn hm c
    show K 11 [some (.inl x0), some (.inl x1)] [] h
    refine ia_go hK ck_M_atMinute_11 ?_
    show K 16 [some (.inl x0), some (.inl x1)] [.inl x0] h
    obtain rfl := Option.some.inj hm
    exact hret 16 _ dc_M_atMinute_16
def mm_M_meetsIn : ia_M := (⟨"IceStreetModel", "meetsIn", "(IIII)Z"⟩, prog_14_method_113_code, 7, (some .boolean), 12, false)
theorem ok_M_meetsIn : ia_mok mm_M_meetsIn := ⟨by decide +kernel, by decide +kernel, by decide +kernel, by decide +kernel⟩
theorem mk_M_meetsIn : ia_mkn mm_M_meetsIn 1 4 := ⟨ia_tb_in (List.mem_of_getElem? (i := 2171) (by decide +kernel)) rfl, ia_tb_in (List.mem_of_getElem? (i := 146) (by decide +kernel)) rfl, by decide +kernel, by decide +kernel, ⟨ia_tb_in (List.mem_of_getElem? (i := 2170) (by decide +kernel)) rfl, ia_tb_in (List.mem_of_getElem? (i := 125) (by decide +kernel)) rfl⟩⟩
theorem ck_M_meetsIn_0 : ia_cks 12 7 false prog_14_method_113_code 0 [(.iload_n 1, 0, 0, 0, 0), (.iload_n 2, 0, 0, 0, 0), (.if_icmp .ne 5, 0, 0, 0, 0)] = true := by decide +kernel
theorem ck_M_meetsIn_7 : ia_cks 12 7 false prog_14_method_113_code 7 [(.iconst 0, 0, 0, 0, 0), (.istore 5, 0, 0, 0, 0), (.iconst 0, 0, 0, 0, 0), (.istore 6, 0, 0, 0, 0)] = true := by decide +kernel
theorem ck_M_meetsIn_13 : ia_cks 12 7 false prog_14_method_113_code 13 [(.iload 6, 0, 0, 0, 0), (.iconst 4, 0, 0, 0, 0), (.if_icmp .ge 36, 0, 0, 0, 0)] = true := by decide +kernel
theorem ck_M_meetsIn_19 : ia_cks 12 7 false prog_14_method_113_code 19 [(.iload 5, 0, 0, 0, 0), (.ifCond .ne 18, 0, 0, 0, 0)] = true := by decide +kernel
theorem ck_M_meetsIn_39 : ia_cks 12 7 false prog_14_method_113_code 39 [(.iconst 1, 0, 0, 0, 0), (.goto 4, 0, 0, 0, 0)] = true := by decide +kernel
theorem ck_M_meetsIn_44 : ia_cks 12 7 false prog_14_method_113_code 44 [(.istore 5, 0, 0, 0, 0), (.iinc 6 1, 0, 0, 0, 0), (.goto (-36), 0, 0, 0, 0)] = true := by decide +kernel
theorem ck_M_meetsIn_24 : ia_cks 12 7 false prog_14_method_113_code 24 [(.aload_n 0, 0, 0, 0, 0), (.aload_n 0, 0, 0, 0, 0), (.getfield 201, 12, 14, 0, 0), (.iload_n 1, 0, 0, 0, 0), (.iload 6, 0, 0, 0, 0)] = true := by decide +kernel
theorem ck_M_meetsIn_35 : ia_cks 12 7 false prog_14_method_113_code 35 [(.iload_n 2, 0, 0, 0, 0), (.if_icmp .ne 7, 0, 0, 0, 0)] = true := by decide +kernel
theorem ck_M_meetsIn_43 : ia_cks 12 7 false prog_14_method_113_code 43 [(.iconst 0, 0, 0, 0, 0), (.istore 5, 0, 0, 0, 0), (.iinc 6 1, 0, 0, 0, 0), (.goto (-36), 0, 0, 0, 0)] = true := by decide +kernel
theorem ck_M_meetsIn_52 : ia_cks 12 7 false prog_14_method_113_code 52 [(.aload_n 0, 0, 0, 0, 0), (.getfield 7, 12, 0, 3, 1), (.aload_n 0, 0, 0, 0, 0), (.getfield 219, 12, 15, 0, 0), (.iconst 2, 0, 0, 0, 0), (.iadd, 0, 0, 0, 0), (.iaload, 0, 0, 0, 0), (.istore 6, 0, 0, 0, 0), (.iload 5, 0, 0, 0, 0), (.ifCond .eq 57, 0, 0, 0, 0)] = true := by decide +kernel
theorem ck_M_meetsIn_124 : ia_cks 12 7 false prog_14_method_113_code 124 [(.iconst 0, 0, 0, 0, 0)] = true := by decide +kernel
theorem ck_M_meetsIn_70 : ia_cks 12 7 false prog_14_method_113_code 70 [(.aload_n 0, 0, 0, 0, 0), (.iload_n 1, 0, 0, 0, 0)] = true := by decide +kernel
theorem ck_M_meetsIn_75 : ia_cks 12 7 false prog_14_method_113_code 75 [(.iload_n 3, 0, 0, 0, 0), (.aload_n 0, 0, 0, 0, 0), (.iload_n 1, 0, 0, 0, 0), (.iconst (-1), 0, 0, 0, 0)] = true := by decide +kernel
theorem ck_M_meetsIn_82 : ia_cks 12 7 false prog_14_method_113_code 82 [(.iadd, 0, 0, 0, 0), (.iload 4, 0, 0, 0, 0), (.iload 6, 0, 0, 0, 0), (.imul, 0, 0, 0, 0), (.bipush 10, 0, 0, 0, 0), (.idiv, 0, 0, 0, 0), (.iadd, 0, 0, 0, 0), (.if_icmp .lt 28, 0, 0, 0, 0)] = true := by decide +kernel
theorem ck_M_meetsIn_120 : ia_cks 12 7 false prog_14_method_113_code 120 [(.iconst 1, 0, 0, 0, 0), (.goto 4, 0, 0, 0, 0)] = true := by decide +kernel
theorem ck_M_meetsIn_95 : ia_cks 12 7 false prog_14_method_113_code 95 [(.aload_n 0, 0, 0, 0, 0), (.iload_n 2, 0, 0, 0, 0)] = true := by decide +kernel
theorem ck_M_meetsIn_100 : ia_cks 12 7 false prog_14_method_113_code 100 [(.iload 4, 0, 0, 0, 0), (.aload_n 0, 0, 0, 0, 0), (.iload_n 2, 0, 0, 0, 0), (.iconst (-1), 0, 0, 0, 0)] = true := by decide +kernel
theorem ck_M_meetsIn_108 : ia_cks 12 7 false prog_14_method_113_code 108 [(.iadd, 0, 0, 0, 0), (.iload_n 3, 0, 0, 0, 0), (.iload 6, 0, 0, 0, 0), (.imul, 0, 0, 0, 0), (.bipush 10, 0, 0, 0, 0), (.idiv, 0, 0, 0, 0), (.iadd, 0, 0, 0, 0), (.if_icmp .ge 7, 0, 0, 0, 0)] = true := by decide +kernel
theorem ck_M_meetsIn_5 : ia_cks 12 7 false prog_14_method_113_code 5 [(.iconst 1, 0, 0, 0, 0)] = true := by decide +kernel
theorem dc_M_meetsIn_32 : decode prog_14_method_113_code 32 = .ok (.invokevirtual 216, 3) := by decide +kernel
theorem dc_M_meetsIn_125 : decode prog_14_method_113_code 125 = .ok (.ireturn, 1) := by decide +kernel
theorem dc_M_meetsIn_72 : decode prog_14_method_113_code 72 = .ok (.invokevirtual 228, 3) := by decide +kernel
theorem dc_M_meetsIn_79 : decode prog_14_method_113_code 79 = .ok (.invokevirtual 225, 3) := by decide +kernel
theorem dc_M_meetsIn_97 : decode prog_14_method_113_code 97 = .ok (.invokevirtual 228, 3) := by decide +kernel
theorem dc_M_meetsIn_105 : decode prog_14_method_113_code 105 = .ok (.invokevirtual 225, 3) := by decide +kernel
theorem dc_M_meetsIn_6 : decode prog_14_method_113_code 6 = .ok (.ireturn, 1) := by decide +kernel
def l_M_meetsIn_13 (x1 : Int32) (x2 : Int32) (x3 : Int32) (x4 : Int32) (h : ia_H) (k52 : Int32 → Option Int32) (n : Nat) (x5 : Int32) (x6 : Int32) : Option Int32 := match n with
  | 0 => none
  | n + 1 => if 4 ≤ x6 then (k52 x5) else (if x5 = 0 then ((f_M_near (ia_i h 417 14) x1 x6 h).bind fun v1 => (if v1 = x2 then (l_M_meetsIn_13 x1 x2 x3 x4 h k52 n 1 (x6 + 1)) else (l_M_meetsIn_13 x1 x2 x3 x4 h k52 n 0 (x6 + 1)))) else (l_M_meetsIn_13 x1 x2 x3 x4 h k52 n 1 (x6 + 1)))
theorem tl_M_meetsIn_13 {w : ia_O0} {d N1 W1 : Nat} {K : ia_K} (hK : ia_isK (d + 4) mm_M_meetsIn N1 W1 K) {x1 : Int32} {x2 : Int32} {x3 : Int32} {x4 : Int32} {h : ia_H} (hg : gd_ w h) {r : Int32} (hret : ∀ (pc : Nat) (lv : ia_L), ia_ret mm_M_meetsIn pc (some (.inl r)) → K pc lv ((some (.inl r)) : Option ia_V).toList h) {k52 : Int32 → Option Int32} (hk52 : ∀ (x5 : Int32), k52 x5 = some r → K 52 [some (.inr (.inr 417)), some (.inl x1), some (.inl x2), some (.inl x3), some (.inl x4), some (.inl x5), none] [] h) : ∀ (n : Nat) (x5 : Int32) (x6 : Int32), l_M_meetsIn_13 x1 x2 x3 x4 h k52 n x5 x6 = some r → K 13 [some (.inr (.inr 417)), some (.inl x1), some (.inl x2), some (.inl x3), some (.inl x4), some (.inl x5), some (.inl x6)] [] h := by
  intro n
  induction n with
  | zero =>
    intro x5 x6 hm
    cases (show (none : Option Int32) = some _ from hm)
  | succ n ih =>
    intro x5 x6 hm
    rw [l_M_meetsIn_13] at hm
    refine ia_go hK ck_M_meetsIn_13 ⟨fun c => ?_, fun c => ?_⟩
    · replace hm := ia_ifp hm c
      show K 52 [some (.inr (.inr 417)), some (.inl x1), some (.inl x2), some (.inl x3), some (.inl x4), some (.inl x5), some (.inl x6)] [] h
      refine ia_fg hK (lv' := [some (.inr (.inr 417)), some (.inl x1), some (.inl x2), some (.inl x3), some (.inl x4), some (.inl x5), none]) ⟨rfl, rfl, rfl, rfl, rfl, rfl, trivial⟩ ?_
      exact hk52 x5 hm
    · replace hm := ia_ifn hm c
      show K 19 [some (.inr (.inr 417)), some (.inl x1), some (.inl x2), some (.inl x3), some (.inl x4), some (.inl x5), some (.inl x6)] [] h
      refine ia_go hK ck_M_meetsIn_19 ⟨fun c => ?_, fun c => ?_⟩
      · replace hm := ia_ifn hm c
        show K 39 [some (.inr (.inr 417)), some (.inl x1), some (.inl x2), some (.inl x3), some (.inl x4), some (.inl x5), some (.inl x6)] [] h
        refine ia_go hK ck_M_meetsIn_39 ?_
        show K 44 [some (.inr (.inr 417)), some (.inl x1), some (.inl x2), some (.inl x3), some (.inl x4), some (.inl x5), some (.inl x6)] [.inl 1] h
        refine ia_go hK ck_M_meetsIn_44 ?_
        show K 13 [some (.inr (.inr 417)), some (.inl x1), some (.inl x2), some (.inl x3), some (.inl x4), some (.inl 1), some (.inl (x6 + 1))] [] h
        exact ih 1 (x6 + 1) hm
      · replace hm := ia_ifp hm c
        show K 24 [some (.inr (.inr 417)), some (.inl x1), some (.inl x2), some (.inl x3), some (.inl x4), some (.inl x5), some (.inl x6)] [] h
        refine ia_go hK ck_M_meetsIn_24 ⟨gk_12 hg pk_417, ?_⟩
        show K 32 [some (.inr (.inr 417)), some (.inl x1), some (.inl x2), some (.inl x3), some (.inl x4), some (.inl x5), some (.inl x6)] [.inl x6, .inl x1, .inl (ia_i h 417 14), .inr (.inr 417)] h
        obtain ⟨v1, hv1, hm⟩ := ia_bnd hm
        have ev1 := t_M_near (d + 1) hg hv1
        refine ia_cV hK mk_M_near lk_12_216 dc_M_meetsIn_32 417 [.inl (ia_i h 417 14), .inl x1, .inl x6] [] rfl rfl (Nat.le_of_ble_eq_true rfl) (by decide) rfl (gk_12 hg pk_417) ev1 ⟨rfl, rfl⟩ ?_
        show K 35 [some (.inr (.inr 417)), some (.inl x1), some (.inl x2), some (.inl x3), some (.inl x4), some (.inl x5), some (.inl x6)] [.inl v1] h
        refine ia_go hK ck_M_meetsIn_35 ⟨fun c => ?_, fun c => ?_⟩
        · replace hm := ia_ifn hm c
          show K 43 [some (.inr (.inr 417)), some (.inl x1), some (.inl x2), some (.inl x3), some (.inl x4), some (.inl x5), some (.inl x6)] [] h
          refine ia_go hK ck_M_meetsIn_43 ?_
          show K 13 [some (.inr (.inr 417)), some (.inl x1), some (.inl x2), some (.inl x3), some (.inl x4), some (.inl 0), some (.inl (x6 + 1))] [] h
          exact ih 0 (x6 + 1) hm
        · replace hm := ia_ifp hm c
          show K 39 [some (.inr (.inr 417)), some (.inl x1), some (.inl x2), some (.inl x3), some (.inl x4), some (.inl x5), some (.inl x6)] [] h
          refine ia_go hK ck_M_meetsIn_39 ?_
          show K 44 [some (.inr (.inr 417)), some (.inl x1), some (.inl x2), some (.inl x3), some (.inl x4), some (.inl x5), some (.inl x6)] [.inl 1] h
          refine ia_go hK ck_M_meetsIn_44 ?_
          show K 13 [some (.inr (.inr 417)), some (.inl x1), some (.inl x2), some (.inl x3), some (.inl x4), some (.inl 1), some (.inl (x6 + 1))] [] h
          exact ih 1 (x6 + 1) hm
def f_M_meetsIn (x1 : Int32) (x2 : Int32) (x3 : Int32) (x4 : Int32) (h : ia_H) : Option Int32 := if x1 = x2 then (some 1) else (l_M_meetsIn_13 x1 x2 x3 x4 h (fun x5 => ia_gd (ia_ib ((ia_i h 417 15) + 2) 6528) (if x5 = 0 then (some 0) else ((f_M_bears x1 h).bind fun v3 => ((f_M_loadOf x1 (-1) h).bind fun v4 => (if v3 < ((x3 + v4) + ((x4 * (ia_i h 418 (((ia_i h 417 15) + 2).toNatClampNeg))) / 10)) then (some 1) else ((f_M_bears x2 h).bind fun v5 => ((f_M_loadOf x2 (-1) h).bind fun v6 => (if ((x4 + v6) + ((x3 * (ia_i h 418 (((ia_i h 417 15) + 2).toNatClampNeg))) / 10)) ≤ v5 then (some 0) else (some 1))))))))) fu_ 0 0)
theorem t_M_meetsIn {w : ia_O0} (d : Nat) {x1 : Int32} {x2 : Int32} {x3 : Int32} {x4 : Int32} {h : ia_H} (hg : gd_ w h) {r : Int32} (hm : f_M_meetsIn x1 x2 x3 x4 h = some r) : ia_Ev (d + 4) mm_M_meetsIn [.inr (.inr 417), .inl x1, .inl x2, .inl x3, .inl x4] h (some (.inl r)) h := by
  refine ia_Ev_intro ok_M_meetsIn (Nat.le_refl _) (Nat.le_refl _) (Nat.le_of_ble_eq_true rfl) (fun K hK hret => ?_)
  show K 0 [some (.inr (.inr 417)), some (.inl x1), some (.inl x2), some (.inl x3), some (.inl x4), none, none] [] h
  unfold f_M_meetsIn at hm
  refine ia_go hK ck_M_meetsIn_0 ⟨fun c => ?_, fun c => ?_⟩
  · replace hm := ia_ifn hm c
    show K 7 [some (.inr (.inr 417)), some (.inl x1), some (.inl x2), some (.inl x3), some (.inl x4), none, none] [] h
    refine ia_go hK ck_M_meetsIn_7 ?_
    show K 13 [some (.inr (.inr 417)), some (.inl x1), some (.inl x2), some (.inl x3), some (.inl x4), some (.inl 0), some (.inl 0)] [] h
    refine tl_M_meetsIn_13 hK hg hret ?_ fu_ 0 0 hm
    · intro x5 hm
      obtain ⟨c2, hm⟩ := ia_gd_some hm
      refine ia_go hK ck_M_meetsIn_52 ⟨gk_12 hg pk_417, gr_12_0 hg pk_417, gk_12 hg pk_417, ga_i100 hg (ka_12_0 pk_417) c2, fun c => ?_, fun c => ?_⟩
      · replace hm := ia_ifp hm c
        show K 124 [some (.inr (.inr 417)), some (.inl x1), some (.inl x2), some (.inl x3), some (.inl x4), some (.inl x5), some (.inl (ia_i h 418 (((ia_i h 417 15) + 2).toNatClampNeg)))] [] h
        refine ia_go hK ck_M_meetsIn_124 ?_
        show K 125 [some (.inr (.inr 417)), some (.inl x1), some (.inl x2), some (.inl x3), some (.inl x4), some (.inl x5), some (.inl (ia_i h 418 (((ia_i h 417 15) + 2).toNatClampNeg)))] [.inl 0] h
        obtain rfl := Option.some.inj hm
        exact hret 125 _ ⟨Or.inl rfl, dc_M_meetsIn_125⟩
      · replace hm := ia_ifn hm c
        show K 70 [some (.inr (.inr 417)), some (.inl x1), some (.inl x2), some (.inl x3), some (.inl x4), some (.inl x5), some (.inl (ia_i h 418 (((ia_i h 417 15) + 2).toNatClampNeg)))] [] h
        refine ia_go hK ck_M_meetsIn_70 ?_
        show K 72 [some (.inr (.inr 417)), some (.inl x1), some (.inl x2), some (.inl x3), some (.inl x4), some (.inl x5), some (.inl (ia_i h 418 (((ia_i h 417 15) + 2).toNatClampNeg)))] [.inl x1, .inr (.inr 417)] h
        obtain ⟨v3, hv3, hm⟩ := ia_bnd hm
        have ev3 := t_M_bears (d + 3) hg hv3
        refine ia_cV hK mk_M_bears lk_12_228 dc_M_meetsIn_72 417 [.inl x1] [] rfl rfl (Nat.le_of_ble_eq_true rfl) (by decide) rfl (gk_12 hg pk_417) ev3 ⟨rfl, rfl⟩ ?_
        show K 75 [some (.inr (.inr 417)), some (.inl x1), some (.inl x2), some (.inl x3), some (.inl x4), some (.inl x5), some (.inl (ia_i h 418 (((ia_i h 417 15) + 2).toNatClampNeg)))] [.inl v3] h
        refine ia_go hK ck_M_meetsIn_75 ?_
        show K 79 [some (.inr (.inr 417)), some (.inl x1), some (.inl x2), some (.inl x3), some (.inl x4), some (.inl x5), some (.inl (ia_i h 418 (((ia_i h 417 15) + 2).toNatClampNeg)))] [.inl (-1), .inl x1, .inr (.inr 417), .inl x3, .inl v3] h
        obtain ⟨v4, hv4, hm⟩ := ia_bnd hm
        have ev4 := t_M_loadOf (d + 0) hg hv4
        refine ia_cV hK mk_M_loadOf lk_12_225 dc_M_meetsIn_79 417 [.inl x1, .inl (-1)] [.inl x3, .inl v3] rfl rfl (Nat.le_of_ble_eq_true rfl) (by decide) rfl (gk_12 hg pk_417) ev4 ⟨rfl, rfl⟩ ?_
        show K 82 [some (.inr (.inr 417)), some (.inl x1), some (.inl x2), some (.inl x3), some (.inl x4), some (.inl x5), some (.inl (ia_i h 418 (((ia_i h 417 15) + 2).toNatClampNeg)))] [.inl v4, .inl x3, .inl v3] h
        refine ia_go hK ck_M_meetsIn_82 ⟨(by decide), fun c => ?_, fun c => ?_⟩
        · replace hm := ia_ifp hm c
          show K 120 [some (.inr (.inr 417)), some (.inl x1), some (.inl x2), some (.inl x3), some (.inl x4), some (.inl x5), some (.inl (ia_i h 418 (((ia_i h 417 15) + 2).toNatClampNeg)))] [] h
          refine ia_go hK ck_M_meetsIn_120 ?_
          show K 125 [some (.inr (.inr 417)), some (.inl x1), some (.inl x2), some (.inl x3), some (.inl x4), some (.inl x5), some (.inl (ia_i h 418 (((ia_i h 417 15) + 2).toNatClampNeg)))] [.inl 1] h
          obtain rfl := Option.some.inj hm
          exact hret 125 _ ⟨Or.inr rfl, dc_M_meetsIn_125⟩
        · replace hm := ia_ifn hm c
          show K 95 [some (.inr (.inr 417)), some (.inl x1), some (.inl x2), some (.inl x3), some (.inl x4), some (.inl x5), some (.inl (ia_i h 418 (((ia_i h 417 15) + 2).toNatClampNeg)))] [] h
          refine ia_go hK ck_M_meetsIn_95 ?_
          show K 97 [some (.inr (.inr 417)), some (.inl x1), some (.inl x2), some (.inl x3), some (.inl x4), some (.inl x5), some (.inl (ia_i h 418 (((ia_i h 417 15) + 2).toNatClampNeg)))] [.inl x2, .inr (.inr 417)] h
          obtain ⟨v5, hv5, hm⟩ := ia_bnd hm
          have ev5 := t_M_bears (d + 3) hg hv5
          refine ia_cV hK mk_M_bears lk_12_228 dc_M_meetsIn_97 417 [.inl x2] [] rfl rfl (Nat.le_of_ble_eq_true rfl) (by decide) rfl (gk_12 hg pk_417) ev5 ⟨rfl, rfl⟩ ?_
          show K 100 [some (.inr (.inr 417)), some (.inl x1), some (.inl x2), some (.inl x3), some (.inl x4), some (.inl x5), some (.inl (ia_i h 418 (((ia_i h 417 15) + 2).toNatClampNeg)))] [.inl v5] h
          refine ia_go hK ck_M_meetsIn_100 ?_
          show K 105 [some (.inr (.inr 417)), some (.inl x1), some (.inl x2), some (.inl x3), some (.inl x4), some (.inl x5), some (.inl (ia_i h 418 (((ia_i h 417 15) + 2).toNatClampNeg)))] [.inl (-1), .inl x2, .inr (.inr 417), .inl x4, .inl v5] h
          obtain ⟨v6, hv6, hm⟩ := ia_bnd hm
          have ev6 := t_M_loadOf (d + 0) hg hv6
          refine ia_cV hK mk_M_loadOf lk_12_225 dc_M_meetsIn_105 417 [.inl x2, .inl (-1)] [.inl x4, .inl v5] rfl rfl (Nat.le_of_ble_eq_true rfl) (by decide) rfl (gk_12 hg pk_417) ev6 ⟨rfl, rfl⟩ ?_
          show K 108 [some (.inr (.inr 417)), some (.inl x1), some (.inl x2), some (.inl x3), some (.inl x4), some (.inl x5), some (.inl (ia_i h 418 (((ia_i h 417 15) + 2).toNatClampNeg)))] [.inl v6, .inl x4, .inl v5] h
          refine ia_go hK ck_M_meetsIn_108 ⟨(by decide), fun c => ?_, fun c => ?_⟩
          · replace hm := ia_ifp hm c
            show K 124 [some (.inr (.inr 417)), some (.inl x1), some (.inl x2), some (.inl x3), some (.inl x4), some (.inl x5), some (.inl (ia_i h 418 (((ia_i h 417 15) + 2).toNatClampNeg)))] [] h
            refine ia_go hK ck_M_meetsIn_124 ?_
            show K 125 [some (.inr (.inr 417)), some (.inl x1), some (.inl x2), some (.inl x3), some (.inl x4), some (.inl x5), some (.inl (ia_i h 418 (((ia_i h 417 15) + 2).toNatClampNeg)))] [.inl 0] h
            obtain rfl := Option.some.inj hm
            exact hret 125 _ ⟨Or.inl rfl, dc_M_meetsIn_125⟩
          · replace hm := ia_ifn hm c
            show K 120 [some (.inr (.inr 417)), some (.inl x1), some (.inl x2), some (.inl x3), some (.inl x4), some (.inl x5), some (.inl (ia_i h 418 (((ia_i h 417 15) + 2).toNatClampNeg)))] [] h
            refine ia_go hK ck_M_meetsIn_120 ?_
            show K 125 [some (.inr (.inr 417)), some (.inl x1), some (.inl x2), some (.inl x3), some (.inl x4), some (.inl x5), some (.inl (ia_i h 418 (((ia_i h 417 15) + 2).toNatClampNeg)))] [.inl 1] h
            obtain rfl := Option.some.inj hm
            exact hret 125 _ ⟨Or.inr rfl, dc_M_meetsIn_125⟩
  · replace hm := ia_ifp hm c
    show K 5 [some (.inr (.inr 417)), some (.inl x1), some (.inl x2), some (.inl x3), some (.inl x4), none, none] [] h
    refine ia_go hK ck_M_meetsIn_5 ?_
    show K 6 [some (.inr (.inr 417)), some (.inl x1), some (.inl x2), some (.inl x3), some (.inl x4), none, none] [.inl 1] h
    obtain rfl := Option.some.inj hm
    exact hret 6 _ ⟨Or.inr rfl, dc_M_meetsIn_6⟩
def mm_M_meetAt : ia_M := (⟨"IceStreetModel", "meetAt", "(III)I"⟩, prog_14_method_114_code, 7, (some .int), 12, false)
theorem ok_M_meetAt : ia_mok mm_M_meetAt := ⟨by decide +kernel, by decide +kernel, by decide +kernel, by decide +kernel⟩
theorem mk_M_meetAt : ia_mkn mm_M_meetAt 1 3 := ⟨ia_tb_in (List.mem_of_getElem? (i := 2164) (by decide +kernel)) rfl, ia_tb_in (List.mem_of_getElem? (i := 146) (by decide +kernel)) rfl, by decide +kernel, by decide +kernel, ⟨ia_tb_in (List.mem_of_getElem? (i := 2163) (by decide +kernel)) rfl, ia_tb_in (List.mem_of_getElem? (i := 124) (by decide +kernel)) rfl⟩⟩
theorem ck_M_meetAt_0 : ia_cks 12 7 false prog_14_method_114_code 0 [(.iconst 0, 0, 0, 0, 0), (.istore 4, 0, 0, 0, 0)] = true := by decide +kernel
theorem ck_M_meetAt_3 : ia_cks 12 7 false prog_14_method_114_code 3 [(.iload 4, 0, 0, 0, 0), (.aload_n 0, 0, 0, 0, 0), (.getfield 392, 12, 36, 0, 0), (.if_icmp .ge 69, 0, 0, 0, 0)] = true := by decide +kernel
theorem ck_M_meetAt_12 : ia_cks 12 7 false prog_14_method_114_code 12 [(.iload 4, 0, 0, 0, 0), (.aload_n 0, 0, 0, 0, 0), (.getfield 392, 12, 36, 0, 0)] = true := by decide +kernel
theorem ck_M_meetAt_21 : ia_cks 12 7 false prog_14_method_114_code 21 [(.istore 5, 0, 0, 0, 0), (.iload 4, 0, 0, 0, 0), (.iload_n 3, 0, 0, 0, 0), (.isub, 0, 0, 0, 0), (.aload_n 0, 0, 0, 0, 0), (.getfield 266, 12, 27, 0, 0)] = true := by decide +kernel
theorem ck_M_meetAt_34 : ia_cks 12 7 false prog_14_method_114_code 34 [(.istore 6, 0, 0, 0, 0), (.iload 5, 0, 0, 0, 0), (.ifCond .lt 34, 0, 0, 0, 0)] = true := by decide +kernel
theorem ck_M_meetAt_72 : ia_cks 12 7 false prog_14_method_114_code 72 [(.iinc 4 1, 0, 0, 0, 0), (.goto (-72), 0, 0, 0, 0)] = true := by decide +kernel
theorem ck_M_meetAt_41 : ia_cks 12 7 false prog_14_method_114_code 41 [(.iload 6, 0, 0, 0, 0), (.ifCond .lt 29, 0, 0, 0, 0)] = true := by decide +kernel
theorem ck_M_meetAt_46 : ia_cks 12 7 false prog_14_method_114_code 46 [(.aload_n 0, 0, 0, 0, 0), (.aload_n 0, 0, 0, 0, 0), (.getfield 66, 12, 35, 3, 17), (.iload 5, 0, 0, 0, 0), (.iaload, 0, 0, 0, 0), (.aload_n 0, 0, 0, 0, 0), (.getfield 45, 12, 26, 3, 10), (.iload 6, 0, 0, 0, 0), (.iaload, 0, 0, 0, 0), (.iload_n 1, 0, 0, 0, 0), (.iload_n 2, 0, 0, 0, 0)] = true := by decide +kernel
theorem ck_M_meetAt_66 : ia_cks 12 7 false prog_14_method_114_code 66 [(.ifCond .eq 6, 0, 0, 0, 0)] = true := by decide +kernel
theorem ck_M_meetAt_69 : ia_cks 12 7 false prog_14_method_114_code 69 [(.iload 4, 0, 0, 0, 0)] = true := by decide +kernel
theorem ck_M_meetAt_78 : ia_cks 12 7 false prog_14_method_114_code 78 [(.iconst (-1), 0, 0, 0, 0)] = true := by decide +kernel
theorem dc_M_meetAt_18 : decode prog_14_method_114_code 18 = .ok (.invokestatic 395, 3) := by decide +kernel
theorem dc_M_meetAt_31 : decode prog_14_method_114_code 31 = .ok (.invokestatic 395, 3) := by decide +kernel
theorem dc_M_meetAt_63 : decode prog_14_method_114_code 63 = .ok (.invokevirtual 398, 3) := by decide +kernel
theorem dc_M_meetAt_71 : decode prog_14_method_114_code 71 = .ok (.ireturn, 1) := by decide +kernel
theorem dc_M_meetAt_79 : decode prog_14_method_114_code 79 = .ok (.ireturn, 1) := by decide +kernel
def l_M_meetAt_3 (x1 : Int32) (x2 : Int32) (x3 : Int32) (h : ia_H) (k69 : Int32 → Option Int32) (k78 : Option Int32) (n : Nat) (x4 : Int32) : Option Int32 := match n with
  | 0 => none
  | n + 1 => if (ia_i h 417 36) ≤ x4 then k78 else ((f_M_atMinute x4 (ia_i h 417 36) h).bind fun v1 => ((f_M_atMinute (x4 - x3) (ia_i h 417 27) h).bind fun v2 => (if v1 < 0 then (l_M_meetAt_3 x1 x2 x3 h k69 k78 n (x4 + 1)) else (if v2 < 0 then (l_M_meetAt_3 x1 x2 x3 h k69 k78 n (x4 + 1)) else (ia_gd (ia_ib v1 36) (ia_gd (ia_ib v2 36) ((f_M_meetsIn (ia_i h 434 ((v1).toNatClampNeg)) (ia_i h 427 ((v2).toNatClampNeg)) x1 x2 h).bind fun v5 => (if v5 = 0 then (l_M_meetAt_3 x1 x2 x3 h k69 k78 n (x4 + 1)) else (k69 x4)))))))))
theorem tl_M_meetAt_3 {w : ia_O0} {d N1 W1 : Nat} {K : ia_K} (hK : ia_isK (d + 5) mm_M_meetAt N1 W1 K) {x1 : Int32} {x2 : Int32} {x3 : Int32} {h : ia_H} (hg : gd_ w h) {r : Int32} (hret : ∀ (pc : Nat) (lv : ia_L), ia_ret mm_M_meetAt pc (some (.inl r)) → K pc lv ((some (.inl r)) : Option ia_V).toList h) {k69 : Int32 → Option Int32} {k78 : Option Int32} (hk69 : ∀ (x4 : Int32), k69 x4 = some r → K 69 [none, none, none, none, some (.inl x4), none, none] [] h) (hk78 : k78 = some r → K 78 [none, none, none, none, none, none, none] [] h) : ∀ (n : Nat) (x4 : Int32), l_M_meetAt_3 x1 x2 x3 h k69 k78 n x4 = some r → K 3 [some (.inr (.inr 417)), some (.inl x1), some (.inl x2), some (.inl x3), some (.inl x4), none, none] [] h := by
  intro n
  induction n with
  | zero =>
    intro x4 hm
    cases (show (none : Option Int32) = some _ from hm)
  | succ n ih =>
    intro x4 hm
    rw [l_M_meetAt_3] at hm
    refine ia_go hK ck_M_meetAt_3 ⟨gk_12 hg pk_417, fun c => ?_, fun c => ?_⟩
    · replace hm := ia_ifp hm c
      show K 78 [some (.inr (.inr 417)), some (.inl x1), some (.inl x2), some (.inl x3), some (.inl x4), none, none] [] h
      refine ia_fg hK (lv' := [none, none, none, none, none, none, none]) trivial ?_
      exact hk78 hm
    · replace hm := ia_ifn hm c
      show K 12 [some (.inr (.inr 417)), some (.inl x1), some (.inl x2), some (.inl x3), some (.inl x4), none, none] [] h
      refine ia_go hK ck_M_meetAt_12 ⟨gk_12 hg pk_417, ?_⟩
      show K 18 [some (.inr (.inr 417)), some (.inl x1), some (.inl x2), some (.inl x3), some (.inl x4), none, none] [.inl (ia_i h 417 36), .inl x4] h
      obtain ⟨v1, hv1, hm⟩ := ia_bnd hm
      have ev1 := t_M_atMinute (d + 3) hg hv1
      refine ia_cS hK mk_M_atMinute lk_12_395 dc_M_meetAt_18 [.inl x4, .inl (ia_i h 417 36)] [] rfl rfl (Nat.le_of_ble_eq_true rfl) ev1 ⟨rfl, rfl⟩ ?_
      show K 21 [some (.inr (.inr 417)), some (.inl x1), some (.inl x2), some (.inl x3), some (.inl x4), none, none] [.inl v1] h
      refine ia_go hK ck_M_meetAt_21 ⟨gk_12 hg pk_417, ?_⟩
      show K 31 [some (.inr (.inr 417)), some (.inl x1), some (.inl x2), some (.inl x3), some (.inl x4), some (.inl v1), none] [.inl (ia_i h 417 27), .inl (x4 - x3)] h
      obtain ⟨v2, hv2, hm⟩ := ia_bnd hm
      have ev2 := t_M_atMinute (d + 3) hg hv2
      refine ia_cS hK mk_M_atMinute lk_12_395 dc_M_meetAt_31 [.inl (x4 - x3), .inl (ia_i h 417 27)] [] rfl rfl (Nat.le_of_ble_eq_true rfl) ev2 ⟨rfl, rfl⟩ ?_
      show K 34 [some (.inr (.inr 417)), some (.inl x1), some (.inl x2), some (.inl x3), some (.inl x4), some (.inl v1), none] [.inl v2] h
      refine ia_go hK ck_M_meetAt_34 ⟨fun c => ?_, fun c => ?_⟩
      · replace hm := ia_ifp hm c
        show K 72 [some (.inr (.inr 417)), some (.inl x1), some (.inl x2), some (.inl x3), some (.inl x4), some (.inl v1), some (.inl v2)] [] h
        refine ia_go hK ck_M_meetAt_72 ?_
        show K 3 [some (.inr (.inr 417)), some (.inl x1), some (.inl x2), some (.inl x3), some (.inl (x4 + 1)), some (.inl v1), some (.inl v2)] [] h
        refine ia_fg hK (lv' := [some (.inr (.inr 417)), some (.inl x1), some (.inl x2), some (.inl x3), some (.inl (x4 + 1)), none, none]) ⟨rfl, rfl, rfl, rfl, rfl, trivial⟩ ?_
        exact ih (x4 + 1) hm
      · replace hm := ia_ifn hm c
        show K 41 [some (.inr (.inr 417)), some (.inl x1), some (.inl x2), some (.inl x3), some (.inl x4), some (.inl v1), some (.inl v2)] [] h
        refine ia_go hK ck_M_meetAt_41 ⟨fun c => ?_, fun c => ?_⟩
        · replace hm := ia_ifp hm c
          show K 72 [some (.inr (.inr 417)), some (.inl x1), some (.inl x2), some (.inl x3), some (.inl x4), some (.inl v1), some (.inl v2)] [] h
          refine ia_go hK ck_M_meetAt_72 ?_
          show K 3 [some (.inr (.inr 417)), some (.inl x1), some (.inl x2), some (.inl x3), some (.inl (x4 + 1)), some (.inl v1), some (.inl v2)] [] h
          refine ia_fg hK (lv' := [some (.inr (.inr 417)), some (.inl x1), some (.inl x2), some (.inl x3), some (.inl (x4 + 1)), none, none]) ⟨rfl, rfl, rfl, rfl, rfl, trivial⟩ ?_
          exact ih (x4 + 1) hm
        · replace hm := ia_ifn hm c
          show K 46 [some (.inr (.inr 417)), some (.inl x1), some (.inl x2), some (.inl x3), some (.inl x4), some (.inl v1), some (.inl v2)] [] h
          obtain ⟨c3, hm⟩ := ia_gd_some hm
          obtain ⟨c4, hm⟩ := ia_gd_some hm
          refine ia_go hK ck_M_meetAt_46 ⟨gk_12 hg pk_417, gr_12_35 hg pk_417, ga_i100 hg (ka_12_35 pk_417) c3, gk_12 hg pk_417, gr_12_26 hg pk_417, ga_i100 hg (ka_12_26 pk_417) c4, ?_⟩
          show K 63 [some (.inr (.inr 417)), some (.inl x1), some (.inl x2), some (.inl x3), some (.inl x4), some (.inl v1), some (.inl v2)] [.inl x2, .inl x1, .inl (ia_i h 427 ((v2).toNatClampNeg)), .inl (ia_i h 434 ((v1).toNatClampNeg)), .inr (.inr 417)] h
          obtain ⟨v5, hv5, hm⟩ := ia_bnd hm
          have ev5 := t_M_meetsIn (d + 0) hg hv5
          refine ia_cV hK mk_M_meetsIn lk_12_398 dc_M_meetAt_63 417 [.inl (ia_i h 434 ((v1).toNatClampNeg)), .inl (ia_i h 427 ((v2).toNatClampNeg)), .inl x1, .inl x2] [] rfl rfl (Nat.le_of_ble_eq_true rfl) (by decide) rfl (gk_12 hg pk_417) ev5 ⟨rfl, rfl⟩ ?_
          show K 66 [some (.inr (.inr 417)), some (.inl x1), some (.inl x2), some (.inl x3), some (.inl x4), some (.inl v1), some (.inl v2)] [.inl v5] h
          refine ia_go hK ck_M_meetAt_66 ⟨fun c => ?_, fun c => ?_⟩
          · replace hm := ia_ifp hm c
            show K 72 [some (.inr (.inr 417)), some (.inl x1), some (.inl x2), some (.inl x3), some (.inl x4), some (.inl v1), some (.inl v2)] [] h
            refine ia_go hK ck_M_meetAt_72 ?_
            show K 3 [some (.inr (.inr 417)), some (.inl x1), some (.inl x2), some (.inl x3), some (.inl (x4 + 1)), some (.inl v1), some (.inl v2)] [] h
            refine ia_fg hK (lv' := [some (.inr (.inr 417)), some (.inl x1), some (.inl x2), some (.inl x3), some (.inl (x4 + 1)), none, none]) ⟨rfl, rfl, rfl, rfl, rfl, trivial⟩ ?_
            exact ih (x4 + 1) hm
          · replace hm := ia_ifn hm c
            show K 69 [some (.inr (.inr 417)), some (.inl x1), some (.inl x2), some (.inl x3), some (.inl x4), some (.inl v1), some (.inl v2)] [] h
            refine ia_fg hK (lv' := [none, none, none, none, some (.inl x4), none, none]) ⟨rfl, trivial⟩ ?_
            exact hk69 x4 hm
def f_M_meetAt (x1 : Int32) (x2 : Int32) (x3 : Int32) (h : ia_H) : Option Int32 := l_M_meetAt_3 x1 x2 x3 h (fun x4 => some x4) (some (-1)) fu_ 0
theorem t_M_meetAt {w : ia_O0} (d : Nat) {x1 : Int32} {x2 : Int32} {x3 : Int32} {h : ia_H} (hg : gd_ w h) {r : Int32} (hm : f_M_meetAt x1 x2 x3 h = some r) : ia_Ev (d + 5) mm_M_meetAt [.inr (.inr 417), .inl x1, .inl x2, .inl x3] h (some (.inl r)) h := by
  refine ia_Ev_intro ok_M_meetAt (Nat.le_refl _) (Nat.le_refl _) (Nat.le_of_ble_eq_true rfl) (fun K hK hret => ?_)
  show K 0 [some (.inr (.inr 417)), some (.inl x1), some (.inl x2), some (.inl x3), none, none, none] [] h
  unfold f_M_meetAt at hm
  refine ia_go hK ck_M_meetAt_0 ?_
  show K 3 [some (.inr (.inr 417)), some (.inl x1), some (.inl x2), some (.inl x3), some (.inl 0), none, none] [] h
  refine tl_M_meetAt_3 hK hg hret ?_ ?_ fu_ 0 hm
  · intro x4 hm
    refine ia_go hK ck_M_meetAt_69 ?_
    show K 71 [none, none, none, none, some (.inl x4), none, none] [.inl x4] h
    obtain rfl := Option.some.inj hm
    exact hret 71 _ dc_M_meetAt_71
  · intro hm
    refine ia_go hK ck_M_meetAt_78 ?_
    show K 79 [none, none, none, none, none, none, none] [.inl (-1)] h
    obtain rfl := Option.some.inj hm
    exact hret 79 _ dc_M_meetAt_79
def mm_M_meet : ia_M := (⟨"IceStreetModel", "meet", "(IIIIIIIIZ)I"⟩, prog_14_method_115_code, 13, (some .int), 12, false)
theorem ok_M_meet : ia_mok mm_M_meet := ⟨by decide +kernel, by decide +kernel, by decide +kernel, by decide +kernel⟩
theorem mk_M_meet : ia_mkn mm_M_meet 1 9 := ⟨ia_tb_in (List.mem_of_getElem? (i := 2160) (by decide +kernel)) rfl, ia_tb_in (List.mem_of_getElem? (i := 146) (by decide +kernel)) rfl, by decide +kernel, by decide +kernel, ⟨ia_tb_in (List.mem_of_getElem? (i := 2158) (by decide +kernel)) rfl, ia_tb_in (List.mem_of_getElem? (i := 2159) (by decide +kernel)) rfl⟩⟩
theorem ck_M_meet_0 : ia_cks 12 13 false prog_14_method_115_code 0 [(.iload 5, 0, 0, 0, 0), (.sipush 1000, 0, 0, 0, 0), (.irem, 0, 0, 0, 0), (.istore 10, 0, 0, 0, 0), (.iload 5, 0, 0, 0, 0), (.sipush 1000, 0, 0, 0, 0), (.idiv, 0, 0, 0, 0), (.istore 11, 0, 0, 0, 0), (.iload 5, 0, 0, 0, 0), (.ifCond .lt 45, 0, 0, 0, 0)] = true := by decide +kernel
theorem ck_M_meet_63 : ia_cks 12 13 false prog_14_method_115_code 63 [(.iconst (-1), 0, 0, 0, 0)] = true := by decide +kernel
theorem ck_M_meet_21 : ia_cks 12 13 false prog_14_method_115_code 21 [(.iload 10, 0, 0, 0, 0)] = true := by decide +kernel
theorem ck_M_meet_26 : ia_cks 12 13 false prog_14_method_115_code 26 [(.ifCond .eq 37, 0, 0, 0, 0)] = true := by decide +kernel
theorem ck_M_meet_29 : ia_cks 12 13 false prog_14_method_115_code 29 [(.iload 11, 0, 0, 0, 0)] = true := by decide +kernel
theorem ck_M_meet_34 : ia_cks 12 13 false prog_14_method_115_code 34 [(.ifCond .eq 29, 0, 0, 0, 0)] = true := by decide +kernel
theorem ck_M_meet_37 : ia_cks 12 13 false prog_14_method_115_code 37 [(.iload 6, 0, 0, 0, 0), (.ifCond .lt 24, 0, 0, 0, 0)] = true := by decide +kernel
theorem ck_M_meet_42 : ia_cks 12 13 false prog_14_method_115_code 42 [(.iload 7, 0, 0, 0, 0), (.ifCond .lt 19, 0, 0, 0, 0)] = true := by decide +kernel
theorem ck_M_meet_47 : ia_cks 12 13 false prog_14_method_115_code 47 [(.iload 9, 0, 0, 0, 0), (.ifCond .ne 16, 0, 0, 0, 0)] = true := by decide +kernel
theorem ck_M_meet_65 : ia_cks 12 13 false prog_14_method_115_code 65 [(.aload_n 0, 0, 0, 0, 0), (.iload_n 1, 0, 0, 0, 0), (.iload_n 2, 0, 0, 0, 0), (.iload_n 3, 0, 0, 0, 0), (.iload 4, 0, 0, 0, 0), (.iload 6, 0, 0, 0, 0), (.bipush 100, 0, 0, 0, 0), (.irem, 0, 0, 0, 0), (.iload 6, 0, 0, 0, 0), (.bipush 100, 0, 0, 0, 0), (.idiv, 0, 0, 0, 0)] = true := by decide +kernel
theorem ck_M_meet_84 : ia_cks 12 13 false prog_14_method_115_code 84 [(.ifCond .eq 48, 0, 0, 0, 0)] = true := by decide +kernel
theorem ck_M_meet_132 : ia_cks 12 13 false prog_14_method_115_code 132 [(.iconst (-1), 0, 0, 0, 0)] = true := by decide +kernel
theorem ck_M_meet_87 : ia_cks 12 13 false prog_14_method_115_code 87 [(.iload 7, 0, 0, 0, 0), (.bipush 100, 0, 0, 0, 0), (.irem, 0, 0, 0, 0), (.iload 7, 0, 0, 0, 0), (.bipush 100, 0, 0, 0, 0), (.idiv, 0, 0, 0, 0), (.if_icmp .eq 35, 0, 0, 0, 0)] = true := by decide +kernel
theorem ck_M_meet_100 : ia_cks 12 13 false prog_14_method_115_code 100 [(.aload_n 0, 0, 0, 0, 0), (.aload_n 0, 0, 0, 0, 0), (.getfield 201, 12, 14, 0, 0), (.iload 7, 0, 0, 0, 0), (.bipush 100, 0, 0, 0, 0), (.irem, 0, 0, 0, 0)] = true := by decide +kernel
theorem ck_M_meet_113 : ia_cks 12 13 false prog_14_method_115_code 113 [(.ifCond .eq 19, 0, 0, 0, 0)] = true := by decide +kernel
theorem ck_M_meet_116 : ia_cks 12 13 false prog_14_method_115_code 116 [(.aload_n 0, 0, 0, 0, 0), (.aload_n 0, 0, 0, 0, 0), (.getfield 201, 12, 14, 0, 0), (.iload 7, 0, 0, 0, 0), (.bipush 100, 0, 0, 0, 0), (.idiv, 0, 0, 0, 0)] = true := by decide +kernel
theorem ck_M_meet_129 : ia_cks 12 13 false prog_14_method_115_code 129 [(.ifCond .ne 5, 0, 0, 0, 0)] = true := by decide +kernel
theorem ck_M_meet_134 : ia_cks 12 13 false prog_14_method_115_code 134 [(.aload_n 0, 0, 0, 0, 0), (.iload 6, 0, 0, 0, 0), (.bipush 100, 0, 0, 0, 0), (.irem, 0, 0, 0, 0), (.iload 6, 0, 0, 0, 0), (.bipush 100, 0, 0, 0, 0), (.idiv, 0, 0, 0, 0), (.iload 10, 0, 0, 0, 0)] = true := by decide +kernel
theorem ck_M_meet_150 : ia_cks 12 13 false prog_14_method_115_code 150 [(.ifCond .ne 5, 0, 0, 0, 0)] = true := by decide +kernel
theorem ck_M_meet_155 : ia_cks 12 13 false prog_14_method_115_code 155 [(.aload_n 0, 0, 0, 0, 0), (.aload_n 0, 0, 0, 0, 0), (.getfield 266, 12, 27, 0, 0), (.putfield 392, 12, 36, 0, 0), (.iconst 0, 0, 0, 0, 0), (.istore 12, 0, 0, 0, 0)] = true := by decide +kernel
theorem ck_M_meet_166 : ia_cks 12 13 false prog_14_method_115_code 166 [(.iload 12, 0, 0, 0, 0), (.aload_n 0, 0, 0, 0, 0), (.getfield 266, 12, 27, 0, 0), (.if_icmp .ge 23, 0, 0, 0, 0)] = true := by decide +kernel
theorem ck_M_meet_175 : ia_cks 12 13 false prog_14_method_115_code 175 [(.aload_n 0, 0, 0, 0, 0), (.getfield 66, 12, 35, 3, 17), (.iload 12, 0, 0, 0, 0), (.aload_n 0, 0, 0, 0, 0), (.getfield 45, 12, 26, 3, 10), (.iload 12, 0, 0, 0, 0), (.iaload, 0, 0, 0, 0), (.iastore, 0, 0, 0, 0), (.iinc 12 1, 0, 0, 0, 0), (.goto (-26), 0, 0, 0, 0)] = true := by decide +kernel
theorem ck_M_meet_195 : ia_cks 12 13 false prog_14_method_115_code 195 [(.aload_n 0, 0, 0, 0, 0), (.iload 7, 0, 0, 0, 0), (.bipush 100, 0, 0, 0, 0), (.irem, 0, 0, 0, 0), (.iload 7, 0, 0, 0, 0), (.bipush 100, 0, 0, 0, 0), (.idiv, 0, 0, 0, 0), (.iload 11, 0, 0, 0, 0)] = true := by decide +kernel
theorem ck_M_meet_211 : ia_cks 12 13 false prog_14_method_115_code 211 [(.ifCond .ne 5, 0, 0, 0, 0)] = true := by decide +kernel
theorem ck_M_meet_216 : ia_cks 12 13 false prog_14_method_115_code 216 [(.iload 9, 0, 0, 0, 0), (.ifCond .ne 14, 0, 0, 0, 0)] = true := by decide +kernel
theorem ck_M_meet_232 : ia_cks 12 13 false prog_14_method_115_code 232 [(.iconst 0, 0, 0, 0, 0), (.istore 12, 0, 0, 0, 0)] = true := by decide +kernel
theorem ck_M_meet_235 : ia_cks 12 13 false prog_14_method_115_code 235 [(.iload 12, 0, 0, 0, 0), (.bipush 40, 0, 0, 0, 0), (.if_icmp .gt 25, 0, 0, 0, 0)] = true := by decide +kernel
theorem ck_M_meet_242 : ia_cks 12 13 false prog_14_method_115_code 242 [(.aload_n 0, 0, 0, 0, 0), (.iload 10, 0, 0, 0, 0), (.iload 11, 0, 0, 0, 0), (.iload 12, 0, 0, 0, 0)] = true := by decide +kernel
theorem ck_M_meet_252 : ia_cks 12 13 false prog_14_method_115_code 252 [(.ifCond .ge 6, 0, 0, 0, 0)] = true := by decide +kernel
theorem ck_M_meet_258 : ia_cks 12 13 false prog_14_method_115_code 258 [(.iinc 12 1, 0, 0, 0, 0), (.goto (-26), 0, 0, 0, 0)] = true := by decide +kernel
theorem ck_M_meet_255 : ia_cks 12 13 false prog_14_method_115_code 255 [(.iload 12, 0, 0, 0, 0)] = true := by decide +kernel
theorem ck_M_meet_264 : ia_cks 12 13 false prog_14_method_115_code 264 [(.iconst (-1), 0, 0, 0, 0)] = true := by decide +kernel
theorem ck_M_meet_221 : ia_cks 12 13 false prog_14_method_115_code 221 [(.aload_n 0, 0, 0, 0, 0), (.iload 10, 0, 0, 0, 0), (.iload 11, 0, 0, 0, 0), (.iload 8, 0, 0, 0, 0)] = true := by decide +kernel
theorem ck_M_meet_214 : ia_cks 12 13 false prog_14_method_115_code 214 [(.iconst (-1), 0, 0, 0, 0)] = true := by decide +kernel
theorem ck_M_meet_153 : ia_cks 12 13 false prog_14_method_115_code 153 [(.iconst (-1), 0, 0, 0, 0)] = true := by decide +kernel
theorem ck_M_meet_52 : ia_cks 12 13 false prog_14_method_115_code 52 [(.iload 8, 0, 0, 0, 0), (.iconst 0, 0, 0, 0, 0), (.bipush 40, 0, 0, 0, 0)] = true := by decide +kernel
theorem ck_M_meet_60 : ia_cks 12 13 false prog_14_method_115_code 60 [(.ifCond .ne 5, 0, 0, 0, 0)] = true := by decide +kernel
theorem dc_M_meet_64 : decode prog_14_method_115_code 64 = .ok (.ireturn, 1) := by decide +kernel
theorem dc_M_meet_23 : decode prog_14_method_115_code 23 = .ok (.invokestatic 349, 3) := by decide +kernel
theorem dc_M_meet_31 : decode prog_14_method_115_code 31 = .ok (.invokestatic 349, 3) := by decide +kernel
theorem dc_M_meet_81 : decode prog_14_method_115_code 81 = .ok (.invokevirtual 325, 3) := by decide +kernel
theorem dc_M_meet_133 : decode prog_14_method_115_code 133 = .ok (.ireturn, 1) := by decide +kernel
theorem dc_M_meet_110 : decode prog_14_method_115_code 110 = .ok (.invokevirtual 192, 3) := by decide +kernel
theorem dc_M_meet_126 : decode prog_14_method_115_code 126 = .ok (.invokevirtual 192, 3) := by decide +kernel
theorem dc_M_meet_147 : decode prog_14_method_115_code 147 = .ok (.invokevirtual 287, 3) := by decide +kernel
theorem dc_M_meet_208 : decode prog_14_method_115_code 208 = .ok (.invokevirtual 287, 3) := by decide +kernel
theorem dc_M_meet_249 : decode prog_14_method_115_code 249 = .ok (.invokevirtual 401, 3) := by decide +kernel
theorem dc_M_meet_257 : decode prog_14_method_115_code 257 = .ok (.ireturn, 1) := by decide +kernel
theorem dc_M_meet_265 : decode prog_14_method_115_code 265 = .ok (.ireturn, 1) := by decide +kernel
theorem dc_M_meet_228 : decode prog_14_method_115_code 228 = .ok (.invokevirtual 401, 3) := by decide +kernel
theorem dc_M_meet_231 : decode prog_14_method_115_code 231 = .ok (.ireturn, 1) := by decide +kernel
theorem dc_M_meet_215 : decode prog_14_method_115_code 215 = .ok (.ireturn, 1) := by decide +kernel
theorem dc_M_meet_154 : decode prog_14_method_115_code 154 = .ok (.ireturn, 1) := by decide +kernel
theorem dc_M_meet_57 : decode prog_14_method_115_code 57 = .ok (.invokestatic 116, 3) := by decide +kernel
def l_M_meet_166 (x1 : Int32) (x2 : Int32) (x3 : Int32) (x4 : Int32) (x5 : Int32) (x6 : Int32) (x7 : Int32) (x8 : Int32) (x9 : Int32) (k195 : Int32 → Int32 → ia_H → Option (Int32 × ia_H)) (n : Nat) (x10 : Int32) (x11 : Int32) (x12 : Int32) (h : ia_H) : Option (Int32 × ia_H) := match n with
  | 0 => none
  | n + 1 => if (ia_i h 417 27) ≤ x12 then (k195 x10 x11 h) else (ia_gd (ia_ib x12 36) (ia_gd (ia_ib x12 36) (l_M_meet_166 x1 x2 x3 x4 x5 x6 x7 x8 x9 k195 n x10 x11 (x12 + 1) (ia_wI h 434 ((x12).toNatClampNeg) (ia_i h 427 ((x12).toNatClampNeg))))))
theorem tl_M_meet_166 {w : ia_O0} {d N1 W1 : Nat} {K : ia_K} (hK : ia_isK (d + 12) mm_M_meet N1 W1 K) {x1 : Int32} {x2 : Int32} {x3 : Int32} {x4 : Int32} {x5 : Int32} {x6 : Int32} {x7 : Int32} {x8 : Int32} {x9 : Int32} {r : Int32} {h1 : ia_H} (hret : ∀ (pc : Nat) (lv : ia_L), ia_ret mm_M_meet pc (some (.inl r)) → K pc lv ((some (.inl r)) : Option ia_V).toList h1) {k195 : Int32 → Int32 → ia_H → Option (Int32 × ia_H)} (hk195 : ∀ (x10 : Int32) (x11 : Int32) (h : ia_H), gd_ w h → k195 x10 x11 h = some (r, h1) → K 195 [some (.inr (.inr 417)), none, none, none, none, none, none, some (.inl x7), some (.inl x8), some (.inl x9), some (.inl x10), some (.inl x11), none] [] h) : ∀ (n : Nat) (x10 : Int32) (x11 : Int32) (x12 : Int32) (h : ia_H), gd_ w h → l_M_meet_166 x1 x2 x3 x4 x5 x6 x7 x8 x9 k195 n x10 x11 x12 h = some (r, h1) → K 166 [some (.inr (.inr 417)), none, none, none, none, none, none, some (.inl x7), some (.inl x8), some (.inl x9), some (.inl x10), some (.inl x11), some (.inl x12)] [] h := by
  intro n
  induction n with
  | zero =>
    intro x10 x11 x12 h hg hm
    cases (show (none : Option (Int32 × ia_H)) = some _ from hm)
  | succ n ih =>
    intro x10 x11 x12 h hg hm
    rw [l_M_meet_166] at hm
    refine ia_go hK ck_M_meet_166 ⟨gk_12 hg pk_417, fun c => ?_, fun c => ?_⟩
    · replace hm := ia_ifp hm c
      show K 195 [some (.inr (.inr 417)), none, none, none, none, none, none, some (.inl x7), some (.inl x8), some (.inl x9), some (.inl x10), some (.inl x11), some (.inl x12)] [] h
      refine ia_fg hK (lv' := [some (.inr (.inr 417)), none, none, none, none, none, none, some (.inl x7), some (.inl x8), some (.inl x9), some (.inl x10), some (.inl x11), none]) ⟨rfl, rfl, rfl, rfl, rfl, rfl, trivial⟩ ?_
      exact hk195 x10 x11 h hg hm
    · replace hm := ia_ifn hm c
      show K 175 [some (.inr (.inr 417)), none, none, none, none, none, none, some (.inl x7), some (.inl x8), some (.inl x9), some (.inl x10), some (.inl x11), some (.inl x12)] [] h
      obtain ⟨c7, hm⟩ := ia_gd_some hm
      obtain ⟨c8, hm⟩ := ia_gd_some hm
      refine ia_go hK ck_M_meet_175 ⟨gk_12 hg pk_417, gr_12_35 hg pk_417, gk_12 hg pk_417, gr_12_26 hg pk_417, ga_i100 hg (ka_12_26 pk_417) c7, ga_s100 hg (ka_12_35 pk_417) c8, ?_⟩
      show K 166 [some (.inr (.inr 417)), none, none, none, none, none, none, some (.inl x7), some (.inl x8), some (.inl x9), some (.inl x10), some (.inl x11), some (.inl (x12 + 1))] [] (ia_wI h 434 ((x12).toNatClampNeg) (ia_i h 427 ((x12).toNatClampNeg)))
      exact ih x10 x11 (x12 + 1) (ia_wI h 434 ((x12).toNatClampNeg) (ia_i h 427 ((x12).toNatClampNeg))) (gd_wI hg (kx_100 (ka_12_35 pk_417))) hm
theorem gl_M_meet_166 {w : ia_O0} {x1 : Int32} {x2 : Int32} {x3 : Int32} {x4 : Int32} {x5 : Int32} {x6 : Int32} {x7 : Int32} {x8 : Int32} {x9 : Int32} {r : Int32} {h1 : ia_H} {k195 : Int32 → Int32 → ia_H → Option (Int32 × ia_H)} (hk195 : ∀ (x10 : Int32) (x11 : Int32) (h : ia_H), gd_ w h → k195 x10 x11 h = some (r, h1) → gd_ w h1) : ∀ (n : Nat) (x10 : Int32) (x11 : Int32) (x12 : Int32) (h : ia_H), gd_ w h → l_M_meet_166 x1 x2 x3 x4 x5 x6 x7 x8 x9 k195 n x10 x11 x12 h = some (r, h1) → gd_ w h1 := by
  intro n
  induction n with
  | zero =>
    intro x10 x11 x12 h hg hm
    cases (show (none : Option (Int32 × ia_H)) = some _ from hm)
  | succ n ih =>
    intro x10 x11 x12 h hg hm
    rw [l_M_meet_166] at hm
    by_cases c : (ia_i h 417 27) ≤ x12
    · replace hm := ia_ifp hm c
      exact hk195 x10 x11 h hg hm
    · replace hm := ia_ifn hm c
      obtain ⟨c7, hm⟩ := ia_gd_some hm
      obtain ⟨c8, hm⟩ := ia_gd_some hm
      exact ih x10 x11 (x12 + 1) (ia_wI h 434 ((x12).toNatClampNeg) (ia_i h 427 ((x12).toNatClampNeg))) (gd_wI hg (kx_100 (ka_12_35 pk_417))) hm
def l_M_meet_235 (x1 : Int32) (x2 : Int32) (x3 : Int32) (x4 : Int32) (x5 : Int32) (x6 : Int32) (x7 : Int32) (x8 : Int32) (x9 : Int32) (k255 : Int32 → ia_H → Option (Int32 × ia_H)) (k264 : ia_H → Option (Int32 × ia_H)) (n : Nat) (x10 : Int32) (x11 : Int32) (x12 : Int32) (h : ia_H) : Option (Int32 × ia_H) := match n with
  | 0 => none
  | n + 1 => if 40 < x12 then (k264 h) else ((f_M_meetAt x10 x11 x12 h).bind fun v10 => (if 0 ≤ v10 then (l_M_meet_235 x1 x2 x3 x4 x5 x6 x7 x8 x9 k255 k264 n x10 x11 (x12 + 1) h) else (k255 x12 h)))
theorem tl_M_meet_235 {w : ia_O0} {d N1 W1 : Nat} {K : ia_K} (hK : ia_isK (d + 12) mm_M_meet N1 W1 K) {x1 : Int32} {x2 : Int32} {x3 : Int32} {x4 : Int32} {x5 : Int32} {x6 : Int32} {x7 : Int32} {x8 : Int32} {x9 : Int32} {r : Int32} {h1 : ia_H} (hret : ∀ (pc : Nat) (lv : ia_L), ia_ret mm_M_meet pc (some (.inl r)) → K pc lv ((some (.inl r)) : Option ia_V).toList h1) {k255 : Int32 → ia_H → Option (Int32 × ia_H)} {k264 : ia_H → Option (Int32 × ia_H)} (hk255 : ∀ (x12 : Int32) (h : ia_H), gd_ w h → k255 x12 h = some (r, h1) → K 255 [none, none, none, none, none, none, none, none, none, none, none, none, some (.inl x12)] [] h) (hk264 : ∀ (h : ia_H), gd_ w h → k264 h = some (r, h1) → K 264 [none, none, none, none, none, none, none, none, none, none, none, none, none] [] h) : ∀ (n : Nat) (x10 : Int32) (x11 : Int32) (x12 : Int32) (h : ia_H), gd_ w h → l_M_meet_235 x1 x2 x3 x4 x5 x6 x7 x8 x9 k255 k264 n x10 x11 x12 h = some (r, h1) → K 235 [some (.inr (.inr 417)), none, none, none, none, none, none, none, none, none, some (.inl x10), some (.inl x11), some (.inl x12)] [] h := by
  intro n
  induction n with
  | zero =>
    intro x10 x11 x12 h hg hm
    cases (show (none : Option (Int32 × ia_H)) = some _ from hm)
  | succ n ih =>
    intro x10 x11 x12 h hg hm
    rw [l_M_meet_235] at hm
    refine ia_go hK ck_M_meet_235 ⟨fun c => ?_, fun c => ?_⟩
    · replace hm := ia_ifp hm c
      show K 264 [some (.inr (.inr 417)), none, none, none, none, none, none, none, none, none, some (.inl x10), some (.inl x11), some (.inl x12)] [] h
      refine ia_fg hK (lv' := [none, none, none, none, none, none, none, none, none, none, none, none, none]) trivial ?_
      exact hk264 h hg hm
    · replace hm := ia_ifn hm c
      show K 242 [some (.inr (.inr 417)), none, none, none, none, none, none, none, none, none, some (.inl x10), some (.inl x11), some (.inl x12)] [] h
      refine ia_go hK ck_M_meet_242 ?_
      show K 249 [some (.inr (.inr 417)), none, none, none, none, none, none, none, none, none, some (.inl x10), some (.inl x11), some (.inl x12)] [.inl x12, .inl x11, .inl x10, .inr (.inr 417)] h
      obtain ⟨v10, hv10, hm⟩ := ia_bnd hm
      have ev10 := t_M_meetAt (d + 6) hg hv10
      refine ia_cV hK mk_M_meetAt lk_12_401 dc_M_meet_249 417 [.inl x10, .inl x11, .inl x12] [] rfl rfl (Nat.le_of_ble_eq_true rfl) (by decide) rfl (gk_12 hg pk_417) ev10 ⟨rfl, rfl⟩ ?_
      show K 252 [some (.inr (.inr 417)), none, none, none, none, none, none, none, none, none, some (.inl x10), some (.inl x11), some (.inl x12)] [.inl v10] h
      refine ia_go hK ck_M_meet_252 ⟨fun c => ?_, fun c => ?_⟩
      · replace hm := ia_ifp hm c
        show K 258 [some (.inr (.inr 417)), none, none, none, none, none, none, none, none, none, some (.inl x10), some (.inl x11), some (.inl x12)] [] h
        refine ia_go hK ck_M_meet_258 ?_
        show K 235 [some (.inr (.inr 417)), none, none, none, none, none, none, none, none, none, some (.inl x10), some (.inl x11), some (.inl (x12 + 1))] [] h
        exact ih x10 x11 (x12 + 1) h hg hm
      · replace hm := ia_ifn hm c
        show K 255 [some (.inr (.inr 417)), none, none, none, none, none, none, none, none, none, some (.inl x10), some (.inl x11), some (.inl x12)] [] h
        refine ia_fg hK (lv' := [none, none, none, none, none, none, none, none, none, none, none, none, some (.inl x12)]) ⟨rfl, trivial⟩ ?_
        exact hk255 x12 h hg hm
theorem gl_M_meet_235 {w : ia_O0} {x1 : Int32} {x2 : Int32} {x3 : Int32} {x4 : Int32} {x5 : Int32} {x6 : Int32} {x7 : Int32} {x8 : Int32} {x9 : Int32} {r : Int32} {h1 : ia_H} {k255 : Int32 → ia_H → Option (Int32 × ia_H)} {k264 : ia_H → Option (Int32 × ia_H)} (hk255 : ∀ (x12 : Int32) (h : ia_H), gd_ w h → k255 x12 h = some (r, h1) → gd_ w h1) (hk264 : ∀ (h : ia_H), gd_ w h → k264 h = some (r, h1) → gd_ w h1) : ∀ (n : Nat) (x10 : Int32) (x11 : Int32) (x12 : Int32) (h : ia_H), gd_ w h → l_M_meet_235 x1 x2 x3 x4 x5 x6 x7 x8 x9 k255 k264 n x10 x11 x12 h = some (r, h1) → gd_ w h1 := by
  intro n
  induction n with
  | zero =>
    intro x10 x11 x12 h hg hm
    cases (show (none : Option (Int32 × ia_H)) = some _ from hm)
  | succ n ih =>
    intro x10 x11 x12 h hg hm
    rw [l_M_meet_235] at hm
    by_cases c : 40 < x12
    · replace hm := ia_ifp hm c
      exact hk264 h hg hm
    · replace hm := ia_ifn hm c
      obtain ⟨v10, hv10, hm⟩ := ia_bnd hm
      by_cases c : 0 ≤ v10
      · replace hm := ia_ifp hm c
        exact ih x10 x11 (x12 + 1) h hg hm
      · replace hm := ia_ifn hm c
        exact hk255 x12 h hg hm
def j_M_meet_65 (x1 : Int32) (x2 : Int32) (x3 : Int32) (x4 : Int32) (x5 : Int32) (x6 : Int32) (x7 : Int32) (x8 : Int32) (x9 : Int32) (x10 : Int32) (x11 : Int32) (h : ia_H) : Option (Int32 × ia_H) := (f_M_areWays x1 x2 x3 x4 (x6 - x6 / 100 * 100) (x6 / 100) h).bind fun v3 => (if v3.1 = 0 then (some ((-1), v3.2)) else (if (x7 - x7 / 100 * 100) = (x7 / 100) then (some ((-1), v3.2)) else ((f_M_isCell (ia_i v3.2 417 14) (x7 - x7 / 100 * 100) v3.2).bind fun v4 => (if v4 = 0 then (some ((-1), v3.2)) else ((f_M_isCell (ia_i v3.2 417 14) (x7 / 100) v3.2).bind fun v5 => (if v5 = 0 then (some ((-1), v3.2)) else ((f_M_shortWay (x6 - x6 / 100 * 100) (x6 / 100) x10 v3.2).bind fun v6 => (if v6.1 = 0 then (some ((-1), v6.2)) else (l_M_meet_166 x1 x2 x3 x4 x5 x6 x7 x8 x9 (fun x10 x11 h => (f_M_shortWay (x7 - x7 / 100 * 100) (x7 / 100) x11 h).bind fun v9 => (if v9.1 = 0 then (some ((-1), v9.2)) else (if x9 = 0 then ((f_M_meetAt x10 x11 x8 v9.2).bind fun v11 => (some (v11, v9.2))) else (l_M_meet_235 x1 x2 x3 x4 x5 x6 x7 x8 x9 (fun x12 h => some (x12, h)) (fun h => some ((-1), h)) fu_ x10 x11 0 v9.2)))) fu_ x10 x11 0 (ia_wI v6.2 417 36 (ia_i v6.2 417 27)))))))))))
theorem tj_M_meet_65 {w : ia_O0} {d N1 W1 : Nat} {K : ia_K} (hK : ia_isK (d + 12) mm_M_meet N1 W1 K) {x1 : Int32} {x2 : Int32} {x3 : Int32} {x4 : Int32} {x5 : Int32} {x6 : Int32} {x7 : Int32} {x8 : Int32} {x9 : Int32} {r : Int32} {h1 : ia_H} (hret : ∀ (pc : Nat) (lv : ia_L), ia_ret mm_M_meet pc (some (.inl r)) → K pc lv ((some (.inl r)) : Option ia_V).toList h1) : ∀ (x10 : Int32) (x11 : Int32) (h : ia_H), gd_ w h → j_M_meet_65 x1 x2 x3 x4 x5 x6 x7 x8 x9 x10 x11 h = some (r, h1) → K 65 [some (.inr (.inr 417)), some (.inl x1), some (.inl x2), some (.inl x3), some (.inl x4), none, some (.inl x6), some (.inl x7), some (.inl x8), some (.inl x9), some (.inl x10), some (.inl x11), none] [] h := by
  intro x10 x11 h hg hm
  unfold j_M_meet_65 at hm
  refine ia_go hK ck_M_meet_65 ⟨(by decide), (by decide), ?_⟩
  show K 81 [some (.inr (.inr 417)), some (.inl x1), some (.inl x2), some (.inl x3), some (.inl x4), none, some (.inl x6), some (.inl x7), some (.inl x8), some (.inl x9), some (.inl x10), some (.inl x11), none] [.inl (x6 / 100), .inl (x6 - x6 / 100 * 100), .inl x4, .inl x3, .inl x2, .inl x1, .inr (.inr 417)] h
  obtain ⟨v3, hv3, hm⟩ := ia_bnd hm
  have ev3 := t_M_areWays (d + 0) hg hv3
  have gv3 := g_M_areWays hg hv3
  refine ia_cV hK mk_M_areWays lk_12_325 dc_M_meet_81 417 [.inl x1, .inl x2, .inl x3, .inl x4, .inl (x6 - x6 / 100 * 100), .inl (x6 / 100)] [] rfl rfl (Nat.le_of_ble_eq_true rfl) (by decide) rfl (gk_12 hg pk_417) ev3 (gd_nm hg gv3) ?_
  show K 84 [some (.inr (.inr 417)), some (.inl x1), some (.inl x2), some (.inl x3), some (.inl x4), none, some (.inl x6), some (.inl x7), some (.inl x8), some (.inl x9), some (.inl x10), some (.inl x11), none] [.inl v3.1] v3.2
  refine ia_go hK ck_M_meet_84 ⟨fun c => ?_, fun c => ?_⟩
  · replace hm := ia_ifp hm c
    show K 132 [some (.inr (.inr 417)), some (.inl x1), some (.inl x2), some (.inl x3), some (.inl x4), none, some (.inl x6), some (.inl x7), some (.inl x8), some (.inl x9), some (.inl x10), some (.inl x11), none] [] v3.2
    refine ia_go hK ck_M_meet_132 ?_
    show K 133 [some (.inr (.inr 417)), some (.inl x1), some (.inl x2), some (.inl x3), some (.inl x4), none, some (.inl x6), some (.inl x7), some (.inl x8), some (.inl x9), some (.inl x10), some (.inl x11), none] [.inl (-1)] v3.2
    obtain ⟨rfl, rfl⟩ := Prod.mk.inj (Option.some.inj hm)
    exact hret 133 _ dc_M_meet_133
  · replace hm := ia_ifn hm c
    show K 87 [some (.inr (.inr 417)), some (.inl x1), some (.inl x2), some (.inl x3), some (.inl x4), none, some (.inl x6), some (.inl x7), some (.inl x8), some (.inl x9), some (.inl x10), some (.inl x11), none] [] v3.2
    refine ia_go hK ck_M_meet_87 ⟨(by decide), (by decide), fun c => ?_, fun c => ?_⟩
    · replace hm := ia_ifp hm c
      show K 132 [some (.inr (.inr 417)), some (.inl x1), some (.inl x2), some (.inl x3), some (.inl x4), none, some (.inl x6), some (.inl x7), some (.inl x8), some (.inl x9), some (.inl x10), some (.inl x11), none] [] v3.2
      refine ia_go hK ck_M_meet_132 ?_
      show K 133 [some (.inr (.inr 417)), some (.inl x1), some (.inl x2), some (.inl x3), some (.inl x4), none, some (.inl x6), some (.inl x7), some (.inl x8), some (.inl x9), some (.inl x10), some (.inl x11), none] [.inl (-1)] v3.2
      obtain ⟨rfl, rfl⟩ := Prod.mk.inj (Option.some.inj hm)
      exact hret 133 _ dc_M_meet_133
    · replace hm := ia_ifn hm c
      show K 100 [some (.inr (.inr 417)), some (.inl x1), some (.inl x2), some (.inl x3), some (.inl x4), none, some (.inl x6), some (.inl x7), some (.inl x8), some (.inl x9), some (.inl x10), some (.inl x11), none] [] v3.2
      refine ia_go hK ck_M_meet_100 ⟨gk_12 gv3 pk_417, (by decide), ?_⟩
      show K 110 [some (.inr (.inr 417)), some (.inl x1), some (.inl x2), some (.inl x3), some (.inl x4), none, some (.inl x6), some (.inl x7), some (.inl x8), some (.inl x9), some (.inl x10), some (.inl x11), none] [.inl (x7 - x7 / 100 * 100), .inl (ia_i v3.2 417 14), .inr (.inr 417)] v3.2
      obtain ⟨v4, hv4, hm⟩ := ia_bnd hm
      have ev4 := t_M_isCell (d + 10) gv3 hv4
      refine ia_cV hK mk_M_isCell lk_12_192 dc_M_meet_110 417 [.inl (ia_i v3.2 417 14), .inl (x7 - x7 / 100 * 100)] [] rfl rfl (Nat.le_of_ble_eq_true rfl) (by decide) rfl (gk_12 gv3 pk_417) ev4 ⟨rfl, rfl⟩ ?_
      show K 113 [some (.inr (.inr 417)), some (.inl x1), some (.inl x2), some (.inl x3), some (.inl x4), none, some (.inl x6), some (.inl x7), some (.inl x8), some (.inl x9), some (.inl x10), some (.inl x11), none] [.inl v4] v3.2
      refine ia_go hK ck_M_meet_113 ⟨fun c => ?_, fun c => ?_⟩
      · replace hm := ia_ifp hm c
        show K 132 [some (.inr (.inr 417)), some (.inl x1), some (.inl x2), some (.inl x3), some (.inl x4), none, some (.inl x6), some (.inl x7), some (.inl x8), some (.inl x9), some (.inl x10), some (.inl x11), none] [] v3.2
        refine ia_go hK ck_M_meet_132 ?_
        show K 133 [some (.inr (.inr 417)), some (.inl x1), some (.inl x2), some (.inl x3), some (.inl x4), none, some (.inl x6), some (.inl x7), some (.inl x8), some (.inl x9), some (.inl x10), some (.inl x11), none] [.inl (-1)] v3.2
        obtain ⟨rfl, rfl⟩ := Prod.mk.inj (Option.some.inj hm)
        exact hret 133 _ dc_M_meet_133
      · replace hm := ia_ifn hm c
        show K 116 [some (.inr (.inr 417)), some (.inl x1), some (.inl x2), some (.inl x3), some (.inl x4), none, some (.inl x6), some (.inl x7), some (.inl x8), some (.inl x9), some (.inl x10), some (.inl x11), none] [] v3.2
        refine ia_go hK ck_M_meet_116 ⟨gk_12 gv3 pk_417, (by decide), ?_⟩
        show K 126 [some (.inr (.inr 417)), some (.inl x1), some (.inl x2), some (.inl x3), some (.inl x4), none, some (.inl x6), some (.inl x7), some (.inl x8), some (.inl x9), some (.inl x10), some (.inl x11), none] [.inl (x7 / 100), .inl (ia_i v3.2 417 14), .inr (.inr 417)] v3.2
        obtain ⟨v5, hv5, hm⟩ := ia_bnd hm
        have ev5 := t_M_isCell (d + 10) gv3 hv5
        refine ia_cV hK mk_M_isCell lk_12_192 dc_M_meet_126 417 [.inl (ia_i v3.2 417 14), .inl (x7 / 100)] [] rfl rfl (Nat.le_of_ble_eq_true rfl) (by decide) rfl (gk_12 gv3 pk_417) ev5 ⟨rfl, rfl⟩ ?_
        show K 129 [some (.inr (.inr 417)), some (.inl x1), some (.inl x2), some (.inl x3), some (.inl x4), none, some (.inl x6), some (.inl x7), some (.inl x8), some (.inl x9), some (.inl x10), some (.inl x11), none] [.inl v5] v3.2
        refine ia_go hK ck_M_meet_129 ⟨fun c => ?_, fun c => ?_⟩
        · replace hm := ia_ifn hm c
          show K 134 [some (.inr (.inr 417)), some (.inl x1), some (.inl x2), some (.inl x3), some (.inl x4), none, some (.inl x6), some (.inl x7), some (.inl x8), some (.inl x9), some (.inl x10), some (.inl x11), none] [] v3.2
          refine ia_go hK ck_M_meet_134 ⟨(by decide), (by decide), ?_⟩
          show K 147 [some (.inr (.inr 417)), some (.inl x1), some (.inl x2), some (.inl x3), some (.inl x4), none, some (.inl x6), some (.inl x7), some (.inl x8), some (.inl x9), some (.inl x10), some (.inl x11), none] [.inl x10, .inl (x6 / 100), .inl (x6 - x6 / 100 * 100), .inr (.inr 417)] v3.2
          obtain ⟨v6, hv6, hm⟩ := ia_bnd hm
          have ev6 := t_M_shortWay (d + 4) gv3 hv6
          have gv6 := g_M_shortWay gv3 hv6
          refine ia_cV hK mk_M_shortWay lk_12_287 dc_M_meet_147 417 [.inl (x6 - x6 / 100 * 100), .inl (x6 / 100), .inl x10] [] rfl rfl (Nat.le_of_ble_eq_true rfl) (by decide) rfl (gk_12 gv3 pk_417) ev6 (gd_nm gv3 gv6) ?_
          show K 150 [some (.inr (.inr 417)), some (.inl x1), some (.inl x2), some (.inl x3), some (.inl x4), none, some (.inl x6), some (.inl x7), some (.inl x8), some (.inl x9), some (.inl x10), some (.inl x11), none] [.inl v6.1] v6.2
          refine ia_go hK ck_M_meet_150 ⟨fun c => ?_, fun c => ?_⟩
          · replace hm := ia_ifn hm c
            show K 155 [some (.inr (.inr 417)), some (.inl x1), some (.inl x2), some (.inl x3), some (.inl x4), none, some (.inl x6), some (.inl x7), some (.inl x8), some (.inl x9), some (.inl x10), some (.inl x11), none] [] v6.2
            refine ia_go hK ck_M_meet_155 ⟨gk_12 gv6 pk_417, gk_12 gv6 pk_417, ?_⟩
            show K 166 [some (.inr (.inr 417)), some (.inl x1), some (.inl x2), some (.inl x3), some (.inl x4), none, some (.inl x6), some (.inl x7), some (.inl x8), some (.inl x9), some (.inl x10), some (.inl x11), some (.inl 0)] [] (ia_wI v6.2 417 36 (ia_i v6.2 417 27))
            refine ia_fg hK (lv' := [some (.inr (.inr 417)), none, none, none, none, none, none, some (.inl x7), some (.inl x8), some (.inl x9), some (.inl x10), some (.inl x11), some (.inl 0)]) ⟨rfl, rfl, rfl, rfl, rfl, rfl, rfl, trivial⟩ ?_
            refine tl_M_meet_166 hK hret ?_ fu_ x10 x11 0 (ia_wI v6.2 417 36 (ia_i v6.2 417 27)) (gd_wI gv6 (ko_12 pk_417)) hm
            · intro x10 x11 h hg hm
              refine ia_go hK ck_M_meet_195 ⟨(by decide), (by decide), ?_⟩
              show K 208 [some (.inr (.inr 417)), none, none, none, none, none, none, some (.inl x7), some (.inl x8), some (.inl x9), some (.inl x10), some (.inl x11), none] [.inl x11, .inl (x7 / 100), .inl (x7 - x7 / 100 * 100), .inr (.inr 417)] h
              obtain ⟨v9, hv9, hm⟩ := ia_bnd hm
              have ev9 := t_M_shortWay (d + 4) hg hv9
              have gv9 := g_M_shortWay hg hv9
              refine ia_cV hK mk_M_shortWay lk_12_287 dc_M_meet_208 417 [.inl (x7 - x7 / 100 * 100), .inl (x7 / 100), .inl x11] [] rfl rfl (Nat.le_of_ble_eq_true rfl) (by decide) rfl (gk_12 hg pk_417) ev9 (gd_nm hg gv9) ?_
              show K 211 [some (.inr (.inr 417)), none, none, none, none, none, none, some (.inl x7), some (.inl x8), some (.inl x9), some (.inl x10), some (.inl x11), none] [.inl v9.1] v9.2
              refine ia_go hK ck_M_meet_211 ⟨fun c => ?_, fun c => ?_⟩
              · replace hm := ia_ifn hm c
                show K 216 [some (.inr (.inr 417)), none, none, none, none, none, none, some (.inl x7), some (.inl x8), some (.inl x9), some (.inl x10), some (.inl x11), none] [] v9.2
                refine ia_go hK ck_M_meet_216 ⟨fun c => ?_, fun c => ?_⟩
                · replace hm := ia_ifn hm c
                  show K 232 [some (.inr (.inr 417)), none, none, none, none, none, none, some (.inl x7), some (.inl x8), some (.inl x9), some (.inl x10), some (.inl x11), none] [] v9.2
                  refine ia_go hK ck_M_meet_232 ?_
                  show K 235 [some (.inr (.inr 417)), none, none, none, none, none, none, some (.inl x7), some (.inl x8), some (.inl x9), some (.inl x10), some (.inl x11), some (.inl 0)] [] v9.2
                  refine ia_fg hK (lv' := [some (.inr (.inr 417)), none, none, none, none, none, none, none, none, none, some (.inl x10), some (.inl x11), some (.inl 0)]) ⟨rfl, rfl, rfl, rfl, trivial⟩ ?_
                  refine tl_M_meet_235 hK hret ?_ ?_ fu_ x10 x11 0 v9.2 gv9 hm
                  · intro x12 h hg hm
                    refine ia_go hK ck_M_meet_255 ?_
                    show K 257 [none, none, none, none, none, none, none, none, none, none, none, none, some (.inl x12)] [.inl x12] h
                    obtain ⟨rfl, rfl⟩ := Prod.mk.inj (Option.some.inj hm)
                    exact hret 257 _ dc_M_meet_257
                  · intro h hg hm
                    refine ia_go hK ck_M_meet_264 ?_
                    show K 265 [none, none, none, none, none, none, none, none, none, none, none, none, none] [.inl (-1)] h
                    obtain ⟨rfl, rfl⟩ := Prod.mk.inj (Option.some.inj hm)
                    exact hret 265 _ dc_M_meet_265
                · replace hm := ia_ifp hm c
                  show K 221 [some (.inr (.inr 417)), none, none, none, none, none, none, some (.inl x7), some (.inl x8), some (.inl x9), some (.inl x10), some (.inl x11), none] [] v9.2
                  refine ia_go hK ck_M_meet_221 ?_
                  show K 228 [some (.inr (.inr 417)), none, none, none, none, none, none, some (.inl x7), some (.inl x8), some (.inl x9), some (.inl x10), some (.inl x11), none] [.inl x8, .inl x11, .inl x10, .inr (.inr 417)] v9.2
                  obtain ⟨v11, hv11, hm⟩ := ia_bnd hm
                  have ev11 := t_M_meetAt (d + 6) gv9 hv11
                  refine ia_cV hK mk_M_meetAt lk_12_401 dc_M_meet_228 417 [.inl x10, .inl x11, .inl x8] [] rfl rfl (Nat.le_of_ble_eq_true rfl) (by decide) rfl (gk_12 gv9 pk_417) ev11 ⟨rfl, rfl⟩ ?_
                  show K 231 [some (.inr (.inr 417)), none, none, none, none, none, none, some (.inl x7), some (.inl x8), some (.inl x9), some (.inl x10), some (.inl x11), none] [.inl v11] v9.2
                  obtain ⟨rfl, rfl⟩ := Prod.mk.inj (Option.some.inj hm)
                  exact hret 231 _ dc_M_meet_231
              · replace hm := ia_ifp hm c
                show K 214 [some (.inr (.inr 417)), none, none, none, none, none, none, some (.inl x7), some (.inl x8), some (.inl x9), some (.inl x10), some (.inl x11), none] [] v9.2
                refine ia_go hK ck_M_meet_214 ?_
                show K 215 [some (.inr (.inr 417)), none, none, none, none, none, none, some (.inl x7), some (.inl x8), some (.inl x9), some (.inl x10), some (.inl x11), none] [.inl (-1)] v9.2
                obtain ⟨rfl, rfl⟩ := Prod.mk.inj (Option.some.inj hm)
                exact hret 215 _ dc_M_meet_215
          · replace hm := ia_ifp hm c
            show K 153 [some (.inr (.inr 417)), some (.inl x1), some (.inl x2), some (.inl x3), some (.inl x4), none, some (.inl x6), some (.inl x7), some (.inl x8), some (.inl x9), some (.inl x10), some (.inl x11), none] [] v6.2
            refine ia_go hK ck_M_meet_153 ?_
            show K 154 [some (.inr (.inr 417)), some (.inl x1), some (.inl x2), some (.inl x3), some (.inl x4), none, some (.inl x6), some (.inl x7), some (.inl x8), some (.inl x9), some (.inl x10), some (.inl x11), none] [.inl (-1)] v6.2
            obtain ⟨rfl, rfl⟩ := Prod.mk.inj (Option.some.inj hm)
            exact hret 154 _ dc_M_meet_154
        · replace hm := ia_ifp hm c
          show K 132 [some (.inr (.inr 417)), some (.inl x1), some (.inl x2), some (.inl x3), some (.inl x4), none, some (.inl x6), some (.inl x7), some (.inl x8), some (.inl x9), some (.inl x10), some (.inl x11), none] [] v3.2
          refine ia_go hK ck_M_meet_132 ?_
          show K 133 [some (.inr (.inr 417)), some (.inl x1), some (.inl x2), some (.inl x3), some (.inl x4), none, some (.inl x6), some (.inl x7), some (.inl x8), some (.inl x9), some (.inl x10), some (.inl x11), none] [.inl (-1)] v3.2
          obtain ⟨rfl, rfl⟩ := Prod.mk.inj (Option.some.inj hm)
          exact hret 133 _ dc_M_meet_133
theorem gj_M_meet_65 {w : ia_O0} {x1 : Int32} {x2 : Int32} {x3 : Int32} {x4 : Int32} {x5 : Int32} {x6 : Int32} {x7 : Int32} {x8 : Int32} {x9 : Int32} {r : Int32} {h1 : ia_H} : ∀ (x10 : Int32) (x11 : Int32) (h : ia_H), gd_ w h → j_M_meet_65 x1 x2 x3 x4 x5 x6 x7 x8 x9 x10 x11 h = some (r, h1) → gd_ w h1 := by
  intro x10 x11 h hg hm
  unfold j_M_meet_65 at hm
  obtain ⟨v3, hv3, hm⟩ := ia_bnd hm
  have gv3 := g_M_areWays hg hv3
  by_cases c : v3.1 = 0
  · replace hm := ia_ifp hm c
    obtain ⟨rfl, rfl⟩ := Prod.mk.inj (Option.some.inj hm)
    exact gv3
  · replace hm := ia_ifn hm c
    by_cases c : (x7 - x7 / 100 * 100) = (x7 / 100)
    · replace hm := ia_ifp hm c
      obtain ⟨rfl, rfl⟩ := Prod.mk.inj (Option.some.inj hm)
      exact gv3
    · replace hm := ia_ifn hm c
      obtain ⟨v4, hv4, hm⟩ := ia_bnd hm
      by_cases c : v4 = 0
      · replace hm := ia_ifp hm c
        obtain ⟨rfl, rfl⟩ := Prod.mk.inj (Option.some.inj hm)
        exact gv3
      · replace hm := ia_ifn hm c
        obtain ⟨v5, hv5, hm⟩ := ia_bnd hm
        by_cases c : v5 = 0
        · replace hm := ia_ifp hm c
          obtain ⟨rfl, rfl⟩ := Prod.mk.inj (Option.some.inj hm)
          exact gv3
        · replace hm := ia_ifn hm c
          obtain ⟨v6, hv6, hm⟩ := ia_bnd hm
          have gv6 := g_M_shortWay gv3 hv6
          by_cases c : v6.1 = 0
          · replace hm := ia_ifp hm c
            obtain ⟨rfl, rfl⟩ := Prod.mk.inj (Option.some.inj hm)
            exact gv6
          · replace hm := ia_ifn hm c
            refine gl_M_meet_166 ?_ fu_ x10 x11 0 (ia_wI v6.2 417 36 (ia_i v6.2 417 27)) (gd_wI gv6 (ko_12 pk_417)) hm
            · intro x10 x11 h hg hm
              obtain ⟨v9, hv9, hm⟩ := ia_bnd hm
              have gv9 := g_M_shortWay hg hv9
              by_cases c : v9.1 = 0
              · replace hm := ia_ifp hm c
                obtain ⟨rfl, rfl⟩ := Prod.mk.inj (Option.some.inj hm)
                exact gv9
              · replace hm := ia_ifn hm c
                by_cases c : x9 = 0
                · replace hm := ia_ifp hm c
                  obtain ⟨v11, hv11, hm⟩ := ia_bnd hm
                  obtain ⟨rfl, rfl⟩ := Prod.mk.inj (Option.some.inj hm)
                  exact gv9
                · replace hm := ia_ifn hm c
                  refine gl_M_meet_235 ?_ ?_ fu_ x10 x11 0 v9.2 gv9 hm
                  · intro x12 h hg hm
                    obtain ⟨rfl, rfl⟩ := Prod.mk.inj (Option.some.inj hm)
                    exact hg
                  · intro h hg hm
                    obtain ⟨rfl, rfl⟩ := Prod.mk.inj (Option.some.inj hm)
                    exact hg
def f_M_meet (x1 : Int32) (x2 : Int32) (x3 : Int32) (x4 : Int32) (x5 : Int32) (x6 : Int32) (x7 : Int32) (x8 : Int32) (x9 : Int32) (h : ia_H) : Option (Int32 × ia_H) := if x5 < 0 then (some ((-1), h)) else ((f_M_isLoad (x5 - x5 / 1000 * 1000) h).bind fun v1 => (if v1 = 0 then (some ((-1), h)) else ((f_M_isLoad (x5 / 1000) h).bind fun v2 => (if v2 = 0 then (some ((-1), h)) else (if x6 < 0 then (some ((-1), h)) else (if x7 < 0 then (some ((-1), h)) else (if x9 = 0 then ((f_M_isIn x8 0 40 h).bind fun v12 => (if v12 = 0 then (some ((-1), h)) else (j_M_meet_65 x1 x2 x3 x4 x5 x6 x7 x8 x9 (x5 - x5 / 1000 * 1000) (x5 / 1000) h))) else (j_M_meet_65 x1 x2 x3 x4 x5 x6 x7 x8 x9 (x5 - x5 / 1000 * 1000) (x5 / 1000) h))))))))
theorem g_M_meet {w : ia_O0} {x1 : Int32} {x2 : Int32} {x3 : Int32} {x4 : Int32} {x5 : Int32} {x6 : Int32} {x7 : Int32} {x8 : Int32} {x9 : Int32} {h : ia_H} (hg : gd_ w h) {q : (Int32 × ia_H)} (hm : f_M_meet x1 x2 x3 x4 x5 x6 x7 x8 x9 h = some q) : gd_ w q.2 := by
  obtain ⟨r, h1⟩ := q
  unfold f_M_meet at hm
  by_cases c : x5 < 0
  · replace hm := ia_ifp hm c
    obtain ⟨rfl, rfl⟩ := Prod.mk.inj (Option.some.inj hm)
    exact hg
  · replace hm := ia_ifn hm c
    obtain ⟨v1, hv1, hm⟩ := ia_bnd hm
    by_cases c : v1 = 0
    · replace hm := ia_ifp hm c
      obtain ⟨rfl, rfl⟩ := Prod.mk.inj (Option.some.inj hm)
      exact hg
    · replace hm := ia_ifn hm c
      obtain ⟨v2, hv2, hm⟩ := ia_bnd hm
      by_cases c : v2 = 0
      · replace hm := ia_ifp hm c
        obtain ⟨rfl, rfl⟩ := Prod.mk.inj (Option.some.inj hm)
        exact hg
      · replace hm := ia_ifn hm c
        by_cases c : x6 < 0
        · replace hm := ia_ifp hm c
          obtain ⟨rfl, rfl⟩ := Prod.mk.inj (Option.some.inj hm)
          exact hg
        · replace hm := ia_ifn hm c
          by_cases c : x7 < 0
          · replace hm := ia_ifp hm c
            obtain ⟨rfl, rfl⟩ := Prod.mk.inj (Option.some.inj hm)
            exact hg
          · replace hm := ia_ifn hm c
            by_cases c : x9 = 0
            · replace hm := ia_ifp hm c
              obtain ⟨v12, hv12, hm⟩ := ia_bnd hm
              by_cases c : v12 = 0
              · replace hm := ia_ifp hm c
                obtain ⟨rfl, rfl⟩ := Prod.mk.inj (Option.some.inj hm)
                exact hg
              · replace hm := ia_ifn hm c
                exact gj_M_meet_65 (x5 - x5 / 1000 * 1000) (x5 / 1000) h hg hm
            · replace hm := ia_ifn hm c
              exact gj_M_meet_65 (x5 - x5 / 1000 * 1000) (x5 / 1000) h hg hm
theorem t_M_meet {w : ia_O0} (d : Nat) {x1 : Int32} {x2 : Int32} {x3 : Int32} {x4 : Int32} {x5 : Int32} {x6 : Int32} {x7 : Int32} {x8 : Int32} {x9 : Int32} {h : ia_H} (hg : gd_ w h) {q : (Int32 × ia_H)} (hm : f_M_meet x1 x2 x3 x4 x5 x6 x7 x8 x9 h = some q) : ia_Ev (d + 12) mm_M_meet [.inr (.inr 417), .inl x1, .inl x2, .inl x3, .inl x4, .inl x5, .inl x6, .inl x7, .inl x8, .inl x9] h (some (.inl q.1)) q.2 := by
  have gq := g_M_meet hg hm
  refine ia_Ev_intro ok_M_meet (gd_le hg gq).1 (gd_le hg gq).2 (Nat.le_of_ble_eq_true rfl) (fun K hK hret => ?_)
  obtain ⟨r, h1⟩ := q
  show K 0 [some (.inr (.inr 417)), some (.inl x1), some (.inl x2), some (.inl x3), some (.inl x4), some (.inl x5), some (.inl x6), some (.inl x7), some (.inl x8), some (.inl x9), none, none, none] [] h
  unfold f_M_meet at hm
  refine ia_go hK ck_M_meet_0 ⟨(by decide), (by decide), fun c => ?_, fun c => ?_⟩
  · replace hm := ia_ifp hm c
    show K 63 [some (.inr (.inr 417)), some (.inl x1), some (.inl x2), some (.inl x3), some (.inl x4), some (.inl x5), some (.inl x6), some (.inl x7), some (.inl x8), some (.inl x9), some (.inl (x5 - x5 / 1000 * 1000)), some (.inl (x5 / 1000)), none] [] h
    refine ia_go hK ck_M_meet_63 ?_
    show K 64 [some (.inr (.inr 417)), some (.inl x1), some (.inl x2), some (.inl x3), some (.inl x4), some (.inl x5), some (.inl x6), some (.inl x7), some (.inl x8), some (.inl x9), some (.inl (x5 - x5 / 1000 * 1000)), some (.inl (x5 / 1000)), none] [.inl (-1)] h
    obtain ⟨rfl, rfl⟩ := Prod.mk.inj (Option.some.inj hm)
    exact hret 64 _ dc_M_meet_64
  · replace hm := ia_ifn hm c
    show K 21 [some (.inr (.inr 417)), some (.inl x1), some (.inl x2), some (.inl x3), some (.inl x4), some (.inl x5), some (.inl x6), some (.inl x7), some (.inl x8), some (.inl x9), some (.inl (x5 - x5 / 1000 * 1000)), some (.inl (x5 / 1000)), none] [] h
    refine ia_go hK ck_M_meet_21 ?_
    show K 23 [some (.inr (.inr 417)), some (.inl x1), some (.inl x2), some (.inl x3), some (.inl x4), some (.inl x5), some (.inl x6), some (.inl x7), some (.inl x8), some (.inl x9), some (.inl (x5 - x5 / 1000 * 1000)), some (.inl (x5 / 1000)), none] [.inl (x5 - x5 / 1000 * 1000)] h
    obtain ⟨v1, hv1, hm⟩ := ia_bnd hm
    have ev1 := t_M_isLoad (d + 10) hg hv1
    refine ia_cS hK mk_M_isLoad lk_12_349 dc_M_meet_23 [.inl (x5 - x5 / 1000 * 1000)] [] rfl rfl (Nat.le_of_ble_eq_true rfl) ev1 ⟨rfl, rfl⟩ ?_
    show K 26 [some (.inr (.inr 417)), some (.inl x1), some (.inl x2), some (.inl x3), some (.inl x4), some (.inl x5), some (.inl x6), some (.inl x7), some (.inl x8), some (.inl x9), some (.inl (x5 - x5 / 1000 * 1000)), some (.inl (x5 / 1000)), none] [.inl v1] h
    refine ia_go hK ck_M_meet_26 ⟨fun c => ?_, fun c => ?_⟩
    · replace hm := ia_ifp hm c
      show K 63 [some (.inr (.inr 417)), some (.inl x1), some (.inl x2), some (.inl x3), some (.inl x4), some (.inl x5), some (.inl x6), some (.inl x7), some (.inl x8), some (.inl x9), some (.inl (x5 - x5 / 1000 * 1000)), some (.inl (x5 / 1000)), none] [] h
      refine ia_go hK ck_M_meet_63 ?_
      show K 64 [some (.inr (.inr 417)), some (.inl x1), some (.inl x2), some (.inl x3), some (.inl x4), some (.inl x5), some (.inl x6), some (.inl x7), some (.inl x8), some (.inl x9), some (.inl (x5 - x5 / 1000 * 1000)), some (.inl (x5 / 1000)), none] [.inl (-1)] h
      obtain ⟨rfl, rfl⟩ := Prod.mk.inj (Option.some.inj hm)
      exact hret 64 _ dc_M_meet_64
    · replace hm := ia_ifn hm c
      show K 29 [some (.inr (.inr 417)), some (.inl x1), some (.inl x2), some (.inl x3), some (.inl x4), some (.inl x5), some (.inl x6), some (.inl x7), some (.inl x8), some (.inl x9), some (.inl (x5 - x5 / 1000 * 1000)), some (.inl (x5 / 1000)), none] [] h
      refine ia_go hK ck_M_meet_29 ?_
      show K 31 [some (.inr (.inr 417)), some (.inl x1), some (.inl x2), some (.inl x3), some (.inl x4), some (.inl x5), some (.inl x6), some (.inl x7), some (.inl x8), some (.inl x9), some (.inl (x5 - x5 / 1000 * 1000)), some (.inl (x5 / 1000)), none] [.inl (x5 / 1000)] h
      obtain ⟨v2, hv2, hm⟩ := ia_bnd hm
      have ev2 := t_M_isLoad (d + 10) hg hv2
      refine ia_cS hK mk_M_isLoad lk_12_349 dc_M_meet_31 [.inl (x5 / 1000)] [] rfl rfl (Nat.le_of_ble_eq_true rfl) ev2 ⟨rfl, rfl⟩ ?_
      show K 34 [some (.inr (.inr 417)), some (.inl x1), some (.inl x2), some (.inl x3), some (.inl x4), some (.inl x5), some (.inl x6), some (.inl x7), some (.inl x8), some (.inl x9), some (.inl (x5 - x5 / 1000 * 1000)), some (.inl (x5 / 1000)), none] [.inl v2] h
      refine ia_go hK ck_M_meet_34 ⟨fun c => ?_, fun c => ?_⟩
      · replace hm := ia_ifp hm c
        show K 63 [some (.inr (.inr 417)), some (.inl x1), some (.inl x2), some (.inl x3), some (.inl x4), some (.inl x5), some (.inl x6), some (.inl x7), some (.inl x8), some (.inl x9), some (.inl (x5 - x5 / 1000 * 1000)), some (.inl (x5 / 1000)), none] [] h
        refine ia_go hK ck_M_meet_63 ?_
        show K 64 [some (.inr (.inr 417)), some (.inl x1), some (.inl x2), some (.inl x3), some (.inl x4), some (.inl x5), some (.inl x6), some (.inl x7), some (.inl x8), some (.inl x9), some (.inl (x5 - x5 / 1000 * 1000)), some (.inl (x5 / 1000)), none] [.inl (-1)] h
        obtain ⟨rfl, rfl⟩ := Prod.mk.inj (Option.some.inj hm)
        exact hret 64 _ dc_M_meet_64
      · replace hm := ia_ifn hm c
        show K 37 [some (.inr (.inr 417)), some (.inl x1), some (.inl x2), some (.inl x3), some (.inl x4), some (.inl x5), some (.inl x6), some (.inl x7), some (.inl x8), some (.inl x9), some (.inl (x5 - x5 / 1000 * 1000)), some (.inl (x5 / 1000)), none] [] h
        refine ia_go hK ck_M_meet_37 ⟨fun c => ?_, fun c => ?_⟩
        · replace hm := ia_ifp hm c
          show K 63 [some (.inr (.inr 417)), some (.inl x1), some (.inl x2), some (.inl x3), some (.inl x4), some (.inl x5), some (.inl x6), some (.inl x7), some (.inl x8), some (.inl x9), some (.inl (x5 - x5 / 1000 * 1000)), some (.inl (x5 / 1000)), none] [] h
          refine ia_go hK ck_M_meet_63 ?_
          show K 64 [some (.inr (.inr 417)), some (.inl x1), some (.inl x2), some (.inl x3), some (.inl x4), some (.inl x5), some (.inl x6), some (.inl x7), some (.inl x8), some (.inl x9), some (.inl (x5 - x5 / 1000 * 1000)), some (.inl (x5 / 1000)), none] [.inl (-1)] h
          obtain ⟨rfl, rfl⟩ := Prod.mk.inj (Option.some.inj hm)
          exact hret 64 _ dc_M_meet_64
        · replace hm := ia_ifn hm c
          show K 42 [some (.inr (.inr 417)), some (.inl x1), some (.inl x2), some (.inl x3), some (.inl x4), some (.inl x5), some (.inl x6), some (.inl x7), some (.inl x8), some (.inl x9), some (.inl (x5 - x5 / 1000 * 1000)), some (.inl (x5 / 1000)), none] [] h
          refine ia_go hK ck_M_meet_42 ⟨fun c => ?_, fun c => ?_⟩
          · replace hm := ia_ifp hm c
            show K 63 [some (.inr (.inr 417)), some (.inl x1), some (.inl x2), some (.inl x3), some (.inl x4), some (.inl x5), some (.inl x6), some (.inl x7), some (.inl x8), some (.inl x9), some (.inl (x5 - x5 / 1000 * 1000)), some (.inl (x5 / 1000)), none] [] h
            refine ia_go hK ck_M_meet_63 ?_
            show K 64 [some (.inr (.inr 417)), some (.inl x1), some (.inl x2), some (.inl x3), some (.inl x4), some (.inl x5), some (.inl x6), some (.inl x7), some (.inl x8), some (.inl x9), some (.inl (x5 - x5 / 1000 * 1000)), some (.inl (x5 / 1000)), none] [.inl (-1)] h
            obtain ⟨rfl, rfl⟩ := Prod.mk.inj (Option.some.inj hm)
            exact hret 64 _ dc_M_meet_64
          · replace hm := ia_ifn hm c
            show K 47 [some (.inr (.inr 417)), some (.inl x1), some (.inl x2), some (.inl x3), some (.inl x4), some (.inl x5), some (.inl x6), some (.inl x7), some (.inl x8), some (.inl x9), some (.inl (x5 - x5 / 1000 * 1000)), some (.inl (x5 / 1000)), none] [] h
            refine ia_go hK ck_M_meet_47 ⟨fun c => ?_, fun c => ?_⟩
            · replace hm := ia_ifn hm c
              show K 65 [some (.inr (.inr 417)), some (.inl x1), some (.inl x2), some (.inl x3), some (.inl x4), some (.inl x5), some (.inl x6), some (.inl x7), some (.inl x8), some (.inl x9), some (.inl (x5 - x5 / 1000 * 1000)), some (.inl (x5 / 1000)), none] [] h
              refine ia_fg hK (lv' := [some (.inr (.inr 417)), some (.inl x1), some (.inl x2), some (.inl x3), some (.inl x4), none, some (.inl x6), some (.inl x7), some (.inl x8), some (.inl x9), some (.inl (x5 - x5 / 1000 * 1000)), some (.inl (x5 / 1000)), none]) ⟨rfl, rfl, rfl, rfl, rfl, rfl, rfl, rfl, rfl, rfl, rfl, trivial⟩ ?_
              exact tj_M_meet_65 hK hret (x5 - x5 / 1000 * 1000) (x5 / 1000) h hg hm
            · replace hm := ia_ifp hm c
              show K 52 [some (.inr (.inr 417)), some (.inl x1), some (.inl x2), some (.inl x3), some (.inl x4), some (.inl x5), some (.inl x6), some (.inl x7), some (.inl x8), some (.inl x9), some (.inl (x5 - x5 / 1000 * 1000)), some (.inl (x5 / 1000)), none] [] h
              refine ia_go hK ck_M_meet_52 ?_
              show K 57 [some (.inr (.inr 417)), some (.inl x1), some (.inl x2), some (.inl x3), some (.inl x4), some (.inl x5), some (.inl x6), some (.inl x7), some (.inl x8), some (.inl x9), some (.inl (x5 - x5 / 1000 * 1000)), some (.inl (x5 / 1000)), none] [.inl 40, .inl 0, .inl x8] h
              obtain ⟨v12, hv12, hm⟩ := ia_bnd hm
              have ev12 := t_M_isIn (d + 11) hg hv12
              refine ia_cS hK mk_M_isIn lk_12_116 dc_M_meet_57 [.inl x8, .inl 0, .inl 40] [] rfl rfl (Nat.le_of_ble_eq_true rfl) ev12 ⟨rfl, rfl⟩ ?_
              show K 60 [some (.inr (.inr 417)), some (.inl x1), some (.inl x2), some (.inl x3), some (.inl x4), some (.inl x5), some (.inl x6), some (.inl x7), some (.inl x8), some (.inl x9), some (.inl (x5 - x5 / 1000 * 1000)), some (.inl (x5 / 1000)), none] [.inl v12] h
              refine ia_go hK ck_M_meet_60 ⟨fun c => ?_, fun c => ?_⟩
              · replace hm := ia_ifn hm c
                show K 65 [some (.inr (.inr 417)), some (.inl x1), some (.inl x2), some (.inl x3), some (.inl x4), some (.inl x5), some (.inl x6), some (.inl x7), some (.inl x8), some (.inl x9), some (.inl (x5 - x5 / 1000 * 1000)), some (.inl (x5 / 1000)), none] [] h
                refine ia_fg hK (lv' := [some (.inr (.inr 417)), some (.inl x1), some (.inl x2), some (.inl x3), some (.inl x4), none, some (.inl x6), some (.inl x7), some (.inl x8), some (.inl x9), some (.inl (x5 - x5 / 1000 * 1000)), some (.inl (x5 / 1000)), none]) ⟨rfl, rfl, rfl, rfl, rfl, rfl, rfl, rfl, rfl, rfl, rfl, trivial⟩ ?_
                exact tj_M_meet_65 hK hret (x5 - x5 / 1000 * 1000) (x5 / 1000) h hg hm
              · replace hm := ia_ifp hm c
                show K 63 [some (.inr (.inr 417)), some (.inl x1), some (.inl x2), some (.inl x3), some (.inl x4), some (.inl x5), some (.inl x6), some (.inl x7), some (.inl x8), some (.inl x9), some (.inl (x5 - x5 / 1000 * 1000)), some (.inl (x5 / 1000)), none] [] h
                refine ia_go hK ck_M_meet_63 ?_
                show K 64 [some (.inr (.inr 417)), some (.inl x1), some (.inl x2), some (.inl x3), some (.inl x4), some (.inl x5), some (.inl x6), some (.inl x7), some (.inl x8), some (.inl x9), some (.inl (x5 - x5 / 1000 * 1000)), some (.inl (x5 / 1000)), none] [.inl (-1)] h
                obtain ⟨rfl, rfl⟩ := Prod.mk.inj (Option.some.inj hm)
                exact hret 64 _ dc_M_meet_64
def mm_M_drawnBelow : ia_M := (⟨"IceStreetModel", "drawnBelow", "(I)I"⟩, prog_14_method_116_code, 2, (some .int), 12, false)
theorem ok_M_drawnBelow : ia_mok mm_M_drawnBelow := ⟨by decide +kernel, by decide +kernel, by decide +kernel, by decide +kernel⟩
theorem mk_M_drawnBelow : ia_mkn mm_M_drawnBelow 1 1 := ⟨ia_tb_in (List.mem_of_getElem? (i := 2183) (by decide +kernel)) rfl, ia_tb_in (List.mem_of_getElem? (i := 146) (by decide +kernel)) rfl, by decide +kernel, by decide +kernel, ⟨ia_tb_in (List.mem_of_getElem? (i := 2182) (by decide +kernel)) rfl, ia_tb_in (List.mem_of_getElem? (i := 127) (by decide +kernel)) rfl⟩⟩
theorem ck_M_drawnBelow_0 : ia_cks 12 2 false prog_14_method_116_code 0 [(.aload_n 0, 0, 0, 0, 0), (.aload_n 0, 0, 0, 0, 0), (.getfield 404, 12, 37, 0, 0)] = true := by decide +kernel
theorem ck_M_drawnBelow_8 : ia_cks 12 2 false prog_14_method_116_code 8 [(.imul, 0, 0, 0, 0), (.sipush 12345, 0, 0, 0, 0), (.iadd, 0, 0, 0, 0), (.putfield 404, 12, 37, 0, 0), (.aload_n 0, 0, 0, 0, 0), (.getfield 404, 12, 37, 0, 0), (.bipush 16, 0, 0, 0, 0), (.iushr, 0, 0, 0, 0), (.iload_n 1, 0, 0, 0, 0), (.irem, 0, 0, 0, 0)] = true := by decide +kernel
theorem dc_M_drawnBelow_5 : decode prog_14_method_116_code 5 = .ok (.ldc_w 407, 3) := by decide +kernel
theorem dc_M_drawnBelow_25 : decode prog_14_method_116_code 25 = .ok (.ireturn, 1) := by decide +kernel
def f_M_drawnBelow (x1 : Int32) (h : ia_H) : Option (Int32 × ia_H) := ia_gd (ia_nz x1) (some ((((ia_i (ia_wI h 417 37 (((ia_i h 417 37) * 1103515245) + 12345)) 417 37).toUInt32 >>> ((16 : Int32).toUInt32 &&& Int32.toUInt32 31)).toInt32) - (((ia_i (ia_wI h 417 37 (((ia_i h 417 37) * 1103515245) + 12345)) 417 37).toUInt32 >>> ((16 : Int32).toUInt32 &&& Int32.toUInt32 31)).toInt32) / x1 * x1, ia_wI h 417 37 (((ia_i h 417 37) * 1103515245) + 12345)))
theorem g_M_drawnBelow {w : ia_O0} {x1 : Int32} {h : ia_H} (hg : gd_ w h) {q : (Int32 × ia_H)} (hm : f_M_drawnBelow x1 h = some q) : gd_ w q.2 := by
  obtain ⟨r, h1⟩ := q
  unfold f_M_drawnBelow at hm
  obtain ⟨c1, hm⟩ := ia_gd_some hm
  obtain ⟨rfl, rfl⟩ := Prod.mk.inj (Option.some.inj hm)
  exact (gd_wI hg (ko_12 pk_417))
theorem t_M_drawnBelow {w : ia_O0} (d : Nat) {x1 : Int32} {h : ia_H} (hg : gd_ w h) {q : (Int32 × ia_H)} (hm : f_M_drawnBelow x1 h = some q) : ia_Ev (d + 0) mm_M_drawnBelow [.inr (.inr 417), .inl x1] h (some (.inl q.1)) q.2 := by
  have gq := g_M_drawnBelow hg hm
  refine ia_Ev_intro ok_M_drawnBelow (gd_le hg gq).1 (gd_le hg gq).2 (Nat.le_of_ble_eq_true rfl) (fun K hK hret => ?_)
  obtain ⟨r, h1⟩ := q
  show K 0 [some (.inr (.inr 417)), some (.inl x1)] [] h
  unfold f_M_drawnBelow at hm
  refine ia_go hK ck_M_drawnBelow_0 ⟨gk_12 hg pk_417, ?_⟩
  show K 5 [some (.inr (.inr 417)), some (.inl x1)] [.inl (ia_i h 417 37), .inr (.inr 417)] h
  refine ia_ldcw hK (v := 1103515245) (ia_tb_in (List.mem_of_getElem? (i := 2184) (by decide +kernel)) rfl) dc_M_drawnBelow_5 ?_
  show K 8 [some (.inr (.inr 417)), some (.inl x1)] [.inl 1103515245, .inl (ia_i h 417 37), .inr (.inr 417)] h
  obtain ⟨c1, hm⟩ := ia_gd_some hm
  refine ia_go hK ck_M_drawnBelow_8 ⟨gk_12 hg pk_417, gk_12 (gd_wI hg (ko_12 pk_417)) pk_417, ia_nz_spec c1, ?_⟩
  show K 25 [some (.inr (.inr 417)), some (.inl x1)] [.inl ((((ia_i (ia_wI h 417 37 (((ia_i h 417 37) * 1103515245) + 12345)) 417 37).toUInt32 >>> ((16 : Int32).toUInt32 &&& Int32.toUInt32 31)).toInt32) - (((ia_i (ia_wI h 417 37 (((ia_i h 417 37) * 1103515245) + 12345)) 417 37).toUInt32 >>> ((16 : Int32).toUInt32 &&& Int32.toUInt32 31)).toInt32) / x1 * x1)] (ia_wI h 417 37 (((ia_i h 417 37) * 1103515245) + 12345))
  obtain ⟨rfl, rfl⟩ := Prod.mk.inj (Option.some.inj hm)
  exact hret 25 _ dc_M_drawnBelow_25
def mm_M_drawnDay : ia_M := (⟨"IceStreetModel", "drawnDay", "()V"⟩, prog_14_method_117_code, 2, none, 12, false)
theorem ok_M_drawnDay : ia_mok mm_M_drawnDay := ⟨by decide +kernel, by decide +kernel, by decide +kernel, by decide +kernel⟩
theorem mk_M_drawnDay : ia_mkn mm_M_drawnDay 1 0 := ⟨ia_tb_in (List.mem_of_getElem? (i := 2179) (by decide +kernel)) rfl, ia_tb_in (List.mem_of_getElem? (i := 146) (by decide +kernel)) rfl, by decide +kernel, by decide +kernel, ⟨ia_tb_in (List.mem_of_getElem? (i := 2178) (by decide +kernel)) rfl, ia_tb_in (List.mem_of_getElem? (i := 126) (by decide +kernel)) rfl⟩⟩
theorem ck_M_drawnDay_0 : ia_cks 12 2 false prog_14_method_117_code 0 [(.aload_n 0, 0, 0, 0, 0)] = true := by decide +kernel
theorem ck_M_drawnDay_4 : ia_cks 12 2 false prog_14_method_117_code 4 [(.aload_n 0, 0, 0, 0, 0), (.bipush 7, 0, 0, 0, 0)] = true := by decide +kernel
theorem ck_M_drawnDay_10 : ia_cks 12 2 false prog_14_method_117_code 10 [(.iadd, 0, 0, 0, 0), (.iconst 3, 0, 0, 0, 0), (.isub, 0, 0, 0, 0), (.istore_n 1, 0, 0, 0, 0), (.aload_n 0, 0, 0, 0, 0), (.iload_n 1, 0, 0, 0, 0)] = true := by decide +kernel
theorem dc_M_drawnDay_1 : decode prog_14_method_117_code 1 = .ok (.invokevirtual 243, 3) := by decide +kernel
theorem dc_M_drawnDay_7 : decode prog_14_method_117_code 7 = .ok (.invokevirtual 408, 3) := by decide +kernel
theorem dc_M_drawnDay_16 : decode prog_14_method_117_code 16 = .ok (.invokevirtual 246, 3) := by decide +kernel
theorem dc_M_drawnDay_19 : decode prog_14_method_117_code 19 = .ok (.return_, 1) := by decide +kernel
def f_M_drawnDay (h : ia_H) : Option ia_H := (f_M_frostNow h).bind fun v1 => ((f_M_drawnBelow 7 h).bind fun v2 => ((f_M_passDay ((v1 + v2.1) - 3) v2.2).bind fun v3 => (some v3)))
theorem g_M_drawnDay {w : ia_O0} {h : ia_H} (hg : gd_ w h) {q : ia_H} (hm : f_M_drawnDay h = some q) : gd_ w q := by
  obtain ⟨h1, e1⟩ : ∃ x, x = q := ⟨_, rfl⟩
  subst e1
  unfold f_M_drawnDay at hm
  obtain ⟨v1, hv1, hm⟩ := ia_bnd hm
  obtain ⟨v2, hv2, hm⟩ := ia_bnd hm
  have gv2 := g_M_drawnBelow hg hv2
  obtain ⟨v3, hv3, hm⟩ := ia_bnd hm
  have gv3 := g_M_passDay gv2 hv3
  obtain rfl := Option.some.inj hm
  exact gv3
theorem t_M_drawnDay {w : ia_O0} (d : Nat) {h : ia_H} (hg : gd_ w h) {q : ia_H} (hm : f_M_drawnDay h = some q) : ia_Ev (d + 7) mm_M_drawnDay [.inr (.inr 417)] h none q := by
  have gq := g_M_drawnDay hg hm
  refine ia_Ev_intro ok_M_drawnDay (gd_le hg gq).1 (gd_le hg gq).2 (Nat.le_of_ble_eq_true rfl) (fun K hK hret => ?_)
  obtain ⟨h1, e1⟩ : ∃ x, x = q := ⟨_, rfl⟩
  subst e1
  show K 0 [some (.inr (.inr 417)), none] [] h
  unfold f_M_drawnDay at hm
  refine ia_go hK ck_M_drawnDay_0 ?_
  show K 1 [some (.inr (.inr 417)), none] [.inr (.inr 417)] h
  obtain ⟨v1, hv1, hm⟩ := ia_bnd hm
  have ev1 := t_M_frostNow (d + 6) hg hv1
  refine ia_cV hK mk_M_frostNow lk_12_243 dc_M_drawnDay_1 417 [] [] rfl rfl (Nat.le_of_ble_eq_true rfl) (by decide) rfl (gk_12 hg pk_417) ev1 ⟨rfl, rfl⟩ ?_
  show K 4 [some (.inr (.inr 417)), none] [.inl v1] h
  refine ia_go hK ck_M_drawnDay_4 ?_
  show K 7 [some (.inr (.inr 417)), none] [.inl 7, .inr (.inr 417), .inl v1] h
  obtain ⟨v2, hv2, hm⟩ := ia_bnd hm
  have ev2 := t_M_drawnBelow (d + 6) hg hv2
  have gv2 := g_M_drawnBelow hg hv2
  refine ia_cV hK mk_M_drawnBelow lk_12_408 dc_M_drawnDay_7 417 [.inl 7] [.inl v1] rfl rfl (Nat.le_of_ble_eq_true rfl) (by decide) rfl (gk_12 hg pk_417) ev2 (gd_nm hg gv2) ?_
  show K 10 [some (.inr (.inr 417)), none] [.inl v2.1, .inl v1] v2.2
  refine ia_go hK ck_M_drawnDay_10 ?_
  show K 16 [some (.inr (.inr 417)), some (.inl ((v1 + v2.1) - 3))] [.inl ((v1 + v2.1) - 3), .inr (.inr 417)] v2.2
  obtain ⟨v3, hv3, hm⟩ := ia_bnd hm
  have ev3 := t_M_passDay (d + 0) gv2 hv3
  have gv3 := g_M_passDay gv2 hv3
  refine ia_cV hK mk_M_passDay lk_12_246 dc_M_drawnDay_16 417 [.inl ((v1 + v2.1) - 3)] [] rfl rfl (Nat.le_of_ble_eq_true rfl) (by decide) rfl (gk_12 gv2 pk_417) ev3 (gd_nm gv2 gv3) ?_
  show K 19 [some (.inr (.inr 417)), some (.inl ((v1 + v2.1) - 3))] [] v3
  obtain rfl := Option.some.inj hm
  exact hret 19 _ dc_M_drawnDay_19
def mm_M_winter : ia_M := (⟨"IceStreetModel", "winter", "(IIIIIII)I"⟩, prog_14_method_118_code, 10, (some .int), 12, false)
theorem ok_M_winter : ia_mok mm_M_winter := ⟨by decide +kernel, by decide +kernel, by decide +kernel, by decide +kernel⟩
theorem mk_M_winter : ia_mkn mm_M_winter 1 7 := ⟨ia_tb_in (List.mem_of_getElem? (i := 2175) (by decide +kernel)) rfl, ia_tb_in (List.mem_of_getElem? (i := 146) (by decide +kernel)) rfl, by decide +kernel, by decide +kernel, ⟨ia_tb_in (List.mem_of_getElem? (i := 2173) (by decide +kernel)) rfl, ia_tb_in (List.mem_of_getElem? (i := 2174) (by decide +kernel)) rfl⟩⟩
theorem ck_M_winter_0 : ia_cks 12 10 false prog_14_method_118_code 0 [(.iload 6, 0, 0, 0, 0), (.iconst 0, 0, 0, 0, 0), (.bipush 60, 0, 0, 0, 0)] = true := by decide +kernel
theorem ck_M_winter_8 : ia_cks 12 10 false prog_14_method_118_code 8 [(.ifCond .eq 15, 0, 0, 0, 0)] = true := by decide +kernel
theorem ck_M_winter_23 : ia_cks 12 10 false prog_14_method_118_code 23 [(.iconst (-1), 0, 0, 0, 0)] = true := by decide +kernel
theorem ck_M_winter_11 : ia_cks 12 10 false prog_14_method_118_code 11 [(.aload_n 0, 0, 0, 0, 0), (.iload_n 1, 0, 0, 0, 0), (.iload_n 2, 0, 0, 0, 0), (.iload_n 3, 0, 0, 0, 0), (.iload 4, 0, 0, 0, 0)] = true := by decide +kernel
theorem ck_M_winter_20 : ia_cks 12 10 false prog_14_method_118_code 20 [(.ifCond .ne 5, 0, 0, 0, 0)] = true := by decide +kernel
theorem ck_M_winter_25 : ia_cks 12 10 false prog_14_method_118_code 25 [(.aload_n 0, 0, 0, 0, 0), (.iload 5, 0, 0, 0, 0), (.putfield 404, 12, 37, 0, 0), (.iconst 0, 0, 0, 0, 0), (.istore 8, 0, 0, 0, 0)] = true := by decide +kernel
theorem ck_M_winter_34 : ia_cks 12 10 false prog_14_method_118_code 34 [(.iload 8, 0, 0, 0, 0), (.iload 6, 0, 0, 0, 0), (.if_icmp .ge 13, 0, 0, 0, 0)] = true := by decide +kernel
theorem ck_M_winter_41 : ia_cks 12 10 false prog_14_method_118_code 41 [(.aload_n 0, 0, 0, 0, 0)] = true := by decide +kernel
theorem ck_M_winter_45 : ia_cks 12 10 false prog_14_method_118_code 45 [(.iinc 8 1, 0, 0, 0, 0), (.goto (-14), 0, 0, 0, 0)] = true := by decide +kernel
theorem ck_M_winter_51 : ia_cks 12 10 false prog_14_method_118_code 51 [(.iconst 0, 0, 0, 0, 0), (.istore 8, 0, 0, 0, 0), (.iconst 0, 0, 0, 0, 0), (.istore 9, 0, 0, 0, 0)] = true := by decide +kernel
theorem ck_M_winter_57 : ia_cks 12 10 false prog_14_method_118_code 57 [(.iload 9, 0, 0, 0, 0), (.aload_n 0, 0, 0, 0, 0), (.getfield 7, 12, 0, 3, 1), (.aload_n 0, 0, 0, 0, 0), (.getfield 201, 12, 14, 0, 0), (.iconst 4, 0, 0, 0, 0), (.iadd, 0, 0, 0, 0), (.iaload, 0, 0, 0, 0), (.if_icmp .ge 28, 0, 0, 0, 0)] = true := by decide +kernel
theorem ck_M_winter_73 : ia_cks 12 10 false prog_14_method_118_code 73 [(.iload 8, 0, 0, 0, 0), (.aload_n 0, 0, 0, 0, 0), (.iload 9, 0, 0, 0, 0)] = true := by decide +kernel
theorem ck_M_winter_81 : ia_cks 12 10 false prog_14_method_118_code 81 [(.ifCond .eq 7, 0, 0, 0, 0)] = true := by decide +kernel
theorem ck_M_winter_88 : ia_cks 12 10 false prog_14_method_118_code 88 [(.iconst 0, 0, 0, 0, 0)] = true := by decide +kernel
theorem ck_M_winter_89 : ia_cks 12 10 false prog_14_method_118_code 89 [(.iadd, 0, 0, 0, 0), (.istore 8, 0, 0, 0, 0), (.iinc 9 1, 0, 0, 0, 0), (.goto (-38), 0, 0, 0, 0)] = true := by decide +kernel
theorem ck_M_winter_84 : ia_cks 12 10 false prog_14_method_118_code 84 [(.iconst 1, 0, 0, 0, 0), (.goto 4, 0, 0, 0, 0)] = true := by decide +kernel
theorem ck_M_winter_98 : ia_cks 12 10 false prog_14_method_118_code 98 [(.iload 7, 0, 0, 0, 0), (.ifCond .ne 10, 0, 0, 0, 0)] = true := by decide +kernel
theorem ck_M_winter_110 : ia_cks 12 10 false prog_14_method_118_code 110 [(.iload 7, 0, 0, 0, 0), (.iconst 1, 0, 0, 0, 0), (.if_icmp .ne 13, 0, 0, 0, 0)] = true := by decide +kernel
theorem ck_M_winter_126 : ia_cks 12 10 false prog_14_method_118_code 126 [(.iload 7, 0, 0, 0, 0), (.iconst 2, 0, 0, 0, 0), (.if_icmp .ne 8, 0, 0, 0, 0)] = true := by decide +kernel
theorem ck_M_winter_137 : ia_cks 12 10 false prog_14_method_118_code 137 [(.iload 7, 0, 0, 0, 0), (.bipush 100, 0, 0, 0, 0), (.bipush 99, 0, 0, 0, 0), (.aload_n 0, 0, 0, 0, 0)] = true := by decide +kernel
theorem ck_M_winter_147 : ia_cks 12 10 false prog_14_method_118_code 147 [(.iadd, 0, 0, 0, 0)] = true := by decide +kernel
theorem ck_M_winter_151 : ia_cks 12 10 false prog_14_method_118_code 151 [(.ifCond .eq 16, 0, 0, 0, 0)] = true := by decide +kernel
theorem ck_M_winter_167 : ia_cks 12 10 false prog_14_method_118_code 167 [(.iconst (-1), 0, 0, 0, 0)] = true := by decide +kernel
theorem ck_M_winter_154 : ia_cks 12 10 false prog_14_method_118_code 154 [(.aload_n 0, 0, 0, 0, 0), (.getfield 23, 12, 13, 3, 5), (.iload 7, 0, 0, 0, 0), (.bipush 100, 0, 0, 0, 0), (.isub, 0, 0, 0, 0), (.iaload, 0, 0, 0, 0), (.goto 4, 0, 0, 0, 0)] = true := by decide +kernel
theorem ck_M_winter_132 : ia_cks 12 10 false prog_14_method_118_code 132 [(.iload 8, 0, 0, 0, 0), (.goto 34, 0, 0, 0, 0)] = true := by decide +kernel
theorem ck_M_winter_116 : ia_cks 12 10 false prog_14_method_118_code 116 [(.aload_n 0, 0, 0, 0, 0), (.getfield 23, 12, 13, 3, 5), (.bipush 79, 0, 0, 0, 0), (.iaload, 0, 0, 0, 0), (.goto 45, 0, 0, 0, 0)] = true := by decide +kernel
theorem ck_M_winter_103 : ia_cks 12 10 false prog_14_method_118_code 103 [(.aload_n 0, 0, 0, 0, 0)] = true := by decide +kernel
theorem ck_M_winter_107 : ia_cks 12 10 false prog_14_method_118_code 107 [(.goto 61, 0, 0, 0, 0)] = true := by decide +kernel
theorem dc_M_winter_5 : decode prog_14_method_118_code 5 = .ok (.invokestatic 116, 3) := by decide +kernel
theorem dc_M_winter_24 : decode prog_14_method_118_code 24 = .ok (.ireturn, 1) := by decide +kernel
theorem dc_M_winter_17 : decode prog_14_method_118_code 17 = .ok (.invokevirtual 309, 3) := by decide +kernel
theorem dc_M_winter_42 : decode prog_14_method_118_code 42 = .ok (.invokevirtual 411, 3) := by decide +kernel
theorem dc_M_winter_78 : decode prog_14_method_118_code 78 = .ok (.invokevirtual 222, 3) := by decide +kernel
theorem dc_M_winter_144 : decode prog_14_method_118_code 144 = .ok (.invokevirtual 234, 3) := by decide +kernel
theorem dc_M_winter_148 : decode prog_14_method_118_code 148 = .ok (.invokestatic 116, 3) := by decide +kernel
theorem dc_M_winter_168 : decode prog_14_method_118_code 168 = .ok (.ireturn, 1) := by decide +kernel
theorem dc_M_winter_104 : decode prog_14_method_118_code 104 = .ok (.invokevirtual 312, 3) := by decide +kernel
def l_M_winter_34 (x1 : Int32) (x2 : Int32) (x3 : Int32) (x4 : Int32) (x5 : Int32) (x6 : Int32) (x7 : Int32) (k51 : ia_H → Option (Int32 × ia_H)) (n : Nat) (x8 : Int32) (h : ia_H) : Option (Int32 × ia_H) := match n with
  | 0 => none
  | n + 1 => if x6 ≤ x8 then (k51 h) else ((f_M_drawnDay h).bind fun v3 => (l_M_winter_34 x1 x2 x3 x4 x5 x6 x7 k51 n (x8 + 1) v3))
theorem tl_M_winter_34 {w : ia_O0} {d N1 W1 : Nat} {K : ia_K} (hK : ia_isK (d + 11) mm_M_winter N1 W1 K) {x1 : Int32} {x2 : Int32} {x3 : Int32} {x4 : Int32} {x5 : Int32} {x6 : Int32} {x7 : Int32} {r : Int32} {h1 : ia_H} (hret : ∀ (pc : Nat) (lv : ia_L), ia_ret mm_M_winter pc (some (.inl r)) → K pc lv ((some (.inl r)) : Option ia_V).toList h1) {k51 : ia_H → Option (Int32 × ia_H)} (hk51 : ∀ (h : ia_H), gd_ w h → k51 h = some (r, h1) → K 51 [some (.inr (.inr 417)), none, none, none, none, none, none, some (.inl x7), none, none] [] h) : ∀ (n : Nat) (x8 : Int32) (h : ia_H), gd_ w h → l_M_winter_34 x1 x2 x3 x4 x5 x6 x7 k51 n x8 h = some (r, h1) → K 34 [some (.inr (.inr 417)), none, none, none, none, none, some (.inl x6), some (.inl x7), some (.inl x8), none] [] h := by
  intro n
  induction n with
  | zero =>
    intro x8 h hg hm
    cases (show (none : Option (Int32 × ia_H)) = some _ from hm)
  | succ n ih =>
    intro x8 h hg hm
    rw [l_M_winter_34] at hm
    refine ia_go hK ck_M_winter_34 ⟨fun c => ?_, fun c => ?_⟩
    · replace hm := ia_ifp hm c
      show K 51 [some (.inr (.inr 417)), none, none, none, none, none, some (.inl x6), some (.inl x7), some (.inl x8), none] [] h
      refine ia_fg hK (lv' := [some (.inr (.inr 417)), none, none, none, none, none, none, some (.inl x7), none, none]) ⟨rfl, rfl, trivial⟩ ?_
      exact hk51 h hg hm
    · replace hm := ia_ifn hm c
      show K 41 [some (.inr (.inr 417)), none, none, none, none, none, some (.inl x6), some (.inl x7), some (.inl x8), none] [] h
      refine ia_go hK ck_M_winter_41 ?_
      show K 42 [some (.inr (.inr 417)), none, none, none, none, none, some (.inl x6), some (.inl x7), some (.inl x8), none] [.inr (.inr 417)] h
      obtain ⟨v3, hv3, hm⟩ := ia_bnd hm
      have ev3 := t_M_drawnDay (d + 3) hg hv3
      have gv3 := g_M_drawnDay hg hv3
      refine ia_cV hK mk_M_drawnDay lk_12_411 dc_M_winter_42 417 [] [] rfl rfl (Nat.le_of_ble_eq_true rfl) (by decide) rfl (gk_12 hg pk_417) ev3 (gd_nm hg gv3) ?_
      show K 45 [some (.inr (.inr 417)), none, none, none, none, none, some (.inl x6), some (.inl x7), some (.inl x8), none] [] v3
      refine ia_go hK ck_M_winter_45 ?_
      show K 34 [some (.inr (.inr 417)), none, none, none, none, none, some (.inl x6), some (.inl x7), some (.inl (x8 + 1)), none] [] v3
      exact ih (x8 + 1) v3 gv3 hm
theorem gl_M_winter_34 {w : ia_O0} {x1 : Int32} {x2 : Int32} {x3 : Int32} {x4 : Int32} {x5 : Int32} {x6 : Int32} {x7 : Int32} {r : Int32} {h1 : ia_H} {k51 : ia_H → Option (Int32 × ia_H)} (hk51 : ∀ (h : ia_H), gd_ w h → k51 h = some (r, h1) → gd_ w h1) : ∀ (n : Nat) (x8 : Int32) (h : ia_H), gd_ w h → l_M_winter_34 x1 x2 x3 x4 x5 x6 x7 k51 n x8 h = some (r, h1) → gd_ w h1 := by
  intro n
  induction n with
  | zero =>
    intro x8 h hg hm
    cases (show (none : Option (Int32 × ia_H)) = some _ from hm)
  | succ n ih =>
    intro x8 h hg hm
    rw [l_M_winter_34] at hm
    by_cases c : x6 ≤ x8
    · replace hm := ia_ifp hm c
      exact hk51 h hg hm
    · replace hm := ia_ifn hm c
      obtain ⟨v3, hv3, hm⟩ := ia_bnd hm
      have gv3 := g_M_drawnDay hg hv3
      exact ih (x8 + 1) v3 gv3 hm
def j_M_winter_89 (x1 : Int32) (x2 : Int32) (x3 : Int32) (x4 : Int32) (x5 : Int32) (x6 : Int32) (x7 : Int32) (kr : Int32 → Int32 → ia_H → Option (Int32 × ia_H)) (k98 : Int32 → ia_H → Option (Int32 × ia_H)) (x9 : Int32) (s0 : Int32) (s1 : Int32) (h : ia_H) : Option (Int32 × ia_H) := kr (s0 + s1) (x9 + 1) h
theorem tj_M_winter_89 {w : ia_O0} {d N1 W1 : Nat} {K : ia_K} (hK : ia_isK (d + 11) mm_M_winter N1 W1 K) {x1 : Int32} {x2 : Int32} {x3 : Int32} {x4 : Int32} {x5 : Int32} {x6 : Int32} {x7 : Int32} {r : Int32} {h1 : ia_H} (hret : ∀ (pc : Nat) (lv : ia_L), ia_ret mm_M_winter pc (some (.inl r)) → K pc lv ((some (.inl r)) : Option ia_V).toList h1) {kr : Int32 → Int32 → ia_H → Option (Int32 × ia_H)} {k98 : Int32 → ia_H → Option (Int32 × ia_H)} (hkr : ∀ (x8 : Int32) (x9 : Int32) (h : ia_H), gd_ w h → kr x8 x9 h = some (r, h1) → K 57 [some (.inr (.inr 417)), none, none, none, none, none, none, some (.inl x7), some (.inl x8), some (.inl x9)] [] h) (hk98 : ∀ (x8 : Int32) (h : ia_H), gd_ w h → k98 x8 h = some (r, h1) → K 98 [some (.inr (.inr 417)), none, none, none, none, none, none, some (.inl x7), some (.inl x8), none] [] h) : ∀ (x9 : Int32) (s0 : Int32) (s1 : Int32) (h : ia_H), gd_ w h → j_M_winter_89 x1 x2 x3 x4 x5 x6 x7 kr k98 x9 s0 s1 h = some (r, h1) → K 89 [some (.inr (.inr 417)), none, none, none, none, none, none, some (.inl x7), none, some (.inl x9)] [.inl s1, .inl s0] h := by
  intro x9 s0 s1 h hg hm
  unfold j_M_winter_89 at hm
  refine ia_go hK ck_M_winter_89 ?_
  show K 57 [some (.inr (.inr 417)), none, none, none, none, none, none, some (.inl x7), some (.inl (s0 + s1)), some (.inl (x9 + 1))] [] h
  exact hkr (s0 + s1) (x9 + 1) h hg hm
theorem gj_M_winter_89 {w : ia_O0} {x1 : Int32} {x2 : Int32} {x3 : Int32} {x4 : Int32} {x5 : Int32} {x6 : Int32} {x7 : Int32} {r : Int32} {h1 : ia_H} {kr : Int32 → Int32 → ia_H → Option (Int32 × ia_H)} {k98 : Int32 → ia_H → Option (Int32 × ia_H)} (hkr : ∀ (x8 : Int32) (x9 : Int32) (h : ia_H), gd_ w h → kr x8 x9 h = some (r, h1) → gd_ w h1) (hk98 : ∀ (x8 : Int32) (h : ia_H), gd_ w h → k98 x8 h = some (r, h1) → gd_ w h1) : ∀ (x9 : Int32) (s0 : Int32) (s1 : Int32) (h : ia_H), gd_ w h → j_M_winter_89 x1 x2 x3 x4 x5 x6 x7 kr k98 x9 s0 s1 h = some (r, h1) → gd_ w h1 := by
  intro x9 s0 s1 h hg hm
  unfold j_M_winter_89 at hm
  exact hkr (s0 + s1) (x9 + 1) h hg hm
def l_M_winter_57 (x1 : Int32) (x2 : Int32) (x3 : Int32) (x4 : Int32) (x5 : Int32) (x6 : Int32) (x7 : Int32) (k98 : Int32 → ia_H → Option (Int32 × ia_H)) (n : Nat) (x8 : Int32) (x9 : Int32) (h : ia_H) : Option (Int32 × ia_H) := match n with
  | 0 => none
  | n + 1 => ia_gd (ia_ib ((ia_i h 417 14) + 4) 6528) (if (ia_i h 418 (((ia_i h 417 14) + 4).toNatClampNeg)) ≤ x9 then (k98 x8 h) else ((f_M_stands x9 h).bind fun v5 => (if v5 = 0 then (j_M_winter_89 x1 x2 x3 x4 x5 x6 x7 (l_M_winter_57 x1 x2 x3 x4 x5 x6 x7 k98 n) k98 x9 x8 0 h) else (j_M_winter_89 x1 x2 x3 x4 x5 x6 x7 (l_M_winter_57 x1 x2 x3 x4 x5 x6 x7 k98 n) k98 x9 x8 1 h))))
theorem tl_M_winter_57 {w : ia_O0} {d N1 W1 : Nat} {K : ia_K} (hK : ia_isK (d + 11) mm_M_winter N1 W1 K) {x1 : Int32} {x2 : Int32} {x3 : Int32} {x4 : Int32} {x5 : Int32} {x6 : Int32} {x7 : Int32} {r : Int32} {h1 : ia_H} (hret : ∀ (pc : Nat) (lv : ia_L), ia_ret mm_M_winter pc (some (.inl r)) → K pc lv ((some (.inl r)) : Option ia_V).toList h1) {k98 : Int32 → ia_H → Option (Int32 × ia_H)} (hk98 : ∀ (x8 : Int32) (h : ia_H), gd_ w h → k98 x8 h = some (r, h1) → K 98 [some (.inr (.inr 417)), none, none, none, none, none, none, some (.inl x7), some (.inl x8), none] [] h) : ∀ (n : Nat) (x8 : Int32) (x9 : Int32) (h : ia_H), gd_ w h → l_M_winter_57 x1 x2 x3 x4 x5 x6 x7 k98 n x8 x9 h = some (r, h1) → K 57 [some (.inr (.inr 417)), none, none, none, none, none, none, some (.inl x7), some (.inl x8), some (.inl x9)] [] h := by
  intro n
  induction n with
  | zero =>
    intro x8 x9 h hg hm
    cases (show (none : Option (Int32 × ia_H)) = some _ from hm)
  | succ n ih =>
    intro x8 x9 h hg hm
    rw [l_M_winter_57] at hm
    obtain ⟨c4, hm⟩ := ia_gd_some hm
    refine ia_go hK ck_M_winter_57 ⟨gk_12 hg pk_417, gr_12_0 hg pk_417, gk_12 hg pk_417, ga_i100 hg (ka_12_0 pk_417) c4, fun c => ?_, fun c => ?_⟩
    · replace hm := ia_ifp hm c
      show K 98 [some (.inr (.inr 417)), none, none, none, none, none, none, some (.inl x7), some (.inl x8), some (.inl x9)] [] h
      refine ia_fg hK (lv' := [some (.inr (.inr 417)), none, none, none, none, none, none, some (.inl x7), some (.inl x8), none]) ⟨rfl, rfl, rfl, trivial⟩ ?_
      exact hk98 x8 h hg hm
    · replace hm := ia_ifn hm c
      show K 73 [some (.inr (.inr 417)), none, none, none, none, none, none, some (.inl x7), some (.inl x8), some (.inl x9)] [] h
      refine ia_go hK ck_M_winter_73 ?_
      show K 78 [some (.inr (.inr 417)), none, none, none, none, none, none, some (.inl x7), some (.inl x8), some (.inl x9)] [.inl x9, .inr (.inr 417), .inl x8] h
      obtain ⟨v5, hv5, hm⟩ := ia_bnd hm
      have ev5 := t_M_stands (d + 8) hg hv5
      refine ia_cV hK mk_M_stands lk_12_222 dc_M_winter_78 417 [.inl x9] [.inl x8] rfl rfl (Nat.le_of_ble_eq_true rfl) (by decide) rfl (gk_12 hg pk_417) ev5 ⟨rfl, rfl⟩ ?_
      show K 81 [some (.inr (.inr 417)), none, none, none, none, none, none, some (.inl x7), some (.inl x8), some (.inl x9)] [.inl v5, .inl x8] h
      refine ia_go hK ck_M_winter_81 ⟨fun c => ?_, fun c => ?_⟩
      · replace hm := ia_ifp hm c
        show K 88 [some (.inr (.inr 417)), none, none, none, none, none, none, some (.inl x7), some (.inl x8), some (.inl x9)] [.inl x8] h
        refine ia_go hK ck_M_winter_88 ?_
        show K 89 [some (.inr (.inr 417)), none, none, none, none, none, none, some (.inl x7), some (.inl x8), some (.inl x9)] [.inl 0, .inl x8] h
        refine ia_fg hK (lv' := [some (.inr (.inr 417)), none, none, none, none, none, none, some (.inl x7), none, some (.inl x9)]) ⟨rfl, rfl, rfl, trivial⟩ ?_
        exact tj_M_winter_89 hK hret ih hk98 x9 x8 0 h hg hm
      · replace hm := ia_ifn hm c
        show K 84 [some (.inr (.inr 417)), none, none, none, none, none, none, some (.inl x7), some (.inl x8), some (.inl x9)] [.inl x8] h
        refine ia_go hK ck_M_winter_84 ?_
        show K 89 [some (.inr (.inr 417)), none, none, none, none, none, none, some (.inl x7), some (.inl x8), some (.inl x9)] [.inl 1, .inl x8] h
        refine ia_fg hK (lv' := [some (.inr (.inr 417)), none, none, none, none, none, none, some (.inl x7), none, some (.inl x9)]) ⟨rfl, rfl, rfl, trivial⟩ ?_
        exact tj_M_winter_89 hK hret ih hk98 x9 x8 1 h hg hm
theorem gl_M_winter_57 {w : ia_O0} {x1 : Int32} {x2 : Int32} {x3 : Int32} {x4 : Int32} {x5 : Int32} {x6 : Int32} {x7 : Int32} {r : Int32} {h1 : ia_H} {k98 : Int32 → ia_H → Option (Int32 × ia_H)} (hk98 : ∀ (x8 : Int32) (h : ia_H), gd_ w h → k98 x8 h = some (r, h1) → gd_ w h1) : ∀ (n : Nat) (x8 : Int32) (x9 : Int32) (h : ia_H), gd_ w h → l_M_winter_57 x1 x2 x3 x4 x5 x6 x7 k98 n x8 x9 h = some (r, h1) → gd_ w h1 := by
  intro n
  induction n with
  | zero =>
    intro x8 x9 h hg hm
    cases (show (none : Option (Int32 × ia_H)) = some _ from hm)
  | succ n ih =>
    intro x8 x9 h hg hm
    rw [l_M_winter_57] at hm
    obtain ⟨c4, hm⟩ := ia_gd_some hm
    by_cases c : (ia_i h 418 (((ia_i h 417 14) + 4).toNatClampNeg)) ≤ x9
    · replace hm := ia_ifp hm c
      exact hk98 x8 h hg hm
    · replace hm := ia_ifn hm c
      obtain ⟨v5, hv5, hm⟩ := ia_bnd hm
      by_cases c : v5 = 0
      · replace hm := ia_ifp hm c
        exact gj_M_winter_89 ih hk98 x9 x8 0 h hg hm
      · replace hm := ia_ifn hm c
        exact gj_M_winter_89 ih hk98 x9 x8 1 h hg hm
def f_M_winter (x1 : Int32) (x2 : Int32) (x3 : Int32) (x4 : Int32) (x5 : Int32) (x6 : Int32) (x7 : Int32) (h : ia_H) : Option (Int32 × ia_H) := (f_M_isIn x6 0 60 h).bind fun v1 => (if v1 = 0 then (some ((-1), h)) else ((f_M_isState x1 x2 x3 x4 h).bind fun v2 => (if v2.1 = 0 then (some ((-1), v2.2)) else (l_M_winter_34 x1 x2 x3 x4 x5 x6 x7 (fun h => l_M_winter_57 x1 x2 x3 x4 x5 x6 x7 (fun x8 h => if x7 = 0 then ((f_M_lost h).bind fun v9 => (some (v9, h))) else (if x7 = 1 then (some (ia_i h 422 79, h)) else (if x7 = 2 then (some (x8, h)) else ((f_M_cells h).bind fun v6 => ((f_M_isIn x7 100 (99 + v6) h).bind fun v7 => (if v7 = 0 then (some ((-1), h)) else (ia_gd (ia_ib (x7 - 100) 1120) (some (ia_i h 422 ((x7 - 100).toNatClampNeg), h))))))))) fu_ 0 0 h) fu_ 0 (ia_wI v2.2 417 37 x5)))))
theorem g_M_winter {w : ia_O0} {x1 : Int32} {x2 : Int32} {x3 : Int32} {x4 : Int32} {x5 : Int32} {x6 : Int32} {x7 : Int32} {h : ia_H} (hg : gd_ w h) {q : (Int32 × ia_H)} (hm : f_M_winter x1 x2 x3 x4 x5 x6 x7 h = some q) : gd_ w q.2 := by
  obtain ⟨r, h1⟩ := q
  unfold f_M_winter at hm
  obtain ⟨v1, hv1, hm⟩ := ia_bnd hm
  by_cases c : v1 = 0
  · replace hm := ia_ifp hm c
    obtain ⟨rfl, rfl⟩ := Prod.mk.inj (Option.some.inj hm)
    exact hg
  · replace hm := ia_ifn hm c
    obtain ⟨v2, hv2, hm⟩ := ia_bnd hm
    have gv2 := g_M_isState hg hv2
    by_cases c : v2.1 = 0
    · replace hm := ia_ifp hm c
      obtain ⟨rfl, rfl⟩ := Prod.mk.inj (Option.some.inj hm)
      exact gv2
    · replace hm := ia_ifn hm c
      refine gl_M_winter_34 ?_ fu_ 0 (ia_wI v2.2 417 37 x5) (gd_wI gv2 (ko_12 pk_417)) hm
      · intro h hg hm
        refine gl_M_winter_57 ?_ fu_ 0 0 h hg hm
        · intro x8 h hg hm
          by_cases c : x7 = 0
          · replace hm := ia_ifp hm c
            obtain ⟨v9, hv9, hm⟩ := ia_bnd hm
            obtain ⟨rfl, rfl⟩ := Prod.mk.inj (Option.some.inj hm)
            exact hg
          · replace hm := ia_ifn hm c
            by_cases c : x7 = 1
            · replace hm := ia_ifp hm c
              obtain ⟨rfl, rfl⟩ := Prod.mk.inj (Option.some.inj hm)
              exact hg
            · replace hm := ia_ifn hm c
              by_cases c : x7 = 2
              · replace hm := ia_ifp hm c
                obtain ⟨rfl, rfl⟩ := Prod.mk.inj (Option.some.inj hm)
                exact hg
              · replace hm := ia_ifn hm c
                obtain ⟨v6, hv6, hm⟩ := ia_bnd hm
                obtain ⟨v7, hv7, hm⟩ := ia_bnd hm
                by_cases c : v7 = 0
                · replace hm := ia_ifp hm c
                  obtain ⟨rfl, rfl⟩ := Prod.mk.inj (Option.some.inj hm)
                  exact hg
                · replace hm := ia_ifn hm c
                  obtain ⟨c8, hm⟩ := ia_gd_some hm
                  obtain ⟨rfl, rfl⟩ := Prod.mk.inj (Option.some.inj hm)
                  exact hg
theorem t_M_winter {w : ia_O0} (d : Nat) {x1 : Int32} {x2 : Int32} {x3 : Int32} {x4 : Int32} {x5 : Int32} {x6 : Int32} {x7 : Int32} {h : ia_H} (hg : gd_ w h) {q : (Int32 × ia_H)} (hm : f_M_winter x1 x2 x3 x4 x5 x6 x7 h = some q) : ia_Ev (d + 11) mm_M_winter [.inr (.inr 417), .inl x1, .inl x2, .inl x3, .inl x4, .inl x5, .inl x6, .inl x7] h (some (.inl q.1)) q.2 := by
  have gq := g_M_winter hg hm
  refine ia_Ev_intro ok_M_winter (gd_le hg gq).1 (gd_le hg gq).2 (Nat.le_of_ble_eq_true rfl) (fun K hK hret => ?_)
  obtain ⟨r, h1⟩ := q
  show K 0 [some (.inr (.inr 417)), some (.inl x1), some (.inl x2), some (.inl x3), some (.inl x4), some (.inl x5), some (.inl x6), some (.inl x7), none, none] [] h
  unfold f_M_winter at hm
  refine ia_go hK ck_M_winter_0 ?_
  show K 5 [some (.inr (.inr 417)), some (.inl x1), some (.inl x2), some (.inl x3), some (.inl x4), some (.inl x5), some (.inl x6), some (.inl x7), none, none] [.inl 60, .inl 0, .inl x6] h
  obtain ⟨v1, hv1, hm⟩ := ia_bnd hm
  have ev1 := t_M_isIn (d + 10) hg hv1
  refine ia_cS hK mk_M_isIn lk_12_116 dc_M_winter_5 [.inl x6, .inl 0, .inl 60] [] rfl rfl (Nat.le_of_ble_eq_true rfl) ev1 ⟨rfl, rfl⟩ ?_
  show K 8 [some (.inr (.inr 417)), some (.inl x1), some (.inl x2), some (.inl x3), some (.inl x4), some (.inl x5), some (.inl x6), some (.inl x7), none, none] [.inl v1] h
  refine ia_go hK ck_M_winter_8 ⟨fun c => ?_, fun c => ?_⟩
  · replace hm := ia_ifp hm c
    show K 23 [some (.inr (.inr 417)), some (.inl x1), some (.inl x2), some (.inl x3), some (.inl x4), some (.inl x5), some (.inl x6), some (.inl x7), none, none] [] h
    refine ia_go hK ck_M_winter_23 ?_
    show K 24 [some (.inr (.inr 417)), some (.inl x1), some (.inl x2), some (.inl x3), some (.inl x4), some (.inl x5), some (.inl x6), some (.inl x7), none, none] [.inl (-1)] h
    obtain ⟨rfl, rfl⟩ := Prod.mk.inj (Option.some.inj hm)
    exact hret 24 _ dc_M_winter_24
  · replace hm := ia_ifn hm c
    show K 11 [some (.inr (.inr 417)), some (.inl x1), some (.inl x2), some (.inl x3), some (.inl x4), some (.inl x5), some (.inl x6), some (.inl x7), none, none] [] h
    refine ia_go hK ck_M_winter_11 ?_
    show K 17 [some (.inr (.inr 417)), some (.inl x1), some (.inl x2), some (.inl x3), some (.inl x4), some (.inl x5), some (.inl x6), some (.inl x7), none, none] [.inl x4, .inl x3, .inl x2, .inl x1, .inr (.inr 417)] h
    obtain ⟨v2, hv2, hm⟩ := ia_bnd hm
    have ev2 := t_M_isState (d + 0) hg hv2
    have gv2 := g_M_isState hg hv2
    refine ia_cV hK mk_M_isState lk_12_309 dc_M_winter_17 417 [.inl x1, .inl x2, .inl x3, .inl x4] [] rfl rfl (Nat.le_of_ble_eq_true rfl) (by decide) rfl (gk_12 hg pk_417) ev2 (gd_nm hg gv2) ?_
    show K 20 [some (.inr (.inr 417)), some (.inl x1), some (.inl x2), some (.inl x3), some (.inl x4), some (.inl x5), some (.inl x6), some (.inl x7), none, none] [.inl v2.1] v2.2
    refine ia_go hK ck_M_winter_20 ⟨fun c => ?_, fun c => ?_⟩
    · replace hm := ia_ifn hm c
      show K 25 [some (.inr (.inr 417)), some (.inl x1), some (.inl x2), some (.inl x3), some (.inl x4), some (.inl x5), some (.inl x6), some (.inl x7), none, none] [] v2.2
      refine ia_go hK ck_M_winter_25 ⟨gk_12 gv2 pk_417, ?_⟩
      show K 34 [some (.inr (.inr 417)), some (.inl x1), some (.inl x2), some (.inl x3), some (.inl x4), some (.inl x5), some (.inl x6), some (.inl x7), some (.inl 0), none] [] (ia_wI v2.2 417 37 x5)
      refine ia_fg hK (lv' := [some (.inr (.inr 417)), none, none, none, none, none, some (.inl x6), some (.inl x7), some (.inl 0), none]) ⟨rfl, rfl, rfl, rfl, trivial⟩ ?_
      refine tl_M_winter_34 hK hret ?_ fu_ 0 (ia_wI v2.2 417 37 x5) (gd_wI gv2 (ko_12 pk_417)) hm
      · intro h hg hm
        refine ia_go hK ck_M_winter_51 ?_
        show K 57 [some (.inr (.inr 417)), none, none, none, none, none, none, some (.inl x7), some (.inl 0), some (.inl 0)] [] h
        refine tl_M_winter_57 hK hret ?_ fu_ 0 0 h hg hm
        · intro x8 h hg hm
          refine ia_go hK ck_M_winter_98 ⟨fun c => ?_, fun c => ?_⟩
          · replace hm := ia_ifn hm c
            show K 110 [some (.inr (.inr 417)), none, none, none, none, none, none, some (.inl x7), some (.inl x8), none] [] h
            refine ia_go hK ck_M_winter_110 ⟨fun c => ?_, fun c => ?_⟩
            · replace hm := ia_ifn hm c
              show K 126 [some (.inr (.inr 417)), none, none, none, none, none, none, some (.inl x7), some (.inl x8), none] [] h
              refine ia_go hK ck_M_winter_126 ⟨fun c => ?_, fun c => ?_⟩
              · replace hm := ia_ifn hm c
                show K 137 [some (.inr (.inr 417)), none, none, none, none, none, none, some (.inl x7), some (.inl x8), none] [] h
                refine ia_go hK ck_M_winter_137 ?_
                show K 144 [some (.inr (.inr 417)), none, none, none, none, none, none, some (.inl x7), some (.inl x8), none] [.inr (.inr 417), .inl 99, .inl 100, .inl x7] h
                obtain ⟨v6, hv6, hm⟩ := ia_bnd hm
                have ev6 := t_M_cells (d + 10) hg hv6
                refine ia_cV hK mk_M_cells lk_12_234 dc_M_winter_144 417 [] [.inl 99, .inl 100, .inl x7] rfl rfl (Nat.le_of_ble_eq_true rfl) (by decide) rfl (gk_12 hg pk_417) ev6 ⟨rfl, rfl⟩ ?_
                show K 147 [some (.inr (.inr 417)), none, none, none, none, none, none, some (.inl x7), some (.inl x8), none] [.inl v6, .inl 99, .inl 100, .inl x7] h
                refine ia_go hK ck_M_winter_147 ?_
                show K 148 [some (.inr (.inr 417)), none, none, none, none, none, none, some (.inl x7), some (.inl x8), none] [.inl (99 + v6), .inl 100, .inl x7] h
                obtain ⟨v7, hv7, hm⟩ := ia_bnd hm
                have ev7 := t_M_isIn (d + 10) hg hv7
                refine ia_cS hK mk_M_isIn lk_12_116 dc_M_winter_148 [.inl x7, .inl 100, .inl (99 + v6)] [] rfl rfl (Nat.le_of_ble_eq_true rfl) ev7 ⟨rfl, rfl⟩ ?_
                show K 151 [some (.inr (.inr 417)), none, none, none, none, none, none, some (.inl x7), some (.inl x8), none] [.inl v7] h
                refine ia_go hK ck_M_winter_151 ⟨fun c => ?_, fun c => ?_⟩
                · replace hm := ia_ifp hm c
                  show K 167 [some (.inr (.inr 417)), none, none, none, none, none, none, some (.inl x7), some (.inl x8), none] [] h
                  refine ia_go hK ck_M_winter_167 ?_
                  show K 168 [some (.inr (.inr 417)), none, none, none, none, none, none, some (.inl x7), some (.inl x8), none] [.inl (-1)] h
                  obtain ⟨rfl, rfl⟩ := Prod.mk.inj (Option.some.inj hm)
                  exact hret 168 _ dc_M_winter_168
                · replace hm := ia_ifn hm c
                  show K 154 [some (.inr (.inr 417)), none, none, none, none, none, none, some (.inl x7), some (.inl x8), none] [] h
                  obtain ⟨c8, hm⟩ := ia_gd_some hm
                  refine ia_go hK ck_M_winter_154 ⟨gk_12 hg pk_417, gr_12_13 hg pk_417, ga_i100 hg (ka_12_13 pk_417) c8, ?_⟩
                  show K 168 [some (.inr (.inr 417)), none, none, none, none, none, none, some (.inl x7), some (.inl x8), none] [.inl (ia_i h 422 ((x7 - 100).toNatClampNeg))] h
                  obtain ⟨rfl, rfl⟩ := Prod.mk.inj (Option.some.inj hm)
                  exact hret 168 _ dc_M_winter_168
              · replace hm := ia_ifp hm c
                show K 132 [some (.inr (.inr 417)), none, none, none, none, none, none, some (.inl x7), some (.inl x8), none] [] h
                refine ia_go hK ck_M_winter_132 ?_
                show K 168 [some (.inr (.inr 417)), none, none, none, none, none, none, some (.inl x7), some (.inl x8), none] [.inl x8] h
                obtain ⟨rfl, rfl⟩ := Prod.mk.inj (Option.some.inj hm)
                exact hret 168 _ dc_M_winter_168
            · replace hm := ia_ifp hm c
              show K 116 [some (.inr (.inr 417)), none, none, none, none, none, none, some (.inl x7), some (.inl x8), none] [] h
              refine ia_go hK ck_M_winter_116 ⟨gk_12 hg pk_417, gr_12_13 hg pk_417, ga_i100 hg (ka_12_13 pk_417) (by decide), ?_⟩
              show K 168 [some (.inr (.inr 417)), none, none, none, none, none, none, some (.inl x7), some (.inl x8), none] [.inl (ia_i h 422 79)] h
              obtain ⟨rfl, rfl⟩ := Prod.mk.inj (Option.some.inj hm)
              exact hret 168 _ dc_M_winter_168
          · replace hm := ia_ifp hm c
            show K 103 [some (.inr (.inr 417)), none, none, none, none, none, none, some (.inl x7), some (.inl x8), none] [] h
            refine ia_go hK ck_M_winter_103 ?_
            show K 104 [some (.inr (.inr 417)), none, none, none, none, none, none, some (.inl x7), some (.inl x8), none] [.inr (.inr 417)] h
            obtain ⟨v9, hv9, hm⟩ := ia_bnd hm
            have ev9 := t_M_lost (d + 9) hg hv9
            refine ia_cV hK mk_M_lost lk_12_312 dc_M_winter_104 417 [] [] rfl rfl (Nat.le_of_ble_eq_true rfl) (by decide) rfl (gk_12 hg pk_417) ev9 ⟨rfl, rfl⟩ ?_
            show K 107 [some (.inr (.inr 417)), none, none, none, none, none, none, some (.inl x7), some (.inl x8), none] [.inl v9] h
            refine ia_go hK ck_M_winter_107 ?_
            show K 168 [some (.inr (.inr 417)), none, none, none, none, none, none, some (.inl x7), some (.inl x8), none] [.inl v9] h
            obtain ⟨rfl, rfl⟩ := Prod.mk.inj (Option.some.inj hm)
            exact hret 168 _ dc_M_winter_168
    · replace hm := ia_ifp hm c
      show K 23 [some (.inr (.inr 417)), some (.inl x1), some (.inl x2), some (.inl x3), some (.inl x4), some (.inl x5), some (.inl x6), some (.inl x7), none, none] [] v2.2
      refine ia_go hK ck_M_winter_23 ?_
      show K 24 [some (.inr (.inr 417)), some (.inl x1), some (.inl x2), some (.inl x3), some (.inl x4), some (.inl x5), some (.inl x6), some (.inl x7), none, none] [.inl (-1)] v2.2
      obtain ⟨rfl, rfl⟩ := Prod.mk.inj (Option.some.inj hm)
      exact hret 24 _ dc_M_winter_24
def mm_M_fallen : ia_M := (⟨"IceStreetModel", "fallen", "(IIIIIIII)I"⟩, prog_14_method_119_code, 12, (some .int), 12, false)
theorem ok_M_fallen : ia_mok mm_M_fallen := ⟨by decide +kernel, by decide +kernel, by decide +kernel, by decide +kernel⟩
theorem mk_M_fallen : ia_mkn mm_M_fallen 1 8 := ⟨ia_tb_in (List.mem_of_getElem? (i := 2188) (by decide +kernel)) rfl, ia_tb_in (List.mem_of_getElem? (i := 146) (by decide +kernel)) rfl, by decide +kernel, by decide +kernel, ⟨ia_tb_in (List.mem_of_getElem? (i := 2186) (by decide +kernel)) rfl, ia_tb_in (List.mem_of_getElem? (i := 2187) (by decide +kernel)) rfl⟩⟩
theorem ck_M_fallen_0 : ia_cks 12 12 false prog_14_method_119_code 0 [(.iload 6, 0, 0, 0, 0), (.iconst 1, 0, 0, 0, 0), (.bipush 9, 0, 0, 0, 0)] = true := by decide +kernel
theorem ck_M_fallen_8 : ia_cks 12 12 false prog_14_method_119_code 8 [(.ifCond .eq 28, 0, 0, 0, 0)] = true := by decide +kernel
theorem ck_M_fallen_36 : ia_cks 12 12 false prog_14_method_119_code 36 [(.iconst (-1), 0, 0, 0, 0)] = true := by decide +kernel
theorem ck_M_fallen_11 : ia_cks 12 12 false prog_14_method_119_code 11 [(.iload 7, 0, 0, 0, 0), (.iconst 0, 0, 0, 0, 0), (.bipush 60, 0, 0, 0, 0)] = true := by decide +kernel
theorem ck_M_fallen_19 : ia_cks 12 12 false prog_14_method_119_code 19 [(.ifCond .eq 17, 0, 0, 0, 0)] = true := by decide +kernel
theorem ck_M_fallen_22 : ia_cks 12 12 false prog_14_method_119_code 22 [(.aload_n 0, 0, 0, 0, 0), (.iload_n 1, 0, 0, 0, 0), (.iload_n 2, 0, 0, 0, 0), (.iload_n 3, 0, 0, 0, 0), (.iload 4, 0, 0, 0, 0), (.iload 8, 0, 0, 0, 0)] = true := by decide +kernel
theorem ck_M_fallen_33 : ia_cks 12 12 false prog_14_method_119_code 33 [(.ifCond .ne 5, 0, 0, 0, 0)] = true := by decide +kernel
theorem ck_M_fallen_38 : ia_cks 12 12 false prog_14_method_119_code 38 [(.aload_n 0, 0, 0, 0, 0), (.iconst 0, 0, 0, 0, 0), (.iconst 1, 0, 0, 0, 0)] = true := by decide +kernel
theorem ck_M_fallen_44 : ia_cks 12 12 false prog_14_method_119_code 44 [(.iconst 0, 0, 0, 0, 0), (.istore 9, 0, 0, 0, 0), (.iconst 0, 0, 0, 0, 0), (.istore 10, 0, 0, 0, 0)] = true := by decide +kernel
theorem ck_M_fallen_50 : ia_cks 12 12 false prog_14_method_119_code 50 [(.iload 10, 0, 0, 0, 0), (.iload 6, 0, 0, 0, 0), (.if_icmp .ge 63, 0, 0, 0, 0)] = true := by decide +kernel
theorem ck_M_fallen_57 : ia_cks 12 12 false prog_14_method_119_code 57 [(.aload_n 0, 0, 0, 0, 0), (.iconst 1, 0, 0, 0, 0), (.iconst 0, 0, 0, 0, 0)] = true := by decide +kernel
theorem ck_M_fallen_63 : ia_cks 12 12 false prog_14_method_119_code 63 [(.aload_n 0, 0, 0, 0, 0), (.iload 5, 0, 0, 0, 0), (.iload 10, 0, 0, 0, 0), (.iadd, 0, 0, 0, 0), (.putfield 404, 12, 37, 0, 0), (.iconst 0, 0, 0, 0, 0), (.istore 11, 0, 0, 0, 0)] = true := by decide +kernel
theorem ck_M_fallen_75 : ia_cks 12 12 false prog_14_method_119_code 75 [(.iload 11, 0, 0, 0, 0), (.iload 7, 0, 0, 0, 0), (.if_icmp .ge 13, 0, 0, 0, 0)] = true := by decide +kernel
theorem ck_M_fallen_82 : ia_cks 12 12 false prog_14_method_119_code 82 [(.aload_n 0, 0, 0, 0, 0)] = true := by decide +kernel
theorem ck_M_fallen_86 : ia_cks 12 12 false prog_14_method_119_code 86 [(.iinc 11 1, 0, 0, 0, 0), (.goto (-14), 0, 0, 0, 0)] = true := by decide +kernel
theorem ck_M_fallen_92 : ia_cks 12 12 false prog_14_method_119_code 92 [(.iload 9, 0, 0, 0, 0), (.aload_n 0, 0, 0, 0, 0), (.iload 8, 0, 0, 0, 0)] = true := by decide +kernel
theorem ck_M_fallen_100 : ia_cks 12 12 false prog_14_method_119_code 100 [(.ifCond .eq 7, 0, 0, 0, 0)] = true := by decide +kernel
theorem ck_M_fallen_107 : ia_cks 12 12 false prog_14_method_119_code 107 [(.iconst 1, 0, 0, 0, 0)] = true := by decide +kernel
theorem ck_M_fallen_108 : ia_cks 12 12 false prog_14_method_119_code 108 [(.iadd, 0, 0, 0, 0), (.istore 9, 0, 0, 0, 0), (.iinc 10 1, 0, 0, 0, 0), (.goto (-64), 0, 0, 0, 0)] = true := by decide +kernel
theorem ck_M_fallen_103 : ia_cks 12 12 false prog_14_method_119_code 103 [(.iconst 0, 0, 0, 0, 0), (.goto 4, 0, 0, 0, 0)] = true := by decide +kernel
theorem ck_M_fallen_117 : ia_cks 12 12 false prog_14_method_119_code 117 [(.iload 9, 0, 0, 0, 0)] = true := by decide +kernel
theorem dc_M_fallen_5 : decode prog_14_method_119_code 5 = .ok (.invokestatic 116, 3) := by decide +kernel
theorem dc_M_fallen_37 : decode prog_14_method_119_code 37 = .ok (.ireturn, 1) := by decide +kernel
theorem dc_M_fallen_16 : decode prog_14_method_119_code 16 = .ok (.invokestatic 116, 3) := by decide +kernel
theorem dc_M_fallen_30 : decode prog_14_method_119_code 30 = .ok (.invokevirtual 356, 3) := by decide +kernel
theorem dc_M_fallen_41 : decode prog_14_method_119_code 41 = .ok (.invokevirtual 365, 3) := by decide +kernel
theorem dc_M_fallen_60 : decode prog_14_method_119_code 60 = .ok (.invokevirtual 365, 3) := by decide +kernel
theorem dc_M_fallen_83 : decode prog_14_method_119_code 83 = .ok (.invokevirtual 411, 3) := by decide +kernel
theorem dc_M_fallen_97 : decode prog_14_method_119_code 97 = .ok (.invokevirtual 222, 3) := by decide +kernel
theorem dc_M_fallen_119 : decode prog_14_method_119_code 119 = .ok (.ireturn, 1) := by decide +kernel
def l_M_fallen_75 (x1 : Int32) (x2 : Int32) (x3 : Int32) (x4 : Int32) (x5 : Int32) (x6 : Int32) (x7 : Int32) (x8 : Int32) (k92 : Int32 → Int32 → ia_H → Option (Int32 × ia_H)) (n : Nat) (x9 : Int32) (x10 : Int32) (x11 : Int32) (h : ia_H) : Option (Int32 × ia_H) := match n with
  | 0 => none
  | n + 1 => if x7 ≤ x11 then (k92 x9 x10 h) else ((f_M_drawnDay h).bind fun v6 => (l_M_fallen_75 x1 x2 x3 x4 x5 x6 x7 x8 k92 n x9 x10 (x11 + 1) v6))
theorem tl_M_fallen_75 {w : ia_O0} {d N1 W1 : Nat} {K : ia_K} (hK : ia_isK (d + 12) mm_M_fallen N1 W1 K) {x1 : Int32} {x2 : Int32} {x3 : Int32} {x4 : Int32} {x5 : Int32} {x6 : Int32} {x7 : Int32} {x8 : Int32} {r : Int32} {h1 : ia_H} (hret : ∀ (pc : Nat) (lv : ia_L), ia_ret mm_M_fallen pc (some (.inl r)) → K pc lv ((some (.inl r)) : Option ia_V).toList h1) {k92 : Int32 → Int32 → ia_H → Option (Int32 × ia_H)} (hk92 : ∀ (x9 : Int32) (x10 : Int32) (h : ia_H), gd_ w h → k92 x9 x10 h = some (r, h1) → K 92 [some (.inr (.inr 417)), none, none, none, none, some (.inl x5), some (.inl x6), some (.inl x7), some (.inl x8), some (.inl x9), some (.inl x10), none] [] h) : ∀ (n : Nat) (x9 : Int32) (x10 : Int32) (x11 : Int32) (h : ia_H), gd_ w h → l_M_fallen_75 x1 x2 x3 x4 x5 x6 x7 x8 k92 n x9 x10 x11 h = some (r, h1) → K 75 [some (.inr (.inr 417)), none, none, none, none, some (.inl x5), some (.inl x6), some (.inl x7), some (.inl x8), some (.inl x9), some (.inl x10), some (.inl x11)] [] h := by
  intro n
  induction n with
  | zero =>
    intro x9 x10 x11 h hg hm
    cases (show (none : Option (Int32 × ia_H)) = some _ from hm)
  | succ n ih =>
    intro x9 x10 x11 h hg hm
    rw [l_M_fallen_75] at hm
    refine ia_go hK ck_M_fallen_75 ⟨fun c => ?_, fun c => ?_⟩
    · replace hm := ia_ifp hm c
      show K 92 [some (.inr (.inr 417)), none, none, none, none, some (.inl x5), some (.inl x6), some (.inl x7), some (.inl x8), some (.inl x9), some (.inl x10), some (.inl x11)] [] h
      refine ia_fg hK (lv' := [some (.inr (.inr 417)), none, none, none, none, some (.inl x5), some (.inl x6), some (.inl x7), some (.inl x8), some (.inl x9), some (.inl x10), none]) ⟨rfl, rfl, rfl, rfl, rfl, rfl, rfl, trivial⟩ ?_
      exact hk92 x9 x10 h hg hm
    · replace hm := ia_ifn hm c
      show K 82 [some (.inr (.inr 417)), none, none, none, none, some (.inl x5), some (.inl x6), some (.inl x7), some (.inl x8), some (.inl x9), some (.inl x10), some (.inl x11)] [] h
      refine ia_go hK ck_M_fallen_82 ?_
      show K 83 [some (.inr (.inr 417)), none, none, none, none, some (.inl x5), some (.inl x6), some (.inl x7), some (.inl x8), some (.inl x9), some (.inl x10), some (.inl x11)] [.inr (.inr 417)] h
      obtain ⟨v6, hv6, hm⟩ := ia_bnd hm
      have ev6 := t_M_drawnDay (d + 4) hg hv6
      have gv6 := g_M_drawnDay hg hv6
      refine ia_cV hK mk_M_drawnDay lk_12_411 dc_M_fallen_83 417 [] [] rfl rfl (Nat.le_of_ble_eq_true rfl) (by decide) rfl (gk_12 hg pk_417) ev6 (gd_nm hg gv6) ?_
      show K 86 [some (.inr (.inr 417)), none, none, none, none, some (.inl x5), some (.inl x6), some (.inl x7), some (.inl x8), some (.inl x9), some (.inl x10), some (.inl x11)] [] v6
      refine ia_go hK ck_M_fallen_86 ?_
      show K 75 [some (.inr (.inr 417)), none, none, none, none, some (.inl x5), some (.inl x6), some (.inl x7), some (.inl x8), some (.inl x9), some (.inl x10), some (.inl (x11 + 1))] [] v6
      exact ih x9 x10 (x11 + 1) v6 gv6 hm
theorem gl_M_fallen_75 {w : ia_O0} {x1 : Int32} {x2 : Int32} {x3 : Int32} {x4 : Int32} {x5 : Int32} {x6 : Int32} {x7 : Int32} {x8 : Int32} {r : Int32} {h1 : ia_H} {k92 : Int32 → Int32 → ia_H → Option (Int32 × ia_H)} (hk92 : ∀ (x9 : Int32) (x10 : Int32) (h : ia_H), gd_ w h → k92 x9 x10 h = some (r, h1) → gd_ w h1) : ∀ (n : Nat) (x9 : Int32) (x10 : Int32) (x11 : Int32) (h : ia_H), gd_ w h → l_M_fallen_75 x1 x2 x3 x4 x5 x6 x7 x8 k92 n x9 x10 x11 h = some (r, h1) → gd_ w h1 := by
  intro n
  induction n with
  | zero =>
    intro x9 x10 x11 h hg hm
    cases (show (none : Option (Int32 × ia_H)) = some _ from hm)
  | succ n ih =>
    intro x9 x10 x11 h hg hm
    rw [l_M_fallen_75] at hm
    by_cases c : x7 ≤ x11
    · replace hm := ia_ifp hm c
      exact hk92 x9 x10 h hg hm
    · replace hm := ia_ifn hm c
      obtain ⟨v6, hv6, hm⟩ := ia_bnd hm
      have gv6 := g_M_drawnDay hg hv6
      exact ih x9 x10 (x11 + 1) v6 gv6 hm
def j_M_fallen_108 (x1 : Int32) (x2 : Int32) (x3 : Int32) (x4 : Int32) (x5 : Int32) (x6 : Int32) (x7 : Int32) (x8 : Int32) (kr : Int32 → Int32 → ia_H → Option (Int32 × ia_H)) (k117 : Int32 → ia_H → Option (Int32 × ia_H)) (x10 : Int32) (s0 : Int32) (s1 : Int32) (h : ia_H) : Option (Int32 × ia_H) := kr (s0 + s1) (x10 + 1) h
theorem tj_M_fallen_108 {w : ia_O0} {d N1 W1 : Nat} {K : ia_K} (hK : ia_isK (d + 12) mm_M_fallen N1 W1 K) {x1 : Int32} {x2 : Int32} {x3 : Int32} {x4 : Int32} {x5 : Int32} {x6 : Int32} {x7 : Int32} {x8 : Int32} {r : Int32} {h1 : ia_H} (hret : ∀ (pc : Nat) (lv : ia_L), ia_ret mm_M_fallen pc (some (.inl r)) → K pc lv ((some (.inl r)) : Option ia_V).toList h1) {kr : Int32 → Int32 → ia_H → Option (Int32 × ia_H)} {k117 : Int32 → ia_H → Option (Int32 × ia_H)} (hkr : ∀ (x9 : Int32) (x10 : Int32) (h : ia_H), gd_ w h → kr x9 x10 h = some (r, h1) → K 50 [some (.inr (.inr 417)), none, none, none, none, some (.inl x5), some (.inl x6), some (.inl x7), some (.inl x8), some (.inl x9), some (.inl x10), none] [] h) (hk117 : ∀ (x9 : Int32) (h : ia_H), gd_ w h → k117 x9 h = some (r, h1) → K 117 [none, none, none, none, none, none, none, none, none, some (.inl x9), none, none] [] h) : ∀ (x10 : Int32) (s0 : Int32) (s1 : Int32) (h : ia_H), gd_ w h → j_M_fallen_108 x1 x2 x3 x4 x5 x6 x7 x8 kr k117 x10 s0 s1 h = some (r, h1) → K 108 [some (.inr (.inr 417)), none, none, none, none, some (.inl x5), some (.inl x6), some (.inl x7), some (.inl x8), none, some (.inl x10), none] [.inl s1, .inl s0] h := by
  intro x10 s0 s1 h hg hm
  unfold j_M_fallen_108 at hm
  refine ia_go hK ck_M_fallen_108 ?_
  show K 50 [some (.inr (.inr 417)), none, none, none, none, some (.inl x5), some (.inl x6), some (.inl x7), some (.inl x8), some (.inl (s0 + s1)), some (.inl (x10 + 1)), none] [] h
  exact hkr (s0 + s1) (x10 + 1) h hg hm
theorem gj_M_fallen_108 {w : ia_O0} {x1 : Int32} {x2 : Int32} {x3 : Int32} {x4 : Int32} {x5 : Int32} {x6 : Int32} {x7 : Int32} {x8 : Int32} {r : Int32} {h1 : ia_H} {kr : Int32 → Int32 → ia_H → Option (Int32 × ia_H)} {k117 : Int32 → ia_H → Option (Int32 × ia_H)} (hkr : ∀ (x9 : Int32) (x10 : Int32) (h : ia_H), gd_ w h → kr x9 x10 h = some (r, h1) → gd_ w h1) (hk117 : ∀ (x9 : Int32) (h : ia_H), gd_ w h → k117 x9 h = some (r, h1) → gd_ w h1) : ∀ (x10 : Int32) (s0 : Int32) (s1 : Int32) (h : ia_H), gd_ w h → j_M_fallen_108 x1 x2 x3 x4 x5 x6 x7 x8 kr k117 x10 s0 s1 h = some (r, h1) → gd_ w h1 := by
  intro x10 s0 s1 h hg hm
  unfold j_M_fallen_108 at hm
  exact hkr (s0 + s1) (x10 + 1) h hg hm
def l_M_fallen_50 (x1 : Int32) (x2 : Int32) (x3 : Int32) (x4 : Int32) (x5 : Int32) (x6 : Int32) (x7 : Int32) (x8 : Int32) (k117 : Int32 → ia_H → Option (Int32 × ia_H)) (n : Nat) (x9 : Int32) (x10 : Int32) (h : ia_H) : Option (Int32 × ia_H) := match n with
  | 0 => none
  | n + 1 => if x6 ≤ x10 then (k117 x9 h) else ((f_M_copies 1 0 h).bind fun v5 => (l_M_fallen_75 x1 x2 x3 x4 x5 x6 x7 x8 (fun x9 x10 h => (f_M_stands x8 h).bind fun v7 => (if v7 = 0 then (j_M_fallen_108 x1 x2 x3 x4 x5 x6 x7 x8 (l_M_fallen_50 x1 x2 x3 x4 x5 x6 x7 x8 k117 n) k117 x10 x9 1 h) else (j_M_fallen_108 x1 x2 x3 x4 x5 x6 x7 x8 (l_M_fallen_50 x1 x2 x3 x4 x5 x6 x7 x8 k117 n) k117 x10 x9 0 h))) fu_ x9 x10 0 (ia_wI v5 417 37 (x5 + x10))))
theorem tl_M_fallen_50 {w : ia_O0} {d N1 W1 : Nat} {K : ia_K} (hK : ia_isK (d + 12) mm_M_fallen N1 W1 K) {x1 : Int32} {x2 : Int32} {x3 : Int32} {x4 : Int32} {x5 : Int32} {x6 : Int32} {x7 : Int32} {x8 : Int32} {r : Int32} {h1 : ia_H} (hret : ∀ (pc : Nat) (lv : ia_L), ia_ret mm_M_fallen pc (some (.inl r)) → K pc lv ((some (.inl r)) : Option ia_V).toList h1) {k117 : Int32 → ia_H → Option (Int32 × ia_H)} (hk117 : ∀ (x9 : Int32) (h : ia_H), gd_ w h → k117 x9 h = some (r, h1) → K 117 [none, none, none, none, none, none, none, none, none, some (.inl x9), none, none] [] h) : ∀ (n : Nat) (x9 : Int32) (x10 : Int32) (h : ia_H), gd_ w h → l_M_fallen_50 x1 x2 x3 x4 x5 x6 x7 x8 k117 n x9 x10 h = some (r, h1) → K 50 [some (.inr (.inr 417)), none, none, none, none, some (.inl x5), some (.inl x6), some (.inl x7), some (.inl x8), some (.inl x9), some (.inl x10), none] [] h := by
  intro n
  induction n with
  | zero =>
    intro x9 x10 h hg hm
    cases (show (none : Option (Int32 × ia_H)) = some _ from hm)
  | succ n ih =>
    intro x9 x10 h hg hm
    rw [l_M_fallen_50] at hm
    refine ia_go hK ck_M_fallen_50 ⟨fun c => ?_, fun c => ?_⟩
    · replace hm := ia_ifp hm c
      show K 117 [some (.inr (.inr 417)), none, none, none, none, some (.inl x5), some (.inl x6), some (.inl x7), some (.inl x8), some (.inl x9), some (.inl x10), none] [] h
      refine ia_fg hK (lv' := [none, none, none, none, none, none, none, none, none, some (.inl x9), none, none]) ⟨rfl, trivial⟩ ?_
      exact hk117 x9 h hg hm
    · replace hm := ia_ifn hm c
      show K 57 [some (.inr (.inr 417)), none, none, none, none, some (.inl x5), some (.inl x6), some (.inl x7), some (.inl x8), some (.inl x9), some (.inl x10), none] [] h
      refine ia_go hK ck_M_fallen_57 ?_
      show K 60 [some (.inr (.inr 417)), none, none, none, none, some (.inl x5), some (.inl x6), some (.inl x7), some (.inl x8), some (.inl x9), some (.inl x10), none] [.inl 0, .inl 1, .inr (.inr 417)] h
      obtain ⟨v5, hv5, hm⟩ := ia_bnd hm
      have ev5 := t_M_copies (d + 11) hg hv5
      have gv5 := g_M_copies hg hv5
      refine ia_cV hK mk_M_copies lk_12_365 dc_M_fallen_60 417 [.inl 1, .inl 0] [] rfl rfl (Nat.le_of_ble_eq_true rfl) (by decide) rfl (gk_12 hg pk_417) ev5 (gd_nm hg gv5) ?_
      show K 63 [some (.inr (.inr 417)), none, none, none, none, some (.inl x5), some (.inl x6), some (.inl x7), some (.inl x8), some (.inl x9), some (.inl x10), none] [] v5
      refine ia_go hK ck_M_fallen_63 ⟨gk_12 gv5 pk_417, ?_⟩
      show K 75 [some (.inr (.inr 417)), none, none, none, none, some (.inl x5), some (.inl x6), some (.inl x7), some (.inl x8), some (.inl x9), some (.inl x10), some (.inl 0)] [] (ia_wI v5 417 37 (x5 + x10))
      refine tl_M_fallen_75 hK hret ?_ fu_ x9 x10 0 (ia_wI v5 417 37 (x5 + x10)) (gd_wI gv5 (ko_12 pk_417)) hm
      · intro x9 x10 h hg hm
        refine ia_go hK ck_M_fallen_92 ?_
        show K 97 [some (.inr (.inr 417)), none, none, none, none, some (.inl x5), some (.inl x6), some (.inl x7), some (.inl x8), some (.inl x9), some (.inl x10), none] [.inl x8, .inr (.inr 417), .inl x9] h
        obtain ⟨v7, hv7, hm⟩ := ia_bnd hm
        have ev7 := t_M_stands (d + 9) hg hv7
        refine ia_cV hK mk_M_stands lk_12_222 dc_M_fallen_97 417 [.inl x8] [.inl x9] rfl rfl (Nat.le_of_ble_eq_true rfl) (by decide) rfl (gk_12 hg pk_417) ev7 ⟨rfl, rfl⟩ ?_
        show K 100 [some (.inr (.inr 417)), none, none, none, none, some (.inl x5), some (.inl x6), some (.inl x7), some (.inl x8), some (.inl x9), some (.inl x10), none] [.inl v7, .inl x9] h
        refine ia_go hK ck_M_fallen_100 ⟨fun c => ?_, fun c => ?_⟩
        · replace hm := ia_ifp hm c
          show K 107 [some (.inr (.inr 417)), none, none, none, none, some (.inl x5), some (.inl x6), some (.inl x7), some (.inl x8), some (.inl x9), some (.inl x10), none] [.inl x9] h
          refine ia_go hK ck_M_fallen_107 ?_
          show K 108 [some (.inr (.inr 417)), none, none, none, none, some (.inl x5), some (.inl x6), some (.inl x7), some (.inl x8), some (.inl x9), some (.inl x10), none] [.inl 1, .inl x9] h
          refine ia_fg hK (lv' := [some (.inr (.inr 417)), none, none, none, none, some (.inl x5), some (.inl x6), some (.inl x7), some (.inl x8), none, some (.inl x10), none]) ⟨rfl, rfl, rfl, rfl, rfl, rfl, trivial⟩ ?_
          exact tj_M_fallen_108 hK hret ih hk117 x10 x9 1 h hg hm
        · replace hm := ia_ifn hm c
          show K 103 [some (.inr (.inr 417)), none, none, none, none, some (.inl x5), some (.inl x6), some (.inl x7), some (.inl x8), some (.inl x9), some (.inl x10), none] [.inl x9] h
          refine ia_go hK ck_M_fallen_103 ?_
          show K 108 [some (.inr (.inr 417)), none, none, none, none, some (.inl x5), some (.inl x6), some (.inl x7), some (.inl x8), some (.inl x9), some (.inl x10), none] [.inl 0, .inl x9] h
          refine ia_fg hK (lv' := [some (.inr (.inr 417)), none, none, none, none, some (.inl x5), some (.inl x6), some (.inl x7), some (.inl x8), none, some (.inl x10), none]) ⟨rfl, rfl, rfl, rfl, rfl, rfl, trivial⟩ ?_
          exact tj_M_fallen_108 hK hret ih hk117 x10 x9 0 h hg hm
theorem gl_M_fallen_50 {w : ia_O0} {x1 : Int32} {x2 : Int32} {x3 : Int32} {x4 : Int32} {x5 : Int32} {x6 : Int32} {x7 : Int32} {x8 : Int32} {r : Int32} {h1 : ia_H} {k117 : Int32 → ia_H → Option (Int32 × ia_H)} (hk117 : ∀ (x9 : Int32) (h : ia_H), gd_ w h → k117 x9 h = some (r, h1) → gd_ w h1) : ∀ (n : Nat) (x9 : Int32) (x10 : Int32) (h : ia_H), gd_ w h → l_M_fallen_50 x1 x2 x3 x4 x5 x6 x7 x8 k117 n x9 x10 h = some (r, h1) → gd_ w h1 := by
  intro n
  induction n with
  | zero =>
    intro x9 x10 h hg hm
    cases (show (none : Option (Int32 × ia_H)) = some _ from hm)
  | succ n ih =>
    intro x9 x10 h hg hm
    rw [l_M_fallen_50] at hm
    by_cases c : x6 ≤ x10
    · replace hm := ia_ifp hm c
      exact hk117 x9 h hg hm
    · replace hm := ia_ifn hm c
      obtain ⟨v5, hv5, hm⟩ := ia_bnd hm
      have gv5 := g_M_copies hg hv5
      refine gl_M_fallen_75 ?_ fu_ x9 x10 0 (ia_wI v5 417 37 (x5 + x10)) (gd_wI gv5 (ko_12 pk_417)) hm
      · intro x9 x10 h hg hm
        obtain ⟨v7, hv7, hm⟩ := ia_bnd hm
        by_cases c : v7 = 0
        · replace hm := ia_ifp hm c
          exact gj_M_fallen_108 ih hk117 x10 x9 1 h hg hm
        · replace hm := ia_ifn hm c
          exact gj_M_fallen_108 ih hk117 x10 x9 0 h hg hm
def f_M_fallen (x1 : Int32) (x2 : Int32) (x3 : Int32) (x4 : Int32) (x5 : Int32) (x6 : Int32) (x7 : Int32) (x8 : Int32) (h : ia_H) : Option (Int32 × ia_H) := (f_M_isIn x6 1 9 h).bind fun v1 => (if v1 = 0 then (some ((-1), h)) else ((f_M_isIn x7 0 60 h).bind fun v2 => (if v2 = 0 then (some ((-1), h)) else ((f_M_isStanding x1 x2 x3 x4 x8 h).bind fun v3 => (if v3.1 = 0 then (some ((-1), v3.2)) else ((f_M_copies 0 1 v3.2).bind fun v4 => (l_M_fallen_50 x1 x2 x3 x4 x5 x6 x7 x8 (fun x9 h => some (x9, h)) fu_ 0 0 v4)))))))
theorem g_M_fallen {w : ia_O0} {x1 : Int32} {x2 : Int32} {x3 : Int32} {x4 : Int32} {x5 : Int32} {x6 : Int32} {x7 : Int32} {x8 : Int32} {h : ia_H} (hg : gd_ w h) {q : (Int32 × ia_H)} (hm : f_M_fallen x1 x2 x3 x4 x5 x6 x7 x8 h = some q) : gd_ w q.2 := by
  obtain ⟨r, h1⟩ := q
  unfold f_M_fallen at hm
  obtain ⟨v1, hv1, hm⟩ := ia_bnd hm
  by_cases c : v1 = 0
  · replace hm := ia_ifp hm c
    obtain ⟨rfl, rfl⟩ := Prod.mk.inj (Option.some.inj hm)
    exact hg
  · replace hm := ia_ifn hm c
    obtain ⟨v2, hv2, hm⟩ := ia_bnd hm
    by_cases c : v2 = 0
    · replace hm := ia_ifp hm c
      obtain ⟨rfl, rfl⟩ := Prod.mk.inj (Option.some.inj hm)
      exact hg
    · replace hm := ia_ifn hm c
      obtain ⟨v3, hv3, hm⟩ := ia_bnd hm
      have gv3 := g_M_isStanding hg hv3
      by_cases c : v3.1 = 0
      · replace hm := ia_ifp hm c
        obtain ⟨rfl, rfl⟩ := Prod.mk.inj (Option.some.inj hm)
        exact gv3
      · replace hm := ia_ifn hm c
        obtain ⟨v4, hv4, hm⟩ := ia_bnd hm
        have gv4 := g_M_copies gv3 hv4
        refine gl_M_fallen_50 ?_ fu_ 0 0 v4 gv4 hm
        · intro x9 h hg hm
          obtain ⟨rfl, rfl⟩ := Prod.mk.inj (Option.some.inj hm)
          exact hg
theorem t_M_fallen {w : ia_O0} (d : Nat) {x1 : Int32} {x2 : Int32} {x3 : Int32} {x4 : Int32} {x5 : Int32} {x6 : Int32} {x7 : Int32} {x8 : Int32} {h : ia_H} (hg : gd_ w h) {q : (Int32 × ia_H)} (hm : f_M_fallen x1 x2 x3 x4 x5 x6 x7 x8 h = some q) : ia_Ev (d + 12) mm_M_fallen [.inr (.inr 417), .inl x1, .inl x2, .inl x3, .inl x4, .inl x5, .inl x6, .inl x7, .inl x8] h (some (.inl q.1)) q.2 := by
  have gq := g_M_fallen hg hm
  refine ia_Ev_intro ok_M_fallen (gd_le hg gq).1 (gd_le hg gq).2 (Nat.le_of_ble_eq_true rfl) (fun K hK hret => ?_)
  obtain ⟨r, h1⟩ := q
  show K 0 [some (.inr (.inr 417)), some (.inl x1), some (.inl x2), some (.inl x3), some (.inl x4), some (.inl x5), some (.inl x6), some (.inl x7), some (.inl x8), none, none, none] [] h
  unfold f_M_fallen at hm
  refine ia_go hK ck_M_fallen_0 ?_
  show K 5 [some (.inr (.inr 417)), some (.inl x1), some (.inl x2), some (.inl x3), some (.inl x4), some (.inl x5), some (.inl x6), some (.inl x7), some (.inl x8), none, none, none] [.inl 9, .inl 1, .inl x6] h
  obtain ⟨v1, hv1, hm⟩ := ia_bnd hm
  have ev1 := t_M_isIn (d + 11) hg hv1
  refine ia_cS hK mk_M_isIn lk_12_116 dc_M_fallen_5 [.inl x6, .inl 1, .inl 9] [] rfl rfl (Nat.le_of_ble_eq_true rfl) ev1 ⟨rfl, rfl⟩ ?_
  show K 8 [some (.inr (.inr 417)), some (.inl x1), some (.inl x2), some (.inl x3), some (.inl x4), some (.inl x5), some (.inl x6), some (.inl x7), some (.inl x8), none, none, none] [.inl v1] h
  refine ia_go hK ck_M_fallen_8 ⟨fun c => ?_, fun c => ?_⟩
  · replace hm := ia_ifp hm c
    show K 36 [some (.inr (.inr 417)), some (.inl x1), some (.inl x2), some (.inl x3), some (.inl x4), some (.inl x5), some (.inl x6), some (.inl x7), some (.inl x8), none, none, none] [] h
    refine ia_go hK ck_M_fallen_36 ?_
    show K 37 [some (.inr (.inr 417)), some (.inl x1), some (.inl x2), some (.inl x3), some (.inl x4), some (.inl x5), some (.inl x6), some (.inl x7), some (.inl x8), none, none, none] [.inl (-1)] h
    obtain ⟨rfl, rfl⟩ := Prod.mk.inj (Option.some.inj hm)
    exact hret 37 _ dc_M_fallen_37
  · replace hm := ia_ifn hm c
    show K 11 [some (.inr (.inr 417)), some (.inl x1), some (.inl x2), some (.inl x3), some (.inl x4), some (.inl x5), some (.inl x6), some (.inl x7), some (.inl x8), none, none, none] [] h
    refine ia_go hK ck_M_fallen_11 ?_
    show K 16 [some (.inr (.inr 417)), some (.inl x1), some (.inl x2), some (.inl x3), some (.inl x4), some (.inl x5), some (.inl x6), some (.inl x7), some (.inl x8), none, none, none] [.inl 60, .inl 0, .inl x7] h
    obtain ⟨v2, hv2, hm⟩ := ia_bnd hm
    have ev2 := t_M_isIn (d + 11) hg hv2
    refine ia_cS hK mk_M_isIn lk_12_116 dc_M_fallen_16 [.inl x7, .inl 0, .inl 60] [] rfl rfl (Nat.le_of_ble_eq_true rfl) ev2 ⟨rfl, rfl⟩ ?_
    show K 19 [some (.inr (.inr 417)), some (.inl x1), some (.inl x2), some (.inl x3), some (.inl x4), some (.inl x5), some (.inl x6), some (.inl x7), some (.inl x8), none, none, none] [.inl v2] h
    refine ia_go hK ck_M_fallen_19 ⟨fun c => ?_, fun c => ?_⟩
    · replace hm := ia_ifp hm c
      show K 36 [some (.inr (.inr 417)), some (.inl x1), some (.inl x2), some (.inl x3), some (.inl x4), some (.inl x5), some (.inl x6), some (.inl x7), some (.inl x8), none, none, none] [] h
      refine ia_go hK ck_M_fallen_36 ?_
      show K 37 [some (.inr (.inr 417)), some (.inl x1), some (.inl x2), some (.inl x3), some (.inl x4), some (.inl x5), some (.inl x6), some (.inl x7), some (.inl x8), none, none, none] [.inl (-1)] h
      obtain ⟨rfl, rfl⟩ := Prod.mk.inj (Option.some.inj hm)
      exact hret 37 _ dc_M_fallen_37
    · replace hm := ia_ifn hm c
      show K 22 [some (.inr (.inr 417)), some (.inl x1), some (.inl x2), some (.inl x3), some (.inl x4), some (.inl x5), some (.inl x6), some (.inl x7), some (.inl x8), none, none, none] [] h
      refine ia_go hK ck_M_fallen_22 ?_
      show K 30 [some (.inr (.inr 417)), some (.inl x1), some (.inl x2), some (.inl x3), some (.inl x4), some (.inl x5), some (.inl x6), some (.inl x7), some (.inl x8), none, none, none] [.inl x8, .inl x4, .inl x3, .inl x2, .inl x1, .inr (.inr 417)] h
      obtain ⟨v3, hv3, hm⟩ := ia_bnd hm
      have ev3 := t_M_isStanding (d + 0) hg hv3
      have gv3 := g_M_isStanding hg hv3
      refine ia_cV hK mk_M_isStanding lk_12_356 dc_M_fallen_30 417 [.inl x1, .inl x2, .inl x3, .inl x4, .inl x8] [] rfl rfl (Nat.le_of_ble_eq_true rfl) (by decide) rfl (gk_12 hg pk_417) ev3 (gd_nm hg gv3) ?_
      show K 33 [some (.inr (.inr 417)), some (.inl x1), some (.inl x2), some (.inl x3), some (.inl x4), some (.inl x5), some (.inl x6), some (.inl x7), some (.inl x8), none, none, none] [.inl v3.1] v3.2
      refine ia_go hK ck_M_fallen_33 ⟨fun c => ?_, fun c => ?_⟩
      · replace hm := ia_ifn hm c
        show K 38 [some (.inr (.inr 417)), some (.inl x1), some (.inl x2), some (.inl x3), some (.inl x4), some (.inl x5), some (.inl x6), some (.inl x7), some (.inl x8), none, none, none] [] v3.2
        refine ia_go hK ck_M_fallen_38 ?_
        show K 41 [some (.inr (.inr 417)), some (.inl x1), some (.inl x2), some (.inl x3), some (.inl x4), some (.inl x5), some (.inl x6), some (.inl x7), some (.inl x8), none, none, none] [.inl 1, .inl 0, .inr (.inr 417)] v3.2
        obtain ⟨v4, hv4, hm⟩ := ia_bnd hm
        have ev4 := t_M_copies (d + 11) gv3 hv4
        have gv4 := g_M_copies gv3 hv4
        refine ia_cV hK mk_M_copies lk_12_365 dc_M_fallen_41 417 [.inl 0, .inl 1] [] rfl rfl (Nat.le_of_ble_eq_true rfl) (by decide) rfl (gk_12 gv3 pk_417) ev4 (gd_nm gv3 gv4) ?_
        show K 44 [some (.inr (.inr 417)), some (.inl x1), some (.inl x2), some (.inl x3), some (.inl x4), some (.inl x5), some (.inl x6), some (.inl x7), some (.inl x8), none, none, none] [] v4
        refine ia_go hK ck_M_fallen_44 ?_
        show K 50 [some (.inr (.inr 417)), some (.inl x1), some (.inl x2), some (.inl x3), some (.inl x4), some (.inl x5), some (.inl x6), some (.inl x7), some (.inl x8), some (.inl 0), some (.inl 0), none] [] v4
        refine ia_fg hK (lv' := [some (.inr (.inr 417)), none, none, none, none, some (.inl x5), some (.inl x6), some (.inl x7), some (.inl x8), some (.inl 0), some (.inl 0), none]) ⟨rfl, rfl, rfl, rfl, rfl, rfl, rfl, trivial⟩ ?_
        refine tl_M_fallen_50 hK hret ?_ fu_ 0 0 v4 gv4 hm
        · intro x9 h hg hm
          refine ia_go hK ck_M_fallen_117 ?_
          show K 119 [none, none, none, none, none, none, none, none, none, some (.inl x9), none, none] [.inl x9] h
          obtain ⟨rfl, rfl⟩ := Prod.mk.inj (Option.some.inj hm)
          exact hret 119 _ dc_M_fallen_119
      · replace hm := ia_ifp hm c
        show K 36 [some (.inr (.inr 417)), some (.inl x1), some (.inl x2), some (.inl x3), some (.inl x4), some (.inl x5), some (.inl x6), some (.inl x7), some (.inl x8), none, none, none] [] v3.2
        refine ia_go hK ck_M_fallen_36 ?_
        show K 37 [some (.inr (.inr 417)), some (.inl x1), some (.inl x2), some (.inl x3), some (.inl x4), some (.inl x5), some (.inl x6), some (.inl x7), some (.inl x8), none, none, none] [.inl (-1)] v3.2
        obtain ⟨rfl, rfl⟩ := Prod.mk.inj (Option.some.inj hm)
        exact hret 37 _ dc_M_fallen_37
def mm_M_swept : ia_M := (⟨"IceStreetModel", "swept", "(I)I"⟩, prog_14_method_120_code, 6, (some .int), 12, false)
theorem ok_M_swept : ia_mok mm_M_swept := ⟨by decide +kernel, by decide +kernel, by decide +kernel, by decide +kernel⟩
theorem mk_M_swept : ia_mkn mm_M_swept 1 1 := ⟨ia_tb_in (List.mem_of_getElem? (i := 2196) (by decide +kernel)) rfl, ia_tb_in (List.mem_of_getElem? (i := 146) (by decide +kernel)) rfl, by decide +kernel, by decide +kernel, ⟨ia_tb_in (List.mem_of_getElem? (i := 2195) (by decide +kernel)) rfl, ia_tb_in (List.mem_of_getElem? (i := 128) (by decide +kernel)) rfl⟩⟩
theorem ck_M_swept_0 : ia_cks 12 6 false prog_14_method_120_code 0 [(.iconst (-1), 0, 0, 0, 0), (.istore_n 2, 0, 0, 0, 0), (.iconst (-1), 0, 0, 0, 0), (.istore_n 3, 0, 0, 0, 0), (.iconst 0, 0, 0, 0, 0), (.istore 4, 0, 0, 0, 0)] = true := by decide +kernel
theorem ck_M_swept_7 : ia_cks 12 6 false prog_14_method_120_code 7 [(.iload 4, 0, 0, 0, 0), (.aload_n 0, 0, 0, 0, 0)] = true := by decide +kernel
theorem ck_M_swept_13 : ia_cks 12 6 false prog_14_method_120_code 13 [(.if_icmp .ge 48, 0, 0, 0, 0)] = true := by decide +kernel
theorem ck_M_swept_16 : ia_cks 12 6 false prog_14_method_120_code 16 [(.aload_n 0, 0, 0, 0, 0), (.iconst 1, 0, 0, 0, 0), (.iconst 0, 0, 0, 0, 0)] = true := by decide +kernel
theorem ck_M_swept_22 : ia_cks 12 6 false prog_14_method_120_code 22 [(.aload_n 0, 0, 0, 0, 0), (.getfield 23, 12, 13, 3, 5), (.bipush 36, 0, 0, 0, 0), (.iload 4, 0, 0, 0, 0), (.iadd, 0, 0, 0, 0), (.iconst 0, 0, 0, 0, 0), (.iastore, 0, 0, 0, 0), (.aload_n 0, 0, 0, 0, 0), (.iload_n 1, 0, 0, 0, 0)] = true := by decide +kernel
theorem ck_M_swept_38 : ia_cks 12 6 false prog_14_method_120_code 38 [(.istore 5, 0, 0, 0, 0), (.iload 5, 0, 0, 0, 0), (.iload_n 3, 0, 0, 0, 0), (.if_icmp .gt 6, 0, 0, 0, 0)] = true := by decide +kernel
theorem ck_M_swept_49 : ia_cks 12 6 false prog_14_method_120_code 49 [(.iload 4, 0, 0, 0, 0), (.istore_n 2, 0, 0, 0, 0), (.iload 5, 0, 0, 0, 0), (.istore_n 3, 0, 0, 0, 0), (.iinc 4 1, 0, 0, 0, 0), (.goto (-51), 0, 0, 0, 0)] = true := by decide +kernel
theorem ck_M_swept_46 : ia_cks 12 6 false prog_14_method_120_code 46 [(.goto 9, 0, 0, 0, 0)] = true := by decide +kernel
theorem ck_M_swept_55 : ia_cks 12 6 false prog_14_method_120_code 55 [(.iinc 4 1, 0, 0, 0, 0), (.goto (-51), 0, 0, 0, 0)] = true := by decide +kernel
theorem ck_M_swept_61 : ia_cks 12 6 false prog_14_method_120_code 61 [(.iload_n 2, 0, 0, 0, 0)] = true := by decide +kernel
theorem dc_M_swept_10 : decode prog_14_method_120_code 10 = .ok (.invokevirtual 234, 3) := by decide +kernel
theorem dc_M_swept_19 : decode prog_14_method_120_code 19 = .ok (.invokevirtual 365, 3) := by decide +kernel
theorem dc_M_swept_35 : decode prog_14_method_120_code 35 = .ok (.invokevirtual 359, 3) := by decide +kernel
theorem dc_M_swept_62 : decode prog_14_method_120_code 62 = .ok (.ireturn, 1) := by decide +kernel
def l_M_swept_7 (x1 : Int32) (k61 : Int32 → ia_H → Option (Int32 × ia_H)) (n : Nat) (x2 : Int32) (x3 : Int32) (x4 : Int32) (h : ia_H) : Option (Int32 × ia_H) := match n with
  | 0 => none
  | n + 1 => (f_M_cells h).bind fun v1 => (if v1 ≤ x4 then (k61 x2 h) else ((f_M_copies 1 0 h).bind fun v2 => (ia_gd (ia_ib (36 + x4) 1120) ((f_M_holdsFor x1 (ia_wI v2 422 ((36 + x4).toNatClampNeg) 0)).bind fun v4 => (if x3 < v4.1 then (l_M_swept_7 x1 k61 n x4 v4.1 (x4 + 1) v4.2) else (l_M_swept_7 x1 k61 n x2 x3 (x4 + 1) v4.2))))))
theorem tl_M_swept_7 {w : ia_O0} {d N1 W1 : Nat} {K : ia_K} (hK : ia_isK (d + 9) mm_M_swept N1 W1 K) {x1 : Int32} {r : Int32} {h1 : ia_H} (hret : ∀ (pc : Nat) (lv : ia_L), ia_ret mm_M_swept pc (some (.inl r)) → K pc lv ((some (.inl r)) : Option ia_V).toList h1) {k61 : Int32 → ia_H → Option (Int32 × ia_H)} (hk61 : ∀ (x2 : Int32) (h : ia_H), gd_ w h → k61 x2 h = some (r, h1) → K 61 [none, none, some (.inl x2), none, none, none] [] h) : ∀ (n : Nat) (x2 : Int32) (x3 : Int32) (x4 : Int32) (h : ia_H), gd_ w h → l_M_swept_7 x1 k61 n x2 x3 x4 h = some (r, h1) → K 7 [some (.inr (.inr 417)), some (.inl x1), some (.inl x2), some (.inl x3), some (.inl x4), none] [] h := by
  intro n
  induction n with
  | zero =>
    intro x2 x3 x4 h hg hm
    cases (show (none : Option (Int32 × ia_H)) = some _ from hm)
  | succ n ih =>
    intro x2 x3 x4 h hg hm
    rw [l_M_swept_7] at hm
    refine ia_go hK ck_M_swept_7 ?_
    show K 10 [some (.inr (.inr 417)), some (.inl x1), some (.inl x2), some (.inl x3), some (.inl x4), none] [.inr (.inr 417), .inl x4] h
    obtain ⟨v1, hv1, hm⟩ := ia_bnd hm
    have ev1 := t_M_cells (d + 8) hg hv1
    refine ia_cV hK mk_M_cells lk_12_234 dc_M_swept_10 417 [] [.inl x4] rfl rfl (Nat.le_of_ble_eq_true rfl) (by decide) rfl (gk_12 hg pk_417) ev1 ⟨rfl, rfl⟩ ?_
    show K 13 [some (.inr (.inr 417)), some (.inl x1), some (.inl x2), some (.inl x3), some (.inl x4), none] [.inl v1, .inl x4] h
    refine ia_go hK ck_M_swept_13 ⟨fun c => ?_, fun c => ?_⟩
    · replace hm := ia_ifp hm c
      show K 61 [some (.inr (.inr 417)), some (.inl x1), some (.inl x2), some (.inl x3), some (.inl x4), none] [] h
      refine ia_fg hK (lv' := [none, none, some (.inl x2), none, none, none]) ⟨rfl, trivial⟩ ?_
      exact hk61 x2 h hg hm
    · replace hm := ia_ifn hm c
      show K 16 [some (.inr (.inr 417)), some (.inl x1), some (.inl x2), some (.inl x3), some (.inl x4), none] [] h
      refine ia_go hK ck_M_swept_16 ?_
      show K 19 [some (.inr (.inr 417)), some (.inl x1), some (.inl x2), some (.inl x3), some (.inl x4), none] [.inl 0, .inl 1, .inr (.inr 417)] h
      obtain ⟨v2, hv2, hm⟩ := ia_bnd hm
      have ev2 := t_M_copies (d + 8) hg hv2
      have gv2 := g_M_copies hg hv2
      refine ia_cV hK mk_M_copies lk_12_365 dc_M_swept_19 417 [.inl 1, .inl 0] [] rfl rfl (Nat.le_of_ble_eq_true rfl) (by decide) rfl (gk_12 hg pk_417) ev2 (gd_nm hg gv2) ?_
      show K 22 [some (.inr (.inr 417)), some (.inl x1), some (.inl x2), some (.inl x3), some (.inl x4), none] [] v2
      obtain ⟨c3, hm⟩ := ia_gd_some hm
      refine ia_go hK ck_M_swept_22 ⟨gk_12 gv2 pk_417, gr_12_13 gv2 pk_417, ga_s100 gv2 (ka_12_13 pk_417) c3, ?_⟩
      show K 35 [some (.inr (.inr 417)), some (.inl x1), some (.inl x2), some (.inl x3), some (.inl x4), none] [.inl x1, .inr (.inr 417)] (ia_wI v2 422 ((36 + x4).toNatClampNeg) 0)
      obtain ⟨v4, hv4, hm⟩ := ia_bnd hm
      have ev4 := t_M_holdsFor (d + 0) (gd_wI gv2 (kx_100 (ka_12_13 pk_417))) hv4
      have gv4 := g_M_holdsFor (gd_wI gv2 (kx_100 (ka_12_13 pk_417))) hv4
      refine ia_cV hK mk_M_holdsFor lk_12_359 dc_M_swept_35 417 [.inl x1] [] rfl rfl (Nat.le_of_ble_eq_true rfl) (by decide) rfl (gk_12 (gd_wI gv2 (kx_100 (ka_12_13 pk_417))) pk_417) ev4 (gd_nm (gd_wI gv2 (kx_100 (ka_12_13 pk_417))) gv4) ?_
      show K 38 [some (.inr (.inr 417)), some (.inl x1), some (.inl x2), some (.inl x3), some (.inl x4), none] [.inl v4.1] v4.2
      refine ia_go hK ck_M_swept_38 ⟨fun c => ?_, fun c => ?_⟩
      · replace hm := ia_ifp hm c
        show K 49 [some (.inr (.inr 417)), some (.inl x1), some (.inl x2), some (.inl x3), some (.inl x4), some (.inl v4.1)] [] v4.2
        refine ia_go hK ck_M_swept_49 ?_
        show K 7 [some (.inr (.inr 417)), some (.inl x1), some (.inl x4), some (.inl v4.1), some (.inl (x4 + 1)), some (.inl v4.1)] [] v4.2
        refine ia_fg hK (lv' := [some (.inr (.inr 417)), some (.inl x1), some (.inl x4), some (.inl v4.1), some (.inl (x4 + 1)), none]) ⟨rfl, rfl, rfl, rfl, rfl, trivial⟩ ?_
        exact ih x4 v4.1 (x4 + 1) v4.2 gv4 hm
      · replace hm := ia_ifn hm c
        show K 46 [some (.inr (.inr 417)), some (.inl x1), some (.inl x2), some (.inl x3), some (.inl x4), some (.inl v4.1)] [] v4.2
        refine ia_go hK ck_M_swept_46 ?_
        show K 55 [some (.inr (.inr 417)), some (.inl x1), some (.inl x2), some (.inl x3), some (.inl x4), some (.inl v4.1)] [] v4.2
        refine ia_go hK ck_M_swept_55 ?_
        show K 7 [some (.inr (.inr 417)), some (.inl x1), some (.inl x2), some (.inl x3), some (.inl (x4 + 1)), some (.inl v4.1)] [] v4.2
        refine ia_fg hK (lv' := [some (.inr (.inr 417)), some (.inl x1), some (.inl x2), some (.inl x3), some (.inl (x4 + 1)), none]) ⟨rfl, rfl, rfl, rfl, rfl, trivial⟩ ?_
        exact ih x2 x3 (x4 + 1) v4.2 gv4 hm
theorem gl_M_swept_7 {w : ia_O0} {x1 : Int32} {r : Int32} {h1 : ia_H} {k61 : Int32 → ia_H → Option (Int32 × ia_H)} (hk61 : ∀ (x2 : Int32) (h : ia_H), gd_ w h → k61 x2 h = some (r, h1) → gd_ w h1) : ∀ (n : Nat) (x2 : Int32) (x3 : Int32) (x4 : Int32) (h : ia_H), gd_ w h → l_M_swept_7 x1 k61 n x2 x3 x4 h = some (r, h1) → gd_ w h1 := by
  intro n
  induction n with
  | zero =>
    intro x2 x3 x4 h hg hm
    cases (show (none : Option (Int32 × ia_H)) = some _ from hm)
  | succ n ih =>
    intro x2 x3 x4 h hg hm
    rw [l_M_swept_7] at hm
    obtain ⟨v1, hv1, hm⟩ := ia_bnd hm
    by_cases c : v1 ≤ x4
    · replace hm := ia_ifp hm c
      exact hk61 x2 h hg hm
    · replace hm := ia_ifn hm c
      obtain ⟨v2, hv2, hm⟩ := ia_bnd hm
      have gv2 := g_M_copies hg hv2
      obtain ⟨c3, hm⟩ := ia_gd_some hm
      obtain ⟨v4, hv4, hm⟩ := ia_bnd hm
      have gv4 := g_M_holdsFor (gd_wI gv2 (kx_100 (ka_12_13 pk_417))) hv4
      by_cases c : x3 < v4.1
      · replace hm := ia_ifp hm c
        exact ih x4 v4.1 (x4 + 1) v4.2 gv4 hm
      · replace hm := ia_ifn hm c
        exact ih x2 x3 (x4 + 1) v4.2 gv4 hm
def f_M_swept (x1 : Int32) (h : ia_H) : Option (Int32 × ia_H) := l_M_swept_7 x1 (fun x2 h => some (x2, h)) fu_ (-1) (-1) 0 h
theorem g_M_swept {w : ia_O0} {x1 : Int32} {h : ia_H} (hg : gd_ w h) {q : (Int32 × ia_H)} (hm : f_M_swept x1 h = some q) : gd_ w q.2 := by
  obtain ⟨r, h1⟩ := q
  unfold f_M_swept at hm
  refine gl_M_swept_7 ?_ fu_ (-1) (-1) 0 h hg hm
  · intro x2 h hg hm
    obtain ⟨rfl, rfl⟩ := Prod.mk.inj (Option.some.inj hm)
    exact hg
theorem t_M_swept {w : ia_O0} (d : Nat) {x1 : Int32} {h : ia_H} (hg : gd_ w h) {q : (Int32 × ia_H)} (hm : f_M_swept x1 h = some q) : ia_Ev (d + 9) mm_M_swept [.inr (.inr 417), .inl x1] h (some (.inl q.1)) q.2 := by
  have gq := g_M_swept hg hm
  refine ia_Ev_intro ok_M_swept (gd_le hg gq).1 (gd_le hg gq).2 (Nat.le_of_ble_eq_true rfl) (fun K hK hret => ?_)
  obtain ⟨r, h1⟩ := q
  show K 0 [some (.inr (.inr 417)), some (.inl x1), none, none, none, none] [] h
  unfold f_M_swept at hm
  refine ia_go hK ck_M_swept_0 ?_
  show K 7 [some (.inr (.inr 417)), some (.inl x1), some (.inl (-1)), some (.inl (-1)), some (.inl 0), none] [] h
  refine tl_M_swept_7 hK hret ?_ fu_ (-1) (-1) 0 h hg hm
  · intro x2 h hg hm
    refine ia_go hK ck_M_swept_61 ?_
    show K 62 [none, none, some (.inl x2), none, none, none] [.inl x2] h
    obtain ⟨rfl, rfl⟩ := Prod.mk.inj (Option.some.inj hm)
    exact hret 62 _ dc_M_swept_62
