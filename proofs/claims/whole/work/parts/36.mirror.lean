def mm_M_cells : ia_M := (⟨"IceStreetModel", "cells", "()I"⟩, prog_14_method_44_code, 1, (some .int), 12, false)
theorem ok_M_cells : ia_mok mm_M_cells := ⟨by decide +kernel, by decide +kernel, by decide +kernel, by decide +kernel⟩
theorem mk_M_cells : ia_mkn mm_M_cells 1 0 := ⟨ia_tb_in (List.mem_of_getElem? (i := 1895) (by decide +kernel)) rfl, ia_tb_in (List.mem_of_getElem? (i := 146) (by decide +kernel)) rfl, by decide +kernel, by decide +kernel, ⟨ia_tb_in (List.mem_of_getElem? (i := 1894) (by decide +kernel)) rfl, ia_tb_in (List.mem_of_getElem? (i := 78) (by decide +kernel)) rfl⟩⟩
theorem ck_M_cells_0 : ia_cks 12 1 false prog_14_method_44_code 0 [(.aload_n 0, 0, 0, 0, 0), (.getfield 7, 12, 0, 3, 1), (.aload_n 0, 0, 0, 0, 0), (.getfield 201, 12, 14, 0, 0), (.iconst 0, 0, 0, 0, 0), (.iadd, 0, 0, 0, 0), (.iaload, 0, 0, 0, 0), (.aload_n 0, 0, 0, 0, 0), (.getfield 7, 12, 0, 3, 1), (.aload_n 0, 0, 0, 0, 0), (.getfield 201, 12, 14, 0, 0), (.iconst 1, 0, 0, 0, 0), (.iadd, 0, 0, 0, 0), (.iaload, 0, 0, 0, 0), (.imul, 0, 0, 0, 0)] = true := by decide +kernel
theorem dc_M_cells_23 : decode prog_14_method_44_code 23 = .ok (.ireturn, 1) := by decide +kernel
def f_M_cells (h : ia_H) : Option Int32 := ia_gd (ia_ib ((ia_i h 417 14) + 0) 6528) (ia_gd (ia_ib ((ia_i h 417 14) + 1) 6528) (some ((ia_i h 418 (((ia_i h 417 14) + 0).toNatClampNeg)) * (ia_i h 418 (((ia_i h 417 14) + 1).toNatClampNeg)))))
theorem t_M_cells {w : ia_O0} (d : Nat) {h : ia_H} (hg : gd_ w h) {r : Int32} (hm : f_M_cells h = some r) : ia_Ev (d + 0) mm_M_cells [.inr (.inr 417)] h (some (.inl r)) h := by
  refine ia_Ev_intro ok_M_cells (Nat.le_refl _) (Nat.le_refl _) (Nat.le_of_ble_eq_true rfl) (fun K hK hret => ?_)
  show K 0 [some (.inr (.inr 417))] [] h
  unfold f_M_cells at hm
  obtain ⟨c1, hm⟩ := ia_gd_some hm
  obtain ⟨c2, hm⟩ := ia_gd_some hm
  refine ia_go hK ck_M_cells_0 ⟨gk_12 hg pk_417, gr_12_0 hg pk_417, gk_12 hg pk_417, ga_i100 hg (ka_12_0 pk_417) c1, gk_12 hg pk_417, gr_12_0 hg pk_417, gk_12 hg pk_417, ga_i100 hg (ka_12_0 pk_417) c2, ?_⟩
  show K 23 [some (.inr (.inr 417))] [.inl ((ia_i h 418 (((ia_i h 417 14) + 0).toNatClampNeg)) * (ia_i h 418 (((ia_i h 417 14) + 1).toNatClampNeg)))] h
  obtain rfl := Option.some.inj hm
  exact hret 23 _ dc_M_cells_23
def mm_M_stands : ia_M := (⟨"IceStreetModel", "stands", "(I)Z"⟩, prog_14_method_45_code, 2, (some .boolean), 12, false)
theorem ok_M_stands : ia_mok mm_M_stands := ⟨by decide +kernel, by decide +kernel, by decide +kernel, by decide +kernel⟩
theorem mk_M_stands : ia_mkn mm_M_stands 1 1 := ⟨ia_tb_in (List.mem_of_getElem? (i := 1907) (by decide +kernel)) rfl, ia_tb_in (List.mem_of_getElem? (i := 146) (by decide +kernel)) rfl, by decide +kernel, by decide +kernel, ⟨ia_tb_in (List.mem_of_getElem? (i := 1906) (by decide +kernel)) rfl, ia_tb_in (List.mem_of_getElem? (i := 81) (by decide +kernel)) rfl⟩⟩
theorem ck_M_stands_0 : ia_cks 12 2 false prog_14_method_45_code 0 [(.aload_n 0, 0, 0, 0, 0), (.aload_n 0, 0, 0, 0, 0), (.getfield 201, 12, 14, 0, 0), (.iload_n 1, 0, 0, 0, 0)] = true := by decide +kernel
theorem ck_M_stands_9 : ia_cks 12 2 false prog_14_method_45_code 9 [(.ifCond .eq 19, 0, 0, 0, 0)] = true := by decide +kernel
theorem ck_M_stands_28 : ia_cks 12 2 false prog_14_method_45_code 28 [(.iconst 0, 0, 0, 0, 0)] = true := by decide +kernel
theorem ck_M_stands_12 : ia_cks 12 2 false prog_14_method_45_code 12 [(.aload_n 0, 0, 0, 0, 0), (.getfield 23, 12, 13, 3, 5), (.bipush 72, 0, 0, 0, 0), (.iload_n 1, 0, 0, 0, 0), (.iadd, 0, 0, 0, 0), (.iaload, 0, 0, 0, 0), (.ifCond .lt 7, 0, 0, 0, 0)] = true := by decide +kernel
theorem ck_M_stands_24 : ia_cks 12 2 false prog_14_method_45_code 24 [(.iconst 1, 0, 0, 0, 0), (.goto 4, 0, 0, 0, 0)] = true := by decide +kernel
theorem dc_M_stands_6 : decode prog_14_method_45_code 6 = .ok (.invokevirtual 195, 3) := by decide +kernel
theorem dc_M_stands_29 : decode prog_14_method_45_code 29 = .ok (.ireturn, 1) := by decide +kernel
def f_M_stands (x1 : Int32) (h : ia_H) : Option Int32 := (f_M_isShop (ia_i h 417 14) x1 h).bind fun v1 => (if v1 = 0 then (some 0) else (ia_gd (ia_ib (72 + x1) 1120) (if (ia_i h 422 ((72 + x1).toNatClampNeg)) < 0 then (some 0) else (some 1))))
theorem t_M_stands {w : ia_O0} (d : Nat) {x1 : Int32} {h : ia_H} (hg : gd_ w h) {r : Int32} (hm : f_M_stands x1 h = some r) : ia_Ev (d + 2) mm_M_stands [.inr (.inr 417), .inl x1] h (some (.inl r)) h := by
  refine ia_Ev_intro ok_M_stands (Nat.le_refl _) (Nat.le_refl _) (Nat.le_of_ble_eq_true rfl) (fun K hK hret => ?_)
  show K 0 [some (.inr (.inr 417)), some (.inl x1)] [] h
  unfold f_M_stands at hm
  refine ia_go hK ck_M_stands_0 ⟨gk_12 hg pk_417, ?_⟩
  show K 6 [some (.inr (.inr 417)), some (.inl x1)] [.inl x1, .inl (ia_i h 417 14), .inr (.inr 417)] h
  obtain ⟨v1, hv1, hm⟩ := ia_bnd hm
  have ev1 := t_M_isShop (d + 0) hg hv1
  refine ia_cV hK mk_M_isShop lk_12_195 dc_M_stands_6 417 [.inl (ia_i h 417 14), .inl x1] [] rfl rfl (Nat.le_of_ble_eq_true rfl) (by decide) rfl (gk_12 hg pk_417) ev1 ⟨rfl, rfl⟩ ?_
  show K 9 [some (.inr (.inr 417)), some (.inl x1)] [.inl v1] h
  refine ia_go hK ck_M_stands_9 ⟨fun c => ?_, fun c => ?_⟩
  · replace hm := ia_ifp hm c
    show K 28 [some (.inr (.inr 417)), some (.inl x1)] [] h
    refine ia_go hK ck_M_stands_28 ?_
    show K 29 [some (.inr (.inr 417)), some (.inl x1)] [.inl 0] h
    obtain rfl := Option.some.inj hm
    exact hret 29 _ ⟨Or.inl rfl, dc_M_stands_29⟩
  · replace hm := ia_ifn hm c
    show K 12 [some (.inr (.inr 417)), some (.inl x1)] [] h
    obtain ⟨c2, hm⟩ := ia_gd_some hm
    refine ia_go hK ck_M_stands_12 ⟨gk_12 hg pk_417, gr_12_13 hg pk_417, ga_i100 hg (ka_12_13 pk_417) c2, fun c => ?_, fun c => ?_⟩
    · replace hm := ia_ifp hm c
      show K 28 [some (.inr (.inr 417)), some (.inl x1)] [] h
      refine ia_go hK ck_M_stands_28 ?_
      show K 29 [some (.inr (.inr 417)), some (.inl x1)] [.inl 0] h
      obtain rfl := Option.some.inj hm
      exact hret 29 _ ⟨Or.inl rfl, dc_M_stands_29⟩
    · replace hm := ia_ifn hm c
      show K 24 [some (.inr (.inr 417)), some (.inl x1)] [] h
      refine ia_go hK ck_M_stands_24 ?_
      show K 29 [some (.inr (.inr 417)), some (.inl x1)] [.inl 1] h
      obtain rfl := Option.some.inj hm
      exact hret 29 _ ⟨Or.inr rfl, dc_M_stands_29⟩
def mm_M_shopIn : ia_M := (⟨"IceStreetModel", "shopIn", "(I)I"⟩, prog_14_method_48_code, 4, (some .int), 12, false)
theorem ok_M_shopIn : ia_mok mm_M_shopIn := ⟨by decide +kernel, by decide +kernel, by decide +kernel, by decide +kernel⟩
theorem mk_M_shopIn : ia_mkn mm_M_shopIn 1 1 := ⟨ia_tb_in (List.mem_of_getElem? (i := 1915) (by decide +kernel)) rfl, ia_tb_in (List.mem_of_getElem? (i := 146) (by decide +kernel)) rfl, by decide +kernel, by decide +kernel, ⟨ia_tb_in (List.mem_of_getElem? (i := 1914) (by decide +kernel)) rfl, ia_tb_in (List.mem_of_getElem? (i := 83) (by decide +kernel)) rfl⟩⟩
theorem ck_M_shopIn_0 : ia_cks 12 4 false prog_14_method_48_code 0 [(.iconst (-1), 0, 0, 0, 0), (.istore_n 2, 0, 0, 0, 0), (.iconst 0, 0, 0, 0, 0), (.istore_n 3, 0, 0, 0, 0)] = true := by decide +kernel
theorem ck_M_shopIn_4 : ia_cks 12 4 false prog_14_method_48_code 4 [(.iload_n 3, 0, 0, 0, 0), (.aload_n 0, 0, 0, 0, 0), (.getfield 7, 12, 0, 3, 1), (.aload_n 0, 0, 0, 0, 0), (.getfield 201, 12, 14, 0, 0), (.iconst 4, 0, 0, 0, 0), (.iadd, 0, 0, 0, 0), (.iaload, 0, 0, 0, 0), (.if_icmp .ge 28, 0, 0, 0, 0)] = true := by decide +kernel
theorem ck_M_shopIn_19 : ia_cks 12 4 false prog_14_method_48_code 19 [(.aload_n 0, 0, 0, 0, 0), (.getfield 23, 12, 13, 3, 5), (.bipush 72, 0, 0, 0, 0), (.iload_n 3, 0, 0, 0, 0), (.iadd, 0, 0, 0, 0), (.iaload, 0, 0, 0, 0), (.iload_n 1, 0, 0, 0, 0), (.if_icmp .ne 7, 0, 0, 0, 0)] = true := by decide +kernel
theorem ck_M_shopIn_36 : ia_cks 12 4 false prog_14_method_48_code 36 [(.iload_n 2, 0, 0, 0, 0), (.istore_n 2, 0, 0, 0, 0), (.iinc 3 1, 0, 0, 0, 0), (.goto (-37), 0, 0, 0, 0)] = true := by decide +kernel
theorem ck_M_shopIn_32 : ia_cks 12 4 false prog_14_method_48_code 32 [(.iload_n 3, 0, 0, 0, 0), (.goto 4, 0, 0, 0, 0)] = true := by decide +kernel
theorem ck_M_shopIn_37 : ia_cks 12 4 false prog_14_method_48_code 37 [(.istore_n 2, 0, 0, 0, 0), (.iinc 3 1, 0, 0, 0, 0), (.goto (-37), 0, 0, 0, 0)] = true := by decide +kernel
theorem ck_M_shopIn_44 : ia_cks 12 4 false prog_14_method_48_code 44 [(.iload_n 2, 0, 0, 0, 0)] = true := by decide +kernel
theorem dc_M_shopIn_45 : decode prog_14_method_48_code 45 = .ok (.ireturn, 1) := by decide +kernel
def l_M_shopIn_4 (x1 : Int32) (h : ia_H) (k44 : Int32 → Option Int32) (n : Nat) (x2 : Int32) (x3 : Int32) : Option Int32 := match n with
  | 0 => none
  | n + 1 => ia_gd (ia_ib ((ia_i h 417 14) + 4) 6528) (if (ia_i h 418 (((ia_i h 417 14) + 4).toNatClampNeg)) ≤ x3 then (k44 x2) else (ia_gd (ia_ib (72 + x3) 1120) (if (ia_i h 422 ((72 + x3).toNatClampNeg)) = x1 then (l_M_shopIn_4 x1 h k44 n x3 (x3 + 1)) else (l_M_shopIn_4 x1 h k44 n x2 (x3 + 1)))))
theorem tl_M_shopIn_4 {w : ia_O0} {d N1 W1 : Nat} {K : ia_K} (hK : ia_isK (d + 0) mm_M_shopIn N1 W1 K) {x1 : Int32} {h : ia_H} (hg : gd_ w h) {r : Int32} (hret : ∀ (pc : Nat) (lv : ia_L), ia_ret mm_M_shopIn pc (some (.inl r)) → K pc lv ((some (.inl r)) : Option ia_V).toList h) {k44 : Int32 → Option Int32} (hk44 : ∀ (x2 : Int32), k44 x2 = some r → K 44 [none, none, some (.inl x2), none] [] h) : ∀ (n : Nat) (x2 : Int32) (x3 : Int32), l_M_shopIn_4 x1 h k44 n x2 x3 = some r → K 4 [some (.inr (.inr 417)), some (.inl x1), some (.inl x2), some (.inl x3)] [] h := by
  intro n
  induction n with
  | zero =>
    intro x2 x3 hm
    cases (show (none : Option Int32) = some _ from hm)
  | succ n ih =>
    intro x2 x3 hm
    rw [l_M_shopIn_4] at hm
    obtain ⟨c1, hm⟩ := ia_gd_some hm
    refine ia_go hK ck_M_shopIn_4 ⟨gk_12 hg pk_417, gr_12_0 hg pk_417, gk_12 hg pk_417, ga_i100 hg (ka_12_0 pk_417) c1, fun c => ?_, fun c => ?_⟩
    · replace hm := ia_ifp hm c
      show K 44 [some (.inr (.inr 417)), some (.inl x1), some (.inl x2), some (.inl x3)] [] h
      refine ia_fg hK (lv' := [none, none, some (.inl x2), none]) ⟨rfl, trivial⟩ ?_
      exact hk44 x2 hm
    · replace hm := ia_ifn hm c
      show K 19 [some (.inr (.inr 417)), some (.inl x1), some (.inl x2), some (.inl x3)] [] h
      obtain ⟨c2, hm⟩ := ia_gd_some hm
      refine ia_go hK ck_M_shopIn_19 ⟨gk_12 hg pk_417, gr_12_13 hg pk_417, ga_i100 hg (ka_12_13 pk_417) c2, fun c => ?_, fun c => ?_⟩
      · replace hm := ia_ifn hm c
        show K 36 [some (.inr (.inr 417)), some (.inl x1), some (.inl x2), some (.inl x3)] [] h
        refine ia_go hK ck_M_shopIn_36 ?_
        show K 4 [some (.inr (.inr 417)), some (.inl x1), some (.inl x2), some (.inl (x3 + 1))] [] h
        exact ih x2 (x3 + 1) hm
      · replace hm := ia_ifp hm c
        show K 32 [some (.inr (.inr 417)), some (.inl x1), some (.inl x2), some (.inl x3)] [] h
        refine ia_go hK ck_M_shopIn_32 ?_
        show K 37 [some (.inr (.inr 417)), some (.inl x1), some (.inl x2), some (.inl x3)] [.inl x3] h
        refine ia_go hK ck_M_shopIn_37 ?_
        show K 4 [some (.inr (.inr 417)), some (.inl x1), some (.inl x3), some (.inl (x3 + 1))] [] h
        exact ih x3 (x3 + 1) hm
def f_M_shopIn (x1 : Int32) (h : ia_H) : Option Int32 := l_M_shopIn_4 x1 h (fun x2 => some x2) fu_ (-1) 0
theorem t_M_shopIn {w : ia_O0} (d : Nat) {x1 : Int32} {h : ia_H} (hg : gd_ w h) {r : Int32} (hm : f_M_shopIn x1 h = some r) : ia_Ev (d + 0) mm_M_shopIn [.inr (.inr 417), .inl x1] h (some (.inl r)) h := by
  refine ia_Ev_intro ok_M_shopIn (Nat.le_refl _) (Nat.le_refl _) (Nat.le_of_ble_eq_true rfl) (fun K hK hret => ?_)
  show K 0 [some (.inr (.inr 417)), some (.inl x1), none, none] [] h
  unfold f_M_shopIn at hm
  refine ia_go hK ck_M_shopIn_0 ?_
  show K 4 [some (.inr (.inr 417)), some (.inl x1), some (.inl (-1)), some (.inl 0)] [] h
  refine tl_M_shopIn_4 hK hg hret ?_ fu_ (-1) 0 hm
  · intro x2 hm
    refine ia_go hK ck_M_shopIn_44 ?_
    show K 45 [none, none, some (.inl x2), none] [.inl x2] h
    obtain rfl := Option.some.inj hm
    exact hret 45 _ dc_M_shopIn_45
def mm_M_weightOf : ia_M := (⟨"IceStreetModel", "weightOf", "(I)I"⟩, prog_14_method_46_code, 2, (some .int), 12, false)
theorem ok_M_weightOf : ia_mok mm_M_weightOf := ⟨by decide +kernel, by decide +kernel, by decide +kernel, by decide +kernel⟩
theorem mk_M_weightOf : ia_mkn mm_M_weightOf 1 1 := ⟨ia_tb_in (List.mem_of_getElem? (i := 1919) (by decide +kernel)) rfl, ia_tb_in (List.mem_of_getElem? (i := 146) (by decide +kernel)) rfl, by decide +kernel, by decide +kernel, ⟨ia_tb_in (List.mem_of_getElem? (i := 1918) (by decide +kernel)) rfl, ia_tb_in (List.mem_of_getElem? (i := 84) (by decide +kernel)) rfl⟩⟩
theorem ck_M_weightOf_0 : ia_cks 12 2 false prog_14_method_46_code 0 [(.aload_n 0, 0, 0, 0, 0), (.aload_n 0, 0, 0, 0, 0), (.getfield 201, 12, 14, 0, 0), (.iload_n 1, 0, 0, 0, 0), (.iconst 1, 0, 0, 0, 0)] = true := by decide +kernel
theorem ck_M_weightOf_10 : ia_cks 12 2 false prog_14_method_46_code 10 [(.iload_n 1, 0, 0, 0, 0), (.aload_n 0, 0, 0, 0, 0), (.getfield 30, 12, 17, 0, 0), (.if_icmp .ne 10, 0, 0, 0, 0)] = true := by decide +kernel
theorem ck_M_weightOf_25 : ia_cks 12 2 false prog_14_method_46_code 25 [(.iconst 0, 0, 0, 0, 0), (.iadd, 0, 0, 0, 0)] = true := by decide +kernel
theorem ck_M_weightOf_18 : ia_cks 12 2 false prog_14_method_46_code 18 [(.aload_n 0, 0, 0, 0, 0), (.getfield 204, 12, 18, 0, 0), (.goto 4, 0, 0, 0, 0)] = true := by decide +kernel
theorem ck_M_weightOf_26 : ia_cks 12 2 false prog_14_method_46_code 26 [(.iadd, 0, 0, 0, 0)] = true := by decide +kernel
theorem dc_M_weightOf_7 : decode prog_14_method_46_code 7 = .ok (.invokevirtual 198, 3) := by decide +kernel
theorem dc_M_weightOf_27 : decode prog_14_method_46_code 27 = .ok (.ireturn, 1) := by decide +kernel
def f_M_weightOf (x1 : Int32) (h : ia_H) : Option Int32 := (f_M_shopOf (ia_i h 417 14) x1 1 h).bind fun v1 => (if x1 = (ia_i h 417 17) then (some (v1 + (ia_i h 417 18))) else (some (v1 + 0)))
theorem t_M_weightOf {w : ia_O0} (d : Nat) {x1 : Int32} {h : ia_H} (hg : gd_ w h) {r : Int32} (hm : f_M_weightOf x1 h = some r) : ia_Ev (d + 1) mm_M_weightOf [.inr (.inr 417), .inl x1] h (some (.inl r)) h := by
  refine ia_Ev_intro ok_M_weightOf (Nat.le_refl _) (Nat.le_refl _) (Nat.le_of_ble_eq_true rfl) (fun K hK hret => ?_)
  show K 0 [some (.inr (.inr 417)), some (.inl x1)] [] h
  unfold f_M_weightOf at hm
  refine ia_go hK ck_M_weightOf_0 ⟨gk_12 hg pk_417, ?_⟩
  show K 7 [some (.inr (.inr 417)), some (.inl x1)] [.inl 1, .inl x1, .inl (ia_i h 417 14), .inr (.inr 417)] h
  obtain ⟨v1, hv1, hm⟩ := ia_bnd hm
  have ev1 := t_M_shopOf (d + 0) hg hv1
  refine ia_cV hK mk_M_shopOf lk_12_198 dc_M_weightOf_7 417 [.inl (ia_i h 417 14), .inl x1, .inl 1] [] rfl rfl (Nat.le_of_ble_eq_true rfl) (by decide) rfl (gk_12 hg pk_417) ev1 ⟨rfl, rfl⟩ ?_
  show K 10 [some (.inr (.inr 417)), some (.inl x1)] [.inl v1] h
  refine ia_go hK ck_M_weightOf_10 ⟨gk_12 hg pk_417, fun c => ?_, fun c => ?_⟩
  · replace hm := ia_ifn hm c
    show K 25 [some (.inr (.inr 417)), some (.inl x1)] [.inl v1] h
    refine ia_go hK ck_M_weightOf_25 ?_
    show K 27 [some (.inr (.inr 417)), some (.inl x1)] [.inl (v1 + 0)] h
    obtain rfl := Option.some.inj hm
    exact hret 27 _ dc_M_weightOf_27
  · replace hm := ia_ifp hm c
    show K 18 [some (.inr (.inr 417)), some (.inl x1)] [.inl v1] h
    refine ia_go hK ck_M_weightOf_18 ⟨gk_12 hg pk_417, ?_⟩
    show K 26 [some (.inr (.inr 417)), some (.inl x1)] [.inl (ia_i h 417 18), .inl v1] h
    refine ia_go hK ck_M_weightOf_26 ?_
    show K 27 [some (.inr (.inr 417)), some (.inl x1)] [.inl (v1 + (ia_i h 417 18))] h
    obtain rfl := Option.some.inj hm
    exact hret 27 _ dc_M_weightOf_27
def mm_M_near : ia_M := (⟨"IceStreetModel", "near", "(III)I"⟩, prog_14_method_36_code, 4, (some .int), 12, false)
theorem ok_M_near : ia_mok mm_M_near := ⟨by decide +kernel, by decide +kernel, by decide +kernel, by decide +kernel⟩
theorem mk_M_near : ia_mkn mm_M_near 1 3 := ⟨ia_tb_in (List.mem_of_getElem? (i := 1923) (by decide +kernel)) rfl, ia_tb_in (List.mem_of_getElem? (i := 146) (by decide +kernel)) rfl, by decide +kernel, by decide +kernel, ⟨ia_tb_in (List.mem_of_getElem? (i := 1922) (by decide +kernel)) rfl, ia_tb_in (List.mem_of_getElem? (i := 85) (by decide +kernel)) rfl⟩⟩
theorem ck_M_near_0 : ia_cks 12 4 false prog_14_method_36_code 0 [(.aload_n 0, 0, 0, 0, 0), (.iload_n 1, 0, 0, 0, 0), (.iload_n 2, 0, 0, 0, 0), (.iload_n 3, 0, 0, 0, 0)] = true := by decide +kernel
theorem ck_M_near_7 : ia_cks 12 4 false prog_14_method_36_code 7 [(.ifCond .lt 13, 0, 0, 0, 0)] = true := by decide +kernel
theorem ck_M_near_20 : ia_cks 12 4 false prog_14_method_36_code 20 [(.iconst (-1), 0, 0, 0, 0), (.goto 10, 0, 0, 0, 0)] = true := by decide +kernel
theorem ck_M_near_10 : ia_cks 12 4 false prog_14_method_36_code 10 [(.aload_n 0, 0, 0, 0, 0), (.iload_n 1, 0, 0, 0, 0), (.iload_n 2, 0, 0, 0, 0), (.iload_n 3, 0, 0, 0, 0)] = true := by decide +kernel
theorem ck_M_near_17 : ia_cks 12 4 false prog_14_method_36_code 17 [(.ifCond .eq 7, 0, 0, 0, 0)] = true := by decide +kernel
theorem ck_M_near_24 : ia_cks 12 4 false prog_14_method_36_code 24 [(.aload_n 0, 0, 0, 0, 0), (.iload_n 1, 0, 0, 0, 0), (.iload_n 2, 0, 0, 0, 0), (.iload_n 3, 0, 0, 0, 0)] = true := by decide +kernel
theorem dc_M_near_4 : decode prog_14_method_36_code 4 = .ok (.invokevirtual 186, 3) := by decide +kernel
theorem dc_M_near_31 : decode prog_14_method_36_code 31 = .ok (.ireturn, 1) := by decide +kernel
theorem dc_M_near_14 : decode prog_14_method_36_code 14 = .ok (.invokevirtual 189, 3) := by decide +kernel
theorem dc_M_near_28 : decode prog_14_method_36_code 28 = .ok (.invokevirtual 186, 3) := by decide +kernel
def f_M_near (x1 : Int32) (x2 : Int32) (x3 : Int32) (h : ia_H) : Option Int32 := (f_M_beside x1 x2 x3 h).bind fun v1 => (if v1 < 0 then (some (-1)) else ((f_M_isCracked x1 x2 x3 h).bind fun v2 => (if v2 = 0 then ((f_M_beside x1 x2 x3 h).bind fun v3 => (some v3)) else (some (-1)))))
theorem t_M_near {w : ia_O0} (d : Nat) {x1 : Int32} {x2 : Int32} {x3 : Int32} {h : ia_H} (hg : gd_ w h) {r : Int32} (hm : f_M_near x1 x2 x3 h = some r) : ia_Ev (d + 2) mm_M_near [.inr (.inr 417), .inl x1, .inl x2, .inl x3] h (some (.inl r)) h := by
  refine ia_Ev_intro ok_M_near (Nat.le_refl _) (Nat.le_refl _) (Nat.le_of_ble_eq_true rfl) (fun K hK hret => ?_)
  show K 0 [some (.inr (.inr 417)), some (.inl x1), some (.inl x2), some (.inl x3)] [] h
  unfold f_M_near at hm
  refine ia_go hK ck_M_near_0 ?_
  show K 4 [some (.inr (.inr 417)), some (.inl x1), some (.inl x2), some (.inl x3)] [.inl x3, .inl x2, .inl x1, .inr (.inr 417)] h
  obtain ⟨v1, hv1, hm⟩ := ia_bnd hm
  have ev1 := t_M_beside (d + 1) hg hv1
  refine ia_cV hK mk_M_beside lk_12_186 dc_M_near_4 417 [.inl x1, .inl x2, .inl x3] [] rfl rfl (Nat.le_of_ble_eq_true rfl) (by decide) rfl (gk_12 hg pk_417) ev1 ⟨rfl, rfl⟩ ?_
  show K 7 [some (.inr (.inr 417)), some (.inl x1), some (.inl x2), some (.inl x3)] [.inl v1] h
  refine ia_go hK ck_M_near_7 ⟨fun c => ?_, fun c => ?_⟩
  · replace hm := ia_ifp hm c
    show K 20 [some (.inr (.inr 417)), some (.inl x1), some (.inl x2), some (.inl x3)] [] h
    refine ia_go hK ck_M_near_20 ?_
    show K 31 [some (.inr (.inr 417)), some (.inl x1), some (.inl x2), some (.inl x3)] [.inl (-1)] h
    obtain rfl := Option.some.inj hm
    exact hret 31 _ dc_M_near_31
  · replace hm := ia_ifn hm c
    show K 10 [some (.inr (.inr 417)), some (.inl x1), some (.inl x2), some (.inl x3)] [] h
    refine ia_go hK ck_M_near_10 ?_
    show K 14 [some (.inr (.inr 417)), some (.inl x1), some (.inl x2), some (.inl x3)] [.inl x3, .inl x2, .inl x1, .inr (.inr 417)] h
    obtain ⟨v2, hv2, hm⟩ := ia_bnd hm
    have ev2 := t_M_isCracked (d + 0) hg hv2
    refine ia_cV hK mk_M_isCracked lk_12_189 dc_M_near_14 417 [.inl x1, .inl x2, .inl x3] [] rfl rfl (Nat.le_of_ble_eq_true rfl) (by decide) rfl (gk_12 hg pk_417) ev2 ⟨rfl, rfl⟩ ?_
    show K 17 [some (.inr (.inr 417)), some (.inl x1), some (.inl x2), some (.inl x3)] [.inl v2] h
    refine ia_go hK ck_M_near_17 ⟨fun c => ?_, fun c => ?_⟩
    · replace hm := ia_ifp hm c
      show K 24 [some (.inr (.inr 417)), some (.inl x1), some (.inl x2), some (.inl x3)] [] h
      refine ia_go hK ck_M_near_24 ?_
      show K 28 [some (.inr (.inr 417)), some (.inl x1), some (.inl x2), some (.inl x3)] [.inl x3, .inl x2, .inl x1, .inr (.inr 417)] h
      obtain ⟨v3, hv3, hm⟩ := ia_bnd hm
      have ev3 := t_M_beside (d + 1) hg hv3
      refine ia_cV hK mk_M_beside lk_12_186 dc_M_near_28 417 [.inl x1, .inl x2, .inl x3] [] rfl rfl (Nat.le_of_ble_eq_true rfl) (by decide) rfl (gk_12 hg pk_417) ev3 ⟨rfl, rfl⟩ ?_
      show K 31 [some (.inr (.inr 417)), some (.inl x1), some (.inl x2), some (.inl x3)] [.inl v3] h
      obtain rfl := Option.some.inj hm
      exact hret 31 _ dc_M_near_31
    · replace hm := ia_ifn hm c
      show K 20 [some (.inr (.inr 417)), some (.inl x1), some (.inl x2), some (.inl x3)] [] h
      refine ia_go hK ck_M_near_20 ?_
      show K 31 [some (.inr (.inr 417)), some (.inl x1), some (.inl x2), some (.inl x3)] [.inl (-1)] h
      obtain rfl := Option.some.inj hm
      exact hret 31 _ dc_M_near_31
def mm_M_loadOf : ia_M := (⟨"IceStreetModel", "loadOf", "(II)I"⟩, prog_14_method_50_code, 8, (some .int), 12, false)
theorem ok_M_loadOf : ia_mok mm_M_loadOf := ⟨by decide +kernel, by decide +kernel, by decide +kernel, by decide +kernel⟩
theorem mk_M_loadOf : ia_mkn mm_M_loadOf 1 2 := ⟨ia_tb_in (List.mem_of_getElem? (i := 1911) (by decide +kernel)) rfl, ia_tb_in (List.mem_of_getElem? (i := 146) (by decide +kernel)) rfl, by decide +kernel, by decide +kernel, ⟨ia_tb_in (List.mem_of_getElem? (i := 1910) (by decide +kernel)) rfl, ia_tb_in (List.mem_of_getElem? (i := 82) (by decide +kernel)) rfl⟩⟩
theorem ck_M_loadOf_0 : ia_cks 12 8 false prog_14_method_50_code 0 [(.aload_n 0, 0, 0, 0, 0), (.iload_n 1, 0, 0, 0, 0)] = true := by decide +kernel
theorem ck_M_loadOf_5 : ia_cks 12 8 false prog_14_method_50_code 5 [(.istore_n 3, 0, 0, 0, 0), (.iload_n 3, 0, 0, 0, 0), (.ifCond .lt 16, 0, 0, 0, 0)] = true := by decide +kernel
theorem ck_M_loadOf_23 : ia_cks 12 8 false prog_14_method_50_code 23 [(.iconst 0, 0, 0, 0, 0), (.istore 4, 0, 0, 0, 0), (.iconst 0, 0, 0, 0, 0), (.istore 5, 0, 0, 0, 0)] = true := by decide +kernel
theorem ck_M_loadOf_29 : ia_cks 12 8 false prog_14_method_50_code 29 [(.iload 5, 0, 0, 0, 0), (.iconst 4, 0, 0, 0, 0), (.if_icmp .ge 80, 0, 0, 0, 0)] = true := by decide +kernel
theorem ck_M_loadOf_35 : ia_cks 12 8 false prog_14_method_50_code 35 [(.aload_n 0, 0, 0, 0, 0), (.aload_n 0, 0, 0, 0, 0), (.getfield 201, 12, 14, 0, 0), (.iload_n 1, 0, 0, 0, 0), (.iload 5, 0, 0, 0, 0)] = true := by decide +kernel
theorem ck_M_loadOf_46 : ia_cks 12 8 false prog_14_method_50_code 46 [(.istore 6, 0, 0, 0, 0), (.iload 6, 0, 0, 0, 0), (.ifCond .ge 7, 0, 0, 0, 0)] = true := by decide +kernel
theorem ck_M_loadOf_57 : ia_cks 12 8 false prog_14_method_50_code 57 [(.aload_n 0, 0, 0, 0, 0), (.iload 6, 0, 0, 0, 0)] = true := by decide +kernel
theorem ck_M_loadOf_63 : ia_cks 12 8 false prog_14_method_50_code 63 [(.istore 7, 0, 0, 0, 0), (.iload 4, 0, 0, 0, 0), (.iload 7, 0, 0, 0, 0), (.ifCond .lt 33, 0, 0, 0, 0)] = true := by decide +kernel
theorem ck_M_loadOf_102 : ia_cks 12 8 false prog_14_method_50_code 102 [(.iconst 0, 0, 0, 0, 0)] = true := by decide +kernel
theorem ck_M_loadOf_103 : ia_cks 12 8 false prog_14_method_50_code 103 [(.iadd, 0, 0, 0, 0), (.istore 4, 0, 0, 0, 0), (.iinc 5 1, 0, 0, 0, 0), (.goto (-80), 0, 0, 0, 0)] = true := by decide +kernel
theorem ck_M_loadOf_72 : ia_cks 12 8 false prog_14_method_50_code 72 [(.iload 7, 0, 0, 0, 0), (.iload_n 2, 0, 0, 0, 0), (.if_icmp .eq 27, 0, 0, 0, 0)] = true := by decide +kernel
theorem ck_M_loadOf_78 : ia_cks 12 8 false prog_14_method_50_code 78 [(.aload_n 0, 0, 0, 0, 0), (.iload 7, 0, 0, 0, 0)] = true := by decide +kernel
theorem ck_M_loadOf_84 : ia_cks 12 8 false prog_14_method_50_code 84 [(.aload_n 0, 0, 0, 0, 0), (.getfield 7, 12, 0, 3, 1), (.aload_n 0, 0, 0, 0, 0), (.getfield 219, 12, 15, 0, 0), (.iconst 2, 0, 0, 0, 0), (.iadd, 0, 0, 0, 0), (.iaload, 0, 0, 0, 0), (.imul, 0, 0, 0, 0), (.bipush 10, 0, 0, 0, 0), (.idiv, 0, 0, 0, 0), (.goto 4, 0, 0, 0, 0)] = true := by decide +kernel
theorem ck_M_loadOf_53 : ia_cks 12 8 false prog_14_method_50_code 53 [(.iconst (-1), 0, 0, 0, 0), (.goto 9, 0, 0, 0, 0)] = true := by decide +kernel
theorem ck_M_loadOf_112 : ia_cks 12 8 false prog_14_method_50_code 112 [(.iload 4, 0, 0, 0, 0)] = true := by decide +kernel
theorem ck_M_loadOf_10 : ia_cks 12 8 false prog_14_method_50_code 10 [(.iload_n 3, 0, 0, 0, 0), (.iload_n 2, 0, 0, 0, 0), (.if_icmp .eq 11, 0, 0, 0, 0)] = true := by decide +kernel
theorem ck_M_loadOf_15 : ia_cks 12 8 false prog_14_method_50_code 15 [(.aload_n 0, 0, 0, 0, 0), (.iload_n 3, 0, 0, 0, 0)] = true := by decide +kernel
theorem ck_M_loadOf_20 : ia_cks 12 8 false prog_14_method_50_code 20 [(.goto 4, 0, 0, 0, 0)] = true := by decide +kernel
theorem ck_M_loadOf_24 : ia_cks 12 8 false prog_14_method_50_code 24 [(.istore 4, 0, 0, 0, 0), (.iconst 0, 0, 0, 0, 0), (.istore 5, 0, 0, 0, 0)] = true := by decide +kernel
theorem dc_M_loadOf_2 : decode prog_14_method_50_code 2 = .ok (.invokevirtual 210, 3) := by decide +kernel
theorem dc_M_loadOf_43 : decode prog_14_method_50_code 43 = .ok (.invokevirtual 216, 3) := by decide +kernel
theorem dc_M_loadOf_60 : decode prog_14_method_50_code 60 = .ok (.invokevirtual 210, 3) := by decide +kernel
theorem dc_M_loadOf_81 : decode prog_14_method_50_code 81 = .ok (.invokevirtual 213, 3) := by decide +kernel
theorem dc_M_loadOf_114 : decode prog_14_method_50_code 114 = .ok (.ireturn, 1) := by decide +kernel
theorem dc_M_loadOf_17 : decode prog_14_method_50_code 17 = .ok (.invokevirtual 213, 3) := by decide +kernel
def j_M_loadOf_103 (x1 : Int32) (x2 : Int32) (h : ia_H) (kr : Int32 → Int32 → Option Int32) (k112 : Int32 → Option Int32) (x5 : Int32) (s0 : Int32) (s1 : Int32) : Option Int32 := kr (s0 + s1) (x5 + 1)
theorem tj_M_loadOf_103 {w : ia_O0} {d N1 W1 : Nat} {K : ia_K} (hK : ia_isK (d + 3) mm_M_loadOf N1 W1 K) {x1 : Int32} {x2 : Int32} {h : ia_H} (hg : gd_ w h) {r : Int32} (hret : ∀ (pc : Nat) (lv : ia_L), ia_ret mm_M_loadOf pc (some (.inl r)) → K pc lv ((some (.inl r)) : Option ia_V).toList h) {kr : Int32 → Int32 → Option Int32} {k112 : Int32 → Option Int32} (hkr : ∀ (x4 : Int32) (x5 : Int32), kr x4 x5 = some r → K 29 [some (.inr (.inr 417)), some (.inl x1), some (.inl x2), none, some (.inl x4), some (.inl x5), none, none] [] h) (hk112 : ∀ (x4 : Int32), k112 x4 = some r → K 112 [none, none, none, none, some (.inl x4), none, none, none] [] h) : ∀ (x5 : Int32) (s0 : Int32) (s1 : Int32), j_M_loadOf_103 x1 x2 h kr k112 x5 s0 s1 = some r → K 103 [some (.inr (.inr 417)), some (.inl x1), some (.inl x2), none, none, some (.inl x5), none, none] [.inl s1, .inl s0] h := by
  intro x5 s0 s1 hm
  unfold j_M_loadOf_103 at hm
  refine ia_go hK ck_M_loadOf_103 ?_
  show K 29 [some (.inr (.inr 417)), some (.inl x1), some (.inl x2), none, some (.inl (s0 + s1)), some (.inl (x5 + 1)), none, none] [] h
  exact hkr (s0 + s1) (x5 + 1) hm
def j_M_loadOf_63 (x1 : Int32) (x2 : Int32) (h : ia_H) (kr : Int32 → Int32 → Option Int32) (k112 : Int32 → Option Int32) (x4 : Int32) (x5 : Int32) (s0 : Int32) : Option Int32 := if s0 < 0 then (j_M_loadOf_103 x1 x2 h kr k112 x5 x4 0) else (if s0 = x2 then (j_M_loadOf_103 x1 x2 h kr k112 x5 x4 0) else ((f_M_weightOf s0 h).bind fun v4 => (ia_gd (ia_ib ((ia_i h 417 15) + 2) 6528) (j_M_loadOf_103 x1 x2 h kr k112 x5 x4 ((v4 * (ia_i h 418 (((ia_i h 417 15) + 2).toNatClampNeg))) / 10)))))
theorem tj_M_loadOf_63 {w : ia_O0} {d N1 W1 : Nat} {K : ia_K} (hK : ia_isK (d + 3) mm_M_loadOf N1 W1 K) {x1 : Int32} {x2 : Int32} {h : ia_H} (hg : gd_ w h) {r : Int32} (hret : ∀ (pc : Nat) (lv : ia_L), ia_ret mm_M_loadOf pc (some (.inl r)) → K pc lv ((some (.inl r)) : Option ia_V).toList h) {kr : Int32 → Int32 → Option Int32} {k112 : Int32 → Option Int32} (hkr : ∀ (x4 : Int32) (x5 : Int32), kr x4 x5 = some r → K 29 [some (.inr (.inr 417)), some (.inl x1), some (.inl x2), none, some (.inl x4), some (.inl x5), none, none] [] h) (hk112 : ∀ (x4 : Int32), k112 x4 = some r → K 112 [none, none, none, none, some (.inl x4), none, none, none] [] h) : ∀ (x4 : Int32) (x5 : Int32) (s0 : Int32), j_M_loadOf_63 x1 x2 h kr k112 x4 x5 s0 = some r → K 63 [some (.inr (.inr 417)), some (.inl x1), some (.inl x2), none, some (.inl x4), some (.inl x5), none, none] [.inl s0] h := by
  intro x4 x5 s0 hm
  unfold j_M_loadOf_63 at hm
  refine ia_go hK ck_M_loadOf_63 ⟨fun c => ?_, fun c => ?_⟩
  · replace hm := ia_ifp hm c
    show K 102 [some (.inr (.inr 417)), some (.inl x1), some (.inl x2), none, some (.inl x4), some (.inl x5), none, some (.inl s0)] [.inl x4] h
    refine ia_go hK ck_M_loadOf_102 ?_
    show K 103 [some (.inr (.inr 417)), some (.inl x1), some (.inl x2), none, some (.inl x4), some (.inl x5), none, some (.inl s0)] [.inl 0, .inl x4] h
    refine ia_fg hK (lv' := [some (.inr (.inr 417)), some (.inl x1), some (.inl x2), none, none, some (.inl x5), none, none]) ⟨rfl, rfl, rfl, rfl, trivial⟩ ?_
    exact tj_M_loadOf_103 hK hg hret hkr hk112 x5 x4 0 hm
  · replace hm := ia_ifn hm c
    show K 72 [some (.inr (.inr 417)), some (.inl x1), some (.inl x2), none, some (.inl x4), some (.inl x5), none, some (.inl s0)] [.inl x4] h
    refine ia_go hK ck_M_loadOf_72 ⟨fun c => ?_, fun c => ?_⟩
    · replace hm := ia_ifp hm c
      show K 102 [some (.inr (.inr 417)), some (.inl x1), some (.inl x2), none, some (.inl x4), some (.inl x5), none, some (.inl s0)] [.inl x4] h
      refine ia_go hK ck_M_loadOf_102 ?_
      show K 103 [some (.inr (.inr 417)), some (.inl x1), some (.inl x2), none, some (.inl x4), some (.inl x5), none, some (.inl s0)] [.inl 0, .inl x4] h
      refine ia_fg hK (lv' := [some (.inr (.inr 417)), some (.inl x1), some (.inl x2), none, none, some (.inl x5), none, none]) ⟨rfl, rfl, rfl, rfl, trivial⟩ ?_
      exact tj_M_loadOf_103 hK hg hret hkr hk112 x5 x4 0 hm
    · replace hm := ia_ifn hm c
      show K 78 [some (.inr (.inr 417)), some (.inl x1), some (.inl x2), none, some (.inl x4), some (.inl x5), none, some (.inl s0)] [.inl x4] h
      refine ia_go hK ck_M_loadOf_78 ?_
      show K 81 [some (.inr (.inr 417)), some (.inl x1), some (.inl x2), none, some (.inl x4), some (.inl x5), none, some (.inl s0)] [.inl s0, .inr (.inr 417), .inl x4] h
      obtain ⟨v4, hv4, hm⟩ := ia_bnd hm
      have ev4 := t_M_weightOf (d + 1) hg hv4
      refine ia_cV hK mk_M_weightOf lk_12_213 dc_M_loadOf_81 417 [.inl s0] [.inl x4] rfl rfl (Nat.le_of_ble_eq_true rfl) (by decide) rfl (gk_12 hg pk_417) ev4 ⟨rfl, rfl⟩ ?_
      show K 84 [some (.inr (.inr 417)), some (.inl x1), some (.inl x2), none, some (.inl x4), some (.inl x5), none, some (.inl s0)] [.inl v4, .inl x4] h
      obtain ⟨c5, hm⟩ := ia_gd_some hm
      refine ia_go hK ck_M_loadOf_84 ⟨gk_12 hg pk_417, gr_12_0 hg pk_417, gk_12 hg pk_417, ga_i100 hg (ka_12_0 pk_417) c5, (by decide), ?_⟩
      show K 103 [some (.inr (.inr 417)), some (.inl x1), some (.inl x2), none, some (.inl x4), some (.inl x5), none, some (.inl s0)] [.inl ((v4 * (ia_i h 418 (((ia_i h 417 15) + 2).toNatClampNeg))) / 10), .inl x4] h
      refine ia_fg hK (lv' := [some (.inr (.inr 417)), some (.inl x1), some (.inl x2), none, none, some (.inl x5), none, none]) ⟨rfl, rfl, rfl, rfl, trivial⟩ ?_
      exact tj_M_loadOf_103 hK hg hret hkr hk112 x5 x4 ((v4 * (ia_i h 418 (((ia_i h 417 15) + 2).toNatClampNeg))) / 10) hm
def l_M_loadOf_29 (x1 : Int32) (x2 : Int32) (h : ia_H) (k112 : Int32 → Option Int32) (n : Nat) (x4 : Int32) (x5 : Int32) : Option Int32 := match n with
  | 0 => none
  | n + 1 => if 4 ≤ x5 then (k112 x4) else ((f_M_near (ia_i h 417 14) x1 x5 h).bind fun v2 => (if 0 ≤ v2 then ((f_M_shopIn v2 h).bind fun v3 => (j_M_loadOf_63 x1 x2 h (l_M_loadOf_29 x1 x2 h k112 n) k112 x4 x5 v3)) else (j_M_loadOf_63 x1 x2 h (l_M_loadOf_29 x1 x2 h k112 n) k112 x4 x5 (-1))))
theorem tl_M_loadOf_29 {w : ia_O0} {d N1 W1 : Nat} {K : ia_K} (hK : ia_isK (d + 3) mm_M_loadOf N1 W1 K) {x1 : Int32} {x2 : Int32} {h : ia_H} (hg : gd_ w h) {r : Int32} (hret : ∀ (pc : Nat) (lv : ia_L), ia_ret mm_M_loadOf pc (some (.inl r)) → K pc lv ((some (.inl r)) : Option ia_V).toList h) {k112 : Int32 → Option Int32} (hk112 : ∀ (x4 : Int32), k112 x4 = some r → K 112 [none, none, none, none, some (.inl x4), none, none, none] [] h) : ∀ (n : Nat) (x4 : Int32) (x5 : Int32), l_M_loadOf_29 x1 x2 h k112 n x4 x5 = some r → K 29 [some (.inr (.inr 417)), some (.inl x1), some (.inl x2), none, some (.inl x4), some (.inl x5), none, none] [] h := by
  intro n
  induction n with
  | zero =>
    intro x4 x5 hm
    cases (show (none : Option Int32) = some _ from hm)
  | succ n ih =>
    intro x4 x5 hm
    rw [l_M_loadOf_29] at hm
    refine ia_go hK ck_M_loadOf_29 ⟨fun c => ?_, fun c => ?_⟩
    · replace hm := ia_ifp hm c
      show K 112 [some (.inr (.inr 417)), some (.inl x1), some (.inl x2), none, some (.inl x4), some (.inl x5), none, none] [] h
      refine ia_fg hK (lv' := [none, none, none, none, some (.inl x4), none, none, none]) ⟨rfl, trivial⟩ ?_
      exact hk112 x4 hm
    · replace hm := ia_ifn hm c
      show K 35 [some (.inr (.inr 417)), some (.inl x1), some (.inl x2), none, some (.inl x4), some (.inl x5), none, none] [] h
      refine ia_go hK ck_M_loadOf_35 ⟨gk_12 hg pk_417, ?_⟩
      show K 43 [some (.inr (.inr 417)), some (.inl x1), some (.inl x2), none, some (.inl x4), some (.inl x5), none, none] [.inl x5, .inl x1, .inl (ia_i h 417 14), .inr (.inr 417)] h
      obtain ⟨v2, hv2, hm⟩ := ia_bnd hm
      have ev2 := t_M_near (d + 0) hg hv2
      refine ia_cV hK mk_M_near lk_12_216 dc_M_loadOf_43 417 [.inl (ia_i h 417 14), .inl x1, .inl x5] [] rfl rfl (Nat.le_of_ble_eq_true rfl) (by decide) rfl (gk_12 hg pk_417) ev2 ⟨rfl, rfl⟩ ?_
      show K 46 [some (.inr (.inr 417)), some (.inl x1), some (.inl x2), none, some (.inl x4), some (.inl x5), none, none] [.inl v2] h
      refine ia_go hK ck_M_loadOf_46 ⟨fun c => ?_, fun c => ?_⟩
      · replace hm := ia_ifp hm c
        show K 57 [some (.inr (.inr 417)), some (.inl x1), some (.inl x2), none, some (.inl x4), some (.inl x5), some (.inl v2), none] [] h
        refine ia_go hK ck_M_loadOf_57 ?_
        show K 60 [some (.inr (.inr 417)), some (.inl x1), some (.inl x2), none, some (.inl x4), some (.inl x5), some (.inl v2), none] [.inl v2, .inr (.inr 417)] h
        obtain ⟨v3, hv3, hm⟩ := ia_bnd hm
        have ev3 := t_M_shopIn (d + 2) hg hv3
        refine ia_cV hK mk_M_shopIn lk_12_210 dc_M_loadOf_60 417 [.inl v2] [] rfl rfl (Nat.le_of_ble_eq_true rfl) (by decide) rfl (gk_12 hg pk_417) ev3 ⟨rfl, rfl⟩ ?_
        show K 63 [some (.inr (.inr 417)), some (.inl x1), some (.inl x2), none, some (.inl x4), some (.inl x5), some (.inl v2), none] [.inl v3] h
        refine ia_fg hK (lv' := [some (.inr (.inr 417)), some (.inl x1), some (.inl x2), none, some (.inl x4), some (.inl x5), none, none]) ⟨rfl, rfl, rfl, rfl, rfl, trivial⟩ ?_
        exact tj_M_loadOf_63 hK hg hret ih hk112 x4 x5 v3 hm
      · replace hm := ia_ifn hm c
        show K 53 [some (.inr (.inr 417)), some (.inl x1), some (.inl x2), none, some (.inl x4), some (.inl x5), some (.inl v2), none] [] h
        refine ia_go hK ck_M_loadOf_53 ?_
        show K 63 [some (.inr (.inr 417)), some (.inl x1), some (.inl x2), none, some (.inl x4), some (.inl x5), some (.inl v2), none] [.inl (-1)] h
        refine ia_fg hK (lv' := [some (.inr (.inr 417)), some (.inl x1), some (.inl x2), none, some (.inl x4), some (.inl x5), none, none]) ⟨rfl, rfl, rfl, rfl, rfl, trivial⟩ ?_
        exact tj_M_loadOf_63 hK hg hret ih hk112 x4 x5 (-1) hm
def f_M_loadOf (x1 : Int32) (x2 : Int32) (h : ia_H) : Option Int32 := (f_M_shopIn x1 h).bind fun v1 => (if v1 < 0 then (l_M_loadOf_29 x1 x2 h (fun x4 => some x4) fu_ 0 0) else (if v1 = x2 then (l_M_loadOf_29 x1 x2 h (fun x4 => some x4) fu_ 0 0) else ((f_M_weightOf v1 h).bind fun v6 => (l_M_loadOf_29 x1 x2 h (fun x4 => some x4) fu_ v6 0))))
theorem t_M_loadOf {w : ia_O0} (d : Nat) {x1 : Int32} {x2 : Int32} {h : ia_H} (hg : gd_ w h) {r : Int32} (hm : f_M_loadOf x1 x2 h = some r) : ia_Ev (d + 3) mm_M_loadOf [.inr (.inr 417), .inl x1, .inl x2] h (some (.inl r)) h := by
  refine ia_Ev_intro ok_M_loadOf (Nat.le_refl _) (Nat.le_refl _) (Nat.le_of_ble_eq_true rfl) (fun K hK hret => ?_)
  show K 0 [some (.inr (.inr 417)), some (.inl x1), some (.inl x2), none, none, none, none, none] [] h
  unfold f_M_loadOf at hm
  refine ia_go hK ck_M_loadOf_0 ?_
  show K 2 [some (.inr (.inr 417)), some (.inl x1), some (.inl x2), none, none, none, none, none] [.inl x1, .inr (.inr 417)] h
  obtain ⟨v1, hv1, hm⟩ := ia_bnd hm
  have ev1 := t_M_shopIn (d + 2) hg hv1
  refine ia_cV hK mk_M_shopIn lk_12_210 dc_M_loadOf_2 417 [.inl x1] [] rfl rfl (Nat.le_of_ble_eq_true rfl) (by decide) rfl (gk_12 hg pk_417) ev1 ⟨rfl, rfl⟩ ?_
  show K 5 [some (.inr (.inr 417)), some (.inl x1), some (.inl x2), none, none, none, none, none] [.inl v1] h
  refine ia_go hK ck_M_loadOf_5 ⟨fun c => ?_, fun c => ?_⟩
  · replace hm := ia_ifp hm c
    show K 23 [some (.inr (.inr 417)), some (.inl x1), some (.inl x2), some (.inl v1), none, none, none, none] [] h
    refine ia_go hK ck_M_loadOf_23 ?_
    show K 29 [some (.inr (.inr 417)), some (.inl x1), some (.inl x2), some (.inl v1), some (.inl 0), some (.inl 0), none, none] [] h
    refine ia_fg hK (lv' := [some (.inr (.inr 417)), some (.inl x1), some (.inl x2), none, some (.inl 0), some (.inl 0), none, none]) ⟨rfl, rfl, rfl, rfl, rfl, trivial⟩ ?_
    refine tl_M_loadOf_29 hK hg hret ?_ fu_ 0 0 hm
    · intro x4 hm
      refine ia_go hK ck_M_loadOf_112 ?_
      show K 114 [none, none, none, none, some (.inl x4), none, none, none] [.inl x4] h
      obtain rfl := Option.some.inj hm
      exact hret 114 _ dc_M_loadOf_114
  · replace hm := ia_ifn hm c
    show K 10 [some (.inr (.inr 417)), some (.inl x1), some (.inl x2), some (.inl v1), none, none, none, none] [] h
    refine ia_go hK ck_M_loadOf_10 ⟨fun c => ?_, fun c => ?_⟩
    · replace hm := ia_ifp hm c
      show K 23 [some (.inr (.inr 417)), some (.inl x1), some (.inl x2), some (.inl v1), none, none, none, none] [] h
      refine ia_go hK ck_M_loadOf_23 ?_
      show K 29 [some (.inr (.inr 417)), some (.inl x1), some (.inl x2), some (.inl v1), some (.inl 0), some (.inl 0), none, none] [] h
      refine ia_fg hK (lv' := [some (.inr (.inr 417)), some (.inl x1), some (.inl x2), none, some (.inl 0), some (.inl 0), none, none]) ⟨rfl, rfl, rfl, rfl, rfl, trivial⟩ ?_
      refine tl_M_loadOf_29 hK hg hret ?_ fu_ 0 0 hm
      · intro x4 hm
        refine ia_go hK ck_M_loadOf_112 ?_
        show K 114 [none, none, none, none, some (.inl x4), none, none, none] [.inl x4] h
        obtain rfl := Option.some.inj hm
        exact hret 114 _ dc_M_loadOf_114
    · replace hm := ia_ifn hm c
      show K 15 [some (.inr (.inr 417)), some (.inl x1), some (.inl x2), some (.inl v1), none, none, none, none] [] h
      refine ia_go hK ck_M_loadOf_15 ?_
      show K 17 [some (.inr (.inr 417)), some (.inl x1), some (.inl x2), some (.inl v1), none, none, none, none] [.inl v1, .inr (.inr 417)] h
      obtain ⟨v6, hv6, hm⟩ := ia_bnd hm
      have ev6 := t_M_weightOf (d + 1) hg hv6
      refine ia_cV hK mk_M_weightOf lk_12_213 dc_M_loadOf_17 417 [.inl v1] [] rfl rfl (Nat.le_of_ble_eq_true rfl) (by decide) rfl (gk_12 hg pk_417) ev6 ⟨rfl, rfl⟩ ?_
      show K 20 [some (.inr (.inr 417)), some (.inl x1), some (.inl x2), some (.inl v1), none, none, none, none] [.inl v6] h
      refine ia_go hK ck_M_loadOf_20 ?_
      show K 24 [some (.inr (.inr 417)), some (.inl x1), some (.inl x2), some (.inl v1), none, none, none, none] [.inl v6] h
      refine ia_go hK ck_M_loadOf_24 ?_
      show K 29 [some (.inr (.inr 417)), some (.inl x1), some (.inl x2), some (.inl v1), some (.inl v6), some (.inl 0), none, none] [] h
      refine ia_fg hK (lv' := [some (.inr (.inr 417)), some (.inl x1), some (.inl x2), none, some (.inl v6), some (.inl 0), none, none]) ⟨rfl, rfl, rfl, rfl, rfl, trivial⟩ ?_
      refine tl_M_loadOf_29 hK hg hret ?_ fu_ v6 0 hm
      · intro x4 hm
        refine ia_go hK ck_M_loadOf_112 ?_
        show K 114 [none, none, none, none, some (.inl x4), none, none, none] [.inl x4] h
        obtain rfl := Option.some.inj hm
        exact hret 114 _ dc_M_loadOf_114
def mm_M_bears : ia_M := (⟨"IceStreetModel", "bears", "(I)I"⟩, prog_14_method_49_code, 2, (some .int), 12, false)
theorem ok_M_bears : ia_mok mm_M_bears := ⟨by decide +kernel, by decide +kernel, by decide +kernel, by decide +kernel⟩
theorem mk_M_bears : ia_mkn mm_M_bears 1 1 := ⟨ia_tb_in (List.mem_of_getElem? (i := 1927) (by decide +kernel)) rfl, ia_tb_in (List.mem_of_getElem? (i := 146) (by decide +kernel)) rfl, by decide +kernel, by decide +kernel, ⟨ia_tb_in (List.mem_of_getElem? (i := 1926) (by decide +kernel)) rfl, ia_tb_in (List.mem_of_getElem? (i := 86) (by decide +kernel)) rfl⟩⟩
theorem ck_M_bears_0 : ia_cks 12 2 false prog_14_method_49_code 0 [(.aload_n 0, 0, 0, 0, 0), (.getfield 23, 12, 13, 3, 5), (.iload_n 1, 0, 0, 0, 0), (.iaload, 0, 0, 0, 0), (.aload_n 0, 0, 0, 0, 0), (.getfield 207, 12, 19, 0, 0), (.iadd, 0, 0, 0, 0), (.aload_n 0, 0, 0, 0, 0), (.getfield 23, 12, 13, 3, 5), (.iload_n 1, 0, 0, 0, 0), (.iaload, 0, 0, 0, 0), (.aload_n 0, 0, 0, 0, 0), (.getfield 207, 12, 19, 0, 0), (.iadd, 0, 0, 0, 0), (.imul, 0, 0, 0, 0), (.aload_n 0, 0, 0, 0, 0), (.getfield 7, 12, 0, 3, 1), (.aload_n 0, 0, 0, 0, 0), (.getfield 201, 12, 14, 0, 0), (.iconst 2, 0, 0, 0, 0), (.iadd, 0, 0, 0, 0), (.iaload, 0, 0, 0, 0), (.idiv, 0, 0, 0, 0)] = true := by decide +kernel
theorem dc_M_bears_35 : decode prog_14_method_49_code 35 = .ok (.ireturn, 1) := by decide +kernel
def f_M_bears (x1 : Int32) (h : ia_H) : Option Int32 := ia_gd (ia_ib x1 1120) (ia_gd (ia_ib x1 1120) (ia_gd (ia_ib ((ia_i h 417 14) + 2) 6528) (ia_gd (ia_nz (ia_i h 418 (((ia_i h 417 14) + 2).toNatClampNeg))) (some ((((ia_i h 422 ((x1).toNatClampNeg)) + (ia_i h 417 19)) * ((ia_i h 422 ((x1).toNatClampNeg)) + (ia_i h 417 19))) / (ia_i h 418 (((ia_i h 417 14) + 2).toNatClampNeg)))))))
theorem t_M_bears {w : ia_O0} (d : Nat) {x1 : Int32} {h : ia_H} (hg : gd_ w h) {r : Int32} (hm : f_M_bears x1 h = some r) : ia_Ev (d + 0) mm_M_bears [.inr (.inr 417), .inl x1] h (some (.inl r)) h := by
  refine ia_Ev_intro ok_M_bears (Nat.le_refl _) (Nat.le_refl _) (Nat.le_of_ble_eq_true rfl) (fun K hK hret => ?_)
  show K 0 [some (.inr (.inr 417)), some (.inl x1)] [] h
  unfold f_M_bears at hm
  obtain ⟨c1, hm⟩ := ia_gd_some hm
  obtain ⟨c2, hm⟩ := ia_gd_some hm
  obtain ⟨c3, hm⟩ := ia_gd_some hm
  obtain ⟨c4, hm⟩ := ia_gd_some hm
  refine ia_go hK ck_M_bears_0 ⟨gk_12 hg pk_417, gr_12_13 hg pk_417, ga_i100 hg (ka_12_13 pk_417) c1, gk_12 hg pk_417, gk_12 hg pk_417, gr_12_13 hg pk_417, ga_i100 hg (ka_12_13 pk_417) c2, gk_12 hg pk_417, gk_12 hg pk_417, gr_12_0 hg pk_417, gk_12 hg pk_417, ga_i100 hg (ka_12_0 pk_417) c3, ia_nz_spec c4, ?_⟩
  show K 35 [some (.inr (.inr 417)), some (.inl x1)] [.inl ((((ia_i h 422 ((x1).toNatClampNeg)) + (ia_i h 417 19)) * ((ia_i h 422 ((x1).toNatClampNeg)) + (ia_i h 417 19))) / (ia_i h 418 (((ia_i h 417 14) + 2).toNatClampNeg)))] h
  obtain rfl := Option.some.inj hm
  exact hret 35 _ dc_M_bears_35
def mm_M_firstFalling : ia_M := (⟨"IceStreetModel", "firstFalling", "()I"⟩, prog_14_method_51_code, 2, (some .int), 12, false)
theorem ok_M_firstFalling : ia_mok mm_M_firstFalling := ⟨by decide +kernel, by decide +kernel, by decide +kernel, by decide +kernel⟩
theorem mk_M_firstFalling : ia_mkn mm_M_firstFalling 1 0 := ⟨ia_tb_in (List.mem_of_getElem? (i := 1903) (by decide +kernel)) rfl, ia_tb_in (List.mem_of_getElem? (i := 146) (by decide +kernel)) rfl, by decide +kernel, by decide +kernel, ⟨ia_tb_in (List.mem_of_getElem? (i := 1902) (by decide +kernel)) rfl, ia_tb_in (List.mem_of_getElem? (i := 80) (by decide +kernel)) rfl⟩⟩
theorem ck_M_firstFalling_0 : ia_cks 12 2 false prog_14_method_51_code 0 [(.iconst 0, 0, 0, 0, 0), (.istore_n 1, 0, 0, 0, 0)] = true := by decide +kernel
theorem ck_M_firstFalling_2 : ia_cks 12 2 false prog_14_method_51_code 2 [(.iload_n 1, 0, 0, 0, 0), (.aload_n 0, 0, 0, 0, 0), (.getfield 7, 12, 0, 3, 1), (.aload_n 0, 0, 0, 0, 0), (.getfield 201, 12, 14, 0, 0), (.iconst 4, 0, 0, 0, 0), (.iadd, 0, 0, 0, 0), (.iaload, 0, 0, 0, 0), (.if_icmp .ge 49, 0, 0, 0, 0)] = true := by decide +kernel
theorem ck_M_firstFalling_17 : ia_cks 12 2 false prog_14_method_51_code 17 [(.aload_n 0, 0, 0, 0, 0), (.iload_n 1, 0, 0, 0, 0)] = true := by decide +kernel
theorem ck_M_firstFalling_22 : ia_cks 12 2 false prog_14_method_51_code 22 [(.ifCond .eq 35, 0, 0, 0, 0)] = true := by decide +kernel
theorem ck_M_firstFalling_57 : ia_cks 12 2 false prog_14_method_51_code 57 [(.iinc 1 1, 0, 0, 0, 0), (.goto (-58), 0, 0, 0, 0)] = true := by decide +kernel
theorem ck_M_firstFalling_25 : ia_cks 12 2 false prog_14_method_51_code 25 [(.aload_n 0, 0, 0, 0, 0), (.aload_n 0, 0, 0, 0, 0), (.getfield 23, 12, 13, 3, 5), (.bipush 72, 0, 0, 0, 0), (.iload_n 1, 0, 0, 0, 0), (.iadd, 0, 0, 0, 0), (.iaload, 0, 0, 0, 0), (.iconst (-1), 0, 0, 0, 0)] = true := by decide +kernel
theorem ck_M_firstFalling_39 : ia_cks 12 2 false prog_14_method_51_code 39 [(.aload_n 0, 0, 0, 0, 0), (.aload_n 0, 0, 0, 0, 0), (.getfield 23, 12, 13, 3, 5), (.bipush 72, 0, 0, 0, 0), (.iload_n 1, 0, 0, 0, 0), (.iadd, 0, 0, 0, 0), (.iaload, 0, 0, 0, 0)] = true := by decide +kernel
theorem ck_M_firstFalling_52 : ia_cks 12 2 false prog_14_method_51_code 52 [(.if_icmp .le 5, 0, 0, 0, 0)] = true := by decide +kernel
theorem ck_M_firstFalling_55 : ia_cks 12 2 false prog_14_method_51_code 55 [(.iload_n 1, 0, 0, 0, 0)] = true := by decide +kernel
theorem ck_M_firstFalling_63 : ia_cks 12 2 false prog_14_method_51_code 63 [(.iconst (-1), 0, 0, 0, 0)] = true := by decide +kernel
theorem dc_M_firstFalling_19 : decode prog_14_method_51_code 19 = .ok (.invokevirtual 222, 3) := by decide +kernel
theorem dc_M_firstFalling_36 : decode prog_14_method_51_code 36 = .ok (.invokevirtual 225, 3) := by decide +kernel
theorem dc_M_firstFalling_49 : decode prog_14_method_51_code 49 = .ok (.invokevirtual 228, 3) := by decide +kernel
theorem dc_M_firstFalling_56 : decode prog_14_method_51_code 56 = .ok (.ireturn, 1) := by decide +kernel
theorem dc_M_firstFalling_64 : decode prog_14_method_51_code 64 = .ok (.ireturn, 1) := by decide +kernel
def l_M_firstFalling_2 (h : ia_H) (k55 : Int32 → Option Int32) (k63 : Option Int32) (n : Nat) (x1 : Int32) : Option Int32 := match n with
  | 0 => none
  | n + 1 => ia_gd (ia_ib ((ia_i h 417 14) + 4) 6528) (if (ia_i h 418 (((ia_i h 417 14) + 4).toNatClampNeg)) ≤ x1 then k63 else ((f_M_stands x1 h).bind fun v2 => (if v2 = 0 then (l_M_firstFalling_2 h k55 k63 n (x1 + 1)) else (ia_gd (ia_ib (72 + x1) 1120) ((f_M_loadOf (ia_i h 422 ((72 + x1).toNatClampNeg)) (-1) h).bind fun v4 => (ia_gd (ia_ib (72 + x1) 1120) ((f_M_bears (ia_i h 422 ((72 + x1).toNatClampNeg)) h).bind fun v6 => (if v4 ≤ v6 then (l_M_firstFalling_2 h k55 k63 n (x1 + 1)) else (k55 x1)))))))))
theorem tl_M_firstFalling_2 {w : ia_O0} {d N1 W1 : Nat} {K : ia_K} (hK : ia_isK (d + 4) mm_M_firstFalling N1 W1 K) {h : ia_H} (hg : gd_ w h) {r : Int32} (hret : ∀ (pc : Nat) (lv : ia_L), ia_ret mm_M_firstFalling pc (some (.inl r)) → K pc lv ((some (.inl r)) : Option ia_V).toList h) {k55 : Int32 → Option Int32} {k63 : Option Int32} (hk55 : ∀ (x1 : Int32), k55 x1 = some r → K 55 [none, some (.inl x1)] [] h) (hk63 : k63 = some r → K 63 [none, none] [] h) : ∀ (n : Nat) (x1 : Int32), l_M_firstFalling_2 h k55 k63 n x1 = some r → K 2 [some (.inr (.inr 417)), some (.inl x1)] [] h := by
  intro n
  induction n with
  | zero =>
    intro x1 hm
    cases (show (none : Option Int32) = some _ from hm)
  | succ n ih =>
    intro x1 hm
    rw [l_M_firstFalling_2] at hm
    obtain ⟨c1, hm⟩ := ia_gd_some hm
    refine ia_go hK ck_M_firstFalling_2 ⟨gk_12 hg pk_417, gr_12_0 hg pk_417, gk_12 hg pk_417, ga_i100 hg (ka_12_0 pk_417) c1, fun c => ?_, fun c => ?_⟩
    · replace hm := ia_ifp hm c
      show K 63 [some (.inr (.inr 417)), some (.inl x1)] [] h
      refine ia_fg hK (lv' := [none, none]) trivial ?_
      exact hk63 hm
    · replace hm := ia_ifn hm c
      show K 17 [some (.inr (.inr 417)), some (.inl x1)] [] h
      refine ia_go hK ck_M_firstFalling_17 ?_
      show K 19 [some (.inr (.inr 417)), some (.inl x1)] [.inl x1, .inr (.inr 417)] h
      obtain ⟨v2, hv2, hm⟩ := ia_bnd hm
      have ev2 := t_M_stands (d + 1) hg hv2
      refine ia_cV hK mk_M_stands lk_12_222 dc_M_firstFalling_19 417 [.inl x1] [] rfl rfl (Nat.le_of_ble_eq_true rfl) (by decide) rfl (gk_12 hg pk_417) ev2 ⟨rfl, rfl⟩ ?_
      show K 22 [some (.inr (.inr 417)), some (.inl x1)] [.inl v2] h
      refine ia_go hK ck_M_firstFalling_22 ⟨fun c => ?_, fun c => ?_⟩
      · replace hm := ia_ifp hm c
        show K 57 [some (.inr (.inr 417)), some (.inl x1)] [] h
        refine ia_go hK ck_M_firstFalling_57 ?_
        show K 2 [some (.inr (.inr 417)), some (.inl (x1 + 1))] [] h
        exact ih (x1 + 1) hm
      · replace hm := ia_ifn hm c
        show K 25 [some (.inr (.inr 417)), some (.inl x1)] [] h
        obtain ⟨c3, hm⟩ := ia_gd_some hm
        refine ia_go hK ck_M_firstFalling_25 ⟨gk_12 hg pk_417, gr_12_13 hg pk_417, ga_i100 hg (ka_12_13 pk_417) c3, ?_⟩
        show K 36 [some (.inr (.inr 417)), some (.inl x1)] [.inl (-1), .inl (ia_i h 422 ((72 + x1).toNatClampNeg)), .inr (.inr 417)] h
        obtain ⟨v4, hv4, hm⟩ := ia_bnd hm
        have ev4 := t_M_loadOf (d + 0) hg hv4
        refine ia_cV hK mk_M_loadOf lk_12_225 dc_M_firstFalling_36 417 [.inl (ia_i h 422 ((72 + x1).toNatClampNeg)), .inl (-1)] [] rfl rfl (Nat.le_of_ble_eq_true rfl) (by decide) rfl (gk_12 hg pk_417) ev4 ⟨rfl, rfl⟩ ?_
        show K 39 [some (.inr (.inr 417)), some (.inl x1)] [.inl v4] h
        obtain ⟨c5, hm⟩ := ia_gd_some hm
        refine ia_go hK ck_M_firstFalling_39 ⟨gk_12 hg pk_417, gr_12_13 hg pk_417, ga_i100 hg (ka_12_13 pk_417) c5, ?_⟩
        show K 49 [some (.inr (.inr 417)), some (.inl x1)] [.inl (ia_i h 422 ((72 + x1).toNatClampNeg)), .inr (.inr 417), .inl v4] h
        obtain ⟨v6, hv6, hm⟩ := ia_bnd hm
        have ev6 := t_M_bears (d + 3) hg hv6
        refine ia_cV hK mk_M_bears lk_12_228 dc_M_firstFalling_49 417 [.inl (ia_i h 422 ((72 + x1).toNatClampNeg))] [.inl v4] rfl rfl (Nat.le_of_ble_eq_true rfl) (by decide) rfl (gk_12 hg pk_417) ev6 ⟨rfl, rfl⟩ ?_
        show K 52 [some (.inr (.inr 417)), some (.inl x1)] [.inl v6, .inl v4] h
        refine ia_go hK ck_M_firstFalling_52 ⟨fun c => ?_, fun c => ?_⟩
        · replace hm := ia_ifp hm c
          show K 57 [some (.inr (.inr 417)), some (.inl x1)] [] h
          refine ia_go hK ck_M_firstFalling_57 ?_
          show K 2 [some (.inr (.inr 417)), some (.inl (x1 + 1))] [] h
          exact ih (x1 + 1) hm
        · replace hm := ia_ifn hm c
          show K 55 [some (.inr (.inr 417)), some (.inl x1)] [] h
          refine ia_fg hK (lv' := [none, some (.inl x1)]) ⟨rfl, trivial⟩ ?_
          exact hk55 x1 hm
def f_M_firstFalling (h : ia_H) : Option Int32 := l_M_firstFalling_2 h (fun x1 => some x1) (some (-1)) fu_ 0
theorem t_M_firstFalling {w : ia_O0} (d : Nat) {h : ia_H} (hg : gd_ w h) {r : Int32} (hm : f_M_firstFalling h = some r) : ia_Ev (d + 4) mm_M_firstFalling [.inr (.inr 417)] h (some (.inl r)) h := by
  refine ia_Ev_intro ok_M_firstFalling (Nat.le_refl _) (Nat.le_refl _) (Nat.le_of_ble_eq_true rfl) (fun K hK hret => ?_)
  show K 0 [some (.inr (.inr 417)), none] [] h
  unfold f_M_firstFalling at hm
  refine ia_go hK ck_M_firstFalling_0 ?_
  show K 2 [some (.inr (.inr 417)), some (.inl 0)] [] h
  refine tl_M_firstFalling_2 hK hg hret ?_ ?_ fu_ 0 hm
  · intro x1 hm
    refine ia_go hK ck_M_firstFalling_55 ?_
    show K 56 [none, some (.inl x1)] [.inl x1] h
    obtain rfl := Option.some.inj hm
    exact hret 56 _ dc_M_firstFalling_56
  · intro hm
    refine ia_go hK ck_M_firstFalling_63 ?_
    show K 64 [none, none] [.inl (-1)] h
    obtain rfl := Option.some.inj hm
    exact hret 64 _ dc_M_firstFalling_64
def mm_M_falls : ia_M := (⟨"IceStreetModel", "falls", "()V"⟩, prog_14_method_52_code, 2, none, 12, false)
theorem ok_M_falls : ia_mok mm_M_falls := ⟨by decide +kernel, by decide +kernel, by decide +kernel, by decide +kernel⟩
theorem mk_M_falls : ia_mkn mm_M_falls 1 0 := ⟨ia_tb_in (List.mem_of_getElem? (i := 1899) (by decide +kernel)) rfl, ia_tb_in (List.mem_of_getElem? (i := 146) (by decide +kernel)) rfl, by decide +kernel, by decide +kernel, ⟨ia_tb_in (List.mem_of_getElem? (i := 1898) (by decide +kernel)) rfl, ia_tb_in (List.mem_of_getElem? (i := 79) (by decide +kernel)) rfl⟩⟩
theorem ck_M_falls_0 : ia_cks 12 2 false prog_14_method_52_code 0 [(.aload_n 0, 0, 0, 0, 0)] = true := by decide +kernel
theorem ck_M_falls_4 : ia_cks 12 2 false prog_14_method_52_code 4 [(.istore_n 1, 0, 0, 0, 0)] = true := by decide +kernel
theorem ck_M_falls_5 : ia_cks 12 2 false prog_14_method_52_code 5 [(.iload_n 1, 0, 0, 0, 0), (.ifCond .lt 37, 0, 0, 0, 0)] = true := by decide +kernel
theorem ck_M_falls_9 : ia_cks 12 2 false prog_14_method_52_code 9 [(.aload_n 0, 0, 0, 0, 0), (.getfield 23, 12, 13, 3, 5), (.aload_n 0, 0, 0, 0, 0), (.getfield 23, 12, 13, 3, 5), (.bipush 72, 0, 0, 0, 0), (.iload_n 1, 0, 0, 0, 0), (.iadd, 0, 0, 0, 0), (.iaload, 0, 0, 0, 0), (.iconst 0, 0, 0, 0, 0), (.iastore, 0, 0, 0, 0), (.aload_n 0, 0, 0, 0, 0), (.getfield 23, 12, 13, 3, 5), (.bipush 72, 0, 0, 0, 0), (.iload_n 1, 0, 0, 0, 0), (.iadd, 0, 0, 0, 0), (.bipush (-2), 0, 0, 0, 0), (.iastore, 0, 0, 0, 0), (.aload_n 0, 0, 0, 0, 0)] = true := by decide +kernel
theorem ck_M_falls_39 : ia_cks 12 2 false prog_14_method_52_code 39 [(.istore_n 1, 0, 0, 0, 0), (.goto (-35), 0, 0, 0, 0)] = true := by decide +kernel
theorem dc_M_falls_1 : decode prog_14_method_52_code 1 = .ok (.invokevirtual 231, 3) := by decide +kernel
theorem dc_M_falls_36 : decode prog_14_method_52_code 36 = .ok (.invokevirtual 231, 3) := by decide +kernel
theorem dc_M_falls_43 : decode prog_14_method_52_code 43 = .ok (.return_, 1) := by decide +kernel
def l_M_falls_5 (k43 : ia_H → Option ia_H) (n : Nat) (x1 : Int32) (h : ia_H) : Option ia_H := match n with
  | 0 => none
  | n + 1 => if x1 < 0 then (k43 h) else (ia_gd (ia_ib (72 + x1) 1120) (ia_gd (ia_ib (ia_i h 422 ((72 + x1).toNatClampNeg)) 1120) (ia_gd (ia_ib (72 + x1) 1120) ((f_M_firstFalling (ia_wI (ia_wI h 422 ((ia_i h 422 ((72 + x1).toNatClampNeg)).toNatClampNeg) 0) 422 ((72 + x1).toNatClampNeg) (-2))).bind fun v5 => (l_M_falls_5 k43 n v5 (ia_wI (ia_wI h 422 ((ia_i h 422 ((72 + x1).toNatClampNeg)).toNatClampNeg) 0) 422 ((72 + x1).toNatClampNeg) (-2)))))))
theorem tl_M_falls_5 {w : ia_O0} {d N1 W1 : Nat} {K : ia_K} (hK : ia_isK (d + 5) mm_M_falls N1 W1 K) {h1 : ia_H} (hret : ∀ (pc : Nat) (lv : ia_L), ia_ret mm_M_falls pc none → K pc lv (none : Option ia_V).toList h1) {k43 : ia_H → Option ia_H} (hk43 : ∀ (h : ia_H), gd_ w h → k43 h = some h1 → K 43 [none, none] [] h) : ∀ (n : Nat) (x1 : Int32) (h : ia_H), gd_ w h → l_M_falls_5 k43 n x1 h = some h1 → K 5 [some (.inr (.inr 417)), some (.inl x1)] [] h := by
  intro n
  induction n with
  | zero =>
    intro x1 h hg hm
    cases (show (none : Option ia_H) = some _ from hm)
  | succ n ih =>
    intro x1 h hg hm
    rw [l_M_falls_5] at hm
    refine ia_go hK ck_M_falls_5 ⟨fun c => ?_, fun c => ?_⟩
    · replace hm := ia_ifp hm c
      show K 43 [some (.inr (.inr 417)), some (.inl x1)] [] h
      refine ia_fg hK (lv' := [none, none]) trivial ?_
      exact hk43 h hg hm
    · replace hm := ia_ifn hm c
      show K 9 [some (.inr (.inr 417)), some (.inl x1)] [] h
      obtain ⟨c2, hm⟩ := ia_gd_some hm
      obtain ⟨c3, hm⟩ := ia_gd_some hm
      obtain ⟨c4, hm⟩ := ia_gd_some hm
      refine ia_go hK ck_M_falls_9 ⟨gk_12 hg pk_417, gr_12_13 hg pk_417, gk_12 hg pk_417, gr_12_13 hg pk_417, ga_i100 hg (ka_12_13 pk_417) c2, ga_s100 hg (ka_12_13 pk_417) c3, gk_12 (gd_wI hg (kx_100 (ka_12_13 pk_417))) pk_417, gr_12_13 (gd_wI hg (kx_100 (ka_12_13 pk_417))) pk_417, ga_s100 (gd_wI hg (kx_100 (ka_12_13 pk_417))) (ka_12_13 pk_417) c4, ?_⟩
      show K 36 [some (.inr (.inr 417)), some (.inl x1)] [.inr (.inr 417)] (ia_wI (ia_wI h 422 ((ia_i h 422 ((72 + x1).toNatClampNeg)).toNatClampNeg) 0) 422 ((72 + x1).toNatClampNeg) (-2))
      obtain ⟨v5, hv5, hm⟩ := ia_bnd hm
      have ev5 := t_M_firstFalling (d + 0) (gd_wI (gd_wI hg (kx_100 (ka_12_13 pk_417))) (kx_100 (ka_12_13 pk_417))) hv5
      refine ia_cV hK mk_M_firstFalling lk_12_231 dc_M_falls_36 417 [] [] rfl rfl (Nat.le_of_ble_eq_true rfl) (by decide) rfl (gk_12 (gd_wI (gd_wI hg (kx_100 (ka_12_13 pk_417))) (kx_100 (ka_12_13 pk_417))) pk_417) ev5 ⟨rfl, rfl⟩ ?_
      show K 39 [some (.inr (.inr 417)), some (.inl x1)] [.inl v5] (ia_wI (ia_wI h 422 ((ia_i h 422 ((72 + x1).toNatClampNeg)).toNatClampNeg) 0) 422 ((72 + x1).toNatClampNeg) (-2))
      refine ia_go hK ck_M_falls_39 ?_
      show K 5 [some (.inr (.inr 417)), some (.inl v5)] [] (ia_wI (ia_wI h 422 ((ia_i h 422 ((72 + x1).toNatClampNeg)).toNatClampNeg) 0) 422 ((72 + x1).toNatClampNeg) (-2))
      exact ih v5 (ia_wI (ia_wI h 422 ((ia_i h 422 ((72 + x1).toNatClampNeg)).toNatClampNeg) 0) 422 ((72 + x1).toNatClampNeg) (-2)) (gd_wI (gd_wI hg (kx_100 (ka_12_13 pk_417))) (kx_100 (ka_12_13 pk_417))) hm
theorem gl_M_falls_5 {w : ia_O0} {h1 : ia_H} {k43 : ia_H → Option ia_H} (hk43 : ∀ (h : ia_H), gd_ w h → k43 h = some h1 → gd_ w h1) : ∀ (n : Nat) (x1 : Int32) (h : ia_H), gd_ w h → l_M_falls_5 k43 n x1 h = some h1 → gd_ w h1 := by
  intro n
  induction n with
  | zero =>
    intro x1 h hg hm
    cases (show (none : Option ia_H) = some _ from hm)
  | succ n ih =>
    intro x1 h hg hm
    rw [l_M_falls_5] at hm
    by_cases c : x1 < 0
    · replace hm := ia_ifp hm c
      exact hk43 h hg hm
    · replace hm := ia_ifn hm c
      obtain ⟨c2, hm⟩ := ia_gd_some hm
      obtain ⟨c3, hm⟩ := ia_gd_some hm
      obtain ⟨c4, hm⟩ := ia_gd_some hm
      obtain ⟨v5, hv5, hm⟩ := ia_bnd hm
      exact ih v5 (ia_wI (ia_wI h 422 ((ia_i h 422 ((72 + x1).toNatClampNeg)).toNatClampNeg) 0) 422 ((72 + x1).toNatClampNeg) (-2)) (gd_wI (gd_wI hg (kx_100 (ka_12_13 pk_417))) (kx_100 (ka_12_13 pk_417))) hm
def f_M_falls (h : ia_H) : Option ia_H := (f_M_firstFalling h).bind fun v1 => (l_M_falls_5 (fun h => some h) fu_ v1 h)
theorem g_M_falls {w : ia_O0} {h : ia_H} (hg : gd_ w h) {q : ia_H} (hm : f_M_falls h = some q) : gd_ w q := by
  obtain ⟨h1, e1⟩ : ∃ x, x = q := ⟨_, rfl⟩
  subst e1
  unfold f_M_falls at hm
  obtain ⟨v1, hv1, hm⟩ := ia_bnd hm
  refine gl_M_falls_5 ?_ fu_ v1 h hg hm
  · intro h hg hm
    obtain rfl := Option.some.inj hm
    exact hg
theorem t_M_falls {w : ia_O0} (d : Nat) {h : ia_H} (hg : gd_ w h) {q : ia_H} (hm : f_M_falls h = some q) : ia_Ev (d + 5) mm_M_falls [.inr (.inr 417)] h none q := by
  have gq := g_M_falls hg hm
  refine ia_Ev_intro ok_M_falls (gd_le hg gq).1 (gd_le hg gq).2 (Nat.le_of_ble_eq_true rfl) (fun K hK hret => ?_)
  obtain ⟨h1, e1⟩ : ∃ x, x = q := ⟨_, rfl⟩
  subst e1
  show K 0 [some (.inr (.inr 417)), none] [] h
  unfold f_M_falls at hm
  refine ia_go hK ck_M_falls_0 ?_
  show K 1 [some (.inr (.inr 417)), none] [.inr (.inr 417)] h
  obtain ⟨v1, hv1, hm⟩ := ia_bnd hm
  have ev1 := t_M_firstFalling (d + 0) hg hv1
  refine ia_cV hK mk_M_firstFalling lk_12_231 dc_M_falls_1 417 [] [] rfl rfl (Nat.le_of_ble_eq_true rfl) (by decide) rfl (gk_12 hg pk_417) ev1 ⟨rfl, rfl⟩ ?_
  show K 4 [some (.inr (.inr 417)), none] [.inl v1] h
  refine ia_go hK ck_M_falls_4 ?_
  show K 5 [some (.inr (.inr 417)), some (.inl v1)] [] h
  refine tl_M_falls_5 hK hret ?_ fu_ v1 h hg hm
  · intro h hg hm
    obtain rfl := Option.some.inj hm
    exact hret 43 _ dc_M_falls_43
def mm_M_anew : ia_M := (⟨"IceStreetModel", "anew", "()V"⟩, prog_14_method_67_code, 2, none, 12, false)
theorem ok_M_anew : ia_mok mm_M_anew := ⟨by decide +kernel, by decide +kernel, by decide +kernel, by decide +kernel⟩
theorem mk_M_anew : ia_mkn mm_M_anew 1 0 := ⟨ia_tb_in (List.mem_of_getElem? (i := 1891) (by decide +kernel)) rfl, ia_tb_in (List.mem_of_getElem? (i := 146) (by decide +kernel)) rfl, by decide +kernel, by decide +kernel, ⟨ia_tb_in (List.mem_of_getElem? (i := 1890) (by decide +kernel)) rfl, ia_tb_in (List.mem_of_getElem? (i := 77) (by decide +kernel)) rfl⟩⟩
theorem ck_M_anew_0 : ia_cks 12 2 false prog_14_method_67_code 0 [(.iconst 0, 0, 0, 0, 0), (.istore_n 1, 0, 0, 0, 0)] = true := by decide +kernel
theorem ck_M_anew_2 : ia_cks 12 2 false prog_14_method_67_code 2 [(.iload_n 1, 0, 0, 0, 0), (.bipush 80, 0, 0, 0, 0), (.if_icmp .ge 16, 0, 0, 0, 0)] = true := by decide +kernel
theorem ck_M_anew_8 : ia_cks 12 2 false prog_14_method_67_code 8 [(.aload_n 0, 0, 0, 0, 0), (.getfield 23, 12, 13, 3, 5), (.iload_n 1, 0, 0, 0, 0), (.iconst 0, 0, 0, 0, 0), (.iastore, 0, 0, 0, 0), (.iinc 1 1, 0, 0, 0, 0), (.goto (-16), 0, 0, 0, 0)] = true := by decide +kernel
theorem ck_M_anew_21 : ia_cks 12 2 false prog_14_method_67_code 21 [(.iconst 0, 0, 0, 0, 0), (.istore_n 1, 0, 0, 0, 0)] = true := by decide +kernel
theorem ck_M_anew_23 : ia_cks 12 2 false prog_14_method_67_code 23 [(.iload_n 1, 0, 0, 0, 0), (.aload_n 0, 0, 0, 0, 0)] = true := by decide +kernel
theorem ck_M_anew_28 : ia_cks 12 2 false prog_14_method_67_code 28 [(.if_icmp .ge 52, 0, 0, 0, 0)] = true := by decide +kernel
theorem ck_M_anew_31 : ia_cks 12 2 false prog_14_method_67_code 31 [(.aload_n 0, 0, 0, 0, 0), (.getfield 23, 12, 13, 3, 5), (.iload_n 1, 0, 0, 0, 0), (.aload_n 0, 0, 0, 0, 0), (.getfield 7, 12, 0, 3, 1), (.aload_n 0, 0, 0, 0, 0), (.getfield 201, 12, 14, 0, 0), (.bipush 8, 0, 0, 0, 0), (.iadd, 0, 0, 0, 0), (.iload_n 1, 0, 0, 0, 0), (.iadd, 0, 0, 0, 0), (.iaload, 0, 0, 0, 0), (.iastore, 0, 0, 0, 0), (.aload_n 0, 0, 0, 0, 0), (.getfield 23, 12, 13, 3, 5), (.bipush 36, 0, 0, 0, 0), (.iload_n 1, 0, 0, 0, 0), (.iadd, 0, 0, 0, 0), (.aload_n 0, 0, 0, 0, 0), (.getfield 7, 12, 0, 3, 1), (.aload_n 0, 0, 0, 0, 0), (.getfield 201, 12, 14, 0, 0), (.bipush 44, 0, 0, 0, 0), (.iadd, 0, 0, 0, 0), (.iload_n 1, 0, 0, 0, 0), (.iadd, 0, 0, 0, 0), (.iaload, 0, 0, 0, 0), (.iastore, 0, 0, 0, 0)] = true := by decide +kernel
theorem ck_M_anew_74 : ia_cks 12 2 false prog_14_method_67_code 74 [(.iinc 1 1, 0, 0, 0, 0), (.goto (-54), 0, 0, 0, 0)] = true := by decide +kernel
theorem ck_M_anew_80 : ia_cks 12 2 false prog_14_method_67_code 80 [(.iconst 0, 0, 0, 0, 0), (.istore_n 1, 0, 0, 0, 0)] = true := by decide +kernel
theorem ck_M_anew_82 : ia_cks 12 2 false prog_14_method_67_code 82 [(.iload_n 1, 0, 0, 0, 0), (.bipush 6, 0, 0, 0, 0), (.if_icmp .ge 44, 0, 0, 0, 0)] = true := by decide +kernel
theorem ck_M_anew_88 : ia_cks 12 2 false prog_14_method_67_code 88 [(.aload_n 0, 0, 0, 0, 0), (.getfield 23, 12, 13, 3, 5), (.bipush 72, 0, 0, 0, 0), (.iload_n 1, 0, 0, 0, 0), (.iadd, 0, 0, 0, 0), (.aload_n 0, 0, 0, 0, 0), (.aload_n 0, 0, 0, 0, 0), (.getfield 201, 12, 14, 0, 0), (.iload_n 1, 0, 0, 0, 0)] = true := by decide +kernel
theorem ck_M_anew_105 : ia_cks 12 2 false prog_14_method_67_code 105 [(.ifCond .eq 16, 0, 0, 0, 0)] = true := by decide +kernel
theorem ck_M_anew_121 : ia_cks 12 2 false prog_14_method_67_code 121 [(.iconst (-1), 0, 0, 0, 0), (.iastore, 0, 0, 0, 0), (.iinc 1 1, 0, 0, 0, 0), (.goto (-44), 0, 0, 0, 0)] = true := by decide +kernel
theorem ck_M_anew_108 : ia_cks 12 2 false prog_14_method_67_code 108 [(.aload_n 0, 0, 0, 0, 0), (.aload_n 0, 0, 0, 0, 0), (.getfield 201, 12, 14, 0, 0), (.iload_n 1, 0, 0, 0, 0), (.iconst 0, 0, 0, 0, 0)] = true := by decide +kernel
theorem ck_M_anew_118 : ia_cks 12 2 false prog_14_method_67_code 118 [(.goto 4, 0, 0, 0, 0)] = true := by decide +kernel
theorem ck_M_anew_122 : ia_cks 12 2 false prog_14_method_67_code 122 [(.iastore, 0, 0, 0, 0), (.iinc 1 1, 0, 0, 0, 0), (.goto (-44), 0, 0, 0, 0)] = true := by decide +kernel
theorem ck_M_anew_129 : ia_cks 12 2 false prog_14_method_67_code 129 [(.aload_n 0, 0, 0, 0, 0)] = true := by decide +kernel
theorem dc_M_anew_25 : decode prog_14_method_67_code 25 = .ok (.invokevirtual 234, 3) := by decide +kernel
theorem dc_M_anew_102 : decode prog_14_method_67_code 102 = .ok (.invokevirtual 195, 3) := by decide +kernel
theorem dc_M_anew_115 : decode prog_14_method_67_code 115 = .ok (.invokevirtual 198, 3) := by decide +kernel
theorem dc_M_anew_130 : decode prog_14_method_67_code 130 = .ok (.invokevirtual 240, 3) := by decide +kernel
theorem dc_M_anew_133 : decode prog_14_method_67_code 133 = .ok (.return_, 1) := by decide +kernel
def l_M_anew_2 (k21 : ia_H → Option ia_H) (n : Nat) (x1 : Int32) (h : ia_H) : Option ia_H := match n with
  | 0 => none
  | n + 1 => if 80 ≤ x1 then (k21 h) else (ia_gd (ia_ib x1 1120) (l_M_anew_2 k21 n (x1 + 1) (ia_wI h 422 ((x1).toNatClampNeg) 0)))
theorem tl_M_anew_2 {w : ia_O0} {d N1 W1 : Nat} {K : ia_K} (hK : ia_isK (d + 6) mm_M_anew N1 W1 K) {h1 : ia_H} (hret : ∀ (pc : Nat) (lv : ia_L), ia_ret mm_M_anew pc none → K pc lv (none : Option ia_V).toList h1) {k21 : ia_H → Option ia_H} (hk21 : ∀ (h : ia_H), gd_ w h → k21 h = some h1 → K 21 [some (.inr (.inr 417)), none] [] h) : ∀ (n : Nat) (x1 : Int32) (h : ia_H), gd_ w h → l_M_anew_2 k21 n x1 h = some h1 → K 2 [some (.inr (.inr 417)), some (.inl x1)] [] h := by
  intro n
  induction n with
  | zero =>
    intro x1 h hg hm
    cases (show (none : Option ia_H) = some _ from hm)
  | succ n ih =>
    intro x1 h hg hm
    rw [l_M_anew_2] at hm
    refine ia_go hK ck_M_anew_2 ⟨fun c => ?_, fun c => ?_⟩
    · replace hm := ia_ifp hm c
      show K 21 [some (.inr (.inr 417)), some (.inl x1)] [] h
      refine ia_fg hK (lv' := [some (.inr (.inr 417)), none]) ⟨rfl, trivial⟩ ?_
      exact hk21 h hg hm
    · replace hm := ia_ifn hm c
      show K 8 [some (.inr (.inr 417)), some (.inl x1)] [] h
      obtain ⟨c1, hm⟩ := ia_gd_some hm
      refine ia_go hK ck_M_anew_8 ⟨gk_12 hg pk_417, gr_12_13 hg pk_417, ga_s100 hg (ka_12_13 pk_417) c1, ?_⟩
      show K 2 [some (.inr (.inr 417)), some (.inl (x1 + 1))] [] (ia_wI h 422 ((x1).toNatClampNeg) 0)
      exact ih (x1 + 1) (ia_wI h 422 ((x1).toNatClampNeg) 0) (gd_wI hg (kx_100 (ka_12_13 pk_417))) hm
theorem gl_M_anew_2 {w : ia_O0} {h1 : ia_H} {k21 : ia_H → Option ia_H} (hk21 : ∀ (h : ia_H), gd_ w h → k21 h = some h1 → gd_ w h1) : ∀ (n : Nat) (x1 : Int32) (h : ia_H), gd_ w h → l_M_anew_2 k21 n x1 h = some h1 → gd_ w h1 := by
  intro n
  induction n with
  | zero =>
    intro x1 h hg hm
    cases (show (none : Option ia_H) = some _ from hm)
  | succ n ih =>
    intro x1 h hg hm
    rw [l_M_anew_2] at hm
    by_cases c : 80 ≤ x1
    · replace hm := ia_ifp hm c
      exact hk21 h hg hm
    · replace hm := ia_ifn hm c
      obtain ⟨c1, hm⟩ := ia_gd_some hm
      exact ih (x1 + 1) (ia_wI h 422 ((x1).toNatClampNeg) 0) (gd_wI hg (kx_100 (ka_12_13 pk_417))) hm
def j_M_anew_74 (kr : Int32 → ia_H → Option ia_H) (k80 : ia_H → Option ia_H) (x1 : Int32) (h : ia_H) : Option ia_H := kr (x1 + 1) h
theorem tj_M_anew_74 {w : ia_O0} {d N1 W1 : Nat} {K : ia_K} (hK : ia_isK (d + 6) mm_M_anew N1 W1 K) {h1 : ia_H} (hret : ∀ (pc : Nat) (lv : ia_L), ia_ret mm_M_anew pc none → K pc lv (none : Option ia_V).toList h1) {kr : Int32 → ia_H → Option ia_H} {k80 : ia_H → Option ia_H} (hkr : ∀ (x1 : Int32) (h : ia_H), gd_ w h → kr x1 h = some h1 → K 23 [some (.inr (.inr 417)), some (.inl x1)] [] h) (hk80 : ∀ (h : ia_H), gd_ w h → k80 h = some h1 → K 80 [some (.inr (.inr 417)), none] [] h) : ∀ (x1 : Int32) (h : ia_H), gd_ w h → j_M_anew_74 kr k80 x1 h = some h1 → K 74 [some (.inr (.inr 417)), some (.inl x1)] [] h := by
  intro x1 h hg hm
  unfold j_M_anew_74 at hm
  refine ia_go hK ck_M_anew_74 ?_
  show K 23 [some (.inr (.inr 417)), some (.inl (x1 + 1))] [] h
  exact hkr (x1 + 1) h hg hm
theorem gj_M_anew_74 {w : ia_O0} {h1 : ia_H} {kr : Int32 → ia_H → Option ia_H} {k80 : ia_H → Option ia_H} (hkr : ∀ (x1 : Int32) (h : ia_H), gd_ w h → kr x1 h = some h1 → gd_ w h1) (hk80 : ∀ (h : ia_H), gd_ w h → k80 h = some h1 → gd_ w h1) : ∀ (x1 : Int32) (h : ia_H), gd_ w h → j_M_anew_74 kr k80 x1 h = some h1 → gd_ w h1 := by
  intro x1 h hg hm
  unfold j_M_anew_74 at hm
  exact hkr (x1 + 1) h hg hm
def l_M_anew_23 (k80 : ia_H → Option ia_H) (n : Nat) (x1 : Int32) (h : ia_H) : Option ia_H := match n with
  | 0 => none
  | n + 1 => (f_M_cells h).bind fun v2 => (if v2 ≤ x1 then (k80 h) else (ia_gd (ia_ib (((ia_i h 417 14) + 8) + x1) 6528) (ia_gd (ia_ib x1 1120) (ia_gd (ia_ib (((ia_i (ia_wI h 422 ((x1).toNatClampNeg) (ia_i h 418 ((((ia_i h 417 14) + 8) + x1).toNatClampNeg))) 417 14) + 44) + x1) 6528) (ia_gd (ia_ib (36 + x1) 1120) (j_M_anew_74 (l_M_anew_23 k80 n) k80 x1 (ia_wI (ia_wI h 422 ((x1).toNatClampNeg) (ia_i h 418 ((((ia_i h 417 14) + 8) + x1).toNatClampNeg))) 422 ((36 + x1).toNatClampNeg) (ia_i (ia_wI h 422 ((x1).toNatClampNeg) (ia_i h 418 ((((ia_i h 417 14) + 8) + x1).toNatClampNeg))) 418 ((((ia_i (ia_wI h 422 ((x1).toNatClampNeg) (ia_i h 418 ((((ia_i h 417 14) + 8) + x1).toNatClampNeg))) 417 14) + 44) + x1).toNatClampNeg)))))))))
theorem tl_M_anew_23 {w : ia_O0} {d N1 W1 : Nat} {K : ia_K} (hK : ia_isK (d + 6) mm_M_anew N1 W1 K) {h1 : ia_H} (hret : ∀ (pc : Nat) (lv : ia_L), ia_ret mm_M_anew pc none → K pc lv (none : Option ia_V).toList h1) {k80 : ia_H → Option ia_H} (hk80 : ∀ (h : ia_H), gd_ w h → k80 h = some h1 → K 80 [some (.inr (.inr 417)), none] [] h) : ∀ (n : Nat) (x1 : Int32) (h : ia_H), gd_ w h → l_M_anew_23 k80 n x1 h = some h1 → K 23 [some (.inr (.inr 417)), some (.inl x1)] [] h := by
  intro n
  induction n with
  | zero =>
    intro x1 h hg hm
    cases (show (none : Option ia_H) = some _ from hm)
  | succ n ih =>
    intro x1 h hg hm
    rw [l_M_anew_23] at hm
    refine ia_go hK ck_M_anew_23 ?_
    show K 25 [some (.inr (.inr 417)), some (.inl x1)] [.inr (.inr 417), .inl x1] h
    obtain ⟨v2, hv2, hm⟩ := ia_bnd hm
    have ev2 := t_M_cells (d + 5) hg hv2
    refine ia_cV hK mk_M_cells lk_12_234 dc_M_anew_25 417 [] [.inl x1] rfl rfl (Nat.le_of_ble_eq_true rfl) (by decide) rfl (gk_12 hg pk_417) ev2 ⟨rfl, rfl⟩ ?_
    show K 28 [some (.inr (.inr 417)), some (.inl x1)] [.inl v2, .inl x1] h
    refine ia_go hK ck_M_anew_28 ⟨fun c => ?_, fun c => ?_⟩
    · replace hm := ia_ifp hm c
      show K 80 [some (.inr (.inr 417)), some (.inl x1)] [] h
      refine ia_fg hK (lv' := [some (.inr (.inr 417)), none]) ⟨rfl, trivial⟩ ?_
      exact hk80 h hg hm
    · replace hm := ia_ifn hm c
      show K 31 [some (.inr (.inr 417)), some (.inl x1)] [] h
      obtain ⟨c3, hm⟩ := ia_gd_some hm
      obtain ⟨c4, hm⟩ := ia_gd_some hm
      obtain ⟨c5, hm⟩ := ia_gd_some hm
      obtain ⟨c6, hm⟩ := ia_gd_some hm
      refine ia_go hK ck_M_anew_31 ⟨gk_12 hg pk_417, gr_12_13 hg pk_417, gk_12 hg pk_417, gr_12_0 hg pk_417, gk_12 hg pk_417, ga_i100 hg (ka_12_0 pk_417) c3, ga_s100 hg (ka_12_13 pk_417) c4, gk_12 (gd_wI hg (kx_100 (ka_12_13 pk_417))) pk_417, gr_12_13 (gd_wI hg (kx_100 (ka_12_13 pk_417))) pk_417, gk_12 (gd_wI hg (kx_100 (ka_12_13 pk_417))) pk_417, gr_12_0 (gd_wI hg (kx_100 (ka_12_13 pk_417))) pk_417, gk_12 (gd_wI hg (kx_100 (ka_12_13 pk_417))) pk_417, ga_i100 (gd_wI hg (kx_100 (ka_12_13 pk_417))) (ka_12_0 pk_417) c5, ga_s100 (gd_wI hg (kx_100 (ka_12_13 pk_417))) (ka_12_13 pk_417) c6, ?_⟩
      show K 74 [some (.inr (.inr 417)), some (.inl x1)] [] (ia_wI (ia_wI h 422 ((x1).toNatClampNeg) (ia_i h 418 ((((ia_i h 417 14) + 8) + x1).toNatClampNeg))) 422 ((36 + x1).toNatClampNeg) (ia_i (ia_wI h 422 ((x1).toNatClampNeg) (ia_i h 418 ((((ia_i h 417 14) + 8) + x1).toNatClampNeg))) 418 ((((ia_i (ia_wI h 422 ((x1).toNatClampNeg) (ia_i h 418 ((((ia_i h 417 14) + 8) + x1).toNatClampNeg))) 417 14) + 44) + x1).toNatClampNeg)))
      exact tj_M_anew_74 hK hret ih hk80 x1 (ia_wI (ia_wI h 422 ((x1).toNatClampNeg) (ia_i h 418 ((((ia_i h 417 14) + 8) + x1).toNatClampNeg))) 422 ((36 + x1).toNatClampNeg) (ia_i (ia_wI h 422 ((x1).toNatClampNeg) (ia_i h 418 ((((ia_i h 417 14) + 8) + x1).toNatClampNeg))) 418 ((((ia_i (ia_wI h 422 ((x1).toNatClampNeg) (ia_i h 418 ((((ia_i h 417 14) + 8) + x1).toNatClampNeg))) 417 14) + 44) + x1).toNatClampNeg))) (gd_wI (gd_wI hg (kx_100 (ka_12_13 pk_417))) (kx_100 (ka_12_13 pk_417))) hm
theorem gl_M_anew_23 {w : ia_O0} {h1 : ia_H} {k80 : ia_H → Option ia_H} (hk80 : ∀ (h : ia_H), gd_ w h → k80 h = some h1 → gd_ w h1) : ∀ (n : Nat) (x1 : Int32) (h : ia_H), gd_ w h → l_M_anew_23 k80 n x1 h = some h1 → gd_ w h1 := by
  intro n
  induction n with
  | zero =>
    intro x1 h hg hm
    cases (show (none : Option ia_H) = some _ from hm)
  | succ n ih =>
    intro x1 h hg hm
    rw [l_M_anew_23] at hm
    obtain ⟨v2, hv2, hm⟩ := ia_bnd hm
    by_cases c : v2 ≤ x1
    · replace hm := ia_ifp hm c
      exact hk80 h hg hm
    · replace hm := ia_ifn hm c
      obtain ⟨c3, hm⟩ := ia_gd_some hm
      obtain ⟨c4, hm⟩ := ia_gd_some hm
      obtain ⟨c5, hm⟩ := ia_gd_some hm
      obtain ⟨c6, hm⟩ := ia_gd_some hm
      exact gj_M_anew_74 ih hk80 x1 (ia_wI (ia_wI h 422 ((x1).toNatClampNeg) (ia_i h 418 ((((ia_i h 417 14) + 8) + x1).toNatClampNeg))) 422 ((36 + x1).toNatClampNeg) (ia_i (ia_wI h 422 ((x1).toNatClampNeg) (ia_i h 418 ((((ia_i h 417 14) + 8) + x1).toNatClampNeg))) 418 ((((ia_i (ia_wI h 422 ((x1).toNatClampNeg) (ia_i h 418 ((((ia_i h 417 14) + 8) + x1).toNatClampNeg))) 417 14) + 44) + x1).toNatClampNeg))) (gd_wI (gd_wI hg (kx_100 (ka_12_13 pk_417))) (kx_100 (ka_12_13 pk_417))) hm
def l_M_anew_82 (k129 : ia_H → Option ia_H) (n : Nat) (x1 : Int32) (h : ia_H) : Option ia_H := match n with
  | 0 => none
  | n + 1 => if 6 ≤ x1 then (k129 h) else ((f_M_isShop (ia_i h 417 14) x1 h).bind fun v7 => (if v7 = 0 then (ia_gd (ia_ib (72 + x1) 1120) (l_M_anew_82 k129 n (x1 + 1) (ia_wI h 422 ((72 + x1).toNatClampNeg) (-1)))) else ((f_M_shopOf (ia_i h 417 14) x1 0 h).bind fun v9 => (ia_gd (ia_ib (72 + x1) 1120) (l_M_anew_82 k129 n (x1 + 1) (ia_wI h 422 ((72 + x1).toNatClampNeg) v9))))))
theorem tl_M_anew_82 {w : ia_O0} {d N1 W1 : Nat} {K : ia_K} (hK : ia_isK (d + 6) mm_M_anew N1 W1 K) {h1 : ia_H} (hret : ∀ (pc : Nat) (lv : ia_L), ia_ret mm_M_anew pc none → K pc lv (none : Option ia_V).toList h1) {k129 : ia_H → Option ia_H} (hk129 : ∀ (h : ia_H), gd_ w h → k129 h = some h1 → K 129 [some (.inr (.inr 417)), none] [] h) : ∀ (n : Nat) (x1 : Int32) (h : ia_H), gd_ w h → l_M_anew_82 k129 n x1 h = some h1 → K 82 [some (.inr (.inr 417)), some (.inl x1)] [] h := by
  intro n
  induction n with
  | zero =>
    intro x1 h hg hm
    cases (show (none : Option ia_H) = some _ from hm)
  | succ n ih =>
    intro x1 h hg hm
    rw [l_M_anew_82] at hm
    refine ia_go hK ck_M_anew_82 ⟨fun c => ?_, fun c => ?_⟩
    · replace hm := ia_ifp hm c
      show K 129 [some (.inr (.inr 417)), some (.inl x1)] [] h
      refine ia_fg hK (lv' := [some (.inr (.inr 417)), none]) ⟨rfl, trivial⟩ ?_
      exact hk129 h hg hm
    · replace hm := ia_ifn hm c
      show K 88 [some (.inr (.inr 417)), some (.inl x1)] [] h
      refine ia_go hK ck_M_anew_88 ⟨gk_12 hg pk_417, gr_12_13 hg pk_417, gk_12 hg pk_417, ?_⟩
      show K 102 [some (.inr (.inr 417)), some (.inl x1)] [.inl x1, .inl (ia_i h 417 14), .inr (.inr 417), .inl (72 + x1), .inr (.inr 422)] h
      obtain ⟨v7, hv7, hm⟩ := ia_bnd hm
      have ev7 := t_M_isShop (d + 4) hg hv7
      refine ia_cV hK mk_M_isShop lk_12_195 dc_M_anew_102 417 [.inl (ia_i h 417 14), .inl x1] [.inl (72 + x1), .inr (.inr 422)] rfl rfl (Nat.le_of_ble_eq_true rfl) (by decide) rfl (gk_12 hg pk_417) ev7 ⟨rfl, rfl⟩ ?_
      show K 105 [some (.inr (.inr 417)), some (.inl x1)] [.inl v7, .inl (72 + x1), .inr (.inr 422)] h
      refine ia_go hK ck_M_anew_105 ⟨fun c => ?_, fun c => ?_⟩
      · replace hm := ia_ifp hm c
        show K 121 [some (.inr (.inr 417)), some (.inl x1)] [.inl (72 + x1), .inr (.inr 422)] h
        obtain ⟨c8, hm⟩ := ia_gd_some hm
        refine ia_go hK ck_M_anew_121 ⟨ga_s100 hg (ka_12_13 pk_417) c8, ?_⟩
        show K 82 [some (.inr (.inr 417)), some (.inl (x1 + 1))] [] (ia_wI h 422 ((72 + x1).toNatClampNeg) (-1))
        exact ih (x1 + 1) (ia_wI h 422 ((72 + x1).toNatClampNeg) (-1)) (gd_wI hg (kx_100 (ka_12_13 pk_417))) hm
      · replace hm := ia_ifn hm c
        show K 108 [some (.inr (.inr 417)), some (.inl x1)] [.inl (72 + x1), .inr (.inr 422)] h
        refine ia_go hK ck_M_anew_108 ⟨gk_12 hg pk_417, ?_⟩
        show K 115 [some (.inr (.inr 417)), some (.inl x1)] [.inl 0, .inl x1, .inl (ia_i h 417 14), .inr (.inr 417), .inl (72 + x1), .inr (.inr 422)] h
        obtain ⟨v9, hv9, hm⟩ := ia_bnd hm
        have ev9 := t_M_shopOf (d + 5) hg hv9
        refine ia_cV hK mk_M_shopOf lk_12_198 dc_M_anew_115 417 [.inl (ia_i h 417 14), .inl x1, .inl 0] [.inl (72 + x1), .inr (.inr 422)] rfl rfl (Nat.le_of_ble_eq_true rfl) (by decide) rfl (gk_12 hg pk_417) ev9 ⟨rfl, rfl⟩ ?_
        show K 118 [some (.inr (.inr 417)), some (.inl x1)] [.inl v9, .inl (72 + x1), .inr (.inr 422)] h
        refine ia_go hK ck_M_anew_118 ?_
        show K 122 [some (.inr (.inr 417)), some (.inl x1)] [.inl v9, .inl (72 + x1), .inr (.inr 422)] h
        obtain ⟨c10, hm⟩ := ia_gd_some hm
        refine ia_go hK ck_M_anew_122 ⟨ga_s100 hg (ka_12_13 pk_417) c10, ?_⟩
        show K 82 [some (.inr (.inr 417)), some (.inl (x1 + 1))] [] (ia_wI h 422 ((72 + x1).toNatClampNeg) v9)
        exact ih (x1 + 1) (ia_wI h 422 ((72 + x1).toNatClampNeg) v9) (gd_wI hg (kx_100 (ka_12_13 pk_417))) hm
theorem gl_M_anew_82 {w : ia_O0} {h1 : ia_H} {k129 : ia_H → Option ia_H} (hk129 : ∀ (h : ia_H), gd_ w h → k129 h = some h1 → gd_ w h1) : ∀ (n : Nat) (x1 : Int32) (h : ia_H), gd_ w h → l_M_anew_82 k129 n x1 h = some h1 → gd_ w h1 := by
  intro n
  induction n with
  | zero =>
    intro x1 h hg hm
    cases (show (none : Option ia_H) = some _ from hm)
  | succ n ih =>
    intro x1 h hg hm
    rw [l_M_anew_82] at hm
    by_cases c : 6 ≤ x1
    · replace hm := ia_ifp hm c
      exact hk129 h hg hm
    · replace hm := ia_ifn hm c
      obtain ⟨v7, hv7, hm⟩ := ia_bnd hm
      by_cases c : v7 = 0
      · replace hm := ia_ifp hm c
        obtain ⟨c8, hm⟩ := ia_gd_some hm
        exact ih (x1 + 1) (ia_wI h 422 ((72 + x1).toNatClampNeg) (-1)) (gd_wI hg (kx_100 (ka_12_13 pk_417))) hm
      · replace hm := ia_ifn hm c
        obtain ⟨v9, hv9, hm⟩ := ia_bnd hm
        obtain ⟨c10, hm⟩ := ia_gd_some hm
        exact ih (x1 + 1) (ia_wI h 422 ((72 + x1).toNatClampNeg) v9) (gd_wI hg (kx_100 (ka_12_13 pk_417))) hm
def f_M_anew (h : ia_H) : Option ia_H := l_M_anew_2 (fun h => l_M_anew_23 (fun h => l_M_anew_82 (fun h => (f_M_falls h).bind fun v11 => (some v11)) fu_ 0 h) fu_ 0 h) fu_ 0 h
theorem g_M_anew {w : ia_O0} {h : ia_H} (hg : gd_ w h) {q : ia_H} (hm : f_M_anew h = some q) : gd_ w q := by
  obtain ⟨h1, e1⟩ : ∃ x, x = q := ⟨_, rfl⟩
  subst e1
  unfold f_M_anew at hm
  refine gl_M_anew_2 ?_ fu_ 0 h hg hm
  · intro h hg hm
    refine gl_M_anew_23 ?_ fu_ 0 h hg hm
    · intro h hg hm
      refine gl_M_anew_82 ?_ fu_ 0 h hg hm
      · intro h hg hm
        obtain ⟨v11, hv11, hm⟩ := ia_bnd hm
        have gv11 := g_M_falls hg hv11
        obtain rfl := Option.some.inj hm
        exact gv11
theorem t_M_anew {w : ia_O0} (d : Nat) {h : ia_H} (hg : gd_ w h) {q : ia_H} (hm : f_M_anew h = some q) : ia_Ev (d + 6) mm_M_anew [.inr (.inr 417)] h none q := by
  have gq := g_M_anew hg hm
  refine ia_Ev_intro ok_M_anew (gd_le hg gq).1 (gd_le hg gq).2 (Nat.le_of_ble_eq_true rfl) (fun K hK hret => ?_)
  obtain ⟨h1, e1⟩ : ∃ x, x = q := ⟨_, rfl⟩
  subst e1
  show K 0 [some (.inr (.inr 417)), none] [] h
  unfold f_M_anew at hm
  refine ia_go hK ck_M_anew_0 ?_
  show K 2 [some (.inr (.inr 417)), some (.inl 0)] [] h
  refine tl_M_anew_2 hK hret ?_ fu_ 0 h hg hm
  · intro h hg hm
    refine ia_go hK ck_M_anew_21 ?_
    show K 23 [some (.inr (.inr 417)), some (.inl 0)] [] h
    refine tl_M_anew_23 hK hret ?_ fu_ 0 h hg hm
    · intro h hg hm
      refine ia_go hK ck_M_anew_80 ?_
      show K 82 [some (.inr (.inr 417)), some (.inl 0)] [] h
      refine tl_M_anew_82 hK hret ?_ fu_ 0 h hg hm
      · intro h hg hm
        refine ia_go hK ck_M_anew_129 ?_
        show K 130 [some (.inr (.inr 417)), none] [.inr (.inr 417)] h
        obtain ⟨v11, hv11, hm⟩ := ia_bnd hm
        have ev11 := t_M_falls (d + 0) hg hv11
        have gv11 := g_M_falls hg hv11
        refine ia_cV hK mk_M_falls lk_12_240 dc_M_anew_130 417 [] [] rfl rfl (Nat.le_of_ble_eq_true rfl) (by decide) rfl (gk_12 hg pk_417) ev11 (gd_nm hg gv11) ?_
        show K 133 [some (.inr (.inr 417)), none] [] v11
        obtain rfl := Option.some.inj hm
        exact hret 133 _ dc_M_anew_133
def mm_M_stoveOf : ia_M := (⟨"IceStreetModel", "stoveOf", "(I)I"⟩, prog_14_method_47_code, 2, (some .int), 12, false)
theorem ok_M_stoveOf : ia_mok mm_M_stoveOf := ⟨by decide +kernel, by decide +kernel, by decide +kernel, by decide +kernel⟩
theorem mk_M_stoveOf : ia_mkn mm_M_stoveOf 1 1 := ⟨ia_tb_in (List.mem_of_getElem? (i := 1943) (by decide +kernel)) rfl, ia_tb_in (List.mem_of_getElem? (i := 146) (by decide +kernel)) rfl, by decide +kernel, by decide +kernel, ⟨ia_tb_in (List.mem_of_getElem? (i := 1942) (by decide +kernel)) rfl, ia_tb_in (List.mem_of_getElem? (i := 90) (by decide +kernel)) rfl⟩⟩
theorem ck_M_stoveOf_0 : ia_cks 12 2 false prog_14_method_47_code 0 [(.iload_n 1, 0, 0, 0, 0), (.aload_n 0, 0, 0, 0, 0), (.getfield 26, 12, 16, 0, 0), (.if_icmp .ne 7, 0, 0, 0, 0)] = true := by decide +kernel
theorem ck_M_stoveOf_12 : ia_cks 12 2 false prog_14_method_47_code 12 [(.aload_n 0, 0, 0, 0, 0), (.aload_n 0, 0, 0, 0, 0), (.getfield 201, 12, 14, 0, 0), (.iload_n 1, 0, 0, 0, 0), (.iconst 2, 0, 0, 0, 0)] = true := by decide +kernel
theorem ck_M_stoveOf_8 : ia_cks 12 2 false prog_14_method_47_code 8 [(.iconst 0, 0, 0, 0, 0), (.goto 13, 0, 0, 0, 0)] = true := by decide +kernel
theorem dc_M_stoveOf_19 : decode prog_14_method_47_code 19 = .ok (.invokevirtual 198, 3) := by decide +kernel
theorem dc_M_stoveOf_22 : decode prog_14_method_47_code 22 = .ok (.ireturn, 1) := by decide +kernel
def f_M_stoveOf (x1 : Int32) (h : ia_H) : Option Int32 := if x1 = (ia_i h 417 16) then (some 0) else ((f_M_shopOf (ia_i h 417 14) x1 2 h).bind fun v1 => (some v1))
theorem t_M_stoveOf {w : ia_O0} (d : Nat) {x1 : Int32} {h : ia_H} (hg : gd_ w h) {r : Int32} (hm : f_M_stoveOf x1 h = some r) : ia_Ev (d + 1) mm_M_stoveOf [.inr (.inr 417), .inl x1] h (some (.inl r)) h := by
  refine ia_Ev_intro ok_M_stoveOf (Nat.le_refl _) (Nat.le_refl _) (Nat.le_of_ble_eq_true rfl) (fun K hK hret => ?_)
  show K 0 [some (.inr (.inr 417)), some (.inl x1)] [] h
  unfold f_M_stoveOf at hm
  refine ia_go hK ck_M_stoveOf_0 ⟨gk_12 hg pk_417, fun c => ?_, fun c => ?_⟩
  · replace hm := ia_ifn hm c
    show K 12 [some (.inr (.inr 417)), some (.inl x1)] [] h
    refine ia_go hK ck_M_stoveOf_12 ⟨gk_12 hg pk_417, ?_⟩
    show K 19 [some (.inr (.inr 417)), some (.inl x1)] [.inl 2, .inl x1, .inl (ia_i h 417 14), .inr (.inr 417)] h
    obtain ⟨v1, hv1, hm⟩ := ia_bnd hm
    have ev1 := t_M_shopOf (d + 0) hg hv1
    refine ia_cV hK mk_M_shopOf lk_12_198 dc_M_stoveOf_19 417 [.inl (ia_i h 417 14), .inl x1, .inl 2] [] rfl rfl (Nat.le_of_ble_eq_true rfl) (by decide) rfl (gk_12 hg pk_417) ev1 ⟨rfl, rfl⟩ ?_
    show K 22 [some (.inr (.inr 417)), some (.inl x1)] [.inl v1] h
    obtain rfl := Option.some.inj hm
    exact hret 22 _ dc_M_stoveOf_22
  · replace hm := ia_ifp hm c
    show K 8 [some (.inr (.inr 417)), some (.inl x1)] [] h
    refine ia_go hK ck_M_stoveOf_8 ?_
    show K 22 [some (.inr (.inr 417)), some (.inl x1)] [.inl 0] h
    obtain rfl := Option.some.inj hm
    exact hret 22 _ dc_M_stoveOf_22
def mm_M_size : ia_M := (⟨"IceStreetModel", "size", "(I)I"⟩, prog_14_method_61_code, 1, (some .int), 12, false)
theorem ok_M_size : ia_mok mm_M_size := ⟨by decide +kernel, by decide +kernel, by decide +kernel, by decide +kernel⟩
theorem mk_M_size : ia_mkn mm_M_size 0 1 := ⟨ia_tb_in (List.mem_of_getElem? (i := 1950) (by decide +kernel)) rfl, ia_tb_in (List.mem_of_getElem? (i := 146) (by decide +kernel)) rfl, by decide +kernel, by decide +kernel, ia_tb_in (List.mem_of_getElem? (i := 1949) (by decide +kernel)) rfl⟩
theorem ck_M_size_0 : ia_cks 12 1 false prog_14_method_61_code 0 [(.iload_n 0, 0, 0, 0, 0), (.ifCond .ge 8, 0, 0, 0, 0)] = true := by decide +kernel
theorem ck_M_size_9 : ia_cks 12 1 false prog_14_method_61_code 9 [(.iload_n 0, 0, 0, 0, 0)] = true := by decide +kernel
theorem ck_M_size_4 : ia_cks 12 1 false prog_14_method_61_code 4 [(.iload_n 0, 0, 0, 0, 0), (.ineg, 0, 0, 0, 0), (.goto 4, 0, 0, 0, 0)] = true := by decide +kernel
theorem dc_M_size_10 : decode prog_14_method_61_code 10 = .ok (.ireturn, 1) := by decide +kernel
def f_M_size (x0 : Int32) (h : ia_H) : Option Int32 := if 0 ≤ x0 then (some x0) else (some (-x0))
theorem t_M_size {w : ia_O0} (d : Nat) {x0 : Int32} {h : ia_H} (hg : gd_ w h) {r : Int32} (hm : f_M_size x0 h = some r) : ia_Ev (d + 0) mm_M_size [.inl x0] h (some (.inl r)) h := by
  refine ia_Ev_intro ok_M_size (Nat.le_refl _) (Nat.le_refl _) (Nat.le_of_ble_eq_true rfl) (fun K hK hret => ?_)
  show K 0 [some (.inl x0)] [] h
  unfold f_M_size at hm
  refine ia_go hK ck_M_size_0 ⟨fun c => ?_, fun c => ?_⟩
  · replace hm := ia_ifp hm c
    show K 9 [some (.inl x0)] [] h
    refine ia_go hK ck_M_size_9 ?_
    show K 10 [some (.inl x0)] [.inl x0] h
    obtain rfl := Option.some.inj hm
    exact hret 10 _ dc_M_size_10
  · replace hm := ia_ifn hm c
    show K 4 [some (.inl x0)] [] h
    refine ia_go hK ck_M_size_4 ?_
    show K 10 [some (.inl x0)] [.inl (-x0)] h
    obtain rfl := Option.some.inj hm
    exact hret 10 _ dc_M_size_10
def mm_M_steps : ia_M := (⟨"IceStreetModel", "steps", "(II)I"⟩, prog_14_method_62_code, 4, (some .int), 12, false)
theorem ok_M_steps : ia_mok mm_M_steps := ⟨by decide +kernel, by decide +kernel, by decide +kernel, by decide +kernel⟩
theorem mk_M_steps : ia_mkn mm_M_steps 1 2 := ⟨ia_tb_in (List.mem_of_getElem? (i := 1947) (by decide +kernel)) rfl, ia_tb_in (List.mem_of_getElem? (i := 146) (by decide +kernel)) rfl, by decide +kernel, by decide +kernel, ⟨ia_tb_in (List.mem_of_getElem? (i := 1946) (by decide +kernel)) rfl, ia_tb_in (List.mem_of_getElem? (i := 91) (by decide +kernel)) rfl⟩⟩
theorem ck_M_steps_0 : ia_cks 12 4 false prog_14_method_62_code 0 [(.aload_n 0, 0, 0, 0, 0), (.getfield 7, 12, 0, 3, 1), (.aload_n 0, 0, 0, 0, 0), (.getfield 201, 12, 14, 0, 0), (.iconst 0, 0, 0, 0, 0), (.iadd, 0, 0, 0, 0), (.iaload, 0, 0, 0, 0), (.istore_n 3, 0, 0, 0, 0), (.iload_n 1, 0, 0, 0, 0), (.iload_n 3, 0, 0, 0, 0), (.irem, 0, 0, 0, 0), (.iload_n 2, 0, 0, 0, 0), (.iload_n 3, 0, 0, 0, 0), (.irem, 0, 0, 0, 0), (.isub, 0, 0, 0, 0)] = true := by decide +kernel
theorem ck_M_steps_22 : ia_cks 12 4 false prog_14_method_62_code 22 [(.iload_n 1, 0, 0, 0, 0), (.iload_n 3, 0, 0, 0, 0), (.idiv, 0, 0, 0, 0), (.iload_n 2, 0, 0, 0, 0), (.iload_n 3, 0, 0, 0, 0), (.idiv, 0, 0, 0, 0), (.isub, 0, 0, 0, 0)] = true := by decide +kernel
theorem ck_M_steps_32 : ia_cks 12 4 false prog_14_method_62_code 32 [(.iadd, 0, 0, 0, 0)] = true := by decide +kernel
theorem dc_M_steps_19 : decode prog_14_method_62_code 19 = .ok (.invokestatic 273, 3) := by decide +kernel
theorem dc_M_steps_29 : decode prog_14_method_62_code 29 = .ok (.invokestatic 273, 3) := by decide +kernel
theorem dc_M_steps_33 : decode prog_14_method_62_code 33 = .ok (.ireturn, 1) := by decide +kernel
def f_M_steps (x1 : Int32) (x2 : Int32) (h : ia_H) : Option Int32 := ia_gd (ia_ib ((ia_i h 417 14) + 0) 6528) (ia_gd (ia_nz (ia_i h 418 (((ia_i h 417 14) + 0).toNatClampNeg))) (ia_gd (ia_nz (ia_i h 418 (((ia_i h 417 14) + 0).toNatClampNeg))) ((f_M_size ((x1 - x1 / (ia_i h 418 (((ia_i h 417 14) + 0).toNatClampNeg)) * (ia_i h 418 (((ia_i h 417 14) + 0).toNatClampNeg))) - (x2 - x2 / (ia_i h 418 (((ia_i h 417 14) + 0).toNatClampNeg)) * (ia_i h 418 (((ia_i h 417 14) + 0).toNatClampNeg)))) h).bind fun v4 => (ia_gd (ia_nz (ia_i h 418 (((ia_i h 417 14) + 0).toNatClampNeg))) (ia_gd (ia_nz (ia_i h 418 (((ia_i h 417 14) + 0).toNatClampNeg))) ((f_M_size ((x1 / (ia_i h 418 (((ia_i h 417 14) + 0).toNatClampNeg))) - (x2 / (ia_i h 418 (((ia_i h 417 14) + 0).toNatClampNeg)))) h).bind fun v7 => (some (v4 + v7))))))))
theorem t_M_steps {w : ia_O0} (d : Nat) {x1 : Int32} {x2 : Int32} {h : ia_H} (hg : gd_ w h) {r : Int32} (hm : f_M_steps x1 x2 h = some r) : ia_Ev (d + 1) mm_M_steps [.inr (.inr 417), .inl x1, .inl x2] h (some (.inl r)) h := by
  refine ia_Ev_intro ok_M_steps (Nat.le_refl _) (Nat.le_refl _) (Nat.le_of_ble_eq_true rfl) (fun K hK hret => ?_)
  show K 0 [some (.inr (.inr 417)), some (.inl x1), some (.inl x2), none] [] h
  unfold f_M_steps at hm
  obtain ⟨c1, hm⟩ := ia_gd_some hm
  obtain ⟨c2, hm⟩ := ia_gd_some hm
  obtain ⟨c3, hm⟩ := ia_gd_some hm
  refine ia_go hK ck_M_steps_0 ⟨gk_12 hg pk_417, gr_12_0 hg pk_417, gk_12 hg pk_417, ga_i100 hg (ka_12_0 pk_417) c1, ia_nz_spec c2, ia_nz_spec c3, ?_⟩
  show K 19 [some (.inr (.inr 417)), some (.inl x1), some (.inl x2), some (.inl (ia_i h 418 (((ia_i h 417 14) + 0).toNatClampNeg)))] [.inl ((x1 - x1 / (ia_i h 418 (((ia_i h 417 14) + 0).toNatClampNeg)) * (ia_i h 418 (((ia_i h 417 14) + 0).toNatClampNeg))) - (x2 - x2 / (ia_i h 418 (((ia_i h 417 14) + 0).toNatClampNeg)) * (ia_i h 418 (((ia_i h 417 14) + 0).toNatClampNeg))))] h
  obtain ⟨v4, hv4, hm⟩ := ia_bnd hm
  have ev4 := t_M_size (d + 0) hg hv4
  refine ia_cS hK mk_M_size lk_12_273 dc_M_steps_19 [.inl ((x1 - x1 / (ia_i h 418 (((ia_i h 417 14) + 0).toNatClampNeg)) * (ia_i h 418 (((ia_i h 417 14) + 0).toNatClampNeg))) - (x2 - x2 / (ia_i h 418 (((ia_i h 417 14) + 0).toNatClampNeg)) * (ia_i h 418 (((ia_i h 417 14) + 0).toNatClampNeg))))] [] rfl rfl (Nat.le_of_ble_eq_true rfl) ev4 ⟨rfl, rfl⟩ ?_
  show K 22 [some (.inr (.inr 417)), some (.inl x1), some (.inl x2), some (.inl (ia_i h 418 (((ia_i h 417 14) + 0).toNatClampNeg)))] [.inl v4] h
  obtain ⟨c5, hm⟩ := ia_gd_some hm
  obtain ⟨c6, hm⟩ := ia_gd_some hm
  refine ia_go hK ck_M_steps_22 ⟨ia_nz_spec c5, ia_nz_spec c6, ?_⟩
  show K 29 [some (.inr (.inr 417)), some (.inl x1), some (.inl x2), some (.inl (ia_i h 418 (((ia_i h 417 14) + 0).toNatClampNeg)))] [.inl ((x1 / (ia_i h 418 (((ia_i h 417 14) + 0).toNatClampNeg))) - (x2 / (ia_i h 418 (((ia_i h 417 14) + 0).toNatClampNeg)))), .inl v4] h
  obtain ⟨v7, hv7, hm⟩ := ia_bnd hm
  have ev7 := t_M_size (d + 0) hg hv7
  refine ia_cS hK mk_M_size lk_12_273 dc_M_steps_29 [.inl ((x1 / (ia_i h 418 (((ia_i h 417 14) + 0).toNatClampNeg))) - (x2 / (ia_i h 418 (((ia_i h 417 14) + 0).toNatClampNeg))))] [.inl v4] rfl rfl (Nat.le_of_ble_eq_true rfl) ev7 ⟨rfl, rfl⟩ ?_
  show K 32 [some (.inr (.inr 417)), some (.inl x1), some (.inl x2), some (.inl (ia_i h 418 (((ia_i h 417 14) + 0).toNatClampNeg)))] [.inl v7, .inl v4] h
  refine ia_go hK ck_M_steps_32 ?_
  show K 33 [some (.inr (.inr 417)), some (.inl x1), some (.inl x2), some (.inl (ia_i h 418 (((ia_i h 417 14) + 0).toNatClampNeg)))] [.inl (v4 + v7)] h
  obtain rfl := Option.some.inj hm
  exact hret 33 _ dc_M_steps_33
def mm_M_isApart : ia_M := (⟨"IceStreetModel", "isApart", "(II)Z"⟩, prog_14_method_63_code, 5, (some .boolean), 12, false)
theorem ok_M_isApart : ia_mok mm_M_isApart := ⟨by decide +kernel, by decide +kernel, by decide +kernel, by decide +kernel⟩
theorem mk_M_isApart : ia_mkn mm_M_isApart 1 2 := ⟨ia_tb_in (List.mem_of_getElem? (i := 1939) (by decide +kernel)) rfl, ia_tb_in (List.mem_of_getElem? (i := 146) (by decide +kernel)) rfl, by decide +kernel, by decide +kernel, ⟨ia_tb_in (List.mem_of_getElem? (i := 1938) (by decide +kernel)) rfl, ia_tb_in (List.mem_of_getElem? (i := 89) (by decide +kernel)) rfl⟩⟩
theorem ck_M_isApart_0 : ia_cks 12 5 false prog_14_method_63_code 0 [(.iconst 1, 0, 0, 0, 0), (.istore_n 3, 0, 0, 0, 0), (.iconst 0, 0, 0, 0, 0), (.istore 4, 0, 0, 0, 0)] = true := by decide +kernel
theorem ck_M_isApart_5 : ia_cks 12 5 false prog_14_method_63_code 5 [(.iload 4, 0, 0, 0, 0), (.aload_n 0, 0, 0, 0, 0), (.getfield 7, 12, 0, 3, 1), (.aload_n 0, 0, 0, 0, 0), (.getfield 201, 12, 14, 0, 0), (.iconst 4, 0, 0, 0, 0), (.iadd, 0, 0, 0, 0), (.iaload, 0, 0, 0, 0), (.if_icmp .ge 80, 0, 0, 0, 0)] = true := by decide +kernel
theorem ck_M_isApart_21 : ia_cks 12 5 false prog_14_method_63_code 21 [(.iload_n 3, 0, 0, 0, 0), (.ifCond .eq 68, 0, 0, 0, 0)] = true := by decide +kernel
theorem ck_M_isApart_90 : ia_cks 12 5 false prog_14_method_63_code 90 [(.iconst 0, 0, 0, 0, 0), (.istore_n 3, 0, 0, 0, 0), (.iinc 4 1, 0, 0, 0, 0), (.goto (-90), 0, 0, 0, 0)] = true := by decide +kernel
theorem ck_M_isApart_25 : ia_cks 12 5 false prog_14_method_63_code 25 [(.iload 4, 0, 0, 0, 0), (.iload_n 1, 0, 0, 0, 0), (.if_icmp .eq 58, 0, 0, 0, 0)] = true := by decide +kernel
theorem ck_M_isApart_86 : ia_cks 12 5 false prog_14_method_63_code 86 [(.iconst 1, 0, 0, 0, 0), (.goto 4, 0, 0, 0, 0)] = true := by decide +kernel
theorem ck_M_isApart_91 : ia_cks 12 5 false prog_14_method_63_code 91 [(.istore_n 3, 0, 0, 0, 0), (.iinc 4 1, 0, 0, 0, 0), (.goto (-90), 0, 0, 0, 0)] = true := by decide +kernel
theorem ck_M_isApart_31 : ia_cks 12 5 false prog_14_method_63_code 31 [(.aload_n 0, 0, 0, 0, 0), (.iload 4, 0, 0, 0, 0)] = true := by decide +kernel
theorem ck_M_isApart_37 : ia_cks 12 5 false prog_14_method_63_code 37 [(.ifCond .eq 49, 0, 0, 0, 0)] = true := by decide +kernel
theorem ck_M_isApart_40 : ia_cks 12 5 false prog_14_method_63_code 40 [(.aload_n 0, 0, 0, 0, 0), (.iload_n 1, 0, 0, 0, 0)] = true := by decide +kernel
theorem ck_M_isApart_45 : ia_cks 12 5 false prog_14_method_63_code 45 [(.ifCond .eq 41, 0, 0, 0, 0)] = true := by decide +kernel
theorem ck_M_isApart_48 : ia_cks 12 5 false prog_14_method_63_code 48 [(.aload_n 0, 0, 0, 0, 0), (.iload 4, 0, 0, 0, 0)] = true := by decide +kernel
theorem ck_M_isApart_54 : ia_cks 12 5 false prog_14_method_63_code 54 [(.ifCond .eq 32, 0, 0, 0, 0)] = true := by decide +kernel
theorem ck_M_isApart_57 : ia_cks 12 5 false prog_14_method_63_code 57 [(.aload_n 0, 0, 0, 0, 0), (.iload_n 2, 0, 0, 0, 0), (.aload_n 0, 0, 0, 0, 0), (.getfield 23, 12, 13, 3, 5), (.bipush 72, 0, 0, 0, 0), (.iload 4, 0, 0, 0, 0), (.iadd, 0, 0, 0, 0), (.iaload, 0, 0, 0, 0)] = true := by decide +kernel
theorem ck_M_isApart_72 : ia_cks 12 5 false prog_14_method_63_code 72 [(.aload_n 0, 0, 0, 0, 0), (.getfield 7, 12, 0, 3, 1), (.aload_n 0, 0, 0, 0, 0), (.getfield 219, 12, 15, 0, 0), (.iconst 1, 0, 0, 0, 0), (.iadd, 0, 0, 0, 0), (.iaload, 0, 0, 0, 0), (.if_icmp .lt 7, 0, 0, 0, 0)] = true := by decide +kernel
theorem ck_M_isApart_98 : ia_cks 12 5 false prog_14_method_63_code 98 [(.iload_n 3, 0, 0, 0, 0)] = true := by decide +kernel
theorem dc_M_isApart_34 : decode prog_14_method_63_code 34 = .ok (.invokevirtual 222, 3) := by decide +kernel
theorem dc_M_isApart_42 : decode prog_14_method_63_code 42 = .ok (.invokevirtual 237, 3) := by decide +kernel
theorem dc_M_isApart_51 : decode prog_14_method_63_code 51 = .ok (.invokevirtual 237, 3) := by decide +kernel
theorem dc_M_isApart_69 : decode prog_14_method_63_code 69 = .ok (.invokevirtual 275, 3) := by decide +kernel
theorem dc_M_isApart_99 : decode prog_14_method_63_code 99 = .ok (.ireturn, 1) := by decide +kernel
def l_M_isApart_5 (x1 : Int32) (x2 : Int32) (h : ia_H) (k98 : Int32 → Option Int32) (n : Nat) (x3 : Int32) (x4 : Int32) : Option Int32 := match n with
  | 0 => none
  | n + 1 => ia_gd (ia_ib ((ia_i h 417 14) + 4) 6528) (if (ia_i h 418 (((ia_i h 417 14) + 4).toNatClampNeg)) ≤ x4 then (k98 x3) else (if x3 = 0 then (l_M_isApart_5 x1 x2 h k98 n 0 (x4 + 1)) else (if x4 = x1 then (l_M_isApart_5 x1 x2 h k98 n 1 (x4 + 1)) else ((f_M_stands x4 h).bind fun v2 => (if v2 = 0 then (l_M_isApart_5 x1 x2 h k98 n 1 (x4 + 1)) else ((f_M_stoveOf x1 h).bind fun v3 => (if v3 = 0 then (l_M_isApart_5 x1 x2 h k98 n 1 (x4 + 1)) else ((f_M_stoveOf x4 h).bind fun v4 => (if v4 = 0 then (l_M_isApart_5 x1 x2 h k98 n 1 (x4 + 1)) else (ia_gd (ia_ib (72 + x4) 1120) ((f_M_steps x2 (ia_i h 422 ((72 + x4).toNatClampNeg)) h).bind fun v6 => (ia_gd (ia_ib ((ia_i h 417 15) + 1) 6528) (if v6 < (ia_i h 418 (((ia_i h 417 15) + 1).toNatClampNeg)) then (l_M_isApart_5 x1 x2 h k98 n 0 (x4 + 1)) else (l_M_isApart_5 x1 x2 h k98 n 1 (x4 + 1)))))))))))))))
theorem tl_M_isApart_5 {w : ia_O0} {d N1 W1 : Nat} {K : ia_K} (hK : ia_isK (d + 3) mm_M_isApart N1 W1 K) {x1 : Int32} {x2 : Int32} {h : ia_H} (hg : gd_ w h) {r : Int32} (hret : ∀ (pc : Nat) (lv : ia_L), ia_ret mm_M_isApart pc (some (.inl r)) → K pc lv ((some (.inl r)) : Option ia_V).toList h) {k98 : Int32 → Option Int32} (hk98 : ∀ (x3 : Int32), k98 x3 = some r → K 98 [none, none, none, some (.inl x3), none] [] h) : ∀ (n : Nat) (x3 : Int32) (x4 : Int32), l_M_isApart_5 x1 x2 h k98 n x3 x4 = some r → K 5 [some (.inr (.inr 417)), some (.inl x1), some (.inl x2), some (.inl x3), some (.inl x4)] [] h := by
  intro n
  induction n with
  | zero =>
    intro x3 x4 hm
    cases (show (none : Option Int32) = some _ from hm)
  | succ n ih =>
    intro x3 x4 hm
    rw [l_M_isApart_5] at hm
    obtain ⟨c1, hm⟩ := ia_gd_some hm
    refine ia_go hK ck_M_isApart_5 ⟨gk_12 hg pk_417, gr_12_0 hg pk_417, gk_12 hg pk_417, ga_i100 hg (ka_12_0 pk_417) c1, fun c => ?_, fun c => ?_⟩
    · replace hm := ia_ifp hm c
      show K 98 [some (.inr (.inr 417)), some (.inl x1), some (.inl x2), some (.inl x3), some (.inl x4)] [] h
      refine ia_fg hK (lv' := [none, none, none, some (.inl x3), none]) ⟨rfl, trivial⟩ ?_
      exact hk98 x3 hm
    · replace hm := ia_ifn hm c
      show K 21 [some (.inr (.inr 417)), some (.inl x1), some (.inl x2), some (.inl x3), some (.inl x4)] [] h
      refine ia_go hK ck_M_isApart_21 ⟨fun c => ?_, fun c => ?_⟩
      · replace hm := ia_ifp hm c
        show K 90 [some (.inr (.inr 417)), some (.inl x1), some (.inl x2), some (.inl x3), some (.inl x4)] [] h
        refine ia_go hK ck_M_isApart_90 ?_
        show K 5 [some (.inr (.inr 417)), some (.inl x1), some (.inl x2), some (.inl 0), some (.inl (x4 + 1))] [] h
        exact ih 0 (x4 + 1) hm
      · replace hm := ia_ifn hm c
        show K 25 [some (.inr (.inr 417)), some (.inl x1), some (.inl x2), some (.inl x3), some (.inl x4)] [] h
        refine ia_go hK ck_M_isApart_25 ⟨fun c => ?_, fun c => ?_⟩
        · replace hm := ia_ifp hm c
          show K 86 [some (.inr (.inr 417)), some (.inl x1), some (.inl x2), some (.inl x3), some (.inl x4)] [] h
          refine ia_go hK ck_M_isApart_86 ?_
          show K 91 [some (.inr (.inr 417)), some (.inl x1), some (.inl x2), some (.inl x3), some (.inl x4)] [.inl 1] h
          refine ia_go hK ck_M_isApart_91 ?_
          show K 5 [some (.inr (.inr 417)), some (.inl x1), some (.inl x2), some (.inl 1), some (.inl (x4 + 1))] [] h
          exact ih 1 (x4 + 1) hm
        · replace hm := ia_ifn hm c
          show K 31 [some (.inr (.inr 417)), some (.inl x1), some (.inl x2), some (.inl x3), some (.inl x4)] [] h
          refine ia_go hK ck_M_isApart_31 ?_
          show K 34 [some (.inr (.inr 417)), some (.inl x1), some (.inl x2), some (.inl x3), some (.inl x4)] [.inl x4, .inr (.inr 417)] h
          obtain ⟨v2, hv2, hm⟩ := ia_bnd hm
          have ev2 := t_M_stands (d + 0) hg hv2
          refine ia_cV hK mk_M_stands lk_12_222 dc_M_isApart_34 417 [.inl x4] [] rfl rfl (Nat.le_of_ble_eq_true rfl) (by decide) rfl (gk_12 hg pk_417) ev2 ⟨rfl, rfl⟩ ?_
          show K 37 [some (.inr (.inr 417)), some (.inl x1), some (.inl x2), some (.inl x3), some (.inl x4)] [.inl v2] h
          refine ia_go hK ck_M_isApart_37 ⟨fun c => ?_, fun c => ?_⟩
          · replace hm := ia_ifp hm c
            show K 86 [some (.inr (.inr 417)), some (.inl x1), some (.inl x2), some (.inl x3), some (.inl x4)] [] h
            refine ia_go hK ck_M_isApart_86 ?_
            show K 91 [some (.inr (.inr 417)), some (.inl x1), some (.inl x2), some (.inl x3), some (.inl x4)] [.inl 1] h
            refine ia_go hK ck_M_isApart_91 ?_
            show K 5 [some (.inr (.inr 417)), some (.inl x1), some (.inl x2), some (.inl 1), some (.inl (x4 + 1))] [] h
            exact ih 1 (x4 + 1) hm
          · replace hm := ia_ifn hm c
            show K 40 [some (.inr (.inr 417)), some (.inl x1), some (.inl x2), some (.inl x3), some (.inl x4)] [] h
            refine ia_go hK ck_M_isApart_40 ?_
            show K 42 [some (.inr (.inr 417)), some (.inl x1), some (.inl x2), some (.inl x3), some (.inl x4)] [.inl x1, .inr (.inr 417)] h
            obtain ⟨v3, hv3, hm⟩ := ia_bnd hm
            have ev3 := t_M_stoveOf (d + 1) hg hv3
            refine ia_cV hK mk_M_stoveOf lk_12_237 dc_M_isApart_42 417 [.inl x1] [] rfl rfl (Nat.le_of_ble_eq_true rfl) (by decide) rfl (gk_12 hg pk_417) ev3 ⟨rfl, rfl⟩ ?_
            show K 45 [some (.inr (.inr 417)), some (.inl x1), some (.inl x2), some (.inl x3), some (.inl x4)] [.inl v3] h
            refine ia_go hK ck_M_isApart_45 ⟨fun c => ?_, fun c => ?_⟩
            · replace hm := ia_ifp hm c
              show K 86 [some (.inr (.inr 417)), some (.inl x1), some (.inl x2), some (.inl x3), some (.inl x4)] [] h
              refine ia_go hK ck_M_isApart_86 ?_
              show K 91 [some (.inr (.inr 417)), some (.inl x1), some (.inl x2), some (.inl x3), some (.inl x4)] [.inl 1] h
              refine ia_go hK ck_M_isApart_91 ?_
              show K 5 [some (.inr (.inr 417)), some (.inl x1), some (.inl x2), some (.inl 1), some (.inl (x4 + 1))] [] h
              exact ih 1 (x4 + 1) hm
            · replace hm := ia_ifn hm c
              show K 48 [some (.inr (.inr 417)), some (.inl x1), some (.inl x2), some (.inl x3), some (.inl x4)] [] h
              refine ia_go hK ck_M_isApart_48 ?_
              show K 51 [some (.inr (.inr 417)), some (.inl x1), some (.inl x2), some (.inl x3), some (.inl x4)] [.inl x4, .inr (.inr 417)] h
              obtain ⟨v4, hv4, hm⟩ := ia_bnd hm
              have ev4 := t_M_stoveOf (d + 1) hg hv4
              refine ia_cV hK mk_M_stoveOf lk_12_237 dc_M_isApart_51 417 [.inl x4] [] rfl rfl (Nat.le_of_ble_eq_true rfl) (by decide) rfl (gk_12 hg pk_417) ev4 ⟨rfl, rfl⟩ ?_
              show K 54 [some (.inr (.inr 417)), some (.inl x1), some (.inl x2), some (.inl x3), some (.inl x4)] [.inl v4] h
              refine ia_go hK ck_M_isApart_54 ⟨fun c => ?_, fun c => ?_⟩
              · replace hm := ia_ifp hm c
                show K 86 [some (.inr (.inr 417)), some (.inl x1), some (.inl x2), some (.inl x3), some (.inl x4)] [] h
                refine ia_go hK ck_M_isApart_86 ?_
                show K 91 [some (.inr (.inr 417)), some (.inl x1), some (.inl x2), some (.inl x3), some (.inl x4)] [.inl 1] h
                refine ia_go hK ck_M_isApart_91 ?_
                show K 5 [some (.inr (.inr 417)), some (.inl x1), some (.inl x2), some (.inl 1), some (.inl (x4 + 1))] [] h
                exact ih 1 (x4 + 1) hm
              · replace hm := ia_ifn hm c
                show K 57 [some (.inr (.inr 417)), some (.inl x1), some (.inl x2), some (.inl x3), some (.inl x4)] [] h
                obtain ⟨c5, hm⟩ := ia_gd_some hm
                refine ia_go hK ck_M_isApart_57 ⟨gk_12 hg pk_417, gr_12_13 hg pk_417, ga_i100 hg (ka_12_13 pk_417) c5, ?_⟩
                show K 69 [some (.inr (.inr 417)), some (.inl x1), some (.inl x2), some (.inl x3), some (.inl x4)] [.inl (ia_i h 422 ((72 + x4).toNatClampNeg)), .inl x2, .inr (.inr 417)] h
                obtain ⟨v6, hv6, hm⟩ := ia_bnd hm
                have ev6 := t_M_steps (d + 1) hg hv6
                refine ia_cV hK mk_M_steps lk_12_275 dc_M_isApart_69 417 [.inl x2, .inl (ia_i h 422 ((72 + x4).toNatClampNeg))] [] rfl rfl (Nat.le_of_ble_eq_true rfl) (by decide) rfl (gk_12 hg pk_417) ev6 ⟨rfl, rfl⟩ ?_
                show K 72 [some (.inr (.inr 417)), some (.inl x1), some (.inl x2), some (.inl x3), some (.inl x4)] [.inl v6] h
                obtain ⟨c7, hm⟩ := ia_gd_some hm
                refine ia_go hK ck_M_isApart_72 ⟨gk_12 hg pk_417, gr_12_0 hg pk_417, gk_12 hg pk_417, ga_i100 hg (ka_12_0 pk_417) c7, fun c => ?_, fun c => ?_⟩
                · replace hm := ia_ifp hm c
                  show K 90 [some (.inr (.inr 417)), some (.inl x1), some (.inl x2), some (.inl x3), some (.inl x4)] [] h
                  refine ia_go hK ck_M_isApart_90 ?_
                  show K 5 [some (.inr (.inr 417)), some (.inl x1), some (.inl x2), some (.inl 0), some (.inl (x4 + 1))] [] h
                  exact ih 0 (x4 + 1) hm
                · replace hm := ia_ifn hm c
                  show K 86 [some (.inr (.inr 417)), some (.inl x1), some (.inl x2), some (.inl x3), some (.inl x4)] [] h
                  refine ia_go hK ck_M_isApart_86 ?_
                  show K 91 [some (.inr (.inr 417)), some (.inl x1), some (.inl x2), some (.inl x3), some (.inl x4)] [.inl 1] h
                  refine ia_go hK ck_M_isApart_91 ?_
                  show K 5 [some (.inr (.inr 417)), some (.inl x1), some (.inl x2), some (.inl 1), some (.inl (x4 + 1))] [] h
                  exact ih 1 (x4 + 1) hm
def f_M_isApart (x1 : Int32) (x2 : Int32) (h : ia_H) : Option Int32 := l_M_isApart_5 x1 x2 h (fun x3 => ia_gd (ia_z1 x3) (some x3)) fu_ 1 0
theorem t_M_isApart {w : ia_O0} (d : Nat) {x1 : Int32} {x2 : Int32} {h : ia_H} (hg : gd_ w h) {r : Int32} (hm : f_M_isApart x1 x2 h = some r) : ia_Ev (d + 3) mm_M_isApart [.inr (.inr 417), .inl x1, .inl x2] h (some (.inl r)) h := by
  refine ia_Ev_intro ok_M_isApart (Nat.le_refl _) (Nat.le_refl _) (Nat.le_of_ble_eq_true rfl) (fun K hK hret => ?_)
  show K 0 [some (.inr (.inr 417)), some (.inl x1), some (.inl x2), none, none] [] h
  unfold f_M_isApart at hm
  refine ia_go hK ck_M_isApart_0 ?_
  show K 5 [some (.inr (.inr 417)), some (.inl x1), some (.inl x2), some (.inl 1), some (.inl 0)] [] h
  refine tl_M_isApart_5 hK hg hret ?_ fu_ 1 0 hm
  · intro x3 hm
    refine ia_go hK ck_M_isApart_98 ?_
    show K 99 [none, none, none, some (.inl x3), none] [.inl x3] h
    obtain ⟨c8, hm⟩ := ia_gd_some hm
    obtain rfl := Option.some.inj hm
    exact hret 99 _ ⟨ia_z1_spec c8, dc_M_isApart_99⟩
def mm_M_enters : ia_M := (⟨"IceStreetModel", "enters", "(I)Z"⟩, prog_14_method_57_code, 2, (some .boolean), 12, false)
theorem ok_M_enters : ia_mok mm_M_enters := ⟨by decide +kernel, by decide +kernel, by decide +kernel, by decide +kernel⟩
theorem mk_M_enters : ia_mkn mm_M_enters 1 1 := ⟨ia_tb_in (List.mem_of_getElem? (i := 1963) (by decide +kernel)) rfl, ia_tb_in (List.mem_of_getElem? (i := 146) (by decide +kernel)) rfl, by decide +kernel, by decide +kernel, ⟨ia_tb_in (List.mem_of_getElem? (i := 1962) (by decide +kernel)) rfl, ia_tb_in (List.mem_of_getElem? (i := 94) (by decide +kernel)) rfl⟩⟩
theorem ck_M_enters_0 : ia_cks 12 2 false prog_14_method_57_code 0 [(.aload_n 0, 0, 0, 0, 0), (.getfield 36, 12, 21, 3, 7), (.iload_n 1, 0, 0, 0, 0), (.baload, 101, 0, 0, 0), (.ifCond .ne 62, 0, 0, 0, 0)] = true := by decide +kernel
theorem ck_M_enters_68 : ia_cks 12 2 false prog_14_method_57_code 68 [(.iconst 0, 0, 0, 0, 0)] = true := by decide +kernel
theorem ck_M_enters_9 : ia_cks 12 2 false prog_14_method_57_code 9 [(.aload_n 0, 0, 0, 0, 0), (.iload_n 1, 0, 0, 0, 0)] = true := by decide +kernel
theorem ck_M_enters_14 : ia_cks 12 2 false prog_14_method_57_code 14 [(.ifCond .ge 54, 0, 0, 0, 0)] = true := by decide +kernel
theorem ck_M_enters_17 : ia_cks 12 2 false prog_14_method_57_code 17 [(.aload_n 0, 0, 0, 0, 0), (.getfield 23, 12, 13, 3, 5), (.iload_n 1, 0, 0, 0, 0), (.iaload, 0, 0, 0, 0), (.aload_n 0, 0, 0, 0, 0), (.getfield 207, 12, 19, 0, 0), (.iadd, 0, 0, 0, 0), (.aload_n 0, 0, 0, 0, 0), (.getfield 7, 12, 0, 3, 1), (.aload_n 0, 0, 0, 0, 0), (.getfield 219, 12, 15, 0, 0), (.iconst 0, 0, 0, 0, 0), (.iadd, 0, 0, 0, 0), (.iaload, 0, 0, 0, 0), (.if_icmp .lt 29, 0, 0, 0, 0)] = true := by decide +kernel
theorem ck_M_enters_42 : ia_cks 12 2 false prog_14_method_57_code 42 [(.aload_n 0, 0, 0, 0, 0), (.iload_n 1, 0, 0, 0, 0)] = true := by decide +kernel
theorem ck_M_enters_47 : ia_cks 12 2 false prog_14_method_57_code 47 [(.aload_n 0, 0, 0, 0, 0), (.getfield 249, 12, 23, 0, 0), (.aload_n 0, 0, 0, 0, 0), (.iload_n 1, 0, 0, 0, 0), (.aload_n 0, 0, 0, 0, 0), (.getfield 252, 12, 24, 0, 0)] = true := by decide +kernel
theorem ck_M_enters_60 : ia_cks 12 2 false prog_14_method_57_code 60 [(.iadd, 0, 0, 0, 0), (.if_icmp .lt 7, 0, 0, 0, 0)] = true := by decide +kernel
theorem ck_M_enters_64 : ia_cks 12 2 false prog_14_method_57_code 64 [(.iconst 1, 0, 0, 0, 0), (.goto 4, 0, 0, 0, 0)] = true := by decide +kernel
theorem dc_M_enters_69 : decode prog_14_method_57_code 69 = .ok (.ireturn, 1) := by decide +kernel
theorem dc_M_enters_11 : decode prog_14_method_57_code 11 = .ok (.invokevirtual 210, 3) := by decide +kernel
theorem dc_M_enters_44 : decode prog_14_method_57_code 44 = .ok (.invokevirtual 228, 3) := by decide +kernel
theorem dc_M_enters_57 : decode prog_14_method_57_code 57 = .ok (.invokevirtual 225, 3) := by decide +kernel
def f_M_enters (x1 : Int32) (h : ia_H) : Option Int32 := ia_gd (ia_ib x1 36) (if (ia_i h 424 ((x1).toNatClampNeg)) = 0 then ((f_M_shopIn x1 h).bind fun v2 => (if 0 ≤ v2 then (some 0) else (ia_gd (ia_ib x1 1120) (ia_gd (ia_ib ((ia_i h 417 15) + 0) 6528) (if ((ia_i h 422 ((x1).toNatClampNeg)) + (ia_i h 417 19)) < (ia_i h 418 (((ia_i h 417 15) + 0).toNatClampNeg)) then (some 0) else ((f_M_bears x1 h).bind fun v5 => ((f_M_loadOf x1 (ia_i h 417 24) h).bind fun v6 => (if v5 < ((ia_i h 417 23) + v6) then (some 0) else (some 1))))))))) else (some 0))
theorem t_M_enters {w : ia_O0} (d : Nat) {x1 : Int32} {h : ia_H} (hg : gd_ w h) {r : Int32} (hm : f_M_enters x1 h = some r) : ia_Ev (d + 4) mm_M_enters [.inr (.inr 417), .inl x1] h (some (.inl r)) h := by
  refine ia_Ev_intro ok_M_enters (Nat.le_refl _) (Nat.le_refl _) (Nat.le_of_ble_eq_true rfl) (fun K hK hret => ?_)
  show K 0 [some (.inr (.inr 417)), some (.inl x1)] [] h
  unfold f_M_enters at hm
  obtain ⟨c1, hm⟩ := ia_gd_some hm
  refine ia_go hK ck_M_enters_0 ⟨gk_12 hg pk_417, gr_12_21 hg pk_417, ga_s101 hg (ka_12_21 pk_417) c1, fun c => ?_, fun c => ?_⟩
  · replace hm := ia_ifn hm c
    show K 68 [some (.inr (.inr 417)), some (.inl x1)] [] h
    refine ia_go hK ck_M_enters_68 ?_
    show K 69 [some (.inr (.inr 417)), some (.inl x1)] [.inl 0] h
    obtain rfl := Option.some.inj hm
    exact hret 69 _ ⟨Or.inl rfl, dc_M_enters_69⟩
  · replace hm := ia_ifp hm c
    show K 9 [some (.inr (.inr 417)), some (.inl x1)] [] h
    refine ia_go hK ck_M_enters_9 ?_
    show K 11 [some (.inr (.inr 417)), some (.inl x1)] [.inl x1, .inr (.inr 417)] h
    obtain ⟨v2, hv2, hm⟩ := ia_bnd hm
    have ev2 := t_M_shopIn (d + 3) hg hv2
    refine ia_cV hK mk_M_shopIn lk_12_210 dc_M_enters_11 417 [.inl x1] [] rfl rfl (Nat.le_of_ble_eq_true rfl) (by decide) rfl (gk_12 hg pk_417) ev2 ⟨rfl, rfl⟩ ?_
    show K 14 [some (.inr (.inr 417)), some (.inl x1)] [.inl v2] h
    refine ia_go hK ck_M_enters_14 ⟨fun c => ?_, fun c => ?_⟩
    · replace hm := ia_ifp hm c
      show K 68 [some (.inr (.inr 417)), some (.inl x1)] [] h
      refine ia_go hK ck_M_enters_68 ?_
      show K 69 [some (.inr (.inr 417)), some (.inl x1)] [.inl 0] h
      obtain rfl := Option.some.inj hm
      exact hret 69 _ ⟨Or.inl rfl, dc_M_enters_69⟩
    · replace hm := ia_ifn hm c
      show K 17 [some (.inr (.inr 417)), some (.inl x1)] [] h
      obtain ⟨c3, hm⟩ := ia_gd_some hm
      obtain ⟨c4, hm⟩ := ia_gd_some hm
      refine ia_go hK ck_M_enters_17 ⟨gk_12 hg pk_417, gr_12_13 hg pk_417, ga_i100 hg (ka_12_13 pk_417) c3, gk_12 hg pk_417, gk_12 hg pk_417, gr_12_0 hg pk_417, gk_12 hg pk_417, ga_i100 hg (ka_12_0 pk_417) c4, fun c => ?_, fun c => ?_⟩
      · replace hm := ia_ifp hm c
        show K 68 [some (.inr (.inr 417)), some (.inl x1)] [] h
        refine ia_go hK ck_M_enters_68 ?_
        show K 69 [some (.inr (.inr 417)), some (.inl x1)] [.inl 0] h
        obtain rfl := Option.some.inj hm
        exact hret 69 _ ⟨Or.inl rfl, dc_M_enters_69⟩
      · replace hm := ia_ifn hm c
        show K 42 [some (.inr (.inr 417)), some (.inl x1)] [] h
        refine ia_go hK ck_M_enters_42 ?_
        show K 44 [some (.inr (.inr 417)), some (.inl x1)] [.inl x1, .inr (.inr 417)] h
        obtain ⟨v5, hv5, hm⟩ := ia_bnd hm
        have ev5 := t_M_bears (d + 3) hg hv5
        refine ia_cV hK mk_M_bears lk_12_228 dc_M_enters_44 417 [.inl x1] [] rfl rfl (Nat.le_of_ble_eq_true rfl) (by decide) rfl (gk_12 hg pk_417) ev5 ⟨rfl, rfl⟩ ?_
        show K 47 [some (.inr (.inr 417)), some (.inl x1)] [.inl v5] h
        refine ia_go hK ck_M_enters_47 ⟨gk_12 hg pk_417, gk_12 hg pk_417, ?_⟩
        show K 57 [some (.inr (.inr 417)), some (.inl x1)] [.inl (ia_i h 417 24), .inl x1, .inr (.inr 417), .inl (ia_i h 417 23), .inl v5] h
        obtain ⟨v6, hv6, hm⟩ := ia_bnd hm
        have ev6 := t_M_loadOf (d + 0) hg hv6
        refine ia_cV hK mk_M_loadOf lk_12_225 dc_M_enters_57 417 [.inl x1, .inl (ia_i h 417 24)] [.inl (ia_i h 417 23), .inl v5] rfl rfl (Nat.le_of_ble_eq_true rfl) (by decide) rfl (gk_12 hg pk_417) ev6 ⟨rfl, rfl⟩ ?_
        show K 60 [some (.inr (.inr 417)), some (.inl x1)] [.inl v6, .inl (ia_i h 417 23), .inl v5] h
        refine ia_go hK ck_M_enters_60 ⟨fun c => ?_, fun c => ?_⟩
        · replace hm := ia_ifp hm c
          show K 68 [some (.inr (.inr 417)), some (.inl x1)] [] h
          refine ia_go hK ck_M_enters_68 ?_
          show K 69 [some (.inr (.inr 417)), some (.inl x1)] [.inl 0] h
          obtain rfl := Option.some.inj hm
          exact hret 69 _ ⟨Or.inl rfl, dc_M_enters_69⟩
        · replace hm := ia_ifn hm c
          show K 64 [some (.inr (.inr 417)), some (.inl x1)] [] h
          refine ia_go hK ck_M_enters_64 ?_
          show K 69 [some (.inr (.inr 417)), some (.inl x1)] [.inl 1] h
          obtain rfl := Option.some.inj hm
          exact hret 69 _ ⟨Or.inr rfl, dc_M_enters_69⟩
def mm_M_against : ia_M := (⟨"IceStreetModel", "against", "(II)I"⟩, prog_14_method_56_code, 5, (some .int), 12, false)
theorem ok_M_against : ia_mok mm_M_against := ⟨by decide +kernel, by decide +kernel, by decide +kernel, by decide +kernel⟩
theorem mk_M_against : ia_mkn mm_M_against 1 2 := ⟨ia_tb_in (List.mem_of_getElem? (i := 1967) (by decide +kernel)) rfl, ia_tb_in (List.mem_of_getElem? (i := 146) (by decide +kernel)) rfl, by decide +kernel, by decide +kernel, ⟨ia_tb_in (List.mem_of_getElem? (i := 1966) (by decide +kernel)) rfl, ia_tb_in (List.mem_of_getElem? (i := 95) (by decide +kernel)) rfl⟩⟩
theorem ck_M_against_0 : ia_cks 12 5 false prog_14_method_56_code 0 [(.iconst 0, 0, 0, 0, 0), (.istore_n 3, 0, 0, 0, 0), (.iconst 0, 0, 0, 0, 0), (.istore 4, 0, 0, 0, 0)] = true := by decide +kernel
theorem ck_M_against_5 : ia_cks 12 5 false prog_14_method_56_code 5 [(.iload 4, 0, 0, 0, 0), (.aload_n 0, 0, 0, 0, 0), (.getfield 7, 12, 0, 3, 1), (.aload_n 0, 0, 0, 0, 0), (.getfield 219, 12, 15, 0, 0), (.iconst 4, 0, 0, 0, 0), (.iadd, 0, 0, 0, 0), (.iaload, 0, 0, 0, 0), (.if_icmp .ge 61, 0, 0, 0, 0)] = true := by decide +kernel
theorem ck_M_against_21 : ia_cks 12 5 false prog_14_method_56_code 21 [(.iload_n 3, 0, 0, 0, 0), (.aload_n 0, 0, 0, 0, 0), (.getfield 7, 12, 0, 3, 1), (.aload_n 0, 0, 0, 0, 0), (.getfield 219, 12, 15, 0, 0), (.bipush 6, 0, 0, 0, 0), (.iadd, 0, 0, 0, 0), (.iconst 2, 0, 0, 0, 0), (.iload 4, 0, 0, 0, 0), (.imul, 0, 0, 0, 0), (.iadd, 0, 0, 0, 0), (.iaload, 0, 0, 0, 0), (.iload_n 2, 0, 0, 0, 0), (.if_icmp .ne 30, 0, 0, 0, 0)] = true := by decide +kernel
theorem ck_M_against_70 : ia_cks 12 5 false prog_14_method_56_code 70 [(.iconst 0, 0, 0, 0, 0)] = true := by decide +kernel
theorem ck_M_against_71 : ia_cks 12 5 false prog_14_method_56_code 71 [(.iadd, 0, 0, 0, 0), (.istore_n 3, 0, 0, 0, 0), (.iinc 4 1, 0, 0, 0, 0), (.goto (-71), 0, 0, 0, 0)] = true := by decide +kernel
theorem ck_M_against_43 : ia_cks 12 5 false prog_14_method_56_code 43 [(.aload_n 0, 0, 0, 0, 0), (.getfield 7, 12, 0, 3, 1), (.aload_n 0, 0, 0, 0, 0), (.getfield 219, 12, 15, 0, 0), (.bipush 6, 0, 0, 0, 0), (.iadd, 0, 0, 0, 0), (.iconst 2, 0, 0, 0, 0), (.iload 4, 0, 0, 0, 0), (.imul, 0, 0, 0, 0), (.iadd, 0, 0, 0, 0), (.iconst 1, 0, 0, 0, 0), (.iadd, 0, 0, 0, 0), (.iaload, 0, 0, 0, 0), (.iload_n 1, 0, 0, 0, 0), (.if_icmp .ne 7, 0, 0, 0, 0)] = true := by decide +kernel
theorem ck_M_against_66 : ia_cks 12 5 false prog_14_method_56_code 66 [(.iconst 1, 0, 0, 0, 0), (.goto 4, 0, 0, 0, 0)] = true := by decide +kernel
theorem ck_M_against_79 : ia_cks 12 5 false prog_14_method_56_code 79 [(.iload_n 3, 0, 0, 0, 0)] = true := by decide +kernel
theorem dc_M_against_80 : decode prog_14_method_56_code 80 = .ok (.ireturn, 1) := by decide +kernel
def j_M_against_71 (x1 : Int32) (x2 : Int32) (h : ia_H) (kr : Int32 → Int32 → Option Int32) (k79 : Int32 → Option Int32) (x4 : Int32) (s0 : Int32) (s1 : Int32) : Option Int32 := kr (s0 + s1) (x4 + 1)
theorem tj_M_against_71 {w : ia_O0} {d N1 W1 : Nat} {K : ia_K} (hK : ia_isK (d + 0) mm_M_against N1 W1 K) {x1 : Int32} {x2 : Int32} {h : ia_H} (hg : gd_ w h) {r : Int32} (hret : ∀ (pc : Nat) (lv : ia_L), ia_ret mm_M_against pc (some (.inl r)) → K pc lv ((some (.inl r)) : Option ia_V).toList h) {kr : Int32 → Int32 → Option Int32} {k79 : Int32 → Option Int32} (hkr : ∀ (x3 : Int32) (x4 : Int32), kr x3 x4 = some r → K 5 [some (.inr (.inr 417)), some (.inl x1), some (.inl x2), some (.inl x3), some (.inl x4)] [] h) (hk79 : ∀ (x3 : Int32), k79 x3 = some r → K 79 [none, none, none, some (.inl x3), none] [] h) : ∀ (x4 : Int32) (s0 : Int32) (s1 : Int32), j_M_against_71 x1 x2 h kr k79 x4 s0 s1 = some r → K 71 [some (.inr (.inr 417)), some (.inl x1), some (.inl x2), none, some (.inl x4)] [.inl s1, .inl s0] h := by
  intro x4 s0 s1 hm
  unfold j_M_against_71 at hm
  refine ia_go hK ck_M_against_71 ?_
  show K 5 [some (.inr (.inr 417)), some (.inl x1), some (.inl x2), some (.inl (s0 + s1)), some (.inl (x4 + 1))] [] h
  exact hkr (s0 + s1) (x4 + 1) hm
def l_M_against_5 (x1 : Int32) (x2 : Int32) (h : ia_H) (k79 : Int32 → Option Int32) (n : Nat) (x3 : Int32) (x4 : Int32) : Option Int32 := match n with
  | 0 => none
  | n + 1 => ia_gd (ia_ib ((ia_i h 417 15) + 4) 6528) (if (ia_i h 418 (((ia_i h 417 15) + 4).toNatClampNeg)) ≤ x4 then (k79 x3) else (ia_gd (ia_ib (((ia_i h 417 15) + 6) + (2 * x4)) 6528) (if (ia_i h 418 ((((ia_i h 417 15) + 6) + (2 * x4)).toNatClampNeg)) = x2 then (ia_gd (ia_ib ((((ia_i h 417 15) + 6) + (2 * x4)) + 1) 6528) (if (ia_i h 418 (((((ia_i h 417 15) + 6) + (2 * x4)) + 1).toNatClampNeg)) = x1 then (j_M_against_71 x1 x2 h (l_M_against_5 x1 x2 h k79 n) k79 x4 x3 1) else (j_M_against_71 x1 x2 h (l_M_against_5 x1 x2 h k79 n) k79 x4 x3 0))) else (j_M_against_71 x1 x2 h (l_M_against_5 x1 x2 h k79 n) k79 x4 x3 0))))
theorem tl_M_against_5 {w : ia_O0} {d N1 W1 : Nat} {K : ia_K} (hK : ia_isK (d + 0) mm_M_against N1 W1 K) {x1 : Int32} {x2 : Int32} {h : ia_H} (hg : gd_ w h) {r : Int32} (hret : ∀ (pc : Nat) (lv : ia_L), ia_ret mm_M_against pc (some (.inl r)) → K pc lv ((some (.inl r)) : Option ia_V).toList h) {k79 : Int32 → Option Int32} (hk79 : ∀ (x3 : Int32), k79 x3 = some r → K 79 [none, none, none, some (.inl x3), none] [] h) : ∀ (n : Nat) (x3 : Int32) (x4 : Int32), l_M_against_5 x1 x2 h k79 n x3 x4 = some r → K 5 [some (.inr (.inr 417)), some (.inl x1), some (.inl x2), some (.inl x3), some (.inl x4)] [] h := by
  intro n
  induction n with
  | zero =>
    intro x3 x4 hm
    cases (show (none : Option Int32) = some _ from hm)
  | succ n ih =>
    intro x3 x4 hm
    rw [l_M_against_5] at hm
    obtain ⟨c1, hm⟩ := ia_gd_some hm
    refine ia_go hK ck_M_against_5 ⟨gk_12 hg pk_417, gr_12_0 hg pk_417, gk_12 hg pk_417, ga_i100 hg (ka_12_0 pk_417) c1, fun c => ?_, fun c => ?_⟩
    · replace hm := ia_ifp hm c
      show K 79 [some (.inr (.inr 417)), some (.inl x1), some (.inl x2), some (.inl x3), some (.inl x4)] [] h
      refine ia_fg hK (lv' := [none, none, none, some (.inl x3), none]) ⟨rfl, trivial⟩ ?_
      exact hk79 x3 hm
    · replace hm := ia_ifn hm c
      show K 21 [some (.inr (.inr 417)), some (.inl x1), some (.inl x2), some (.inl x3), some (.inl x4)] [] h
      obtain ⟨c2, hm⟩ := ia_gd_some hm
      refine ia_go hK ck_M_against_21 ⟨gk_12 hg pk_417, gr_12_0 hg pk_417, gk_12 hg pk_417, ga_i100 hg (ka_12_0 pk_417) c2, fun c => ?_, fun c => ?_⟩
      · replace hm := ia_ifn hm c
        show K 70 [some (.inr (.inr 417)), some (.inl x1), some (.inl x2), some (.inl x3), some (.inl x4)] [.inl x3] h
        refine ia_go hK ck_M_against_70 ?_
        show K 71 [some (.inr (.inr 417)), some (.inl x1), some (.inl x2), some (.inl x3), some (.inl x4)] [.inl 0, .inl x3] h
        refine ia_fg hK (lv' := [some (.inr (.inr 417)), some (.inl x1), some (.inl x2), none, some (.inl x4)]) ⟨rfl, rfl, rfl, rfl, trivial⟩ ?_
        exact tj_M_against_71 hK hg hret ih hk79 x4 x3 0 hm
      · replace hm := ia_ifp hm c
        show K 43 [some (.inr (.inr 417)), some (.inl x1), some (.inl x2), some (.inl x3), some (.inl x4)] [.inl x3] h
        obtain ⟨c3, hm⟩ := ia_gd_some hm
        refine ia_go hK ck_M_against_43 ⟨gk_12 hg pk_417, gr_12_0 hg pk_417, gk_12 hg pk_417, ga_i100 hg (ka_12_0 pk_417) c3, fun c => ?_, fun c => ?_⟩
        · replace hm := ia_ifn hm c
          show K 70 [some (.inr (.inr 417)), some (.inl x1), some (.inl x2), some (.inl x3), some (.inl x4)] [.inl x3] h
          refine ia_go hK ck_M_against_70 ?_
          show K 71 [some (.inr (.inr 417)), some (.inl x1), some (.inl x2), some (.inl x3), some (.inl x4)] [.inl 0, .inl x3] h
          refine ia_fg hK (lv' := [some (.inr (.inr 417)), some (.inl x1), some (.inl x2), none, some (.inl x4)]) ⟨rfl, rfl, rfl, rfl, trivial⟩ ?_
          exact tj_M_against_71 hK hg hret ih hk79 x4 x3 0 hm
        · replace hm := ia_ifp hm c
          show K 66 [some (.inr (.inr 417)), some (.inl x1), some (.inl x2), some (.inl x3), some (.inl x4)] [.inl x3] h
          refine ia_go hK ck_M_against_66 ?_
          show K 71 [some (.inr (.inr 417)), some (.inl x1), some (.inl x2), some (.inl x3), some (.inl x4)] [.inl 1, .inl x3] h
          refine ia_fg hK (lv' := [some (.inr (.inr 417)), some (.inl x1), some (.inl x2), none, some (.inl x4)]) ⟨rfl, rfl, rfl, rfl, trivial⟩ ?_
          exact tj_M_against_71 hK hg hret ih hk79 x4 x3 1 hm
def f_M_against (x1 : Int32) (x2 : Int32) (h : ia_H) : Option Int32 := l_M_against_5 x1 x2 h (fun x3 => some x3) fu_ 0 0
theorem t_M_against {w : ia_O0} (d : Nat) {x1 : Int32} {x2 : Int32} {h : ia_H} (hg : gd_ w h) {r : Int32} (hm : f_M_against x1 x2 h = some r) : ia_Ev (d + 0) mm_M_against [.inr (.inr 417), .inl x1, .inl x2] h (some (.inl r)) h := by
  refine ia_Ev_intro ok_M_against (Nat.le_refl _) (Nat.le_refl _) (Nat.le_of_ble_eq_true rfl) (fun K hK hret => ?_)
  show K 0 [some (.inr (.inr 417)), some (.inl x1), some (.inl x2), none, none] [] h
  unfold f_M_against at hm
  refine ia_go hK ck_M_against_0 ?_
  show K 5 [some (.inr (.inr 417)), some (.inl x1), some (.inl x2), some (.inl 0), some (.inl 0)] [] h
  refine tl_M_against_5 hK hg hret ?_ fu_ 0 0 hm
  · intro x3 hm
    refine ia_go hK ck_M_against_79 ?_
    show K 80 [none, none, none, some (.inl x3), none] [.inl x3] h
    obtain rfl := Option.some.inj hm
    exact hret 80 _ dc_M_against_80
def mm_M_measures : ia_M := (⟨"IceStreetModel", "measures", "(IIII)V"⟩, prog_14_method_58_code, 10, none, 12, false)
theorem ok_M_measures : ia_mok mm_M_measures := ⟨by decide +kernel, by decide +kernel, by decide +kernel, by decide +kernel⟩
theorem mk_M_measures : ia_mkn mm_M_measures 1 4 := ⟨ia_tb_in (List.mem_of_getElem? (i := 1958) (by decide +kernel)) rfl, ia_tb_in (List.mem_of_getElem? (i := 146) (by decide +kernel)) rfl, by decide +kernel, by decide +kernel, ⟨ia_tb_in (List.mem_of_getElem? (i := 1957) (by decide +kernel)) rfl, ia_tb_in (List.mem_of_getElem? (i := 93) (by decide +kernel)) rfl⟩⟩
theorem ck_M_measures_0 : ia_cks 12 10 false prog_14_method_58_code 0 [(.aload_n 0, 0, 0, 0, 0), (.iload_n 2, 0, 0, 0, 0), (.putfield 249, 12, 23, 0, 0), (.aload_n 0, 0, 0, 0, 0), (.iload_n 3, 0, 0, 0, 0), (.putfield 252, 12, 24, 0, 0), (.iconst 0, 0, 0, 0, 0), (.istore 5, 0, 0, 0, 0)] = true := by decide +kernel
theorem ck_M_measures_13 : ia_cks 12 10 false prog_14_method_58_code 13 [(.iload 5, 0, 0, 0, 0), (.aload_n 0, 0, 0, 0, 0)] = true := by decide +kernel
theorem ck_M_measures_19 : ia_cks 12 10 false prog_14_method_58_code 19 [(.if_icmp .ge 41, 0, 0, 0, 0)] = true := by decide +kernel
theorem ck_M_measures_22 : ia_cks 12 10 false prog_14_method_58_code 22 [(.aload_n 0, 0, 0, 0, 0), (.getfield 39, 12, 22, 3, 8), (.iload 5, 0, 0, 0, 0), (.iload 5, 0, 0, 0, 0), (.iload_n 1, 0, 0, 0, 0), (.if_icmp .ne 7, 0, 0, 0, 0)] = true := by decide +kernel
theorem ck_M_measures_40 : ia_cks 12 10 false prog_14_method_58_code 40 [(.iastore, 0, 0, 0, 0), (.aload_n 0, 0, 0, 0, 0), (.getfield 42, 12, 25, 3, 9), (.iload 5, 0, 0, 0, 0), (.aload_n 0, 0, 0, 0, 0), (.iload 5, 0, 0, 0, 0)] = true := by decide +kernel
theorem ck_M_measures_53 : ia_cks 12 10 false prog_14_method_58_code 53 [(.bastore, 101, 0, 0, 0), (.iinc 5 1, 0, 0, 0, 0), (.goto (-44), 0, 0, 0, 0)] = true := by decide +kernel
theorem ck_M_measures_34 : ia_cks 12 10 false prog_14_method_58_code 34 [(.iconst 0, 0, 0, 0, 0), (.goto 5, 0, 0, 0, 0)] = true := by decide +kernel
theorem ck_M_measures_60 : ia_cks 12 10 false prog_14_method_58_code 60 [(.aload_n 0, 0, 0, 0, 0), (.getfield 42, 12, 25, 3, 9), (.iload_n 1, 0, 0, 0, 0), (.baload, 101, 0, 0, 0), (.istore 5, 0, 0, 0, 0)] = true := by decide +kernel
theorem ck_M_measures_68 : ia_cks 12 10 false prog_14_method_58_code 68 [(.iload 5, 0, 0, 0, 0), (.ifCond .eq 172, 0, 0, 0, 0)] = true := by decide +kernel
theorem ck_M_measures_73 : ia_cks 12 10 false prog_14_method_58_code 73 [(.iconst 0, 0, 0, 0, 0), (.istore 5, 0, 0, 0, 0), (.iconst 0, 0, 0, 0, 0), (.istore 6, 0, 0, 0, 0)] = true := by decide +kernel
theorem ck_M_measures_79 : ia_cks 12 10 false prog_14_method_58_code 79 [(.iload 6, 0, 0, 0, 0), (.aload_n 0, 0, 0, 0, 0)] = true := by decide +kernel
theorem ck_M_measures_85 : ia_cks 12 10 false prog_14_method_58_code 85 [(.if_icmp .ge 154, 0, 0, 0, 0)] = true := by decide +kernel
theorem ck_M_measures_88 : ia_cks 12 10 false prog_14_method_58_code 88 [(.iconst 0, 0, 0, 0, 0), (.istore 7, 0, 0, 0, 0)] = true := by decide +kernel
theorem ck_M_measures_91 : ia_cks 12 10 false prog_14_method_58_code 91 [(.iload 7, 0, 0, 0, 0), (.iconst 4, 0, 0, 0, 0), (.if_icmp .ge 139, 0, 0, 0, 0)] = true := by decide +kernel
theorem ck_M_measures_97 : ia_cks 12 10 false prog_14_method_58_code 97 [(.aload_n 0, 0, 0, 0, 0), (.aload_n 0, 0, 0, 0, 0), (.getfield 201, 12, 14, 0, 0), (.iload 6, 0, 0, 0, 0), (.iload 7, 0, 0, 0, 0)] = true := by decide +kernel
theorem ck_M_measures_109 : ia_cks 12 10 false prog_14_method_58_code 109 [(.istore 8, 0, 0, 0, 0), (.iload 8, 0, 0, 0, 0), (.ifCond .lt 114, 0, 0, 0, 0)] = true := by decide +kernel
theorem ck_M_measures_227 : ia_cks 12 10 false prog_14_method_58_code 227 [(.iinc 7 1, 0, 0, 0, 0), (.goto (-139), 0, 0, 0, 0)] = true := by decide +kernel
theorem ck_M_measures_116 : ia_cks 12 10 false prog_14_method_58_code 116 [(.aload_n 0, 0, 0, 0, 0), (.getfield 42, 12, 25, 3, 9), (.iload 8, 0, 0, 0, 0), (.baload, 101, 0, 0, 0), (.ifCond .eq 104, 0, 0, 0, 0)] = true := by decide +kernel
theorem ck_M_measures_126 : ia_cks 12 10 false prog_14_method_58_code 126 [(.aload_n 0, 0, 0, 0, 0), (.getfield 39, 12, 22, 3, 8), (.iload 8, 0, 0, 0, 0), (.iaload, 0, 0, 0, 0)] = true := by decide +kernel
theorem ck_M_measures_135 : ia_cks 12 10 false prog_14_method_58_code 135 [(.if_icmp .lt 6, 0, 0, 0, 0)] = true := by decide +kernel
theorem ck_M_measures_141 : ia_cks 12 10 false prog_14_method_58_code 141 [(.iload 4, 0, 0, 0, 0), (.ifCond .ne 23, 0, 0, 0, 0)] = true := by decide +kernel
theorem ck_M_measures_166 : ia_cks 12 10 false prog_14_method_58_code 166 [(.aload_n 0, 0, 0, 0, 0), (.iload 6, 0, 0, 0, 0), (.iload 8, 0, 0, 0, 0)] = true := by decide +kernel
theorem ck_M_measures_174 : ia_cks 12 10 false prog_14_method_58_code 174 [(.ifCond .le 7, 0, 0, 0, 0)] = true := by decide +kernel
theorem ck_M_measures_181 : ia_cks 12 10 false prog_14_method_58_code 181 [(.iconst 0, 0, 0, 0, 0)] = true := by decide +kernel
theorem ck_M_measures_182 : ia_cks 12 10 false prog_14_method_58_code 182 [(.istore 9, 0, 0, 0, 0), (.aload_n 0, 0, 0, 0, 0), (.getfield 39, 12, 22, 3, 8), (.iload 8, 0, 0, 0, 0), (.iaload, 0, 0, 0, 0), (.iload 9, 0, 0, 0, 0), (.iadd, 0, 0, 0, 0), (.aload_n 0, 0, 0, 0, 0), (.getfield 39, 12, 22, 3, 8), (.iload 6, 0, 0, 0, 0), (.iaload, 0, 0, 0, 0), (.if_icmp .lt 6, 0, 0, 0, 0)] = true := by decide +kernel
theorem ck_M_measures_207 : ia_cks 12 10 false prog_14_method_58_code 207 [(.aload_n 0, 0, 0, 0, 0), (.getfield 39, 12, 22, 3, 8), (.iload 6, 0, 0, 0, 0), (.aload_n 0, 0, 0, 0, 0), (.getfield 39, 12, 22, 3, 8), (.iload 8, 0, 0, 0, 0), (.iaload, 0, 0, 0, 0), (.iload 9, 0, 0, 0, 0), (.iadd, 0, 0, 0, 0), (.iastore, 0, 0, 0, 0), (.iconst 1, 0, 0, 0, 0), (.istore 5, 0, 0, 0, 0), (.iinc 7 1, 0, 0, 0, 0), (.goto (-139), 0, 0, 0, 0)] = true := by decide +kernel
theorem ck_M_measures_204 : ia_cks 12 10 false prog_14_method_58_code 204 [(.goto 23, 0, 0, 0, 0)] = true := by decide +kernel
theorem ck_M_measures_177 : ia_cks 12 10 false prog_14_method_58_code 177 [(.iconst 1, 0, 0, 0, 0), (.goto 4, 0, 0, 0, 0)] = true := by decide +kernel
theorem ck_M_measures_146 : ia_cks 12 10 false prog_14_method_58_code 146 [(.aload_n 0, 0, 0, 0, 0), (.iload 6, 0, 0, 0, 0), (.iload 8, 0, 0, 0, 0)] = true := by decide +kernel
theorem ck_M_measures_154 : ia_cks 12 10 false prog_14_method_58_code 154 [(.ifCond .le 8, 0, 0, 0, 0)] = true := by decide +kernel
theorem ck_M_measures_162 : ia_cks 12 10 false prog_14_method_58_code 162 [(.iconst 1, 0, 0, 0, 0), (.goto 19, 0, 0, 0, 0)] = true := by decide +kernel
theorem ck_M_measures_159 : ia_cks 12 10 false prog_14_method_58_code 159 [(.goto 23, 0, 0, 0, 0)] = true := by decide +kernel
theorem ck_M_measures_138 : ia_cks 12 10 false prog_14_method_58_code 138 [(.goto 89, 0, 0, 0, 0)] = true := by decide +kernel
theorem ck_M_measures_233 : ia_cks 12 10 false prog_14_method_58_code 233 [(.iinc 6 1, 0, 0, 0, 0), (.goto (-157), 0, 0, 0, 0)] = true := by decide +kernel
theorem ck_M_measures_239 : ia_cks 12 10 false prog_14_method_58_code 239 [(.goto (-171), 0, 0, 0, 0)] = true := by decide +kernel
theorem dc_M_measures_16 : decode prog_14_method_58_code 16 = .ok (.invokevirtual 234, 3) := by decide +kernel
theorem dc_M_measures_38 : decode prog_14_method_58_code 38 = .ok (.ldc 255, 2) := by decide +kernel
theorem dc_M_measures_50 : decode prog_14_method_58_code 50 = .ok (.invokevirtual 256, 3) := by decide +kernel
theorem dc_M_measures_82 : decode prog_14_method_58_code 82 = .ok (.invokevirtual 234, 3) := by decide +kernel
theorem dc_M_measures_106 : decode prog_14_method_58_code 106 = .ok (.invokevirtual 186, 3) := by decide +kernel
theorem dc_M_measures_133 : decode prog_14_method_58_code 133 = .ok (.ldc 255, 2) := by decide +kernel
theorem dc_M_measures_171 : decode prog_14_method_58_code 171 = .ok (.invokevirtual 259, 3) := by decide +kernel
theorem dc_M_measures_151 : decode prog_14_method_58_code 151 = .ok (.invokevirtual 259, 3) := by decide +kernel
theorem dc_M_measures_157 : decode prog_14_method_58_code 157 = .ok (.ldc 255, 2) := by decide +kernel
theorem dc_M_measures_242 : decode prog_14_method_58_code 242 = .ok (.return_, 1) := by decide +kernel
def j_M_measures_40 (x1 : Int32) (x2 : Int32) (x3 : Int32) (x4 : Int32) (kr : Int32 → ia_H → Option ia_H) (k60 : ia_H → Option ia_H) (x5 : Int32) (b0 : Nat) (s1 : Int32) (s2 : Int32) (h : ia_H) : Option ia_H := ia_gd (ia_ib s1 36) ((f_M_enters x5 (ia_wI h b0 ((s1).toNatClampNeg) s2)).bind fun v3 => (ia_gd (ia_ib x5 36) (kr (x5 + 1) (ia_wI (ia_wI h b0 ((s1).toNatClampNeg) s2) 426 ((x5).toNatClampNeg) (vp_nar .boolean v3)))))
theorem tj_M_measures_40 {w : ia_O0} {d N1 W1 : Nat} {K : ia_K} (hK : ia_isK (d + 5) mm_M_measures N1 W1 K) {x1 : Int32} {x2 : Int32} {x3 : Int32} {x4 : Int32} {h1 : ia_H} (hret : ∀ (pc : Nat) (lv : ia_L), ia_ret mm_M_measures pc none → K pc lv (none : Option ia_V).toList h1) {kr : Int32 → ia_H → Option ia_H} {k60 : ia_H → Option ia_H} (hkr : ∀ (x5 : Int32) (h : ia_H), gd_ w h → kr x5 h = some h1 → K 13 [some (.inr (.inr 417)), some (.inl x1), none, none, some (.inl x4), some (.inl x5), none, none, none, none] [] h) (hk60 : ∀ (h : ia_H), gd_ w h → k60 h = some h1 → K 60 [some (.inr (.inr 417)), some (.inl x1), none, none, some (.inl x4), none, none, none, none, none] [] h) : ∀ (x5 : Int32) (b0 : Nat) (s1 : Int32) (s2 : Int32) (h : ia_H), gd_ w h → kd_D b0 = (100, 36) → j_M_measures_40 x1 x2 x3 x4 kr k60 x5 b0 s1 s2 h = some h1 → K 40 [some (.inr (.inr 417)), some (.inl x1), none, none, some (.inl x4), some (.inl x5), none, none, none, none] [.inl s2, .inl s1, .inr (.inr b0)] h := by
  intro x5 b0 s1 s2 h hg q_b0 hm
  unfold j_M_measures_40 at hm
  obtain ⟨c2, hm⟩ := ia_gd_some hm
  refine ia_go hK ck_M_measures_40 ⟨ga_s100 hg q_b0 c2, gk_12 (gd_wI hg (kx_100 q_b0)) pk_417, gr_12_25 (gd_wI hg (kx_100 q_b0)) pk_417, ?_⟩
  show K 50 [some (.inr (.inr 417)), some (.inl x1), none, none, some (.inl x4), some (.inl x5), none, none, none, none] [.inl x5, .inr (.inr 417), .inl x5, .inr (.inr 426)] (ia_wI h b0 ((s1).toNatClampNeg) s2)
  obtain ⟨v3, hv3, hm⟩ := ia_bnd hm
  have ev3 := t_M_enters (d + 0) (gd_wI hg (kx_100 q_b0)) hv3
  refine ia_cV hK mk_M_enters lk_12_256 dc_M_measures_50 417 [.inl x5] [.inl x5, .inr (.inr 426)] rfl rfl (Nat.le_of_ble_eq_true rfl) (by decide) rfl (gk_12 (gd_wI hg (kx_100 q_b0)) pk_417) ev3 ⟨rfl, rfl⟩ ?_
  show K 53 [some (.inr (.inr 417)), some (.inl x1), none, none, some (.inl x4), some (.inl x5), none, none, none, none] [.inl v3, .inl x5, .inr (.inr 426)] (ia_wI h b0 ((s1).toNatClampNeg) s2)
  obtain ⟨c4, hm⟩ := ia_gd_some hm
  refine ia_go hK ck_M_measures_53 ⟨ga_s101 (gd_wI hg (kx_100 q_b0)) (ka_12_25 pk_417) c4, ?_⟩
  show K 13 [some (.inr (.inr 417)), some (.inl x1), none, none, some (.inl x4), some (.inl (x5 + 1)), none, none, none, none] [] (ia_wI (ia_wI h b0 ((s1).toNatClampNeg) s2) 426 ((x5).toNatClampNeg) (vp_nar .boolean v3))
  exact hkr (x5 + 1) (ia_wI (ia_wI h b0 ((s1).toNatClampNeg) s2) 426 ((x5).toNatClampNeg) (vp_nar .boolean v3)) (gd_wI (gd_wI hg (kx_100 q_b0)) (kx_101 (ka_12_25 pk_417))) hm
theorem gj_M_measures_40 {w : ia_O0} {x1 : Int32} {x2 : Int32} {x3 : Int32} {x4 : Int32} {h1 : ia_H} {kr : Int32 → ia_H → Option ia_H} {k60 : ia_H → Option ia_H} (hkr : ∀ (x5 : Int32) (h : ia_H), gd_ w h → kr x5 h = some h1 → gd_ w h1) (hk60 : ∀ (h : ia_H), gd_ w h → k60 h = some h1 → gd_ w h1) : ∀ (x5 : Int32) (b0 : Nat) (s1 : Int32) (s2 : Int32) (h : ia_H), gd_ w h → kd_D b0 = (100, 36) → j_M_measures_40 x1 x2 x3 x4 kr k60 x5 b0 s1 s2 h = some h1 → gd_ w h1 := by
  intro x5 b0 s1 s2 h hg q_b0 hm
  unfold j_M_measures_40 at hm
  obtain ⟨c2, hm⟩ := ia_gd_some hm
  obtain ⟨v3, hv3, hm⟩ := ia_bnd hm
  obtain ⟨c4, hm⟩ := ia_gd_some hm
  exact hkr (x5 + 1) (ia_wI (ia_wI h b0 ((s1).toNatClampNeg) s2) 426 ((x5).toNatClampNeg) (vp_nar .boolean v3)) (gd_wI (gd_wI hg (kx_100 q_b0)) (kx_101 (ka_12_25 pk_417))) hm
def l_M_measures_13 (x1 : Int32) (x2 : Int32) (x3 : Int32) (x4 : Int32) (k60 : ia_H → Option ia_H) (n : Nat) (x5 : Int32) (h : ia_H) : Option ia_H := match n with
  | 0 => none
  | n + 1 => (f_M_cells h).bind fun v1 => (if v1 ≤ x5 then (k60 h) else (if x5 = x1 then (j_M_measures_40 x1 x2 x3 x4 (l_M_measures_13 x1 x2 x3 x4 k60 n) k60 x5 425 x5 0 h) else (j_M_measures_40 x1 x2 x3 x4 (l_M_measures_13 x1 x2 x3 x4 k60 n) k60 x5 425 x5 1000000 h)))
theorem tl_M_measures_13 {w : ia_O0} {d N1 W1 : Nat} {K : ia_K} (hK : ia_isK (d + 5) mm_M_measures N1 W1 K) {x1 : Int32} {x2 : Int32} {x3 : Int32} {x4 : Int32} {h1 : ia_H} (hret : ∀ (pc : Nat) (lv : ia_L), ia_ret mm_M_measures pc none → K pc lv (none : Option ia_V).toList h1) {k60 : ia_H → Option ia_H} (hk60 : ∀ (h : ia_H), gd_ w h → k60 h = some h1 → K 60 [some (.inr (.inr 417)), some (.inl x1), none, none, some (.inl x4), none, none, none, none, none] [] h) : ∀ (n : Nat) (x5 : Int32) (h : ia_H), gd_ w h → l_M_measures_13 x1 x2 x3 x4 k60 n x5 h = some h1 → K 13 [some (.inr (.inr 417)), some (.inl x1), none, none, some (.inl x4), some (.inl x5), none, none, none, none] [] h := by
  intro n
  induction n with
  | zero =>
    intro x5 h hg hm
    cases (show (none : Option ia_H) = some _ from hm)
  | succ n ih =>
    intro x5 h hg hm
    rw [l_M_measures_13] at hm
    refine ia_go hK ck_M_measures_13 ?_
    show K 16 [some (.inr (.inr 417)), some (.inl x1), none, none, some (.inl x4), some (.inl x5), none, none, none, none] [.inr (.inr 417), .inl x5] h
    obtain ⟨v1, hv1, hm⟩ := ia_bnd hm
    have ev1 := t_M_cells (d + 4) hg hv1
    refine ia_cV hK mk_M_cells lk_12_234 dc_M_measures_16 417 [] [.inl x5] rfl rfl (Nat.le_of_ble_eq_true rfl) (by decide) rfl (gk_12 hg pk_417) ev1 ⟨rfl, rfl⟩ ?_
    show K 19 [some (.inr (.inr 417)), some (.inl x1), none, none, some (.inl x4), some (.inl x5), none, none, none, none] [.inl v1, .inl x5] h
    refine ia_go hK ck_M_measures_19 ⟨fun c => ?_, fun c => ?_⟩
    · replace hm := ia_ifp hm c
      show K 60 [some (.inr (.inr 417)), some (.inl x1), none, none, some (.inl x4), some (.inl x5), none, none, none, none] [] h
      refine ia_fg hK (lv' := [some (.inr (.inr 417)), some (.inl x1), none, none, some (.inl x4), none, none, none, none, none]) ⟨rfl, rfl, rfl, trivial⟩ ?_
      exact hk60 h hg hm
    · replace hm := ia_ifn hm c
      show K 22 [some (.inr (.inr 417)), some (.inl x1), none, none, some (.inl x4), some (.inl x5), none, none, none, none] [] h
      refine ia_go hK ck_M_measures_22 ⟨gk_12 hg pk_417, gr_12_22 hg pk_417, fun c => ?_, fun c => ?_⟩
      · replace hm := ia_ifn hm c
        show K 38 [some (.inr (.inr 417)), some (.inl x1), none, none, some (.inl x4), some (.inl x5), none, none, none, none] [.inl x5, .inr (.inr 425)] h
        refine ia_ldc hK (v := 1000000) (ia_tb_in (List.mem_of_getElem? (i := 1959) (by decide +kernel)) rfl) dc_M_measures_38 ?_
        show K 40 [some (.inr (.inr 417)), some (.inl x1), none, none, some (.inl x4), some (.inl x5), none, none, none, none] [.inl 1000000, .inl x5, .inr (.inr 425)] h
        exact tj_M_measures_40 hK hret ih hk60 x5 425 x5 1000000 h hg (ka_12_22 pk_417) hm
      · replace hm := ia_ifp hm c
        show K 34 [some (.inr (.inr 417)), some (.inl x1), none, none, some (.inl x4), some (.inl x5), none, none, none, none] [.inl x5, .inr (.inr 425)] h
        refine ia_go hK ck_M_measures_34 ?_
        show K 40 [some (.inr (.inr 417)), some (.inl x1), none, none, some (.inl x4), some (.inl x5), none, none, none, none] [.inl 0, .inl x5, .inr (.inr 425)] h
        exact tj_M_measures_40 hK hret ih hk60 x5 425 x5 0 h hg (ka_12_22 pk_417) hm
theorem gl_M_measures_13 {w : ia_O0} {x1 : Int32} {x2 : Int32} {x3 : Int32} {x4 : Int32} {h1 : ia_H} {k60 : ia_H → Option ia_H} (hk60 : ∀ (h : ia_H), gd_ w h → k60 h = some h1 → gd_ w h1) : ∀ (n : Nat) (x5 : Int32) (h : ia_H), gd_ w h → l_M_measures_13 x1 x2 x3 x4 k60 n x5 h = some h1 → gd_ w h1 := by
  intro n
  induction n with
  | zero =>
    intro x5 h hg hm
    cases (show (none : Option ia_H) = some _ from hm)
  | succ n ih =>
    intro x5 h hg hm
    rw [l_M_measures_13] at hm
    obtain ⟨v1, hv1, hm⟩ := ia_bnd hm
    by_cases c : v1 ≤ x5
    · replace hm := ia_ifp hm c
      exact hk60 h hg hm
    · replace hm := ia_ifn hm c
      by_cases c : x5 = x1
      · replace hm := ia_ifp hm c
        exact gj_M_measures_40 ih hk60 x5 425 x5 0 h hg (ka_12_22 pk_417) hm
      · replace hm := ia_ifn hm c
        exact gj_M_measures_40 ih hk60 x5 425 x5 1000000 h hg (ka_12_22 pk_417) hm
def j_M_measures_182 (x1 : Int32) (x2 : Int32) (x3 : Int32) (x4 : Int32) (kr : Int32 → Int32 → Int32 → ia_H → Option ia_H) (k233 : Int32 → Int32 → ia_H → Option ia_H) (x5 : Int32) (x6 : Int32) (x7 : Int32) (x8 : Int32) (s0 : Int32) (h : ia_H) : Option ia_H := ia_gd (ia_ib x8 36) (ia_gd (ia_ib x6 36) (if ((ia_i h 425 ((x8).toNatClampNeg)) + s0) < (ia_i h 425 ((x6).toNatClampNeg)) then (ia_gd (ia_ib x8 36) (ia_gd (ia_ib x6 36) (kr 1 x6 (x7 + 1) (ia_wI h 425 ((x6).toNatClampNeg) ((ia_i h 425 ((x8).toNatClampNeg)) + s0))))) else (kr x5 x6 (x7 + 1) h)))
theorem tj_M_measures_182 {w : ia_O0} {d N1 W1 : Nat} {K : ia_K} (hK : ia_isK (d + 5) mm_M_measures N1 W1 K) {x1 : Int32} {x2 : Int32} {x3 : Int32} {x4 : Int32} {h1 : ia_H} (hret : ∀ (pc : Nat) (lv : ia_L), ia_ret mm_M_measures pc none → K pc lv (none : Option ia_V).toList h1) {kr : Int32 → Int32 → Int32 → ia_H → Option ia_H} {k233 : Int32 → Int32 → ia_H → Option ia_H} (hkr : ∀ (x5 : Int32) (x6 : Int32) (x7 : Int32) (h : ia_H), gd_ w h → kr x5 x6 x7 h = some h1 → K 91 [some (.inr (.inr 417)), none, none, none, some (.inl x4), some (.inl x5), some (.inl x6), some (.inl x7), none, none] [] h) (hk233 : ∀ (x5 : Int32) (x6 : Int32) (h : ia_H), gd_ w h → k233 x5 x6 h = some h1 → K 233 [some (.inr (.inr 417)), none, none, none, some (.inl x4), some (.inl x5), some (.inl x6), none, none, none] [] h) : ∀ (x5 : Int32) (x6 : Int32) (x7 : Int32) (x8 : Int32) (s0 : Int32) (h : ia_H), gd_ w h → j_M_measures_182 x1 x2 x3 x4 kr k233 x5 x6 x7 x8 s0 h = some h1 → K 182 [some (.inr (.inr 417)), none, none, none, some (.inl x4), some (.inl x5), some (.inl x6), some (.inl x7), some (.inl x8), none] [.inl s0] h := by
  intro x5 x6 x7 x8 s0 h hg hm
  unfold j_M_measures_182 at hm
  obtain ⟨c11, hm⟩ := ia_gd_some hm
  obtain ⟨c12, hm⟩ := ia_gd_some hm
  refine ia_go hK ck_M_measures_182 ⟨gk_12 hg pk_417, gr_12_22 hg pk_417, ga_i100 hg (ka_12_22 pk_417) c11, gk_12 hg pk_417, gr_12_22 hg pk_417, ga_i100 hg (ka_12_22 pk_417) c12, fun c => ?_, fun c => ?_⟩
  · replace hm := ia_ifp hm c
    show K 207 [some (.inr (.inr 417)), none, none, none, some (.inl x4), some (.inl x5), some (.inl x6), some (.inl x7), some (.inl x8), some (.inl s0)] [] h
    obtain ⟨c13, hm⟩ := ia_gd_some hm
    obtain ⟨c14, hm⟩ := ia_gd_some hm
    refine ia_go hK ck_M_measures_207 ⟨gk_12 hg pk_417, gr_12_22 hg pk_417, gk_12 hg pk_417, gr_12_22 hg pk_417, ga_i100 hg (ka_12_22 pk_417) c13, ga_s100 hg (ka_12_22 pk_417) c14, ?_⟩
    show K 91 [some (.inr (.inr 417)), none, none, none, some (.inl x4), some (.inl 1), some (.inl x6), some (.inl (x7 + 1)), some (.inl x8), some (.inl s0)] [] (ia_wI h 425 ((x6).toNatClampNeg) ((ia_i h 425 ((x8).toNatClampNeg)) + s0))
    refine ia_fg hK (lv' := [some (.inr (.inr 417)), none, none, none, some (.inl x4), some (.inl 1), some (.inl x6), some (.inl (x7 + 1)), none, none]) ⟨rfl, rfl, rfl, rfl, rfl, trivial⟩ ?_
    exact hkr 1 x6 (x7 + 1) (ia_wI h 425 ((x6).toNatClampNeg) ((ia_i h 425 ((x8).toNatClampNeg)) + s0)) (gd_wI hg (kx_100 (ka_12_22 pk_417))) hm
  · replace hm := ia_ifn hm c
    show K 204 [some (.inr (.inr 417)), none, none, none, some (.inl x4), some (.inl x5), some (.inl x6), some (.inl x7), some (.inl x8), some (.inl s0)] [] h
    refine ia_go hK ck_M_measures_204 ?_
    show K 227 [some (.inr (.inr 417)), none, none, none, some (.inl x4), some (.inl x5), some (.inl x6), some (.inl x7), some (.inl x8), some (.inl s0)] [] h
    refine ia_go hK ck_M_measures_227 ?_
    show K 91 [some (.inr (.inr 417)), none, none, none, some (.inl x4), some (.inl x5), some (.inl x6), some (.inl (x7 + 1)), some (.inl x8), some (.inl s0)] [] h
    refine ia_fg hK (lv' := [some (.inr (.inr 417)), none, none, none, some (.inl x4), some (.inl x5), some (.inl x6), some (.inl (x7 + 1)), none, none]) ⟨rfl, rfl, rfl, rfl, rfl, trivial⟩ ?_
    exact hkr x5 x6 (x7 + 1) h hg hm
theorem gj_M_measures_182 {w : ia_O0} {x1 : Int32} {x2 : Int32} {x3 : Int32} {x4 : Int32} {h1 : ia_H} {kr : Int32 → Int32 → Int32 → ia_H → Option ia_H} {k233 : Int32 → Int32 → ia_H → Option ia_H} (hkr : ∀ (x5 : Int32) (x6 : Int32) (x7 : Int32) (h : ia_H), gd_ w h → kr x5 x6 x7 h = some h1 → gd_ w h1) (hk233 : ∀ (x5 : Int32) (x6 : Int32) (h : ia_H), gd_ w h → k233 x5 x6 h = some h1 → gd_ w h1) : ∀ (x5 : Int32) (x6 : Int32) (x7 : Int32) (x8 : Int32) (s0 : Int32) (h : ia_H), gd_ w h → j_M_measures_182 x1 x2 x3 x4 kr k233 x5 x6 x7 x8 s0 h = some h1 → gd_ w h1 := by
  intro x5 x6 x7 x8 s0 h hg hm
  unfold j_M_measures_182 at hm
  obtain ⟨c11, hm⟩ := ia_gd_some hm
  obtain ⟨c12, hm⟩ := ia_gd_some hm
  by_cases c : ((ia_i h 425 ((x8).toNatClampNeg)) + s0) < (ia_i h 425 ((x6).toNatClampNeg))
  · replace hm := ia_ifp hm c
    obtain ⟨c13, hm⟩ := ia_gd_some hm
    obtain ⟨c14, hm⟩ := ia_gd_some hm
    exact hkr 1 x6 (x7 + 1) (ia_wI h 425 ((x6).toNatClampNeg) ((ia_i h 425 ((x8).toNatClampNeg)) + s0)) (gd_wI hg (kx_100 (ka_12_22 pk_417))) hm
  · replace hm := ia_ifn hm c
    exact hkr x5 x6 (x7 + 1) h hg hm
def l_M_measures_91 (x1 : Int32) (x2 : Int32) (x3 : Int32) (x4 : Int32) (k233 : Int32 → Int32 → ia_H → Option ia_H) (n : Nat) (x5 : Int32) (x6 : Int32) (x7 : Int32) (h : ia_H) : Option ia_H := match n with
  | 0 => none
  | n + 1 => if 4 ≤ x7 then (k233 x5 x6 h) else ((f_M_beside (ia_i h 417 14) x6 x7 h).bind fun v7 => (if v7 < 0 then (l_M_measures_91 x1 x2 x3 x4 k233 n x5 x6 (x7 + 1) h) else (ia_gd (ia_ib v7 36) (if (ia_i h 426 ((v7).toNatClampNeg)) = 0 then (l_M_measures_91 x1 x2 x3 x4 k233 n x5 x6 (x7 + 1) h) else (ia_gd (ia_ib v7 36) (if (ia_i h 425 ((v7).toNatClampNeg)) < 1000000 then (if x4 = 0 then ((f_M_against x6 v7 h).bind fun v15 => (if v15 ≤ 0 then (j_M_measures_182 x1 x2 x3 x4 (l_M_measures_91 x1 x2 x3 x4 k233 n) k233 x5 x6 x7 v7 1 h) else (j_M_measures_182 x1 x2 x3 x4 (l_M_measures_91 x1 x2 x3 x4 k233 n) k233 x5 x6 x7 v7 1000000 h))) else ((f_M_against x6 v7 h).bind fun v10 => (if v10 ≤ 0 then (j_M_measures_182 x1 x2 x3 x4 (l_M_measures_91 x1 x2 x3 x4 k233 n) k233 x5 x6 x7 v7 0 h) else (j_M_measures_182 x1 x2 x3 x4 (l_M_measures_91 x1 x2 x3 x4 k233 n) k233 x5 x6 x7 v7 1 h)))) else (l_M_measures_91 x1 x2 x3 x4 k233 n x5 x6 (x7 + 1) h)))))))
theorem tl_M_measures_91 {w : ia_O0} {d N1 W1 : Nat} {K : ia_K} (hK : ia_isK (d + 5) mm_M_measures N1 W1 K) {x1 : Int32} {x2 : Int32} {x3 : Int32} {x4 : Int32} {h1 : ia_H} (hret : ∀ (pc : Nat) (lv : ia_L), ia_ret mm_M_measures pc none → K pc lv (none : Option ia_V).toList h1) {k233 : Int32 → Int32 → ia_H → Option ia_H} (hk233 : ∀ (x5 : Int32) (x6 : Int32) (h : ia_H), gd_ w h → k233 x5 x6 h = some h1 → K 233 [some (.inr (.inr 417)), none, none, none, some (.inl x4), some (.inl x5), some (.inl x6), none, none, none] [] h) : ∀ (n : Nat) (x5 : Int32) (x6 : Int32) (x7 : Int32) (h : ia_H), gd_ w h → l_M_measures_91 x1 x2 x3 x4 k233 n x5 x6 x7 h = some h1 → K 91 [some (.inr (.inr 417)), none, none, none, some (.inl x4), some (.inl x5), some (.inl x6), some (.inl x7), none, none] [] h := by
  intro n
  induction n with
  | zero =>
    intro x5 x6 x7 h hg hm
    cases (show (none : Option ia_H) = some _ from hm)
  | succ n ih =>
    intro x5 x6 x7 h hg hm
    rw [l_M_measures_91] at hm
    refine ia_go hK ck_M_measures_91 ⟨fun c => ?_, fun c => ?_⟩
    · replace hm := ia_ifp hm c
      show K 233 [some (.inr (.inr 417)), none, none, none, some (.inl x4), some (.inl x5), some (.inl x6), some (.inl x7), none, none] [] h
      refine ia_fg hK (lv' := [some (.inr (.inr 417)), none, none, none, some (.inl x4), some (.inl x5), some (.inl x6), none, none, none]) ⟨rfl, rfl, rfl, rfl, trivial⟩ ?_
      exact hk233 x5 x6 h hg hm
    · replace hm := ia_ifn hm c
      show K 97 [some (.inr (.inr 417)), none, none, none, some (.inl x4), some (.inl x5), some (.inl x6), some (.inl x7), none, none] [] h
      refine ia_go hK ck_M_measures_97 ⟨gk_12 hg pk_417, ?_⟩
      show K 106 [some (.inr (.inr 417)), none, none, none, some (.inl x4), some (.inl x5), some (.inl x6), some (.inl x7), none, none] [.inl x7, .inl x6, .inl (ia_i h 417 14), .inr (.inr 417)] h
      obtain ⟨v7, hv7, hm⟩ := ia_bnd hm
      have ev7 := t_M_beside (d + 4) hg hv7
      refine ia_cV hK mk_M_beside lk_12_186 dc_M_measures_106 417 [.inl (ia_i h 417 14), .inl x6, .inl x7] [] rfl rfl (Nat.le_of_ble_eq_true rfl) (by decide) rfl (gk_12 hg pk_417) ev7 ⟨rfl, rfl⟩ ?_
      show K 109 [some (.inr (.inr 417)), none, none, none, some (.inl x4), some (.inl x5), some (.inl x6), some (.inl x7), none, none] [.inl v7] h
      refine ia_go hK ck_M_measures_109 ⟨fun c => ?_, fun c => ?_⟩
      · replace hm := ia_ifp hm c
        show K 227 [some (.inr (.inr 417)), none, none, none, some (.inl x4), some (.inl x5), some (.inl x6), some (.inl x7), some (.inl v7), none] [] h
        refine ia_go hK ck_M_measures_227 ?_
        show K 91 [some (.inr (.inr 417)), none, none, none, some (.inl x4), some (.inl x5), some (.inl x6), some (.inl (x7 + 1)), some (.inl v7), none] [] h
        refine ia_fg hK (lv' := [some (.inr (.inr 417)), none, none, none, some (.inl x4), some (.inl x5), some (.inl x6), some (.inl (x7 + 1)), none, none]) ⟨rfl, rfl, rfl, rfl, rfl, trivial⟩ ?_
        exact ih x5 x6 (x7 + 1) h hg hm
      · replace hm := ia_ifn hm c
        show K 116 [some (.inr (.inr 417)), none, none, none, some (.inl x4), some (.inl x5), some (.inl x6), some (.inl x7), some (.inl v7), none] [] h
        obtain ⟨c8, hm⟩ := ia_gd_some hm
        refine ia_go hK ck_M_measures_116 ⟨gk_12 hg pk_417, gr_12_25 hg pk_417, ga_s101 hg (ka_12_25 pk_417) c8, fun c => ?_, fun c => ?_⟩
        · replace hm := ia_ifp hm c
          show K 227 [some (.inr (.inr 417)), none, none, none, some (.inl x4), some (.inl x5), some (.inl x6), some (.inl x7), some (.inl v7), none] [] h
          refine ia_go hK ck_M_measures_227 ?_
          show K 91 [some (.inr (.inr 417)), none, none, none, some (.inl x4), some (.inl x5), some (.inl x6), some (.inl (x7 + 1)), some (.inl v7), none] [] h
          refine ia_fg hK (lv' := [some (.inr (.inr 417)), none, none, none, some (.inl x4), some (.inl x5), some (.inl x6), some (.inl (x7 + 1)), none, none]) ⟨rfl, rfl, rfl, rfl, rfl, trivial⟩ ?_
          exact ih x5 x6 (x7 + 1) h hg hm
        · replace hm := ia_ifn hm c
          show K 126 [some (.inr (.inr 417)), none, none, none, some (.inl x4), some (.inl x5), some (.inl x6), some (.inl x7), some (.inl v7), none] [] h
          obtain ⟨c9, hm⟩ := ia_gd_some hm
          refine ia_go hK ck_M_measures_126 ⟨gk_12 hg pk_417, gr_12_22 hg pk_417, ga_i100 hg (ka_12_22 pk_417) c9, ?_⟩
          show K 133 [some (.inr (.inr 417)), none, none, none, some (.inl x4), some (.inl x5), some (.inl x6), some (.inl x7), some (.inl v7), none] [.inl (ia_i h 425 ((v7).toNatClampNeg))] h
          refine ia_ldc hK (v := 1000000) (ia_tb_in (List.mem_of_getElem? (i := 1959) (by decide +kernel)) rfl) dc_M_measures_133 ?_
          show K 135 [some (.inr (.inr 417)), none, none, none, some (.inl x4), some (.inl x5), some (.inl x6), some (.inl x7), some (.inl v7), none] [.inl 1000000, .inl (ia_i h 425 ((v7).toNatClampNeg))] h
          refine ia_go hK ck_M_measures_135 ⟨fun c => ?_, fun c => ?_⟩
          · replace hm := ia_ifp hm c
            show K 141 [some (.inr (.inr 417)), none, none, none, some (.inl x4), some (.inl x5), some (.inl x6), some (.inl x7), some (.inl v7), none] [] h
            refine ia_go hK ck_M_measures_141 ⟨fun c => ?_, fun c => ?_⟩
            · replace hm := ia_ifn hm c
              show K 166 [some (.inr (.inr 417)), none, none, none, some (.inl x4), some (.inl x5), some (.inl x6), some (.inl x7), some (.inl v7), none] [] h
              refine ia_go hK ck_M_measures_166 ?_
              show K 171 [some (.inr (.inr 417)), none, none, none, some (.inl x4), some (.inl x5), some (.inl x6), some (.inl x7), some (.inl v7), none] [.inl v7, .inl x6, .inr (.inr 417)] h
              obtain ⟨v10, hv10, hm⟩ := ia_bnd hm
              have ev10 := t_M_against (d + 4) hg hv10
              refine ia_cV hK mk_M_against lk_12_259 dc_M_measures_171 417 [.inl x6, .inl v7] [] rfl rfl (Nat.le_of_ble_eq_true rfl) (by decide) rfl (gk_12 hg pk_417) ev10 ⟨rfl, rfl⟩ ?_
              show K 174 [some (.inr (.inr 417)), none, none, none, some (.inl x4), some (.inl x5), some (.inl x6), some (.inl x7), some (.inl v7), none] [.inl v10] h
              refine ia_go hK ck_M_measures_174 ⟨fun c => ?_, fun c => ?_⟩
              · replace hm := ia_ifp hm c
                show K 181 [some (.inr (.inr 417)), none, none, none, some (.inl x4), some (.inl x5), some (.inl x6), some (.inl x7), some (.inl v7), none] [] h
                refine ia_go hK ck_M_measures_181 ?_
                show K 182 [some (.inr (.inr 417)), none, none, none, some (.inl x4), some (.inl x5), some (.inl x6), some (.inl x7), some (.inl v7), none] [.inl 0] h
                exact tj_M_measures_182 hK hret ih hk233 x5 x6 x7 v7 0 h hg hm
              · replace hm := ia_ifn hm c
                show K 177 [some (.inr (.inr 417)), none, none, none, some (.inl x4), some (.inl x5), some (.inl x6), some (.inl x7), some (.inl v7), none] [] h
                refine ia_go hK ck_M_measures_177 ?_
                show K 182 [some (.inr (.inr 417)), none, none, none, some (.inl x4), some (.inl x5), some (.inl x6), some (.inl x7), some (.inl v7), none] [.inl 1] h
                exact tj_M_measures_182 hK hret ih hk233 x5 x6 x7 v7 1 h hg hm
            · replace hm := ia_ifp hm c
              show K 146 [some (.inr (.inr 417)), none, none, none, some (.inl x4), some (.inl x5), some (.inl x6), some (.inl x7), some (.inl v7), none] [] h
              refine ia_go hK ck_M_measures_146 ?_
              show K 151 [some (.inr (.inr 417)), none, none, none, some (.inl x4), some (.inl x5), some (.inl x6), some (.inl x7), some (.inl v7), none] [.inl v7, .inl x6, .inr (.inr 417)] h
              obtain ⟨v15, hv15, hm⟩ := ia_bnd hm
              have ev15 := t_M_against (d + 4) hg hv15
              refine ia_cV hK mk_M_against lk_12_259 dc_M_measures_151 417 [.inl x6, .inl v7] [] rfl rfl (Nat.le_of_ble_eq_true rfl) (by decide) rfl (gk_12 hg pk_417) ev15 ⟨rfl, rfl⟩ ?_
              show K 154 [some (.inr (.inr 417)), none, none, none, some (.inl x4), some (.inl x5), some (.inl x6), some (.inl x7), some (.inl v7), none] [.inl v15] h
              refine ia_go hK ck_M_measures_154 ⟨fun c => ?_, fun c => ?_⟩
              · replace hm := ia_ifp hm c
                show K 162 [some (.inr (.inr 417)), none, none, none, some (.inl x4), some (.inl x5), some (.inl x6), some (.inl x7), some (.inl v7), none] [] h
                refine ia_go hK ck_M_measures_162 ?_
                show K 182 [some (.inr (.inr 417)), none, none, none, some (.inl x4), some (.inl x5), some (.inl x6), some (.inl x7), some (.inl v7), none] [.inl 1] h
                exact tj_M_measures_182 hK hret ih hk233 x5 x6 x7 v7 1 h hg hm
              · replace hm := ia_ifn hm c
                show K 157 [some (.inr (.inr 417)), none, none, none, some (.inl x4), some (.inl x5), some (.inl x6), some (.inl x7), some (.inl v7), none] [] h
                refine ia_ldc hK (v := 1000000) (ia_tb_in (List.mem_of_getElem? (i := 1959) (by decide +kernel)) rfl) dc_M_measures_157 ?_
                show K 159 [some (.inr (.inr 417)), none, none, none, some (.inl x4), some (.inl x5), some (.inl x6), some (.inl x7), some (.inl v7), none] [.inl 1000000] h
                refine ia_go hK ck_M_measures_159 ?_
                show K 182 [some (.inr (.inr 417)), none, none, none, some (.inl x4), some (.inl x5), some (.inl x6), some (.inl x7), some (.inl v7), none] [.inl 1000000] h
                exact tj_M_measures_182 hK hret ih hk233 x5 x6 x7 v7 1000000 h hg hm
          · replace hm := ia_ifn hm c
            show K 138 [some (.inr (.inr 417)), none, none, none, some (.inl x4), some (.inl x5), some (.inl x6), some (.inl x7), some (.inl v7), none] [] h
            refine ia_go hK ck_M_measures_138 ?_
            show K 227 [some (.inr (.inr 417)), none, none, none, some (.inl x4), some (.inl x5), some (.inl x6), some (.inl x7), some (.inl v7), none] [] h
            refine ia_go hK ck_M_measures_227 ?_
            show K 91 [some (.inr (.inr 417)), none, none, none, some (.inl x4), some (.inl x5), some (.inl x6), some (.inl (x7 + 1)), some (.inl v7), none] [] h
            refine ia_fg hK (lv' := [some (.inr (.inr 417)), none, none, none, some (.inl x4), some (.inl x5), some (.inl x6), some (.inl (x7 + 1)), none, none]) ⟨rfl, rfl, rfl, rfl, rfl, trivial⟩ ?_
            exact ih x5 x6 (x7 + 1) h hg hm
theorem gl_M_measures_91 {w : ia_O0} {x1 : Int32} {x2 : Int32} {x3 : Int32} {x4 : Int32} {h1 : ia_H} {k233 : Int32 → Int32 → ia_H → Option ia_H} (hk233 : ∀ (x5 : Int32) (x6 : Int32) (h : ia_H), gd_ w h → k233 x5 x6 h = some h1 → gd_ w h1) : ∀ (n : Nat) (x5 : Int32) (x6 : Int32) (x7 : Int32) (h : ia_H), gd_ w h → l_M_measures_91 x1 x2 x3 x4 k233 n x5 x6 x7 h = some h1 → gd_ w h1 := by
  intro n
  induction n with
  | zero =>
    intro x5 x6 x7 h hg hm
    cases (show (none : Option ia_H) = some _ from hm)
  | succ n ih =>
    intro x5 x6 x7 h hg hm
    rw [l_M_measures_91] at hm
    by_cases c : 4 ≤ x7
    · replace hm := ia_ifp hm c
      exact hk233 x5 x6 h hg hm
    · replace hm := ia_ifn hm c
      obtain ⟨v7, hv7, hm⟩ := ia_bnd hm
      by_cases c : v7 < 0
      · replace hm := ia_ifp hm c
        exact ih x5 x6 (x7 + 1) h hg hm
      · replace hm := ia_ifn hm c
        obtain ⟨c8, hm⟩ := ia_gd_some hm
        by_cases c : (ia_i h 426 ((v7).toNatClampNeg)) = 0
        · replace hm := ia_ifp hm c
          exact ih x5 x6 (x7 + 1) h hg hm
        · replace hm := ia_ifn hm c
          obtain ⟨c9, hm⟩ := ia_gd_some hm
          by_cases c : (ia_i h 425 ((v7).toNatClampNeg)) < 1000000
          · replace hm := ia_ifp hm c
            by_cases c : x4 = 0
            · replace hm := ia_ifp hm c
              obtain ⟨v15, hv15, hm⟩ := ia_bnd hm
              by_cases c : v15 ≤ 0
              · replace hm := ia_ifp hm c
                exact gj_M_measures_182 ih hk233 x5 x6 x7 v7 1 h hg hm
              · replace hm := ia_ifn hm c
                exact gj_M_measures_182 ih hk233 x5 x6 x7 v7 1000000 h hg hm
            · replace hm := ia_ifn hm c
              obtain ⟨v10, hv10, hm⟩ := ia_bnd hm
              by_cases c : v10 ≤ 0
              · replace hm := ia_ifp hm c
                exact gj_M_measures_182 ih hk233 x5 x6 x7 v7 0 h hg hm
              · replace hm := ia_ifn hm c
                exact gj_M_measures_182 ih hk233 x5 x6 x7 v7 1 h hg hm
          · replace hm := ia_ifn hm c
            exact ih x5 x6 (x7 + 1) h hg hm
def l_M_measures_79 (x1 : Int32) (x2 : Int32) (x3 : Int32) (x4 : Int32) (k239 : Int32 → ia_H → Option ia_H) (n : Nat) (x5 : Int32) (x6 : Int32) (h : ia_H) : Option ia_H := match n with
  | 0 => none
  | n + 1 => (f_M_cells h).bind fun v6 => (if v6 ≤ x6 then (k239 x5 h) else (l_M_measures_91 x1 x2 x3 x4 (fun x5 x6 h => l_M_measures_79 x1 x2 x3 x4 k239 n x5 (x6 + 1) h) fu_ x5 x6 0 h))
theorem tl_M_measures_79 {w : ia_O0} {d N1 W1 : Nat} {K : ia_K} (hK : ia_isK (d + 5) mm_M_measures N1 W1 K) {x1 : Int32} {x2 : Int32} {x3 : Int32} {x4 : Int32} {h1 : ia_H} (hret : ∀ (pc : Nat) (lv : ia_L), ia_ret mm_M_measures pc none → K pc lv (none : Option ia_V).toList h1) {k239 : Int32 → ia_H → Option ia_H} (hk239 : ∀ (x5 : Int32) (h : ia_H), gd_ w h → k239 x5 h = some h1 → K 239 [some (.inr (.inr 417)), none, none, none, some (.inl x4), some (.inl x5), none, none, none, none] [] h) : ∀ (n : Nat) (x5 : Int32) (x6 : Int32) (h : ia_H), gd_ w h → l_M_measures_79 x1 x2 x3 x4 k239 n x5 x6 h = some h1 → K 79 [some (.inr (.inr 417)), none, none, none, some (.inl x4), some (.inl x5), some (.inl x6), none, none, none] [] h := by
  intro n
  induction n with
  | zero =>
    intro x5 x6 h hg hm
    cases (show (none : Option ia_H) = some _ from hm)
  | succ n ih =>
    intro x5 x6 h hg hm
    rw [l_M_measures_79] at hm
    refine ia_go hK ck_M_measures_79 ?_
    show K 82 [some (.inr (.inr 417)), none, none, none, some (.inl x4), some (.inl x5), some (.inl x6), none, none, none] [.inr (.inr 417), .inl x6] h
    obtain ⟨v6, hv6, hm⟩ := ia_bnd hm
    have ev6 := t_M_cells (d + 4) hg hv6
    refine ia_cV hK mk_M_cells lk_12_234 dc_M_measures_82 417 [] [.inl x6] rfl rfl (Nat.le_of_ble_eq_true rfl) (by decide) rfl (gk_12 hg pk_417) ev6 ⟨rfl, rfl⟩ ?_
    show K 85 [some (.inr (.inr 417)), none, none, none, some (.inl x4), some (.inl x5), some (.inl x6), none, none, none] [.inl v6, .inl x6] h
    refine ia_go hK ck_M_measures_85 ⟨fun c => ?_, fun c => ?_⟩
    · replace hm := ia_ifp hm c
      show K 239 [some (.inr (.inr 417)), none, none, none, some (.inl x4), some (.inl x5), some (.inl x6), none, none, none] [] h
      refine ia_fg hK (lv' := [some (.inr (.inr 417)), none, none, none, some (.inl x4), some (.inl x5), none, none, none, none]) ⟨rfl, rfl, rfl, trivial⟩ ?_
      exact hk239 x5 h hg hm
    · replace hm := ia_ifn hm c
      show K 88 [some (.inr (.inr 417)), none, none, none, some (.inl x4), some (.inl x5), some (.inl x6), none, none, none] [] h
      refine ia_go hK ck_M_measures_88 ?_
      show K 91 [some (.inr (.inr 417)), none, none, none, some (.inl x4), some (.inl x5), some (.inl x6), some (.inl 0), none, none] [] h
      refine tl_M_measures_91 hK hret ?_ fu_ x5 x6 0 h hg hm
      · intro x5 x6 h hg hm
        refine ia_go hK ck_M_measures_233 ?_
        show K 79 [some (.inr (.inr 417)), none, none, none, some (.inl x4), some (.inl x5), some (.inl (x6 + 1)), none, none, none] [] h
        exact ih x5 (x6 + 1) h hg hm
theorem gl_M_measures_79 {w : ia_O0} {x1 : Int32} {x2 : Int32} {x3 : Int32} {x4 : Int32} {h1 : ia_H} {k239 : Int32 → ia_H → Option ia_H} (hk239 : ∀ (x5 : Int32) (h : ia_H), gd_ w h → k239 x5 h = some h1 → gd_ w h1) : ∀ (n : Nat) (x5 : Int32) (x6 : Int32) (h : ia_H), gd_ w h → l_M_measures_79 x1 x2 x3 x4 k239 n x5 x6 h = some h1 → gd_ w h1 := by
  intro n
  induction n with
  | zero =>
    intro x5 x6 h hg hm
    cases (show (none : Option ia_H) = some _ from hm)
  | succ n ih =>
    intro x5 x6 h hg hm
    rw [l_M_measures_79] at hm
    obtain ⟨v6, hv6, hm⟩ := ia_bnd hm
    by_cases c : v6 ≤ x6
    · replace hm := ia_ifp hm c
      exact hk239 x5 h hg hm
    · replace hm := ia_ifn hm c
      refine gl_M_measures_91 ?_ fu_ x5 x6 0 h hg hm
      · intro x5 x6 h hg hm
        exact ih x5 (x6 + 1) h hg hm
def l_M_measures_68 (x1 : Int32) (x2 : Int32) (x3 : Int32) (x4 : Int32) (k242 : ia_H → Option ia_H) (n : Nat) (x5 : Int32) (h : ia_H) : Option ia_H := match n with
  | 0 => none
  | n + 1 => if x5 = 0 then (k242 h) else (l_M_measures_79 x1 x2 x3 x4 (fun x5 h => l_M_measures_68 x1 x2 x3 x4 k242 n x5 h) fu_ 0 0 h)
theorem tl_M_measures_68 {w : ia_O0} {d N1 W1 : Nat} {K : ia_K} (hK : ia_isK (d + 5) mm_M_measures N1 W1 K) {x1 : Int32} {x2 : Int32} {x3 : Int32} {x4 : Int32} {h1 : ia_H} (hret : ∀ (pc : Nat) (lv : ia_L), ia_ret mm_M_measures pc none → K pc lv (none : Option ia_V).toList h1) {k242 : ia_H → Option ia_H} (hk242 : ∀ (h : ia_H), gd_ w h → k242 h = some h1 → K 242 [none, none, none, none, none, none, none, none, none, none] [] h) : ∀ (n : Nat) (x5 : Int32) (h : ia_H), gd_ w h → l_M_measures_68 x1 x2 x3 x4 k242 n x5 h = some h1 → K 68 [some (.inr (.inr 417)), none, none, none, some (.inl x4), some (.inl x5), none, none, none, none] [] h := by
  intro n
  induction n with
  | zero =>
    intro x5 h hg hm
    cases (show (none : Option ia_H) = some _ from hm)
  | succ n ih =>
    intro x5 h hg hm
    rw [l_M_measures_68] at hm
    refine ia_go hK ck_M_measures_68 ⟨fun c => ?_, fun c => ?_⟩
    · replace hm := ia_ifp hm c
      show K 242 [some (.inr (.inr 417)), none, none, none, some (.inl x4), some (.inl x5), none, none, none, none] [] h
      refine ia_fg hK (lv' := [none, none, none, none, none, none, none, none, none, none]) trivial ?_
      exact hk242 h hg hm
    · replace hm := ia_ifn hm c
      show K 73 [some (.inr (.inr 417)), none, none, none, some (.inl x4), some (.inl x5), none, none, none, none] [] h
      refine ia_go hK ck_M_measures_73 ?_
      show K 79 [some (.inr (.inr 417)), none, none, none, some (.inl x4), some (.inl 0), some (.inl 0), none, none, none] [] h
      refine tl_M_measures_79 hK hret ?_ fu_ 0 0 h hg hm
      · intro x5 h hg hm
        refine ia_go hK ck_M_measures_239 ?_
        show K 68 [some (.inr (.inr 417)), none, none, none, some (.inl x4), some (.inl x5), none, none, none, none] [] h
        exact ih x5 h hg hm
theorem gl_M_measures_68 {w : ia_O0} {x1 : Int32} {x2 : Int32} {x3 : Int32} {x4 : Int32} {h1 : ia_H} {k242 : ia_H → Option ia_H} (hk242 : ∀ (h : ia_H), gd_ w h → k242 h = some h1 → gd_ w h1) : ∀ (n : Nat) (x5 : Int32) (h : ia_H), gd_ w h → l_M_measures_68 x1 x2 x3 x4 k242 n x5 h = some h1 → gd_ w h1 := by
  intro n
  induction n with
  | zero =>
    intro x5 h hg hm
    cases (show (none : Option ia_H) = some _ from hm)
  | succ n ih =>
    intro x5 h hg hm
    rw [l_M_measures_68] at hm
    by_cases c : x5 = 0
    · replace hm := ia_ifp hm c
      exact hk242 h hg hm
    · replace hm := ia_ifn hm c
      refine gl_M_measures_79 ?_ fu_ 0 0 h hg hm
      · intro x5 h hg hm
        exact ih x5 h hg hm
def f_M_measures (x1 : Int32) (x2 : Int32) (x3 : Int32) (x4 : Int32) (h : ia_H) : Option ia_H := l_M_measures_13 x1 x2 x3 x4 (fun h => ia_gd (ia_ib x1 36) (l_M_measures_68 x1 x2 x3 x4 (fun h => some h) fu_ (ia_i h 426 ((x1).toNatClampNeg)) h)) fu_ 0 (ia_wI (ia_wI h 417 23 x2) 417 24 x3)
theorem g_M_measures {w : ia_O0} {x1 : Int32} {x2 : Int32} {x3 : Int32} {x4 : Int32} {h : ia_H} (hg : gd_ w h) {q : ia_H} (hm : f_M_measures x1 x2 x3 x4 h = some q) : gd_ w q := by
  obtain ⟨h1, e1⟩ : ∃ x, x = q := ⟨_, rfl⟩
  subst e1
  unfold f_M_measures at hm
  refine gl_M_measures_13 ?_ fu_ 0 (ia_wI (ia_wI h 417 23 x2) 417 24 x3) (gd_wI (gd_wI hg (ko_12 pk_417)) (ko_12 pk_417)) hm
  · intro h hg hm
    obtain ⟨c5, hm⟩ := ia_gd_some hm
    refine gl_M_measures_68 ?_ fu_ (ia_i h 426 ((x1).toNatClampNeg)) h hg hm
    · intro h hg hm
      obtain rfl := Option.some.inj hm
      exact hg
theorem t_M_measures {w : ia_O0} (d : Nat) {x1 : Int32} {x2 : Int32} {x3 : Int32} {x4 : Int32} {h : ia_H} (hg : gd_ w h) {q : ia_H} (hm : f_M_measures x1 x2 x3 x4 h = some q) : ia_Ev (d + 5) mm_M_measures [.inr (.inr 417), .inl x1, .inl x2, .inl x3, .inl x4] h none q := by
  have gq := g_M_measures hg hm
  refine ia_Ev_intro ok_M_measures (gd_le hg gq).1 (gd_le hg gq).2 (Nat.le_of_ble_eq_true rfl) (fun K hK hret => ?_)
  obtain ⟨h1, e1⟩ : ∃ x, x = q := ⟨_, rfl⟩
  subst e1
  show K 0 [some (.inr (.inr 417)), some (.inl x1), some (.inl x2), some (.inl x3), some (.inl x4), none, none, none, none, none] [] h
  unfold f_M_measures at hm
  refine ia_go hK ck_M_measures_0 ⟨gk_12 hg pk_417, gk_12 (gd_wI hg (ko_12 pk_417)) pk_417, ?_⟩
  show K 13 [some (.inr (.inr 417)), some (.inl x1), some (.inl x2), some (.inl x3), some (.inl x4), some (.inl 0), none, none, none, none] [] (ia_wI (ia_wI h 417 23 x2) 417 24 x3)
  refine ia_fg hK (lv' := [some (.inr (.inr 417)), some (.inl x1), none, none, some (.inl x4), some (.inl 0), none, none, none, none]) ⟨rfl, rfl, rfl, rfl, trivial⟩ ?_
  refine tl_M_measures_13 hK hret ?_ fu_ 0 (ia_wI (ia_wI h 417 23 x2) 417 24 x3) (gd_wI (gd_wI hg (ko_12 pk_417)) (ko_12 pk_417)) hm
  · intro h hg hm
    obtain ⟨c5, hm⟩ := ia_gd_some hm
    refine ia_go hK ck_M_measures_60 ⟨gk_12 hg pk_417, gr_12_25 hg pk_417, ga_s101 hg (ka_12_25 pk_417) c5, ?_⟩
    show K 68 [some (.inr (.inr 417)), some (.inl x1), none, none, some (.inl x4), some (.inl (ia_i h 426 ((x1).toNatClampNeg))), none, none, none, none] [] h
    refine ia_fg hK (lv' := [some (.inr (.inr 417)), none, none, none, some (.inl x4), some (.inl (ia_i h 426 ((x1).toNatClampNeg))), none, none, none, none]) ⟨rfl, rfl, rfl, trivial⟩ ?_
    refine tl_M_measures_68 hK hret ?_ fu_ (ia_i h 426 ((x1).toNatClampNeg)) h hg hm
    · intro h hg hm
      obtain rfl := Option.some.inj hm
      exact hret 242 _ dc_M_measures_242
