def mm_I_set : ia_M := (⟨"IceStreet", "set", "(IIIII)I"⟩, prog_1_method_24_code, 6, (some .int), 0, false)
theorem ok_I_set : ia_mok mm_I_set := ⟨by decide +kernel, by decide +kernel, by decide +kernel, by decide +kernel⟩
theorem mk_I_set : ia_mkn mm_I_set 1 5 := ⟨ia_tb_in (List.mem_of_getElem? (i := 1379) (by decide +kernel)) rfl, ia_tb_in (List.mem_of_getElem? (i := 133) (by decide +kernel)) rfl, by decide +kernel, by decide +kernel, ⟨ia_tb_in (List.mem_of_getElem? (i := 1377) (by decide +kernel)) rfl, ia_tb_in (List.mem_of_getElem? (i := 1378) (by decide +kernel)) rfl⟩⟩
theorem ck_I_set_0 : ia_cks 0 6 false prog_1_method_24_code 0 [(.aload_n 0, 0, 0, 0, 0), (.iload_n 1, 0, 0, 0, 0), (.iload_n 2, 0, 0, 0, 0), (.iload_n 3, 0, 0, 0, 0), (.iload 4, 0, 0, 0, 0)] = true := by decide +kernel
theorem ck_I_set_9 : ia_cks 0 6 false prog_1_method_24_code 9 [(.ifCond .eq 15, 0, 0, 0, 0)] = true := by decide +kernel
theorem ck_I_set_24 : ia_cks 0 6 false prog_1_method_24_code 24 [(.iconst (-1), 0, 0, 0, 0)] = true := by decide +kernel
theorem ck_I_set_12 : ia_cks 0 6 false prog_1_method_24_code 12 [(.aload_n 0, 0, 0, 0, 0), (.getfield 44, 0, 4, 3, 239), (.iload 5, 0, 0, 0, 0)] = true := by decide +kernel
theorem ck_I_set_21 : ia_cks 0 6 false prog_1_method_24_code 21 [(.ifCond .ne 5, 0, 0, 0, 0)] = true := by decide +kernel
theorem ck_I_set_26 : ia_cks 0 6 false prog_1_method_24_code 26 [(.aload_n 0, 0, 0, 0, 0), (.getfield 69, 0, 7, 3, 262), (.aload_n 0, 0, 0, 0, 0), (.getfield 44, 0, 4, 3, 239), (.iload 5, 0, 0, 0, 0)] = true := by decide +kernel
theorem dc_I_set_6 : decode prog_1_method_24_code 6 = .ok (.invokevirtual 266, 3) := by decide +kernel
theorem dc_I_set_25 : decode prog_1_method_24_code 25 = .ok (.ireturn, 1) := by decide +kernel
theorem dc_I_set_18 : decode prog_1_method_24_code 18 = .ok (.invokevirtual 347, 3) := by decide +kernel
theorem dc_I_set_36 : decode prog_1_method_24_code 36 = .ok (.invokevirtual 370, 3) := by decide +kernel
theorem dc_I_set_39 : decode prog_1_method_24_code 39 = .ok (.ireturn, 1) := by decide +kernel
def f_I_set (x1 : Int32) (x2 : Int32) (x3 : Int32) (x4 : Int32) (x5 : Int32) (h : ia_H) : Option (Int32 × ia_H) := (f_I_stage x1 x2 x3 x4 h).bind fun v1 => (if v1.1 = 0 then (some ((-1), v1.2)) else ((f_Sc_stands 303 x5 v1.2).bind fun v2 => (if v2 = 0 then (some ((-1), v1.2)) else ((f_Ou_safestCell 303 x5 v1.2).bind fun v3 => (some (v3.1, v3.2))))))
theorem g_I_set {w : ia_O0} {x1 : Int32} {x2 : Int32} {x3 : Int32} {x4 : Int32} {x5 : Int32} {h : ia_H} (hg : gd_ w h) {q : (Int32 × ia_H)} (hm : f_I_set x1 x2 x3 x4 x5 h = some q) : gd_ w q.2 := by
  obtain ⟨r, h1⟩ := q
  unfold f_I_set at hm
  obtain ⟨v1, hv1, hm⟩ := ia_bnd hm
  have gv1 := g_I_stage hg hv1
  by_cases c : v1.1 = 0
  · replace hm := ia_ifp hm c
    obtain ⟨rfl, rfl⟩ := Prod.mk.inj (Option.some.inj hm)
    exact gv1
  · replace hm := ia_ifn hm c
    obtain ⟨v2, hv2, hm⟩ := ia_bnd hm
    by_cases c : v2 = 0
    · replace hm := ia_ifp hm c
      obtain ⟨rfl, rfl⟩ := Prod.mk.inj (Option.some.inj hm)
      exact gv1
    · replace hm := ia_ifn hm c
      obtain ⟨v3, hv3, hm⟩ := ia_bnd hm
      have gv3 := g_Ou_safestCell gv1 (ka_0_4 pk_64) hv3
      obtain ⟨rfl, rfl⟩ := Prod.mk.inj (Option.some.inj hm)
      exact gv3
theorem t_I_set {w : ia_O0} (d : Nat) {x1 : Int32} {x2 : Int32} {x3 : Int32} {x4 : Int32} {x5 : Int32} {h : ia_H} (hg : gd_ w h) {q : (Int32 × ia_H)} (hm : f_I_set x1 x2 x3 x4 x5 h = some q) : ia_Ev (d + 7) mm_I_set [.inr (.inr 64), .inl x1, .inl x2, .inl x3, .inl x4, .inl x5] h (some (.inl q.1)) q.2 := by
  have gq := g_I_set hg hm
  refine ia_Ev_intro ok_I_set (gd_le hg gq).1 (gd_le hg gq).2 (Nat.le_of_ble_eq_true rfl) (fun K hK hret => ?_)
  obtain ⟨r, h1⟩ := q
  show K 0 [some (.inr (.inr 64)), some (.inl x1), some (.inl x2), some (.inl x3), some (.inl x4), some (.inl x5)] [] h
  unfold f_I_set at hm
  refine ia_go hK ck_I_set_0 ?_
  show K 6 [some (.inr (.inr 64)), some (.inl x1), some (.inl x2), some (.inl x3), some (.inl x4), some (.inl x5)] [.inl x4, .inl x3, .inl x2, .inl x1, .inr (.inr 64)] h
  obtain ⟨v1, hv1, hm⟩ := ia_bnd hm
  have ev1 := t_I_stage (d + 0) hg hv1
  have gv1 := g_I_stage hg hv1
  refine ia_cV hK mk_I_stage lk_0_266 dc_I_set_6 64 [.inl x1, .inl x2, .inl x3, .inl x4] [] rfl rfl (Nat.le_of_ble_eq_true rfl) (by decide) rfl (gk_0 hg pk_64) ev1 (gd_nm hg gv1) ?_
  show K 9 [some (.inr (.inr 64)), some (.inl x1), some (.inl x2), some (.inl x3), some (.inl x4), some (.inl x5)] [.inl v1.1] v1.2
  refine ia_go hK ck_I_set_9 ⟨fun c => ?_, fun c => ?_⟩
  · replace hm := ia_ifp hm c
    show K 24 [some (.inr (.inr 64)), some (.inl x1), some (.inl x2), some (.inl x3), some (.inl x4), some (.inl x5)] [] v1.2
    refine ia_go hK ck_I_set_24 ?_
    show K 25 [some (.inr (.inr 64)), some (.inl x1), some (.inl x2), some (.inl x3), some (.inl x4), some (.inl x5)] [.inl (-1)] v1.2
    obtain ⟨rfl, rfl⟩ := Prod.mk.inj (Option.some.inj hm)
    exact hret 25 _ dc_I_set_25
  · replace hm := ia_ifn hm c
    show K 12 [some (.inr (.inr 64)), some (.inl x1), some (.inl x2), some (.inl x3), some (.inl x4), some (.inl x5)] [] v1.2
    refine ia_go hK ck_I_set_12 ⟨gk_0 gv1 pk_64, gr_0_4 gv1 pk_64, ?_⟩
    show K 18 [some (.inr (.inr 64)), some (.inl x1), some (.inl x2), some (.inl x3), some (.inl x4), some (.inl x5)] [.inl x5, .inr (.inr 303)] v1.2
    obtain ⟨v2, hv2, hm⟩ := ia_bnd hm
    have ev2 := t_Sc_stands (d + 6) gv1 (ka_0_4 pk_64) hv2
    refine ia_cV hK mk_Sc_stands lk_0_347 dc_I_set_18 303 [.inl x5] [] rfl rfl (Nat.le_of_ble_eq_true rfl) (by decide) rfl (gk_9 gv1 (ka_0_4 pk_64)) ev2 ⟨rfl, rfl⟩ ?_
    show K 21 [some (.inr (.inr 64)), some (.inl x1), some (.inl x2), some (.inl x3), some (.inl x4), some (.inl x5)] [.inl v2] v1.2
    refine ia_go hK ck_I_set_21 ⟨fun c => ?_, fun c => ?_⟩
    · replace hm := ia_ifn hm c
      show K 26 [some (.inr (.inr 64)), some (.inl x1), some (.inl x2), some (.inl x3), some (.inl x4), some (.inl x5)] [] v1.2
      refine ia_go hK ck_I_set_26 ⟨gk_0 gv1 pk_64, gr_0_7 gv1 pk_64, gk_0 gv1 pk_64, gr_0_4 gv1 pk_64, ?_⟩
      show K 36 [some (.inr (.inr 64)), some (.inl x1), some (.inl x2), some (.inl x3), some (.inl x4), some (.inl x5)] [.inl x5, .inr (.inr 303), .inr (.inr 326)] v1.2
      obtain ⟨v3, hv3, hm⟩ := ia_bnd hm
      have ev3 := t_Ou_safestCell (d + 1) gv1 (ka_0_4 pk_64) hv3
      have gv3 := g_Ou_safestCell gv1 (ka_0_4 pk_64) hv3
      refine ia_cV hK mk_Ou_safestCell lk_0_370 dc_I_set_36 326 [.inr (.inr 303), .inl x5] [] rfl rfl (Nat.le_of_ble_eq_true rfl) (by decide) rfl (gk_5 gv1 (ka_0_7 pk_64)) ev3 (gd_nm gv1 gv3) ?_
      show K 39 [some (.inr (.inr 64)), some (.inl x1), some (.inl x2), some (.inl x3), some (.inl x4), some (.inl x5)] [.inl v3.1] v3.2
      obtain ⟨rfl, rfl⟩ := Prod.mk.inj (Option.some.inj hm)
      exact hret 39 _ dc_I_set_39
    · replace hm := ia_ifp hm c
      show K 24 [some (.inr (.inr 64)), some (.inl x1), some (.inl x2), some (.inl x3), some (.inl x4), some (.inl x5)] [] v1.2
      refine ia_go hK ck_I_set_24 ?_
      show K 25 [some (.inr (.inr 64)), some (.inl x1), some (.inl x2), some (.inl x3), some (.inl x4), some (.inl x5)] [.inl (-1)] v1.2
      obtain ⟨rfl, rfl⟩ := Prod.mk.inj (Option.some.inj hm)
      exact hret 25 _ dc_I_set_25
def mm_Ou_recordHeld : ia_M := (⟨"IceStreet$Outlook", "recordHeld", "(LIceStreet$Scene;[I)V"⟩, prog_6_method_3_code, 5, none, 5, false)
theorem ok_Ou_recordHeld : ia_mok mm_Ou_recordHeld := ⟨by decide +kernel, by decide +kernel, by decide +kernel, by decide +kernel⟩
theorem mk_Ou_recordHeld : ia_mkn mm_Ou_recordHeld 1 2 := ⟨ia_tb_in (List.mem_of_getElem? (i := 1399) (by decide +kernel)) rfl, ia_tb_in (List.mem_of_getElem? (i := 143) (by decide +kernel)) rfl, by decide +kernel, by decide +kernel, ⟨ia_tb_in (List.mem_of_getElem? (i := 1398) (by decide +kernel)) rfl, ia_tb_in (List.mem_of_getElem? (i := 43) (by decide +kernel)) rfl⟩⟩
theorem ck_Ou_recordHeld_0 : ia_cks 5 5 false prog_6_method_3_code 0 [(.aload_n 0, 0, 0, 0, 0), (.getfield 27, 5, 1, 3, 3), (.aload_n 1, 0, 0, 0, 0)] = true := by decide +kernel
theorem ck_Ou_recordHeld_8 : ia_cks 5 5 false prog_6_method_3_code 8 [(.aload_n 2, 0, 0, 0, 0), (.iconst 0, 0, 0, 0, 0)] = true := by decide +kernel
theorem ck_Ou_recordHeld_13 : ia_cks 5 5 false prog_6_method_3_code 13 [(.iconst 0, 0, 0, 0, 0), (.istore_n 3, 0, 0, 0, 0)] = true := by decide +kernel
theorem ck_Ou_recordHeld_15 : ia_cks 5 5 false prog_6_method_3_code 15 [(.iload_n 3, 0, 0, 0, 0), (.bipush 60, 0, 0, 0, 0), (.if_icmp .gt 58, 0, 0, 0, 0)] = true := by decide +kernel
theorem ck_Ou_recordHeld_21 : ia_cks 5 5 false prog_6_method_3_code 21 [(.iconst 0, 0, 0, 0, 0), (.istore 4, 0, 0, 0, 0)] = true := by decide +kernel
theorem ck_Ou_recordHeld_24 : ia_cks 5 5 false prog_6_method_3_code 24 [(.iload 4, 0, 0, 0, 0), (.bipush 6, 0, 0, 0, 0), (.if_icmp .ge 28, 0, 0, 0, 0)] = true := by decide +kernel
theorem ck_Ou_recordHeld_31 : ia_cks 5 5 false prog_6_method_3_code 31 [(.aload_n 0, 0, 0, 0, 0), (.getfield 27, 5, 1, 3, 3), (.iload 4, 0, 0, 0, 0)] = true := by decide +kernel
theorem ck_Ou_recordHeld_40 : ia_cks 5 5 false prog_6_method_3_code 40 [(.ifCond .eq 10, 0, 0, 0, 0)] = true := by decide +kernel
theorem ck_Ou_recordHeld_50 : ia_cks 5 5 false prog_6_method_3_code 50 [(.iinc 4 1, 0, 0, 0, 0), (.goto (-29), 0, 0, 0, 0)] = true := by decide +kernel
theorem ck_Ou_recordHeld_43 : ia_cks 5 5 false prog_6_method_3_code 43 [(.aload_n 2, 0, 0, 0, 0), (.iload 4, 0, 0, 0, 0), (.iload_n 3, 0, 0, 0, 0), (.iconst 1, 0, 0, 0, 0), (.iadd, 0, 0, 0, 0), (.iastore, 0, 0, 0, 0), (.iinc 4 1, 0, 0, 0, 0), (.goto (-29), 0, 0, 0, 0)] = true := by decide +kernel
theorem ck_Ou_recordHeld_56 : ia_cks 5 5 false prog_6_method_3_code 56 [(.aload_n 0, 0, 0, 0, 0), (.getfield 27, 5, 1, 3, 3), (.aload_n 0, 0, 0, 0, 0), (.getfield 27, 5, 1, 3, 3)] = true := by decide +kernel
theorem ck_Ou_recordHeld_70 : ia_cks 5 5 false prog_6_method_3_code 70 [(.iinc 3 1, 0, 0, 0, 0), (.goto (-58), 0, 0, 0, 0)] = true := by decide +kernel
theorem dc_Ou_recordHeld_5 : decode prog_6_method_3_code 5 = .ok (.invokevirtual 34, 3) := by decide +kernel
theorem dc_Ou_recordHeld_10 : decode prog_6_method_3_code 10 = .ok (.invokestatic 50, 3) := by decide +kernel
theorem dc_Ou_recordHeld_37 : decode prog_6_method_3_code 37 = .ok (.invokevirtual 38, 3) := by decide +kernel
theorem dc_Ou_recordHeld_64 : decode prog_6_method_3_code 64 = .ok (.invokevirtual 42, 3) := by decide +kernel
theorem dc_Ou_recordHeld_67 : decode prog_6_method_3_code 67 = .ok (.invokevirtual 46, 3) := by decide +kernel
theorem dc_Ou_recordHeld_76 : decode prog_6_method_3_code 76 = .ok (.return_, 1) := by decide +kernel
def l_Ou_recordHeld_24 (a1 : Nat) (a2 : Nat) (k56 : Int32 → ia_H → Option ia_H) (n : Nat) (x3 : Int32) (x4 : Int32) (h : ia_H) : Option ia_H := match n with
  | 0 => none
  | n + 1 => if 6 ≤ x4 then (k56 x3 h) else ((f_Sc_stands 329 x4 h).bind fun v3 => (if v3 = 0 then (l_Ou_recordHeld_24 a1 a2 k56 n x3 (x4 + 1) h) else (ia_gd (ia_ib x4 (kd_D a2).2) (l_Ou_recordHeld_24 a1 a2 k56 n x3 (x4 + 1) (ia_wI h a2 ((x4).toNatClampNeg) (x3 + 1))))))
theorem tl_Ou_recordHeld_24 {w : ia_O0} {d N1 W1 : Nat} {K : ia_K} (hK : ia_isK (d + 4) mm_Ou_recordHeld N1 W1 K) {a1 : Nat} {a2 : Nat} (p1 : (kd_D a1).1 = 9) (p2 : (kd_D a2).1 = 100) {h1 : ia_H} (hret : ∀ (pc : Nat) (lv : ia_L), ia_ret mm_Ou_recordHeld pc none → K pc lv (none : Option ia_V).toList h1) {k56 : Int32 → ia_H → Option ia_H} (hk56 : ∀ (x3 : Int32) (h : ia_H), gd_ w h → k56 x3 h = some h1 → K 56 [some (.inr (.inr 326)), none, some (.inr (.inr a2)), some (.inl x3), none] [] h) : ∀ (n : Nat) (x3 : Int32) (x4 : Int32) (h : ia_H), gd_ w h → l_Ou_recordHeld_24 a1 a2 k56 n x3 x4 h = some h1 → K 24 [some (.inr (.inr 326)), none, some (.inr (.inr a2)), some (.inl x3), some (.inl x4)] [] h := by
  intro n
  induction n with
  | zero =>
    intro x3 x4 h hg hm
    cases (show (none : Option ia_H) = some _ from hm)
  | succ n ih =>
    intro x3 x4 h hg hm
    rw [l_Ou_recordHeld_24] at hm
    refine ia_go hK ck_Ou_recordHeld_24 ⟨fun c => ?_, fun c => ?_⟩
    · replace hm := ia_ifp hm c
      show K 56 [some (.inr (.inr 326)), none, some (.inr (.inr a2)), some (.inl x3), some (.inl x4)] [] h
      refine ia_fg hK (lv' := [some (.inr (.inr 326)), none, some (.inr (.inr a2)), some (.inl x3), none]) ⟨rfl, rfl, rfl, trivial⟩ ?_
      exact hk56 x3 h hg hm
    · replace hm := ia_ifn hm c
      show K 31 [some (.inr (.inr 326)), none, some (.inr (.inr a2)), some (.inl x3), some (.inl x4)] [] h
      refine ia_go hK ck_Ou_recordHeld_31 ⟨gk_5 hg pk_326, gr_5_1 hg pk_326, ?_⟩
      show K 37 [some (.inr (.inr 326)), none, some (.inr (.inr a2)), some (.inl x3), some (.inl x4)] [.inl x4, .inr (.inr 329)] h
      obtain ⟨v3, hv3, hm⟩ := ia_bnd hm
      have ev3 := t_Sc_stands (d + 3) hg (ka_5_1 pk_326) hv3
      refine ia_cV hK mk_Sc_stands lk_5_38 dc_Ou_recordHeld_37 329 [.inl x4] [] rfl rfl (Nat.le_of_ble_eq_true rfl) (by decide) rfl (gk_9 hg (ka_5_1 pk_326)) ev3 ⟨rfl, rfl⟩ ?_
      show K 40 [some (.inr (.inr 326)), none, some (.inr (.inr a2)), some (.inl x3), some (.inl x4)] [.inl v3] h
      refine ia_go hK ck_Ou_recordHeld_40 ⟨fun c => ?_, fun c => ?_⟩
      · replace hm := ia_ifp hm c
        show K 50 [some (.inr (.inr 326)), none, some (.inr (.inr a2)), some (.inl x3), some (.inl x4)] [] h
        refine ia_go hK ck_Ou_recordHeld_50 ?_
        show K 24 [some (.inr (.inr 326)), none, some (.inr (.inr a2)), some (.inl x3), some (.inl (x4 + 1))] [] h
        exact ih x3 (x4 + 1) h hg hm
      · replace hm := ia_ifn hm c
        show K 43 [some (.inr (.inr 326)), none, some (.inr (.inr a2)), some (.inl x3), some (.inl x4)] [] h
        obtain ⟨c4, hm⟩ := ia_gd_some hm
        refine ia_go hK ck_Ou_recordHeld_43 ⟨ga_s100 hg (kd_pr p2) c4, ?_⟩
        show K 24 [some (.inr (.inr 326)), none, some (.inr (.inr a2)), some (.inl x3), some (.inl (x4 + 1))] [] (ia_wI h a2 ((x4).toNatClampNeg) (x3 + 1))
        exact ih x3 (x4 + 1) (ia_wI h a2 ((x4).toNatClampNeg) (x3 + 1)) (gd_wI hg (kx_100 (kd_pr p2))) hm
theorem gl_Ou_recordHeld_24 {w : ia_O0} {a1 : Nat} {a2 : Nat} (p1 : (kd_D a1).1 = 9) (p2 : (kd_D a2).1 = 100) {h1 : ia_H} {k56 : Int32 → ia_H → Option ia_H} (hk56 : ∀ (x3 : Int32) (h : ia_H), gd_ w h → k56 x3 h = some h1 → gd_ w h1) : ∀ (n : Nat) (x3 : Int32) (x4 : Int32) (h : ia_H), gd_ w h → l_Ou_recordHeld_24 a1 a2 k56 n x3 x4 h = some h1 → gd_ w h1 := by
  intro n
  induction n with
  | zero =>
    intro x3 x4 h hg hm
    cases (show (none : Option ia_H) = some _ from hm)
  | succ n ih =>
    intro x3 x4 h hg hm
    rw [l_Ou_recordHeld_24] at hm
    by_cases c : 6 ≤ x4
    · replace hm := ia_ifp hm c
      exact hk56 x3 h hg hm
    · replace hm := ia_ifn hm c
      obtain ⟨v3, hv3, hm⟩ := ia_bnd hm
      by_cases c : v3 = 0
      · replace hm := ia_ifp hm c
        exact ih x3 (x4 + 1) h hg hm
      · replace hm := ia_ifn hm c
        obtain ⟨c4, hm⟩ := ia_gd_some hm
        exact ih x3 (x4 + 1) (ia_wI h a2 ((x4).toNatClampNeg) (x3 + 1)) (gd_wI hg (kx_100 (kd_pr p2))) hm
def l_Ou_recordHeld_15 (a1 : Nat) (a2 : Nat) (k76 : ia_H → Option ia_H) (n : Nat) (x3 : Int32) (h : ia_H) : Option ia_H := match n with
  | 0 => none
  | n + 1 => if 60 < x3 then (k76 h) else (l_Ou_recordHeld_24 a1 a2 (fun x3 h => (f_Sc_frost 329 h).bind fun v5 => ((f_Sc_passDayUnderShops 329 v5 h).bind fun v6 => (l_Ou_recordHeld_15 a1 a2 k76 n (x3 + 1) v6))) fu_ x3 0 h)
theorem tl_Ou_recordHeld_15 {w : ia_O0} {d N1 W1 : Nat} {K : ia_K} (hK : ia_isK (d + 4) mm_Ou_recordHeld N1 W1 K) {a1 : Nat} {a2 : Nat} (p1 : (kd_D a1).1 = 9) (p2 : (kd_D a2).1 = 100) {h1 : ia_H} (hret : ∀ (pc : Nat) (lv : ia_L), ia_ret mm_Ou_recordHeld pc none → K pc lv (none : Option ia_V).toList h1) {k76 : ia_H → Option ia_H} (hk76 : ∀ (h : ia_H), gd_ w h → k76 h = some h1 → K 76 [none, none, none, none, none] [] h) : ∀ (n : Nat) (x3 : Int32) (h : ia_H), gd_ w h → l_Ou_recordHeld_15 a1 a2 k76 n x3 h = some h1 → K 15 [some (.inr (.inr 326)), none, some (.inr (.inr a2)), some (.inl x3), none] [] h := by
  intro n
  induction n with
  | zero =>
    intro x3 h hg hm
    cases (show (none : Option ia_H) = some _ from hm)
  | succ n ih =>
    intro x3 h hg hm
    rw [l_Ou_recordHeld_15] at hm
    refine ia_go hK ck_Ou_recordHeld_15 ⟨fun c => ?_, fun c => ?_⟩
    · replace hm := ia_ifp hm c
      show K 76 [some (.inr (.inr 326)), none, some (.inr (.inr a2)), some (.inl x3), none] [] h
      refine ia_fg hK (lv' := [none, none, none, none, none]) trivial ?_
      exact hk76 h hg hm
    · replace hm := ia_ifn hm c
      show K 21 [some (.inr (.inr 326)), none, some (.inr (.inr a2)), some (.inl x3), none] [] h
      refine ia_go hK ck_Ou_recordHeld_21 ?_
      show K 24 [some (.inr (.inr 326)), none, some (.inr (.inr a2)), some (.inl x3), some (.inl 0)] [] h
      refine tl_Ou_recordHeld_24 hK p1 p2 hret ?_ fu_ x3 0 h hg hm
      · intro x3 h hg hm
        refine ia_go hK ck_Ou_recordHeld_56 ⟨gk_5 hg pk_326, gr_5_1 hg pk_326, gk_5 hg pk_326, gr_5_1 hg pk_326, ?_⟩
        show K 64 [some (.inr (.inr 326)), none, some (.inr (.inr a2)), some (.inl x3), none] [.inr (.inr 329), .inr (.inr 329)] h
        obtain ⟨v5, hv5, hm⟩ := ia_bnd hm
        have ev5 := t_Sc_frost (d + 3) hg (ka_5_1 pk_326) hv5
        refine ia_cV hK mk_Sc_frost lk_5_42 dc_Ou_recordHeld_64 329 [] [.inr (.inr 329)] rfl rfl (Nat.le_of_ble_eq_true rfl) (by decide) rfl (gk_9 hg (ka_5_1 pk_326)) ev5 ⟨rfl, rfl⟩ ?_
        show K 67 [some (.inr (.inr 326)), none, some (.inr (.inr a2)), some (.inl x3), none] [.inl v5, .inr (.inr 329)] h
        obtain ⟨v6, hv6, hm⟩ := ia_bnd hm
        have ev6 := t_Sc_passDayUnderShops (d + 0) hg (ka_5_1 pk_326) hv6
        have gv6 := g_Sc_passDayUnderShops hg (ka_5_1 pk_326) hv6
        refine ia_cV hK mk_Sc_passDayUnderShops lk_5_46 dc_Ou_recordHeld_67 329 [.inl v5] [] rfl rfl (Nat.le_of_ble_eq_true rfl) (by decide) rfl (gk_9 hg (ka_5_1 pk_326)) ev6 (gd_nm hg gv6) ?_
        show K 70 [some (.inr (.inr 326)), none, some (.inr (.inr a2)), some (.inl x3), none] [] v6
        refine ia_go hK ck_Ou_recordHeld_70 ?_
        show K 15 [some (.inr (.inr 326)), none, some (.inr (.inr a2)), some (.inl (x3 + 1)), none] [] v6
        exact ih (x3 + 1) v6 gv6 hm
theorem gl_Ou_recordHeld_15 {w : ia_O0} {a1 : Nat} {a2 : Nat} (p1 : (kd_D a1).1 = 9) (p2 : (kd_D a2).1 = 100) {h1 : ia_H} {k76 : ia_H → Option ia_H} (hk76 : ∀ (h : ia_H), gd_ w h → k76 h = some h1 → gd_ w h1) : ∀ (n : Nat) (x3 : Int32) (h : ia_H), gd_ w h → l_Ou_recordHeld_15 a1 a2 k76 n x3 h = some h1 → gd_ w h1 := by
  intro n
  induction n with
  | zero =>
    intro x3 h hg hm
    cases (show (none : Option ia_H) = some _ from hm)
  | succ n ih =>
    intro x3 h hg hm
    rw [l_Ou_recordHeld_15] at hm
    by_cases c : 60 < x3
    · replace hm := ia_ifp hm c
      exact hk76 h hg hm
    · replace hm := ia_ifn hm c
      refine gl_Ou_recordHeld_24 p1 p2 ?_ fu_ x3 0 h hg hm
      · intro x3 h hg hm
        obtain ⟨v5, hv5, hm⟩ := ia_bnd hm
        obtain ⟨v6, hv6, hm⟩ := ia_bnd hm
        have gv6 := g_Sc_passDayUnderShops hg (ka_5_1 pk_326) hv6
        exact ih (x3 + 1) v6 gv6 hm
def f_Ou_recordHeld (a1 : Nat) (a2 : Nat) (h : ia_H) : Option ia_H := (f_Sc_become 329 a1 h).bind fun v1 => ((f_Ar_fill a2 0 v1).bind fun v2 => (l_Ou_recordHeld_15 a1 a2 (fun h => some h) fu_ 0 v2))
theorem g_Ou_recordHeld {w : ia_O0} {a1 : Nat} {a2 : Nat} {h : ia_H} (hg : gd_ w h) (p1 : (kd_D a1).1 = 9) (p2 : (kd_D a2).1 = 100) {q : ia_H} (hm : f_Ou_recordHeld a1 a2 h = some q) : gd_ w q := by
  obtain ⟨h1, e1⟩ : ∃ x, x = q := ⟨_, rfl⟩
  subst e1
  unfold f_Ou_recordHeld at hm
  obtain ⟨v1, hv1, hm⟩ := ia_bnd hm
  have gv1 := g_Sc_become hg (ka_5_1 pk_326) p1 hv1
  obtain ⟨v2, hv2, hm⟩ := ia_bnd hm
  have gv2 := g_Ar_fill gv1 (congrArg Prod.fst (kd_pr p2)) hv2
  refine gl_Ou_recordHeld_15 p1 p2 ?_ fu_ 0 v2 gv2 hm
  · intro h hg hm
    obtain rfl := Option.some.inj hm
    exact hg
theorem t_Ou_recordHeld {w : ia_O0} (d : Nat) {a1 : Nat} {a2 : Nat} {h : ia_H} (hg : gd_ w h) (p1 : (kd_D a1).1 = 9) (p2 : (kd_D a2).1 = 100) {q : ia_H} (hm : f_Ou_recordHeld a1 a2 h = some q) : ia_Ev (d + 4) mm_Ou_recordHeld [.inr (.inr 326), .inr (.inr a1), .inr (.inr a2)] h none q := by
  have gq := g_Ou_recordHeld hg p1 p2 hm
  refine ia_Ev_intro ok_Ou_recordHeld (gd_le hg gq).1 (gd_le hg gq).2 (Nat.le_of_ble_eq_true rfl) (fun K hK hret => ?_)
  obtain ⟨h1, e1⟩ : ∃ x, x = q := ⟨_, rfl⟩
  subst e1
  show K 0 [some (.inr (.inr 326)), some (.inr (.inr a1)), some (.inr (.inr a2)), none, none] [] h
  unfold f_Ou_recordHeld at hm
  refine ia_go hK ck_Ou_recordHeld_0 ⟨gk_5 hg pk_326, gr_5_1 hg pk_326, ?_⟩
  show K 5 [some (.inr (.inr 326)), some (.inr (.inr a1)), some (.inr (.inr a2)), none, none] [.inr (.inr a1), .inr (.inr 329)] h
  obtain ⟨v1, hv1, hm⟩ := ia_bnd hm
  have ev1 := t_Sc_become (d + 3) hg (ka_5_1 pk_326) p1 hv1
  have gv1 := g_Sc_become hg (ka_5_1 pk_326) p1 hv1
  refine ia_cV hK mk_Sc_become lk_5_34 dc_Ou_recordHeld_5 329 [.inr (.inr a1)] [] rfl rfl (Nat.le_of_ble_eq_true rfl) (by decide) rfl (gk_9 hg (ka_5_1 pk_326)) ev1 (gd_nm hg gv1) ?_
  show K 8 [some (.inr (.inr 326)), some (.inr (.inr a1)), some (.inr (.inr a2)), none, none] [] v1
  refine ia_go hK ck_Ou_recordHeld_8 ?_
  show K 10 [some (.inr (.inr 326)), some (.inr (.inr a1)), some (.inr (.inr a2)), none, none] [.inl 0, .inr (.inr a2)] v1
  obtain ⟨v2, hv2, hm⟩ := ia_bnd hm
  have ev2 := t_Ar_fill (d + 3) gv1 (congrArg Prod.fst (kd_pr p2)) hv2
  have gv2 := g_Ar_fill gv1 (congrArg Prod.fst (kd_pr p2)) hv2
  refine ia_cS hK mk_Ar_fill lk_5_50 dc_Ou_recordHeld_10 [.inr (.inr a2), .inl 0] [] rfl rfl (Nat.le_of_ble_eq_true rfl) ev2 (gd_nm gv1 gv2) ?_
  show K 13 [some (.inr (.inr 326)), some (.inr (.inr a1)), some (.inr (.inr a2)), none, none] [] v2
  refine ia_go hK ck_Ou_recordHeld_13 ?_
  show K 15 [some (.inr (.inr 326)), some (.inr (.inr a1)), some (.inr (.inr a2)), some (.inl 0), none] [] v2
  refine ia_fg hK (lv' := [some (.inr (.inr 326)), none, some (.inr (.inr a2)), some (.inl 0), none]) ⟨rfl, rfl, rfl, trivial⟩ ?_
  refine tl_Ou_recordHeld_15 hK p1 p2 hret ?_ fu_ 0 v2 gv2 hm
  · intro h hg hm
    obtain rfl := Option.some.inj hm
    exact hret 76 _ dc_Ou_recordHeld_76
def mm_Sc_putOut : ia_M := (⟨"IceStreet$Scene", "putOut", "(I)V"⟩, prog_10_method_11_code, 3, none, 9, false)
theorem ok_Sc_putOut : ia_mok mm_Sc_putOut := ⟨by decide +kernel, by decide +kernel, by decide +kernel, by decide +kernel⟩
theorem mk_Sc_putOut : ia_mkn mm_Sc_putOut 1 1 := ⟨ia_tb_in (List.mem_of_getElem? (i := 1408) (by decide +kernel)) rfl, ia_tb_in (List.mem_of_getElem? (i := 140) (by decide +kernel)) rfl, by decide +kernel, by decide +kernel, ⟨ia_tb_in (List.mem_of_getElem? (i := 1406) (by decide +kernel)) rfl, ia_tb_in (List.mem_of_getElem? (i := 1407) (by decide +kernel)) rfl⟩⟩
theorem ck_Sc_putOut_0 : ia_cks 9 3 false prog_10_method_11_code 0 [(.aload_n 0, 0, 0, 0, 0), (.getfield 24, 9, 6, 3, 5), (.iload_n 1, 0, 0, 0, 0), (.iaload, 0, 0, 0, 0), (.istore_n 2, 0, 0, 0, 0), (.aload_n 0, 0, 0, 0, 0), (.iload_n 1, 0, 0, 0, 0), (.iconst (-1), 0, 0, 0, 0)] = true := by decide +kernel
theorem ck_Sc_putOut_13 : ia_cks 9 3 false prog_10_method_11_code 13 [(.aload_n 0, 0, 0, 0, 0), (.getfield 30, 9, 8, 3, 7), (.iload_n 1, 0, 0, 0, 0), (.iconst 0, 0, 0, 0, 0), (.iastore, 0, 0, 0, 0), (.aload_n 0, 0, 0, 0, 0), (.iload_n 1, 0, 0, 0, 0), (.iload_n 2, 0, 0, 0, 0)] = true := by decide +kernel
theorem dc_Sc_putOut_10 : decode prog_10_method_11_code 10 = .ok (.invokevirtual 95, 3) := by decide +kernel
theorem dc_Sc_putOut_23 : decode prog_10_method_11_code 23 = .ok (.invokevirtual 72, 3) := by decide +kernel
theorem dc_Sc_putOut_26 : decode prog_10_method_11_code 26 = .ok (.return_, 1) := by decide +kernel
def f_Sc_putOut (a0 : Nat) (x1 : Int32) (h : ia_H) : Option ia_H := ia_gd (ia_ib x1 6) ((f_Sc_lift a0 x1 (-1) h).bind fun v2 => (ia_gd (ia_ib x1 6) ((f_Sc_lower a0 x1 (ia_i h (a0 + 5) ((x1).toNatClampNeg)) (ia_wI v2 (a0 + 7) ((x1).toNatClampNeg) 0)).bind fun v4 => (some v4))))
theorem g_Sc_putOut {w : ia_O0} {a0 : Nat} {x1 : Int32} {h : ia_H} (hg : gd_ w h) (p0 : (kd_D a0).1 = 9) {q : ia_H} (hm : f_Sc_putOut a0 x1 h = some q) : gd_ w q := by
  obtain ⟨h1, e1⟩ : ∃ x, x = q := ⟨_, rfl⟩
  subst e1
  unfold f_Sc_putOut at hm
  obtain ⟨c1, hm⟩ := ia_gd_some hm
  obtain ⟨v2, hv2, hm⟩ := ia_bnd hm
  have gv2 := g_Sc_lift hg p0 hv2
  obtain ⟨c3, hm⟩ := ia_gd_some hm
  obtain ⟨v4, hv4, hm⟩ := ia_bnd hm
  have gv4 := g_Sc_lower (gd_wI gv2 (kx_100 (ka_9_8 p0))) p0 hv4
  obtain rfl := Option.some.inj hm
  exact gv4
theorem t_Sc_putOut {w : ia_O0} (d : Nat) {a0 : Nat} {x1 : Int32} {h : ia_H} (hg : gd_ w h) (p0 : (kd_D a0).1 = 9) {q : ia_H} (hm : f_Sc_putOut a0 x1 h = some q) : ia_Ev (d + 2) mm_Sc_putOut [.inr (.inr a0), .inl x1] h none q := by
  have gq := g_Sc_putOut hg p0 hm
  refine ia_Ev_intro ok_Sc_putOut (gd_le hg gq).1 (gd_le hg gq).2 (Nat.le_of_ble_eq_true rfl) (fun K hK hret => ?_)
  obtain ⟨h1, e1⟩ : ∃ x, x = q := ⟨_, rfl⟩
  subst e1
  show K 0 [some (.inr (.inr a0)), some (.inl x1), none] [] h
  unfold f_Sc_putOut at hm
  obtain ⟨c1, hm⟩ := ia_gd_some hm
  refine ia_go hK ck_Sc_putOut_0 ⟨gk_9 hg p0, gr_9_6 hg p0, ga_i100 hg (ka_9_6 p0) c1, ?_⟩
  show K 10 [some (.inr (.inr a0)), some (.inl x1), some (.inl (ia_i h (a0 + 5) ((x1).toNatClampNeg)))] [.inl (-1), .inl x1, .inr (.inr a0)] h
  obtain ⟨v2, hv2, hm⟩ := ia_bnd hm
  have ev2 := t_Sc_lift (d + 0) hg p0 hv2
  have gv2 := g_Sc_lift hg p0 hv2
  refine ia_cV hK mk_Sc_lift lk_9_95 dc_Sc_putOut_10 a0 [.inl x1, .inl (-1)] [] rfl rfl (Nat.le_of_ble_eq_true rfl) (by decide) rfl (gk_9 hg p0) ev2 (gd_nm hg gv2) ?_
  show K 13 [some (.inr (.inr a0)), some (.inl x1), some (.inl (ia_i h (a0 + 5) ((x1).toNatClampNeg)))] [] v2
  obtain ⟨c3, hm⟩ := ia_gd_some hm
  refine ia_go hK ck_Sc_putOut_13 ⟨gk_9 gv2 p0, gr_9_8 gv2 p0, ga_s100 gv2 (ka_9_8 p0) c3, ?_⟩
  show K 23 [some (.inr (.inr a0)), some (.inl x1), some (.inl (ia_i h (a0 + 5) ((x1).toNatClampNeg)))] [.inl (ia_i h (a0 + 5) ((x1).toNatClampNeg)), .inl x1, .inr (.inr a0)] (ia_wI v2 (a0 + 7) ((x1).toNatClampNeg) 0)
  obtain ⟨v4, hv4, hm⟩ := ia_bnd hm
  have ev4 := t_Sc_lower (d + 0) (gd_wI gv2 (kx_100 (ka_9_8 p0))) p0 hv4
  have gv4 := g_Sc_lower (gd_wI gv2 (kx_100 (ka_9_8 p0))) p0 hv4
  refine ia_cV hK mk_Sc_lower lk_9_72 dc_Sc_putOut_23 a0 [.inl x1, .inl (ia_i h (a0 + 5) ((x1).toNatClampNeg))] [] rfl rfl (Nat.le_of_ble_eq_true rfl) (by decide) rfl (gk_9 (gd_wI gv2 (kx_100 (ka_9_8 p0))) p0) ev4 (gd_nm (gd_wI gv2 (kx_100 (ka_9_8 p0))) gv4) ?_
  show K 26 [some (.inr (.inr a0)), some (.inl x1), some (.inl (ia_i h (a0 + 5) ((x1).toNatClampNeg)))] [] v4
  obtain rfl := Option.some.inj hm
  exact hret 26 _ dc_Sc_putOut_26
def mm_Ou_heldLongerWithout : ia_M := (⟨"IceStreet$Outlook", "heldLongerWithout", "(LIceStreet$Scene;I)I"⟩, prog_6_method_6_code, 5, (some .int), 5, false)
theorem ok_Ou_heldLongerWithout : ia_mok mm_Ou_heldLongerWithout := ⟨by decide +kernel, by decide +kernel, by decide +kernel, by decide +kernel⟩
theorem mk_Ou_heldLongerWithout : ia_mkn mm_Ou_heldLongerWithout 1 2 := ⟨ia_tb_in (List.mem_of_getElem? (i := 1404) (by decide +kernel)) rfl, ia_tb_in (List.mem_of_getElem? (i := 143) (by decide +kernel)) rfl, by decide +kernel, by decide +kernel, ⟨ia_tb_in (List.mem_of_getElem? (i := 1403) (by decide +kernel)) rfl, ia_tb_in (List.mem_of_getElem? (i := 44) (by decide +kernel)) rfl⟩⟩
theorem ck_Ou_heldLongerWithout_0 : ia_cks 5 5 false prog_6_method_6_code 0 [(.aload_n 0, 0, 0, 0, 0), (.getfield 31, 5, 2, 3, 11), (.aload_n 1, 0, 0, 0, 0)] = true := by decide +kernel
theorem ck_Ou_heldLongerWithout_8 : ia_cks 5 5 false prog_6_method_6_code 8 [(.aload_n 0, 0, 0, 0, 0), (.getfield 31, 5, 2, 3, 11), (.iload_n 2, 0, 0, 0, 0)] = true := by decide +kernel
theorem ck_Ou_heldLongerWithout_16 : ia_cks 5 5 false prog_6_method_6_code 16 [(.aload_n 0, 0, 0, 0, 0), (.aload_n 0, 0, 0, 0, 0), (.getfield 31, 5, 2, 3, 11), (.aload_n 0, 0, 0, 0, 0), (.getfield 15, 5, 4, 3, 2)] = true := by decide +kernel
theorem ck_Ou_heldLongerWithout_28 : ia_cks 5 5 false prog_6_method_6_code 28 [(.iconst 0, 0, 0, 0, 0), (.istore_n 3, 0, 0, 0, 0), (.iconst 0, 0, 0, 0, 0), (.istore 4, 0, 0, 0, 0)] = true := by decide +kernel
theorem ck_Ou_heldLongerWithout_33 : ia_cks 5 5 false prog_6_method_6_code 33 [(.iload 4, 0, 0, 0, 0), (.aload_n 1, 0, 0, 0, 0), (.getfield 69, 9, 0, 2, 0), (.getfield 94, 3, 11, 0, 0), (.if_icmp .ge 35, 0, 0, 0, 0)] = true := by decide +kernel
theorem ck_Ou_heldLongerWithout_45 : ia_cks 5 5 false prog_6_method_6_code 45 [(.iload 4, 0, 0, 0, 0), (.iload_n 2, 0, 0, 0, 0), (.if_icmp .eq 23, 0, 0, 0, 0)] = true := by decide +kernel
theorem ck_Ou_heldLongerWithout_71 : ia_cks 5 5 false prog_6_method_6_code 71 [(.iinc 4 1, 0, 0, 0, 0), (.goto (-41), 0, 0, 0, 0)] = true := by decide +kernel
theorem ck_Ou_heldLongerWithout_51 : ia_cks 5 5 false prog_6_method_6_code 51 [(.aload_n 0, 0, 0, 0, 0), (.getfield 15, 5, 4, 3, 2), (.iload 4, 0, 0, 0, 0), (.iaload, 0, 0, 0, 0), (.aload_n 0, 0, 0, 0, 0), (.getfield 9, 5, 3, 3, 1), (.iload 4, 0, 0, 0, 0), (.iaload, 0, 0, 0, 0), (.if_icmp .le 6, 0, 0, 0, 0)] = true := by decide +kernel
theorem ck_Ou_heldLongerWithout_68 : ia_cks 5 5 false prog_6_method_6_code 68 [(.iinc 3 1, 0, 0, 0, 0), (.iinc 4 1, 0, 0, 0, 0), (.goto (-41), 0, 0, 0, 0)] = true := by decide +kernel
theorem ck_Ou_heldLongerWithout_77 : ia_cks 5 5 false prog_6_method_6_code 77 [(.iload_n 3, 0, 0, 0, 0)] = true := by decide +kernel
theorem dc_Ou_heldLongerWithout_5 : decode prog_6_method_6_code 5 = .ok (.invokevirtual 34, 3) := by decide +kernel
theorem dc_Ou_heldLongerWithout_13 : decode prog_6_method_6_code 13 = .ok (.invokevirtual 101, 3) := by decide +kernel
theorem dc_Ou_heldLongerWithout_25 : decode prog_6_method_6_code 25 = .ok (.invokevirtual 90, 3) := by decide +kernel
theorem dc_Ou_heldLongerWithout_78 : decode prog_6_method_6_code 78 = .ok (.ireturn, 1) := by decide +kernel
def l_Ou_heldLongerWithout_33 (a1 : Nat) (x2 : Int32) (k77 : Int32 → ia_H → Option (Int32 × ia_H)) (n : Nat) (x3 : Int32) (x4 : Int32) (h : ia_H) : Option (Int32 × ia_H) := match n with
  | 0 => none
  | n + 1 => if (ia_i h (ia_r h a1 0) 11) ≤ x4 then (k77 x3 h) else (if x4 = x2 then (l_Ou_heldLongerWithout_33 a1 x2 k77 n x3 (x4 + 1) h) else (ia_gd (ia_ib x4 6) (ia_gd (ia_ib x4 6) (if (ia_i h 328 ((x4).toNatClampNeg)) ≤ (ia_i h 327 ((x4).toNatClampNeg)) then (l_Ou_heldLongerWithout_33 a1 x2 k77 n x3 (x4 + 1) h) else (l_Ou_heldLongerWithout_33 a1 x2 k77 n (x3 + 1) (x4 + 1) h)))))
theorem tl_Ou_heldLongerWithout_33 {w : ia_O0} {d N1 W1 : Nat} {K : ia_K} (hK : ia_isK (d + 5) mm_Ou_heldLongerWithout N1 W1 K) {a1 : Nat} {x2 : Int32} (p1 : (kd_D a1).1 = 9) {r : Int32} {h1 : ia_H} (hret : ∀ (pc : Nat) (lv : ia_L), ia_ret mm_Ou_heldLongerWithout pc (some (.inl r)) → K pc lv ((some (.inl r)) : Option ia_V).toList h1) {k77 : Int32 → ia_H → Option (Int32 × ia_H)} (hk77 : ∀ (x3 : Int32) (h : ia_H), gd_ w h → k77 x3 h = some (r, h1) → K 77 [none, none, none, some (.inl x3), none] [] h) : ∀ (n : Nat) (x3 : Int32) (x4 : Int32) (h : ia_H), gd_ w h → l_Ou_heldLongerWithout_33 a1 x2 k77 n x3 x4 h = some (r, h1) → K 33 [some (.inr (.inr 326)), some (.inr (.inr a1)), some (.inl x2), some (.inl x3), some (.inl x4)] [] h := by
  intro n
  induction n with
  | zero =>
    intro x3 x4 h hg hm
    cases (show (none : Option (Int32 × ia_H)) = some _ from hm)
  | succ n ih =>
    intro x3 x4 h hg hm
    rw [l_Ou_heldLongerWithout_33] at hm
    refine ia_go hK ck_Ou_heldLongerWithout_33 ⟨gk_9 hg p1, gk_3 hg (gm_9_0 hg p1), fun c => ?_, fun c => ?_⟩
    · replace hm := ia_ifp hm c
      show K 77 [some (.inr (.inr 326)), some (.inr (.inr a1)), some (.inl x2), some (.inl x3), some (.inl x4)] [] h
      refine ia_fg hK (lv' := [none, none, none, some (.inl x3), none]) ⟨rfl, trivial⟩ ?_
      exact hk77 x3 h hg hm
    · replace hm := ia_ifn hm c
      show K 45 [some (.inr (.inr 326)), some (.inr (.inr a1)), some (.inl x2), some (.inl x3), some (.inl x4)] [] h
      refine ia_go hK ck_Ou_heldLongerWithout_45 ⟨fun c => ?_, fun c => ?_⟩
      · replace hm := ia_ifp hm c
        show K 71 [some (.inr (.inr 326)), some (.inr (.inr a1)), some (.inl x2), some (.inl x3), some (.inl x4)] [] h
        refine ia_go hK ck_Ou_heldLongerWithout_71 ?_
        show K 33 [some (.inr (.inr 326)), some (.inr (.inr a1)), some (.inl x2), some (.inl x3), some (.inl (x4 + 1))] [] h
        exact ih x3 (x4 + 1) h hg hm
      · replace hm := ia_ifn hm c
        show K 51 [some (.inr (.inr 326)), some (.inr (.inr a1)), some (.inl x2), some (.inl x3), some (.inl x4)] [] h
        obtain ⟨c4, hm⟩ := ia_gd_some hm
        obtain ⟨c5, hm⟩ := ia_gd_some hm
        refine ia_go hK ck_Ou_heldLongerWithout_51 ⟨gk_5 hg pk_326, gr_5_4 hg pk_326, ga_i100 hg (ka_5_4 pk_326) c4, gk_5 hg pk_326, gr_5_3 hg pk_326, ga_i100 hg (ka_5_3 pk_326) c5, fun c => ?_, fun c => ?_⟩
        · replace hm := ia_ifp hm c
          show K 71 [some (.inr (.inr 326)), some (.inr (.inr a1)), some (.inl x2), some (.inl x3), some (.inl x4)] [] h
          refine ia_go hK ck_Ou_heldLongerWithout_71 ?_
          show K 33 [some (.inr (.inr 326)), some (.inr (.inr a1)), some (.inl x2), some (.inl x3), some (.inl (x4 + 1))] [] h
          exact ih x3 (x4 + 1) h hg hm
        · replace hm := ia_ifn hm c
          show K 68 [some (.inr (.inr 326)), some (.inr (.inr a1)), some (.inl x2), some (.inl x3), some (.inl x4)] [] h
          refine ia_go hK ck_Ou_heldLongerWithout_68 ?_
          show K 33 [some (.inr (.inr 326)), some (.inr (.inr a1)), some (.inl x2), some (.inl (x3 + 1)), some (.inl (x4 + 1))] [] h
          exact ih (x3 + 1) (x4 + 1) h hg hm
theorem gl_Ou_heldLongerWithout_33 {w : ia_O0} {a1 : Nat} {x2 : Int32} (p1 : (kd_D a1).1 = 9) {r : Int32} {h1 : ia_H} {k77 : Int32 → ia_H → Option (Int32 × ia_H)} (hk77 : ∀ (x3 : Int32) (h : ia_H), gd_ w h → k77 x3 h = some (r, h1) → gd_ w h1) : ∀ (n : Nat) (x3 : Int32) (x4 : Int32) (h : ia_H), gd_ w h → l_Ou_heldLongerWithout_33 a1 x2 k77 n x3 x4 h = some (r, h1) → gd_ w h1 := by
  intro n
  induction n with
  | zero =>
    intro x3 x4 h hg hm
    cases (show (none : Option (Int32 × ia_H)) = some _ from hm)
  | succ n ih =>
    intro x3 x4 h hg hm
    rw [l_Ou_heldLongerWithout_33] at hm
    by_cases c : (ia_i h (ia_r h a1 0) 11) ≤ x4
    · replace hm := ia_ifp hm c
      exact hk77 x3 h hg hm
    · replace hm := ia_ifn hm c
      by_cases c : x4 = x2
      · replace hm := ia_ifp hm c
        exact ih x3 (x4 + 1) h hg hm
      · replace hm := ia_ifn hm c
        obtain ⟨c4, hm⟩ := ia_gd_some hm
        obtain ⟨c5, hm⟩ := ia_gd_some hm
        by_cases c : (ia_i h 328 ((x4).toNatClampNeg)) ≤ (ia_i h 327 ((x4).toNatClampNeg))
        · replace hm := ia_ifp hm c
          exact ih x3 (x4 + 1) h hg hm
        · replace hm := ia_ifn hm c
          exact ih (x3 + 1) (x4 + 1) h hg hm
def f_Ou_heldLongerWithout (a1 : Nat) (x2 : Int32) (h : ia_H) : Option (Int32 × ia_H) := (f_Sc_become 337 a1 h).bind fun v1 => ((f_Sc_putOut 337 x2 v1).bind fun v2 => ((f_Ou_recordHeld 337 328 v2).bind fun v3 => (l_Ou_heldLongerWithout_33 a1 x2 (fun x3 h => some (x3, h)) fu_ 0 0 v3)))
theorem g_Ou_heldLongerWithout {w : ia_O0} {a1 : Nat} {x2 : Int32} {h : ia_H} (hg : gd_ w h) (p1 : (kd_D a1).1 = 9) {q : (Int32 × ia_H)} (hm : f_Ou_heldLongerWithout a1 x2 h = some q) : gd_ w q.2 := by
  obtain ⟨r, h1⟩ := q
  unfold f_Ou_heldLongerWithout at hm
  obtain ⟨v1, hv1, hm⟩ := ia_bnd hm
  have gv1 := g_Sc_become hg (ka_5_2 pk_326) p1 hv1
  obtain ⟨v2, hv2, hm⟩ := ia_bnd hm
  have gv2 := g_Sc_putOut gv1 (ka_5_2 pk_326) hv2
  obtain ⟨v3, hv3, hm⟩ := ia_bnd hm
  have gv3 := g_Ou_recordHeld gv2 (ka_5_2 pk_326) (congrArg Prod.fst (ka_5_4 pk_326)) hv3
  refine gl_Ou_heldLongerWithout_33 p1 ?_ fu_ 0 0 v3 gv3 hm
  · intro x3 h hg hm
    obtain ⟨rfl, rfl⟩ := Prod.mk.inj (Option.some.inj hm)
    exact hg
theorem t_Ou_heldLongerWithout {w : ia_O0} (d : Nat) {a1 : Nat} {x2 : Int32} {h : ia_H} (hg : gd_ w h) (p1 : (kd_D a1).1 = 9) {q : (Int32 × ia_H)} (hm : f_Ou_heldLongerWithout a1 x2 h = some q) : ia_Ev (d + 5) mm_Ou_heldLongerWithout [.inr (.inr 326), .inr (.inr a1), .inl x2] h (some (.inl q.1)) q.2 := by
  have gq := g_Ou_heldLongerWithout hg p1 hm
  refine ia_Ev_intro ok_Ou_heldLongerWithout (gd_le hg gq).1 (gd_le hg gq).2 (Nat.le_of_ble_eq_true rfl) (fun K hK hret => ?_)
  obtain ⟨r, h1⟩ := q
  show K 0 [some (.inr (.inr 326)), some (.inr (.inr a1)), some (.inl x2), none, none] [] h
  unfold f_Ou_heldLongerWithout at hm
  refine ia_go hK ck_Ou_heldLongerWithout_0 ⟨gk_5 hg pk_326, gr_5_2 hg pk_326, ?_⟩
  show K 5 [some (.inr (.inr 326)), some (.inr (.inr a1)), some (.inl x2), none, none] [.inr (.inr a1), .inr (.inr 337)] h
  obtain ⟨v1, hv1, hm⟩ := ia_bnd hm
  have ev1 := t_Sc_become (d + 4) hg (ka_5_2 pk_326) p1 hv1
  have gv1 := g_Sc_become hg (ka_5_2 pk_326) p1 hv1
  refine ia_cV hK mk_Sc_become lk_5_34 dc_Ou_heldLongerWithout_5 337 [.inr (.inr a1)] [] rfl rfl (Nat.le_of_ble_eq_true rfl) (by decide) rfl (gk_9 hg (ka_5_2 pk_326)) ev1 (gd_nm hg gv1) ?_
  show K 8 [some (.inr (.inr 326)), some (.inr (.inr a1)), some (.inl x2), none, none] [] v1
  refine ia_go hK ck_Ou_heldLongerWithout_8 ⟨gk_5 gv1 pk_326, gr_5_2 gv1 pk_326, ?_⟩
  show K 13 [some (.inr (.inr 326)), some (.inr (.inr a1)), some (.inl x2), none, none] [.inl x2, .inr (.inr 337)] v1
  obtain ⟨v2, hv2, hm⟩ := ia_bnd hm
  have ev2 := t_Sc_putOut (d + 2) gv1 (ka_5_2 pk_326) hv2
  have gv2 := g_Sc_putOut gv1 (ka_5_2 pk_326) hv2
  refine ia_cV hK mk_Sc_putOut lk_5_101 dc_Ou_heldLongerWithout_13 337 [.inl x2] [] rfl rfl (Nat.le_of_ble_eq_true rfl) (by decide) rfl (gk_9 gv1 (ka_5_2 pk_326)) ev2 (gd_nm gv1 gv2) ?_
  show K 16 [some (.inr (.inr 326)), some (.inr (.inr a1)), some (.inl x2), none, none] [] v2
  refine ia_go hK ck_Ou_heldLongerWithout_16 ⟨gk_5 gv2 pk_326, gr_5_2 gv2 pk_326, gk_5 gv2 pk_326, gr_5_4 gv2 pk_326, ?_⟩
  show K 25 [some (.inr (.inr 326)), some (.inr (.inr a1)), some (.inl x2), none, none] [.inr (.inr 328), .inr (.inr 337), .inr (.inr 326)] v2
  obtain ⟨v3, hv3, hm⟩ := ia_bnd hm
  have ev3 := t_Ou_recordHeld (d + 0) gv2 (ka_5_2 pk_326) (congrArg Prod.fst (ka_5_4 pk_326)) hv3
  have gv3 := g_Ou_recordHeld gv2 (ka_5_2 pk_326) (congrArg Prod.fst (ka_5_4 pk_326)) hv3
  refine ia_cV hK mk_Ou_recordHeld lk_5_90 dc_Ou_heldLongerWithout_25 326 [.inr (.inr 337), .inr (.inr 328)] [] rfl rfl (Nat.le_of_ble_eq_true rfl) (by decide) rfl (gk_5 gv2 pk_326) ev3 (gd_nm gv2 gv3) ?_
  show K 28 [some (.inr (.inr 326)), some (.inr (.inr a1)), some (.inl x2), none, none] [] v3
  refine ia_go hK ck_Ou_heldLongerWithout_28 ?_
  show K 33 [some (.inr (.inr 326)), some (.inr (.inr a1)), some (.inl x2), some (.inl 0), some (.inl 0)] [] v3
  refine tl_Ou_heldLongerWithout_33 hK p1 hret ?_ fu_ 0 0 v3 gv3 hm
  · intro x3 h hg hm
    refine ia_go hK ck_Ou_heldLongerWithout_77 ?_
    show K 78 [none, none, none, some (.inl x3), none] [.inl x3] h
    obtain ⟨rfl, rfl⟩ := Prod.mk.inj (Option.some.inj hm)
    exact hret 78 _ dc_Ou_heldLongerWithout_78
def mm_Ou_worstStove : ia_M := (⟨"IceStreet$Outlook", "worstStove", "(LIceStreet$Scene;)I"⟩, prog_6_method_5_code, 6, (some .int), 5, false)
theorem ok_Ou_worstStove : ia_mok mm_Ou_worstStove := ⟨by decide +kernel, by decide +kernel, by decide +kernel, by decide +kernel⟩
theorem mk_Ou_worstStove : ia_mkn mm_Ou_worstStove 1 1 := ⟨ia_tb_in (List.mem_of_getElem? (i := 1395) (by decide +kernel)) rfl, ia_tb_in (List.mem_of_getElem? (i := 143) (by decide +kernel)) rfl, by decide +kernel, by decide +kernel, ⟨ia_tb_in (List.mem_of_getElem? (i := 1393) (by decide +kernel)) rfl, ia_tb_in (List.mem_of_getElem? (i := 1394) (by decide +kernel)) rfl⟩⟩
theorem ck_Ou_worstStove_0 : ia_cks 5 6 false prog_6_method_5_code 0 [(.aload_n 0, 0, 0, 0, 0), (.aload_n 1, 0, 0, 0, 0), (.aload_n 0, 0, 0, 0, 0), (.getfield 9, 5, 3, 3, 1)] = true := by decide +kernel
theorem ck_Ou_worstStove_9 : ia_cks 5 6 false prog_6_method_5_code 9 [(.iconst (-1), 0, 0, 0, 0), (.istore_n 2, 0, 0, 0, 0), (.iconst 0, 0, 0, 0, 0), (.istore_n 3, 0, 0, 0, 0), (.iconst 0, 0, 0, 0, 0), (.istore 4, 0, 0, 0, 0)] = true := by decide +kernel
theorem ck_Ou_worstStove_16 : ia_cks 5 6 false prog_6_method_5_code 16 [(.iload 4, 0, 0, 0, 0), (.aload_n 1, 0, 0, 0, 0), (.getfield 69, 9, 0, 2, 0), (.getfield 94, 3, 11, 0, 0), (.if_icmp .ge 43, 0, 0, 0, 0)] = true := by decide +kernel
theorem ck_Ou_worstStove_28 : ia_cks 5 6 false prog_6_method_5_code 28 [(.aload_n 1, 0, 0, 0, 0), (.iload 4, 0, 0, 0, 0)] = true := by decide +kernel
theorem ck_Ou_worstStove_34 : ia_cks 5 6 false prog_6_method_5_code 34 [(.ifCond .eq 13, 0, 0, 0, 0)] = true := by decide +kernel
theorem ck_Ou_worstStove_47 : ia_cks 5 6 false prog_6_method_5_code 47 [(.iconst 0, 0, 0, 0, 0)] = true := by decide +kernel
theorem ck_Ou_worstStove_48 : ia_cks 5 6 false prog_6_method_5_code 48 [(.istore 5, 0, 0, 0, 0), (.iload 5, 0, 0, 0, 0), (.iload_n 3, 0, 0, 0, 0), (.if_icmp .le 9, 0, 0, 0, 0)] = true := by decide +kernel
theorem ck_Ou_worstStove_62 : ia_cks 5 6 false prog_6_method_5_code 62 [(.iinc 4 1, 0, 0, 0, 0), (.goto (-49), 0, 0, 0, 0)] = true := by decide +kernel
theorem ck_Ou_worstStove_56 : ia_cks 5 6 false prog_6_method_5_code 56 [(.iload 5, 0, 0, 0, 0), (.istore_n 3, 0, 0, 0, 0), (.iload 4, 0, 0, 0, 0), (.istore_n 2, 0, 0, 0, 0), (.iinc 4 1, 0, 0, 0, 0), (.goto (-49), 0, 0, 0, 0)] = true := by decide +kernel
theorem ck_Ou_worstStove_37 : ia_cks 5 6 false prog_6_method_5_code 37 [(.aload_n 0, 0, 0, 0, 0), (.aload_n 1, 0, 0, 0, 0), (.iload 4, 0, 0, 0, 0)] = true := by decide +kernel
theorem ck_Ou_worstStove_44 : ia_cks 5 6 false prog_6_method_5_code 44 [(.goto 4, 0, 0, 0, 0)] = true := by decide +kernel
theorem ck_Ou_worstStove_68 : ia_cks 5 6 false prog_6_method_5_code 68 [(.iload_n 2, 0, 0, 0, 0)] = true := by decide +kernel
theorem dc_Ou_worstStove_6 : decode prog_6_method_5_code 6 = .ok (.invokevirtual 90, 3) := by decide +kernel
theorem dc_Ou_worstStove_31 : decode prog_6_method_5_code 31 = .ok (.invokevirtual 38, 3) := by decide +kernel
theorem dc_Ou_worstStove_41 : decode prog_6_method_5_code 41 = .ok (.invokevirtual 98, 3) := by decide +kernel
theorem dc_Ou_worstStove_69 : decode prog_6_method_5_code 69 = .ok (.ireturn, 1) := by decide +kernel
def j_Ou_worstStove_48 (a1 : Nat) (kr : Int32 → Int32 → Int32 → ia_H → Option (Int32 × ia_H)) (k68 : Int32 → ia_H → Option (Int32 × ia_H)) (x2 : Int32) (x3 : Int32) (x4 : Int32) (s0 : Int32) (h : ia_H) : Option (Int32 × ia_H) := if s0 ≤ x3 then (kr x2 x3 (x4 + 1) h) else (kr x4 s0 (x4 + 1) h)
theorem tj_Ou_worstStove_48 {w : ia_O0} {d N1 W1 : Nat} {K : ia_K} (hK : ia_isK (d + 6) mm_Ou_worstStove N1 W1 K) {a1 : Nat} (p1 : (kd_D a1).1 = 9) {r : Int32} {h1 : ia_H} (hret : ∀ (pc : Nat) (lv : ia_L), ia_ret mm_Ou_worstStove pc (some (.inl r)) → K pc lv ((some (.inl r)) : Option ia_V).toList h1) {kr : Int32 → Int32 → Int32 → ia_H → Option (Int32 × ia_H)} {k68 : Int32 → ia_H → Option (Int32 × ia_H)} (hkr : ∀ (x2 : Int32) (x3 : Int32) (x4 : Int32) (h : ia_H), gd_ w h → kr x2 x3 x4 h = some (r, h1) → K 16 [some (.inr (.inr 326)), some (.inr (.inr a1)), some (.inl x2), some (.inl x3), some (.inl x4), none] [] h) (hk68 : ∀ (x2 : Int32) (h : ia_H), gd_ w h → k68 x2 h = some (r, h1) → K 68 [none, none, some (.inl x2), none, none, none] [] h) : ∀ (x2 : Int32) (x3 : Int32) (x4 : Int32) (s0 : Int32) (h : ia_H), gd_ w h → j_Ou_worstStove_48 a1 kr k68 x2 x3 x4 s0 h = some (r, h1) → K 48 [some (.inr (.inr 326)), some (.inr (.inr a1)), some (.inl x2), some (.inl x3), some (.inl x4), none] [.inl s0] h := by
  intro x2 x3 x4 s0 h hg hm
  unfold j_Ou_worstStove_48 at hm
  refine ia_go hK ck_Ou_worstStove_48 ⟨fun c => ?_, fun c => ?_⟩
  · replace hm := ia_ifp hm c
    show K 62 [some (.inr (.inr 326)), some (.inr (.inr a1)), some (.inl x2), some (.inl x3), some (.inl x4), some (.inl s0)] [] h
    refine ia_go hK ck_Ou_worstStove_62 ?_
    show K 16 [some (.inr (.inr 326)), some (.inr (.inr a1)), some (.inl x2), some (.inl x3), some (.inl (x4 + 1)), some (.inl s0)] [] h
    refine ia_fg hK (lv' := [some (.inr (.inr 326)), some (.inr (.inr a1)), some (.inl x2), some (.inl x3), some (.inl (x4 + 1)), none]) ⟨rfl, rfl, rfl, rfl, rfl, trivial⟩ ?_
    exact hkr x2 x3 (x4 + 1) h hg hm
  · replace hm := ia_ifn hm c
    show K 56 [some (.inr (.inr 326)), some (.inr (.inr a1)), some (.inl x2), some (.inl x3), some (.inl x4), some (.inl s0)] [] h
    refine ia_go hK ck_Ou_worstStove_56 ?_
    show K 16 [some (.inr (.inr 326)), some (.inr (.inr a1)), some (.inl x4), some (.inl s0), some (.inl (x4 + 1)), some (.inl s0)] [] h
    refine ia_fg hK (lv' := [some (.inr (.inr 326)), some (.inr (.inr a1)), some (.inl x4), some (.inl s0), some (.inl (x4 + 1)), none]) ⟨rfl, rfl, rfl, rfl, rfl, trivial⟩ ?_
    exact hkr x4 s0 (x4 + 1) h hg hm
theorem gj_Ou_worstStove_48 {w : ia_O0} {a1 : Nat} (p1 : (kd_D a1).1 = 9) {r : Int32} {h1 : ia_H} {kr : Int32 → Int32 → Int32 → ia_H → Option (Int32 × ia_H)} {k68 : Int32 → ia_H → Option (Int32 × ia_H)} (hkr : ∀ (x2 : Int32) (x3 : Int32) (x4 : Int32) (h : ia_H), gd_ w h → kr x2 x3 x4 h = some (r, h1) → gd_ w h1) (hk68 : ∀ (x2 : Int32) (h : ia_H), gd_ w h → k68 x2 h = some (r, h1) → gd_ w h1) : ∀ (x2 : Int32) (x3 : Int32) (x4 : Int32) (s0 : Int32) (h : ia_H), gd_ w h → j_Ou_worstStove_48 a1 kr k68 x2 x3 x4 s0 h = some (r, h1) → gd_ w h1 := by
  intro x2 x3 x4 s0 h hg hm
  unfold j_Ou_worstStove_48 at hm
  by_cases c : s0 ≤ x3
  · replace hm := ia_ifp hm c
    exact hkr x2 x3 (x4 + 1) h hg hm
  · replace hm := ia_ifn hm c
    exact hkr x4 s0 (x4 + 1) h hg hm
def l_Ou_worstStove_16 (a1 : Nat) (k68 : Int32 → ia_H → Option (Int32 × ia_H)) (n : Nat) (x2 : Int32) (x3 : Int32) (x4 : Int32) (h : ia_H) : Option (Int32 × ia_H) := match n with
  | 0 => none
  | n + 1 => if (ia_i h (ia_r h a1 0) 11) ≤ x4 then (k68 x2 h) else ((f_Sc_stands a1 x4 h).bind fun v2 => (if v2 = 0 then (j_Ou_worstStove_48 a1 (l_Ou_worstStove_16 a1 k68 n) k68 x2 x3 x4 0 h) else ((f_Ou_heldLongerWithout a1 x4 h).bind fun v3 => (j_Ou_worstStove_48 a1 (l_Ou_worstStove_16 a1 k68 n) k68 x2 x3 x4 v3.1 v3.2))))
theorem tl_Ou_worstStove_16 {w : ia_O0} {d N1 W1 : Nat} {K : ia_K} (hK : ia_isK (d + 6) mm_Ou_worstStove N1 W1 K) {a1 : Nat} (p1 : (kd_D a1).1 = 9) {r : Int32} {h1 : ia_H} (hret : ∀ (pc : Nat) (lv : ia_L), ia_ret mm_Ou_worstStove pc (some (.inl r)) → K pc lv ((some (.inl r)) : Option ia_V).toList h1) {k68 : Int32 → ia_H → Option (Int32 × ia_H)} (hk68 : ∀ (x2 : Int32) (h : ia_H), gd_ w h → k68 x2 h = some (r, h1) → K 68 [none, none, some (.inl x2), none, none, none] [] h) : ∀ (n : Nat) (x2 : Int32) (x3 : Int32) (x4 : Int32) (h : ia_H), gd_ w h → l_Ou_worstStove_16 a1 k68 n x2 x3 x4 h = some (r, h1) → K 16 [some (.inr (.inr 326)), some (.inr (.inr a1)), some (.inl x2), some (.inl x3), some (.inl x4), none] [] h := by
  intro n
  induction n with
  | zero =>
    intro x2 x3 x4 h hg hm
    cases (show (none : Option (Int32 × ia_H)) = some _ from hm)
  | succ n ih =>
    intro x2 x3 x4 h hg hm
    rw [l_Ou_worstStove_16] at hm
    refine ia_go hK ck_Ou_worstStove_16 ⟨gk_9 hg p1, gk_3 hg (gm_9_0 hg p1), fun c => ?_, fun c => ?_⟩
    · replace hm := ia_ifp hm c
      show K 68 [some (.inr (.inr 326)), some (.inr (.inr a1)), some (.inl x2), some (.inl x3), some (.inl x4), none] [] h
      refine ia_fg hK (lv' := [none, none, some (.inl x2), none, none, none]) ⟨rfl, trivial⟩ ?_
      exact hk68 x2 h hg hm
    · replace hm := ia_ifn hm c
      show K 28 [some (.inr (.inr 326)), some (.inr (.inr a1)), some (.inl x2), some (.inl x3), some (.inl x4), none] [] h
      refine ia_go hK ck_Ou_worstStove_28 ?_
      show K 31 [some (.inr (.inr 326)), some (.inr (.inr a1)), some (.inl x2), some (.inl x3), some (.inl x4), none] [.inl x4, .inr (.inr a1)] h
      obtain ⟨v2, hv2, hm⟩ := ia_bnd hm
      have ev2 := t_Sc_stands (d + 5) hg p1 hv2
      refine ia_cV hK mk_Sc_stands lk_5_38 dc_Ou_worstStove_31 a1 [.inl x4] [] rfl rfl (Nat.le_of_ble_eq_true rfl) (by decide) rfl (gk_9 hg p1) ev2 ⟨rfl, rfl⟩ ?_
      show K 34 [some (.inr (.inr 326)), some (.inr (.inr a1)), some (.inl x2), some (.inl x3), some (.inl x4), none] [.inl v2] h
      refine ia_go hK ck_Ou_worstStove_34 ⟨fun c => ?_, fun c => ?_⟩
      · replace hm := ia_ifp hm c
        show K 47 [some (.inr (.inr 326)), some (.inr (.inr a1)), some (.inl x2), some (.inl x3), some (.inl x4), none] [] h
        refine ia_go hK ck_Ou_worstStove_47 ?_
        show K 48 [some (.inr (.inr 326)), some (.inr (.inr a1)), some (.inl x2), some (.inl x3), some (.inl x4), none] [.inl 0] h
        exact tj_Ou_worstStove_48 hK p1 hret ih hk68 x2 x3 x4 0 h hg hm
      · replace hm := ia_ifn hm c
        show K 37 [some (.inr (.inr 326)), some (.inr (.inr a1)), some (.inl x2), some (.inl x3), some (.inl x4), none] [] h
        refine ia_go hK ck_Ou_worstStove_37 ?_
        show K 41 [some (.inr (.inr 326)), some (.inr (.inr a1)), some (.inl x2), some (.inl x3), some (.inl x4), none] [.inl x4, .inr (.inr a1), .inr (.inr 326)] h
        obtain ⟨v3, hv3, hm⟩ := ia_bnd hm
        have ev3 := t_Ou_heldLongerWithout (d + 0) hg p1 hv3
        have gv3 := g_Ou_heldLongerWithout hg p1 hv3
        refine ia_cV hK mk_Ou_heldLongerWithout lk_5_98 dc_Ou_worstStove_41 326 [.inr (.inr a1), .inl x4] [] rfl rfl (Nat.le_of_ble_eq_true rfl) (by decide) rfl (gk_5 hg pk_326) ev3 (gd_nm hg gv3) ?_
        show K 44 [some (.inr (.inr 326)), some (.inr (.inr a1)), some (.inl x2), some (.inl x3), some (.inl x4), none] [.inl v3.1] v3.2
        refine ia_go hK ck_Ou_worstStove_44 ?_
        show K 48 [some (.inr (.inr 326)), some (.inr (.inr a1)), some (.inl x2), some (.inl x3), some (.inl x4), none] [.inl v3.1] v3.2
        exact tj_Ou_worstStove_48 hK p1 hret ih hk68 x2 x3 x4 v3.1 v3.2 gv3 hm
theorem gl_Ou_worstStove_16 {w : ia_O0} {a1 : Nat} (p1 : (kd_D a1).1 = 9) {r : Int32} {h1 : ia_H} {k68 : Int32 → ia_H → Option (Int32 × ia_H)} (hk68 : ∀ (x2 : Int32) (h : ia_H), gd_ w h → k68 x2 h = some (r, h1) → gd_ w h1) : ∀ (n : Nat) (x2 : Int32) (x3 : Int32) (x4 : Int32) (h : ia_H), gd_ w h → l_Ou_worstStove_16 a1 k68 n x2 x3 x4 h = some (r, h1) → gd_ w h1 := by
  intro n
  induction n with
  | zero =>
    intro x2 x3 x4 h hg hm
    cases (show (none : Option (Int32 × ia_H)) = some _ from hm)
  | succ n ih =>
    intro x2 x3 x4 h hg hm
    rw [l_Ou_worstStove_16] at hm
    by_cases c : (ia_i h (ia_r h a1 0) 11) ≤ x4
    · replace hm := ia_ifp hm c
      exact hk68 x2 h hg hm
    · replace hm := ia_ifn hm c
      obtain ⟨v2, hv2, hm⟩ := ia_bnd hm
      by_cases c : v2 = 0
      · replace hm := ia_ifp hm c
        exact gj_Ou_worstStove_48 p1 ih hk68 x2 x3 x4 0 h hg hm
      · replace hm := ia_ifn hm c
        obtain ⟨v3, hv3, hm⟩ := ia_bnd hm
        have gv3 := g_Ou_heldLongerWithout hg p1 hv3
        exact gj_Ou_worstStove_48 p1 ih hk68 x2 x3 x4 v3.1 v3.2 gv3 hm
def f_Ou_worstStove (a1 : Nat) (h : ia_H) : Option (Int32 × ia_H) := (f_Ou_recordHeld a1 327 h).bind fun v1 => (l_Ou_worstStove_16 a1 (fun x2 h => some (x2, h)) fu_ (-1) 0 0 v1)
theorem g_Ou_worstStove {w : ia_O0} {a1 : Nat} {h : ia_H} (hg : gd_ w h) (p1 : (kd_D a1).1 = 9) {q : (Int32 × ia_H)} (hm : f_Ou_worstStove a1 h = some q) : gd_ w q.2 := by
  obtain ⟨r, h1⟩ := q
  unfold f_Ou_worstStove at hm
  obtain ⟨v1, hv1, hm⟩ := ia_bnd hm
  have gv1 := g_Ou_recordHeld hg p1 (congrArg Prod.fst (ka_5_3 pk_326)) hv1
  refine gl_Ou_worstStove_16 p1 ?_ fu_ (-1) 0 0 v1 gv1 hm
  · intro x2 h hg hm
    obtain ⟨rfl, rfl⟩ := Prod.mk.inj (Option.some.inj hm)
    exact hg
theorem t_Ou_worstStove {w : ia_O0} (d : Nat) {a1 : Nat} {h : ia_H} (hg : gd_ w h) (p1 : (kd_D a1).1 = 9) {q : (Int32 × ia_H)} (hm : f_Ou_worstStove a1 h = some q) : ia_Ev (d + 6) mm_Ou_worstStove [.inr (.inr 326), .inr (.inr a1)] h (some (.inl q.1)) q.2 := by
  have gq := g_Ou_worstStove hg p1 hm
  refine ia_Ev_intro ok_Ou_worstStove (gd_le hg gq).1 (gd_le hg gq).2 (Nat.le_of_ble_eq_true rfl) (fun K hK hret => ?_)
  obtain ⟨r, h1⟩ := q
  show K 0 [some (.inr (.inr 326)), some (.inr (.inr a1)), none, none, none, none] [] h
  unfold f_Ou_worstStove at hm
  refine ia_go hK ck_Ou_worstStove_0 ⟨gk_5 hg pk_326, gr_5_3 hg pk_326, ?_⟩
  show K 6 [some (.inr (.inr 326)), some (.inr (.inr a1)), none, none, none, none] [.inr (.inr 327), .inr (.inr a1), .inr (.inr 326)] h
  obtain ⟨v1, hv1, hm⟩ := ia_bnd hm
  have ev1 := t_Ou_recordHeld (d + 1) hg p1 (congrArg Prod.fst (ka_5_3 pk_326)) hv1
  have gv1 := g_Ou_recordHeld hg p1 (congrArg Prod.fst (ka_5_3 pk_326)) hv1
  refine ia_cV hK mk_Ou_recordHeld lk_5_90 dc_Ou_worstStove_6 326 [.inr (.inr a1), .inr (.inr 327)] [] rfl rfl (Nat.le_of_ble_eq_true rfl) (by decide) rfl (gk_5 hg pk_326) ev1 (gd_nm hg gv1) ?_
  show K 9 [some (.inr (.inr 326)), some (.inr (.inr a1)), none, none, none, none] [] v1
  refine ia_go hK ck_Ou_worstStove_9 ?_
  show K 16 [some (.inr (.inr 326)), some (.inr (.inr a1)), some (.inl (-1)), some (.inl 0), some (.inl 0), none] [] v1
  refine tl_Ou_worstStove_16 hK p1 hret ?_ fu_ (-1) 0 0 v1 gv1 hm
  · intro x2 h hg hm
    refine ia_go hK ck_Ou_worstStove_68 ?_
    show K 69 [none, none, some (.inl x2), none, none, none] [.inl x2] h
    obtain ⟨rfl, rfl⟩ := Prod.mk.inj (Option.some.inj hm)
    exact hret 69 _ dc_Ou_worstStove_69
def mm_I_hearth : ia_M := (⟨"IceStreet", "hearth", "(IIII)I"⟩, prog_1_method_25_code, 5, (some .int), 0, false)
theorem ok_I_hearth : ia_mok mm_I_hearth := ⟨by decide +kernel, by decide +kernel, by decide +kernel, by decide +kernel⟩
theorem mk_I_hearth : ia_mkn mm_I_hearth 1 4 := ⟨ia_tb_in (List.mem_of_getElem? (i := 1391) (by decide +kernel)) rfl, ia_tb_in (List.mem_of_getElem? (i := 133) (by decide +kernel)) rfl, by decide +kernel, by decide +kernel, ⟨ia_tb_in (List.mem_of_getElem? (i := 1389) (by decide +kernel)) rfl, ia_tb_in (List.mem_of_getElem? (i := 1390) (by decide +kernel)) rfl⟩⟩
theorem ck_I_hearth_0 : ia_cks 0 5 false prog_1_method_25_code 0 [(.aload_n 0, 0, 0, 0, 0), (.iload_n 1, 0, 0, 0, 0), (.iload_n 2, 0, 0, 0, 0), (.iload_n 3, 0, 0, 0, 0), (.iload 4, 0, 0, 0, 0)] = true := by decide +kernel
theorem ck_I_hearth_9 : ia_cks 0 5 false prog_1_method_25_code 9 [(.ifCond .ne 5, 0, 0, 0, 0)] = true := by decide +kernel
theorem ck_I_hearth_14 : ia_cks 0 5 false prog_1_method_25_code 14 [(.aload_n 0, 0, 0, 0, 0), (.getfield 69, 0, 7, 3, 262), (.aload_n 0, 0, 0, 0, 0), (.getfield 44, 0, 4, 3, 239)] = true := by decide +kernel
theorem ck_I_hearth_12 : ia_cks 0 5 false prog_1_method_25_code 12 [(.iconst (-1), 0, 0, 0, 0)] = true := by decide +kernel
theorem dc_I_hearth_6 : decode prog_1_method_25_code 6 = .ok (.invokevirtual 266, 3) := by decide +kernel
theorem dc_I_hearth_22 : decode prog_1_method_25_code 22 = .ok (.invokevirtual 373, 3) := by decide +kernel
theorem dc_I_hearth_25 : decode prog_1_method_25_code 25 = .ok (.ireturn, 1) := by decide +kernel
theorem dc_I_hearth_13 : decode prog_1_method_25_code 13 = .ok (.ireturn, 1) := by decide +kernel
def f_I_hearth (x1 : Int32) (x2 : Int32) (x3 : Int32) (x4 : Int32) (h : ia_H) : Option (Int32 × ia_H) := (f_I_stage x1 x2 x3 x4 h).bind fun v1 => (if v1.1 = 0 then (some ((-1), v1.2)) else ((f_Ou_worstStove 303 v1.2).bind fun v2 => (some (v2.1, v2.2))))
theorem g_I_hearth {w : ia_O0} {x1 : Int32} {x2 : Int32} {x3 : Int32} {x4 : Int32} {h : ia_H} (hg : gd_ w h) {q : (Int32 × ia_H)} (hm : f_I_hearth x1 x2 x3 x4 h = some q) : gd_ w q.2 := by
  obtain ⟨r, h1⟩ := q
  unfold f_I_hearth at hm
  obtain ⟨v1, hv1, hm⟩ := ia_bnd hm
  have gv1 := g_I_stage hg hv1
  by_cases c : v1.1 = 0
  · replace hm := ia_ifp hm c
    obtain ⟨rfl, rfl⟩ := Prod.mk.inj (Option.some.inj hm)
    exact gv1
  · replace hm := ia_ifn hm c
    obtain ⟨v2, hv2, hm⟩ := ia_bnd hm
    have gv2 := g_Ou_worstStove gv1 (ka_0_4 pk_64) hv2
    obtain ⟨rfl, rfl⟩ := Prod.mk.inj (Option.some.inj hm)
    exact gv2
theorem t_I_hearth {w : ia_O0} (d : Nat) {x1 : Int32} {x2 : Int32} {x3 : Int32} {x4 : Int32} {h : ia_H} (hg : gd_ w h) {q : (Int32 × ia_H)} (hm : f_I_hearth x1 x2 x3 x4 h = some q) : ia_Ev (d + 7) mm_I_hearth [.inr (.inr 64), .inl x1, .inl x2, .inl x3, .inl x4] h (some (.inl q.1)) q.2 := by
  have gq := g_I_hearth hg hm
  refine ia_Ev_intro ok_I_hearth (gd_le hg gq).1 (gd_le hg gq).2 (Nat.le_of_ble_eq_true rfl) (fun K hK hret => ?_)
  obtain ⟨r, h1⟩ := q
  show K 0 [some (.inr (.inr 64)), some (.inl x1), some (.inl x2), some (.inl x3), some (.inl x4)] [] h
  unfold f_I_hearth at hm
  refine ia_go hK ck_I_hearth_0 ?_
  show K 6 [some (.inr (.inr 64)), some (.inl x1), some (.inl x2), some (.inl x3), some (.inl x4)] [.inl x4, .inl x3, .inl x2, .inl x1, .inr (.inr 64)] h
  obtain ⟨v1, hv1, hm⟩ := ia_bnd hm
  have ev1 := t_I_stage (d + 0) hg hv1
  have gv1 := g_I_stage hg hv1
  refine ia_cV hK mk_I_stage lk_0_266 dc_I_hearth_6 64 [.inl x1, .inl x2, .inl x3, .inl x4] [] rfl rfl (Nat.le_of_ble_eq_true rfl) (by decide) rfl (gk_0 hg pk_64) ev1 (gd_nm hg gv1) ?_
  show K 9 [some (.inr (.inr 64)), some (.inl x1), some (.inl x2), some (.inl x3), some (.inl x4)] [.inl v1.1] v1.2
  refine ia_go hK ck_I_hearth_9 ⟨fun c => ?_, fun c => ?_⟩
  · replace hm := ia_ifn hm c
    show K 14 [some (.inr (.inr 64)), some (.inl x1), some (.inl x2), some (.inl x3), some (.inl x4)] [] v1.2
    refine ia_go hK ck_I_hearth_14 ⟨gk_0 gv1 pk_64, gr_0_7 gv1 pk_64, gk_0 gv1 pk_64, gr_0_4 gv1 pk_64, ?_⟩
    show K 22 [some (.inr (.inr 64)), some (.inl x1), some (.inl x2), some (.inl x3), some (.inl x4)] [.inr (.inr 303), .inr (.inr 326)] v1.2
    obtain ⟨v2, hv2, hm⟩ := ia_bnd hm
    have ev2 := t_Ou_worstStove (d + 0) gv1 (ka_0_4 pk_64) hv2
    have gv2 := g_Ou_worstStove gv1 (ka_0_4 pk_64) hv2
    refine ia_cV hK mk_Ou_worstStove lk_0_373 dc_I_hearth_22 326 [.inr (.inr 303)] [] rfl rfl (Nat.le_of_ble_eq_true rfl) (by decide) rfl (gk_5 gv1 (ka_0_7 pk_64)) ev2 (gd_nm gv1 gv2) ?_
    show K 25 [some (.inr (.inr 64)), some (.inl x1), some (.inl x2), some (.inl x3), some (.inl x4)] [.inl v2.1] v2.2
    obtain ⟨rfl, rfl⟩ := Prod.mk.inj (Option.some.inj hm)
    exact hret 25 _ dc_I_hearth_25
  · replace hm := ia_ifp hm c
    show K 12 [some (.inr (.inr 64)), some (.inl x1), some (.inl x2), some (.inl x3), some (.inl x4)] [] v1.2
    refine ia_go hK ck_I_hearth_12 ?_
    show K 13 [some (.inr (.inr 64)), some (.inl x1), some (.inl x2), some (.inl x3), some (.inl x4)] [.inl (-1)] v1.2
    obtain ⟨rfl, rfl⟩ := Prod.mk.inj (Option.some.inj hm)
    exact hret 13 _ dc_I_hearth_13
def mm_Wa_pathCells : ia_M := (⟨"IceStreet$Ways", "pathCells", "()J"⟩, prog_12_method_21_code, 4, (some .long), 11, false)
theorem ok_Wa_pathCells : ia_mok mm_Wa_pathCells := ⟨by decide +kernel, by decide +kernel, by decide +kernel, by decide +kernel⟩
theorem mk_Wa_pathCells : ia_mkn mm_Wa_pathCells 1 0 := ⟨ia_tb_in (List.mem_of_getElem? (i := 1422) (by decide +kernel)) rfl, ia_tb_in (List.mem_of_getElem? (i := 141) (by decide +kernel)) rfl, by decide +kernel, by decide +kernel, ⟨ia_tb_in (List.mem_of_getElem? (i := 1421) (by decide +kernel)) rfl, ia_tb_in (List.mem_of_getElem? (i := 45) (by decide +kernel)) rfl⟩⟩
theorem ck_Wa_pathCells_0 : ia_cks 11 4 false prog_12_method_21_code 0 [(.lconst 0, 0, 0, 0, 0), (.lstore_n 1, 0, 0, 0, 0), (.iconst 0, 0, 0, 0, 0), (.istore_n 3, 0, 0, 0, 0)] = true := by decide +kernel
theorem ck_Wa_pathCells_4 : ia_cks 11 4 false prog_12_method_21_code 4 [(.iload_n 3, 0, 0, 0, 0), (.aload_n 0, 0, 0, 0, 0), (.getfield 87, 11, 0, 0, 0), (.if_icmp .ge 21, 0, 0, 0, 0)] = true := by decide +kernel
theorem ck_Wa_pathCells_12 : ia_cks 11 4 false prog_12_method_21_code 12 [(.lload_n 1, 0, 0, 0, 0), (.aload_n 0, 0, 0, 0, 0), (.getfield 9, 11, 3, 3, 1), (.iload_n 3, 0, 0, 0, 0), (.iaload, 0, 0, 0, 0)] = true := by decide +kernel
theorem ck_Wa_pathCells_22 : ia_cks 11 4 false prog_12_method_21_code 22 [(.lor, 0, 0, 0, 0), (.lstore_n 1, 0, 0, 0, 0), (.iinc 3 1, 0, 0, 0, 0), (.goto (-23), 0, 0, 0, 0)] = true := by decide +kernel
theorem ck_Wa_pathCells_30 : ia_cks 11 4 false prog_12_method_21_code 30 [(.lload_n 1, 0, 0, 0, 0)] = true := by decide +kernel
theorem dc_Wa_pathCells_19 : decode prog_12_method_21_code 19 = .ok (.invokestatic 142, 3) := by decide +kernel
theorem dc_Wa_pathCells_31 : decode prog_12_method_21_code 31 = .ok (.lreturn, 1) := by decide +kernel
def l_Wa_pathCells_4 (h : ia_H) (k30 : Int64 → Option Int64) (n : Nat) (y1 : Int64) (x3 : Int32) : Option Int64 := match n with
  | 0 => none
  | n + 1 => if (ia_i h 311 0) ≤ x3 then (k30 y1) else (ia_gd (ia_ib x3 36) ((f_I_bit (ia_i h 312 ((x3).toNatClampNeg)) h).bind fun v2 => (l_Wa_pathCells_4 h k30 n (y1 ||| v2) (x3 + 1))))
theorem tl_Wa_pathCells_4 {w : ia_O0} {d N1 W1 : Nat} {K : ia_K} (hK : ia_isK (d + 1) mm_Wa_pathCells N1 W1 K) {h : ia_H} (hg : gd_ w h) {r : Int64} (hret : ∀ (pc : Nat) (lv : ia_L), ia_ret mm_Wa_pathCells pc (some (.inr (.inl r))) → K pc lv ((some (.inr (.inl r))) : Option ia_V).toList h) {k30 : Int64 → Option Int64} (hk30 : ∀ (y1 : Int64), k30 y1 = some r → K 30 [none, some (.inr (.inl y1)), none, none] [] h) : ∀ (n : Nat) (y1 : Int64) (x3 : Int32), l_Wa_pathCells_4 h k30 n y1 x3 = some r → K 4 [some (.inr (.inr 311)), some (.inr (.inl y1)), none, some (.inl x3)] [] h := by
  intro n
  induction n with
  | zero =>
    intro y1 x3 hm
    cases (show (none : Option Int64) = some _ from hm)
  | succ n ih =>
    intro y1 x3 hm
    rw [l_Wa_pathCells_4] at hm
    refine ia_go hK ck_Wa_pathCells_4 ⟨gk_11 hg pk_311, fun c => ?_, fun c => ?_⟩
    · replace hm := ia_ifp hm c
      show K 30 [some (.inr (.inr 311)), some (.inr (.inl y1)), none, some (.inl x3)] [] h
      refine ia_fg hK (lv' := [none, some (.inr (.inl y1)), none, none]) ⟨rfl, trivial⟩ ?_
      exact hk30 y1 hm
    · replace hm := ia_ifn hm c
      show K 12 [some (.inr (.inr 311)), some (.inr (.inl y1)), none, some (.inl x3)] [] h
      obtain ⟨c1, hm⟩ := ia_gd_some hm
      refine ia_go hK ck_Wa_pathCells_12 ⟨gk_11 hg pk_311, gr_11_3 hg pk_311, ga_i100 hg (ka_11_3 pk_311) c1, ?_⟩
      show K 19 [some (.inr (.inr 311)), some (.inr (.inl y1)), none, some (.inl x3)] [.inl (ia_i h 312 ((x3).toNatClampNeg)), .inr (.inl y1)] h
      obtain ⟨v2, hv2, hm⟩ := ia_bnd hm
      have ev2 := t_I_bit (d + 0) hg hv2
      refine ia_cS hK mk_I_bit lk_11_142 dc_Wa_pathCells_19 [.inl (ia_i h 312 ((x3).toNatClampNeg))] [.inr (.inl y1)] rfl rfl (Nat.le_of_ble_eq_true rfl) ev2 ⟨rfl, rfl⟩ ?_
      show K 22 [some (.inr (.inr 311)), some (.inr (.inl y1)), none, some (.inl x3)] [.inr (.inl v2), .inr (.inl y1)] h
      refine ia_go hK ck_Wa_pathCells_22 ?_
      show K 4 [some (.inr (.inr 311)), some (.inr (.inl (y1 ||| v2))), none, some (.inl (x3 + 1))] [] h
      exact ih (y1 ||| v2) (x3 + 1) hm
def f_Wa_pathCells (h : ia_H) : Option Int64 := l_Wa_pathCells_4 h (fun y1 => some y1) fu_ 0 0
theorem t_Wa_pathCells {w : ia_O0} (d : Nat) {h : ia_H} (hg : gd_ w h) {r : Int64} (hm : f_Wa_pathCells h = some r) : ia_Ev (d + 1) mm_Wa_pathCells [.inr (.inr 311)] h (some (.inr (.inl r))) h := by
  refine ia_Ev_intro ok_Wa_pathCells (Nat.le_refl _) (Nat.le_refl _) (Nat.le_of_ble_eq_true rfl) (fun K hK hret => ?_)
  show K 0 [some (.inr (.inr 311)), none, none, none] [] h
  unfold f_Wa_pathCells at hm
  refine ia_go hK ck_Wa_pathCells_0 ?_
  show K 4 [some (.inr (.inr 311)), some (.inr (.inl 0)), none, some (.inl 0)] [] h
  refine tl_Wa_pathCells_4 hK hg hret ?_ fu_ 0 0 hm
  · intro y1 hm
    refine ia_go hK ck_Wa_pathCells_30 ?_
    show K 31 [none, some (.inr (.inl y1)), none, none] [.inr (.inl y1)] h
    obtain rfl := Option.some.inj hm
    exact hret 31 _ dc_Wa_pathCells_31
def mm_Wa_shortCells : ia_M := (⟨"IceStreet$Ways", "shortCells", "(LIceStreet$Scene;III)J"⟩, prog_12_method_20_code, 5, (some .long), 11, false)
theorem ok_Wa_shortCells : ia_mok mm_Wa_shortCells := ⟨by decide +kernel, by decide +kernel, by decide +kernel, by decide +kernel⟩
theorem mk_Wa_shortCells : ia_mkn mm_Wa_shortCells 1 4 := ⟨ia_tb_in (List.mem_of_getElem? (i := 1418) (by decide +kernel)) rfl, ia_tb_in (List.mem_of_getElem? (i := 141) (by decide +kernel)) rfl, by decide +kernel, by decide +kernel, ⟨ia_tb_in (List.mem_of_getElem? (i := 1416) (by decide +kernel)) rfl, ia_tb_in (List.mem_of_getElem? (i := 1417) (by decide +kernel)) rfl⟩⟩
theorem ck_Wa_shortCells_0 : ia_cks 11 5 false prog_12_method_20_code 0 [(.aload_n 0, 0, 0, 0, 0), (.aload_n 1, 0, 0, 0, 0), (.iconst 0, 0, 0, 0, 0)] = true := by decide +kernel
theorem ck_Wa_shortCells_6 : ia_cks 11 5 false prog_12_method_20_code 6 [(.aload_n 0, 0, 0, 0, 0), (.iload_n 2, 0, 0, 0, 0), (.iload_n 3, 0, 0, 0, 0), (.iload 4, 0, 0, 0, 0)] = true := by decide +kernel
theorem ck_Wa_shortCells_14 : ia_cks 11 5 false prog_12_method_20_code 14 [(.ifCond .eq 10, 0, 0, 0, 0)] = true := by decide +kernel
theorem ck_Wa_shortCells_17 : ia_cks 11 5 false prog_12_method_20_code 17 [(.aload_n 0, 0, 0, 0, 0)] = true := by decide +kernel
theorem ck_Wa_shortCells_21 : ia_cks 11 5 false prog_12_method_20_code 21 [(.goto 6, 0, 0, 0, 0)] = true := by decide +kernel
theorem dc_Wa_shortCells_3 : decode prog_12_method_20_code 3 = .ok (.invokevirtual 162, 3) := by decide +kernel
theorem dc_Wa_shortCells_11 : decode prog_12_method_20_code 11 = .ok (.invokevirtual 73, 3) := by decide +kernel
theorem dc_Wa_shortCells_24 : decode prog_12_method_20_code 24 = .ok (.ldc2_w 150, 3) := by decide +kernel
theorem dc_Wa_shortCells_27 : decode prog_12_method_20_code 27 = .ok (.lreturn, 1) := by decide +kernel
theorem dc_Wa_shortCells_18 : decode prog_12_method_20_code 18 = .ok (.invokevirtual 187, 3) := by decide +kernel
def f_Wa_shortCells (a1 : Nat) (x2 : Int32) (x3 : Int32) (x4 : Int32) (h : ia_H) : Option (Int64 × ia_H) := (f_Wa_survey a1 0 h).bind fun v1 => ((f_Wa_findShort x2 x3 x4 v1).bind fun v2 => (if v2.1 = 0 then (some ((-1), v2.2)) else ((f_Wa_pathCells v2.2).bind fun v3 => (some (v3, v2.2)))))
theorem g_Wa_shortCells {w : ia_O0} {a1 : Nat} {x2 : Int32} {x3 : Int32} {x4 : Int32} {h : ia_H} (hg : gd_ w h) (p1 : (kd_D a1).1 = 9) {q : (Int64 × ia_H)} (hm : f_Wa_shortCells a1 x2 x3 x4 h = some q) : gd_ w q.2 := by
  obtain ⟨r, h1⟩ := q
  unfold f_Wa_shortCells at hm
  obtain ⟨v1, hv1, hm⟩ := ia_bnd hm
  have gv1 := g_Wa_survey hg p1 hv1
  obtain ⟨v2, hv2, hm⟩ := ia_bnd hm
  have gv2 := g_Wa_findShort gv1 hv2
  by_cases c : v2.1 = 0
  · replace hm := ia_ifp hm c
    obtain ⟨rfl, rfl⟩ := Prod.mk.inj (Option.some.inj hm)
    exact gv2
  · replace hm := ia_ifn hm c
    obtain ⟨v3, hv3, hm⟩ := ia_bnd hm
    obtain ⟨rfl, rfl⟩ := Prod.mk.inj (Option.some.inj hm)
    exact gv2
theorem t_Wa_shortCells {w : ia_O0} (d : Nat) {a1 : Nat} {x2 : Int32} {x3 : Int32} {x4 : Int32} {h : ia_H} (hg : gd_ w h) (p1 : (kd_D a1).1 = 9) {q : (Int64 × ia_H)} (hm : f_Wa_shortCells a1 x2 x3 x4 h = some q) : ia_Ev (d + 3) mm_Wa_shortCells [.inr (.inr 311), .inr (.inr a1), .inl x2, .inl x3, .inl x4] h (some (.inr (.inl q.1))) q.2 := by
  have gq := g_Wa_shortCells hg p1 hm
  refine ia_Ev_intro ok_Wa_shortCells (gd_le hg gq).1 (gd_le hg gq).2 (Nat.le_of_ble_eq_true rfl) (fun K hK hret => ?_)
  obtain ⟨r, h1⟩ := q
  show K 0 [some (.inr (.inr 311)), some (.inr (.inr a1)), some (.inl x2), some (.inl x3), some (.inl x4)] [] h
  unfold f_Wa_shortCells at hm
  refine ia_go hK ck_Wa_shortCells_0 ?_
  show K 3 [some (.inr (.inr 311)), some (.inr (.inr a1)), some (.inl x2), some (.inl x3), some (.inl x4)] [.inl 0, .inr (.inr a1), .inr (.inr 311)] h
  obtain ⟨v1, hv1, hm⟩ := ia_bnd hm
  have ev1 := t_Wa_survey (d + 1) hg p1 hv1
  have gv1 := g_Wa_survey hg p1 hv1
  refine ia_cV hK mk_Wa_survey lk_11_162 dc_Wa_shortCells_3 311 [.inr (.inr a1), .inl 0] [] rfl rfl (Nat.le_of_ble_eq_true rfl) (by decide) rfl (gk_11 hg pk_311) ev1 (gd_nm hg gv1) ?_
  show K 6 [some (.inr (.inr 311)), some (.inr (.inr a1)), some (.inl x2), some (.inl x3), some (.inl x4)] [] v1
  refine ia_go hK ck_Wa_shortCells_6 ?_
  show K 11 [some (.inr (.inr 311)), some (.inr (.inr a1)), some (.inl x2), some (.inl x3), some (.inl x4)] [.inl x4, .inl x3, .inl x2, .inr (.inr 311)] v1
  obtain ⟨v2, hv2, hm⟩ := ia_bnd hm
  have ev2 := t_Wa_findShort (d + 0) gv1 hv2
  have gv2 := g_Wa_findShort gv1 hv2
  refine ia_cV hK mk_Wa_findShort lk_11_73 dc_Wa_shortCells_11 311 [.inl x2, .inl x3, .inl x4] [] rfl rfl (Nat.le_of_ble_eq_true rfl) (by decide) rfl (gk_11 gv1 pk_311) ev2 (gd_nm gv1 gv2) ?_
  show K 14 [some (.inr (.inr 311)), some (.inr (.inr a1)), some (.inl x2), some (.inl x3), some (.inl x4)] [.inl v2.1] v2.2
  refine ia_go hK ck_Wa_shortCells_14 ⟨fun c => ?_, fun c => ?_⟩
  · replace hm := ia_ifp hm c
    show K 24 [some (.inr (.inr 311)), some (.inr (.inr a1)), some (.inl x2), some (.inl x3), some (.inl x4)] [] v2.2
    refine ia_ldc2 hK (v := (-1)) (ia_tb_in (List.mem_of_getElem? (i := 1132) (by decide +kernel)) rfl) dc_Wa_shortCells_24 ?_
    show K 27 [some (.inr (.inr 311)), some (.inr (.inr a1)), some (.inl x2), some (.inl x3), some (.inl x4)] [.inr (.inl (-1))] v2.2
    obtain ⟨rfl, rfl⟩ := Prod.mk.inj (Option.some.inj hm)
    exact hret 27 _ dc_Wa_shortCells_27
  · replace hm := ia_ifn hm c
    show K 17 [some (.inr (.inr 311)), some (.inr (.inr a1)), some (.inl x2), some (.inl x3), some (.inl x4)] [] v2.2
    refine ia_go hK ck_Wa_shortCells_17 ?_
    show K 18 [some (.inr (.inr 311)), some (.inr (.inr a1)), some (.inl x2), some (.inl x3), some (.inl x4)] [.inr (.inr 311)] v2.2
    obtain ⟨v3, hv3, hm⟩ := ia_bnd hm
    have ev3 := t_Wa_pathCells (d + 1) gv2 hv3
    refine ia_cV hK mk_Wa_pathCells lk_11_187 dc_Wa_shortCells_18 311 [] [] rfl rfl (Nat.le_of_ble_eq_true rfl) (by decide) rfl (gk_11 gv2 pk_311) ev3 ⟨rfl, rfl⟩ ?_
    show K 21 [some (.inr (.inr 311)), some (.inr (.inr a1)), some (.inl x2), some (.inl x3), some (.inl x4)] [.inr (.inl v3)] v2.2
    refine ia_go hK ck_Wa_shortCells_21 ?_
    show K 27 [some (.inr (.inr 311)), some (.inr (.inr a1)), some (.inl x2), some (.inl x3), some (.inl x4)] [.inr (.inl v3)] v2.2
    obtain ⟨rfl, rfl⟩ := Prod.mk.inj (Option.some.inj hm)
    exact hret 27 _ dc_Wa_shortCells_27
def mm_I_branches : ia_M := (⟨"IceStreet", "branches", "(IIIIIIII)J"⟩, prog_1_method_26_code, 10, (some .long), 0, false)
theorem ok_I_branches : ia_mok mm_I_branches := ⟨by decide +kernel, by decide +kernel, by decide +kernel, by decide +kernel⟩
theorem mk_I_branches : ia_mkn mm_I_branches 1 8 := ⟨ia_tb_in (List.mem_of_getElem? (i := 1412) (by decide +kernel)) rfl, ia_tb_in (List.mem_of_getElem? (i := 133) (by decide +kernel)) rfl, by decide +kernel, by decide +kernel, ⟨ia_tb_in (List.mem_of_getElem? (i := 1410) (by decide +kernel)) rfl, ia_tb_in (List.mem_of_getElem? (i := 1411) (by decide +kernel)) rfl⟩⟩
theorem ck_I_branches_0 : ia_cks 0 10 false prog_1_method_26_code 0 [(.iload 8, 0, 0, 0, 0), (.ifCond .lt 35, 0, 0, 0, 0)] = true := by decide +kernel
theorem ck_I_branches_5 : ia_cks 0 10 false prog_1_method_26_code 5 [(.iload 8, 0, 0, 0, 0), (.bipush 30, 0, 0, 0, 0), (.if_icmp .gt 28, 0, 0, 0, 0)] = true := by decide +kernel
theorem ck_I_branches_12 : ia_cks 0 10 false prog_1_method_26_code 12 [(.aload_n 0, 0, 0, 0, 0), (.iload_n 1, 0, 0, 0, 0), (.iload_n 2, 0, 0, 0, 0), (.iload_n 3, 0, 0, 0, 0), (.iload 4, 0, 0, 0, 0)] = true := by decide +kernel
theorem ck_I_branches_21 : ia_cks 0 10 false prog_1_method_26_code 21 [(.ifCond .eq 16, 0, 0, 0, 0)] = true := by decide +kernel
theorem ck_I_branches_24 : ia_cks 0 10 false prog_1_method_26_code 24 [(.aload_n 0, 0, 0, 0, 0), (.iload 5, 0, 0, 0, 0), (.iload 6, 0, 0, 0, 0), (.iload 7, 0, 0, 0, 0)] = true := by decide +kernel
theorem ck_I_branches_34 : ia_cks 0 10 false prog_1_method_26_code 34 [(.ifCond .ne 7, 0, 0, 0, 0)] = true := by decide +kernel
theorem ck_I_branches_41 : ia_cks 0 10 false prog_1_method_26_code 41 [(.iconst 0, 0, 0, 0, 0), (.istore 9, 0, 0, 0, 0)] = true := by decide +kernel
theorem ck_I_branches_44 : ia_cks 0 10 false prog_1_method_26_code 44 [(.iload 9, 0, 0, 0, 0), (.iload 8, 0, 0, 0, 0), (.if_icmp .ge 23, 0, 0, 0, 0)] = true := by decide +kernel
theorem ck_I_branches_51 : ia_cks 0 10 false prog_1_method_26_code 51 [(.aload_n 0, 0, 0, 0, 0), (.getfield 44, 0, 4, 3, 239), (.aload_n 0, 0, 0, 0, 0), (.getfield 44, 0, 4, 3, 239)] = true := by decide +kernel
theorem ck_I_branches_65 : ia_cks 0 10 false prog_1_method_26_code 65 [(.iinc 9 1, 0, 0, 0, 0), (.goto (-24), 0, 0, 0, 0)] = true := by decide +kernel
theorem ck_I_branches_71 : ia_cks 0 10 false prog_1_method_26_code 71 [(.aload_n 0, 0, 0, 0, 0), (.getfield 51, 0, 5, 3, 247), (.aload_n 0, 0, 0, 0, 0), (.getfield 44, 0, 4, 3, 239), (.iload 5, 0, 0, 0, 0), (.iload 6, 0, 0, 0, 0), (.iload 7, 0, 0, 0, 0)] = true := by decide +kernel
theorem dc_I_branches_37 : decode prog_1_method_26_code 37 = .ok (.ldc2_w 319, 3) := by decide +kernel
theorem dc_I_branches_40 : decode prog_1_method_26_code 40 = .ok (.lreturn, 1) := by decide +kernel
theorem dc_I_branches_18 : decode prog_1_method_26_code 18 = .ok (.invokevirtual 266, 3) := by decide +kernel
theorem dc_I_branches_31 : decode prog_1_method_26_code 31 = .ok (.invokevirtual 299, 3) := by decide +kernel
theorem dc_I_branches_59 : decode prog_1_method_26_code 59 = .ok (.invokevirtual 377, 3) := by decide +kernel
theorem dc_I_branches_62 : decode prog_1_method_26_code 62 = .ok (.invokevirtual 380, 3) := by decide +kernel
theorem dc_I_branches_85 : decode prog_1_method_26_code 85 = .ok (.invokevirtual 383, 3) := by decide +kernel
theorem dc_I_branches_88 : decode prog_1_method_26_code 88 = .ok (.lreturn, 1) := by decide +kernel
def l_I_branches_44 (x1 : Int32) (x2 : Int32) (x3 : Int32) (x4 : Int32) (x5 : Int32) (x6 : Int32) (x7 : Int32) (x8 : Int32) (k71 : ia_H → Option (Int64 × ia_H)) (n : Nat) (x9 : Int32) (h : ia_H) : Option (Int64 × ia_H) := match n with
  | 0 => none
  | n + 1 => if x8 ≤ x9 then (k71 h) else ((f_Sc_frost 303 h).bind fun v3 => ((f_Sc_passDay 303 v3 h).bind fun v4 => (l_I_branches_44 x1 x2 x3 x4 x5 x6 x7 x8 k71 n (x9 + 1) v4)))
theorem tl_I_branches_44 {w : ia_O0} {d N1 W1 : Nat} {K : ia_K} (hK : ia_isK (d + 7) mm_I_branches N1 W1 K) {x1 : Int32} {x2 : Int32} {x3 : Int32} {x4 : Int32} {x5 : Int32} {x6 : Int32} {x7 : Int32} {x8 : Int32} {r : Int64} {h1 : ia_H} (hret : ∀ (pc : Nat) (lv : ia_L), ia_ret mm_I_branches pc (some (.inr (.inl r))) → K pc lv ((some (.inr (.inl r))) : Option ia_V).toList h1) {k71 : ia_H → Option (Int64 × ia_H)} (hk71 : ∀ (h : ia_H), gd_ w h → k71 h = some (r, h1) → K 71 [some (.inr (.inr 64)), none, none, none, none, some (.inl x5), some (.inl x6), some (.inl x7), none, none] [] h) : ∀ (n : Nat) (x9 : Int32) (h : ia_H), gd_ w h → l_I_branches_44 x1 x2 x3 x4 x5 x6 x7 x8 k71 n x9 h = some (r, h1) → K 44 [some (.inr (.inr 64)), none, none, none, none, some (.inl x5), some (.inl x6), some (.inl x7), some (.inl x8), some (.inl x9)] [] h := by
  intro n
  induction n with
  | zero =>
    intro x9 h hg hm
    cases (show (none : Option (Int64 × ia_H)) = some _ from hm)
  | succ n ih =>
    intro x9 h hg hm
    rw [l_I_branches_44] at hm
    refine ia_go hK ck_I_branches_44 ⟨fun c => ?_, fun c => ?_⟩
    · replace hm := ia_ifp hm c
      show K 71 [some (.inr (.inr 64)), none, none, none, none, some (.inl x5), some (.inl x6), some (.inl x7), some (.inl x8), some (.inl x9)] [] h
      refine ia_fg hK (lv' := [some (.inr (.inr 64)), none, none, none, none, some (.inl x5), some (.inl x6), some (.inl x7), none, none]) ⟨rfl, rfl, rfl, rfl, trivial⟩ ?_
      exact hk71 h hg hm
    · replace hm := ia_ifn hm c
      show K 51 [some (.inr (.inr 64)), none, none, none, none, some (.inl x5), some (.inl x6), some (.inl x7), some (.inl x8), some (.inl x9)] [] h
      refine ia_go hK ck_I_branches_51 ⟨gk_0 hg pk_64, gr_0_4 hg pk_64, gk_0 hg pk_64, gr_0_4 hg pk_64, ?_⟩
      show K 59 [some (.inr (.inr 64)), none, none, none, none, some (.inl x5), some (.inl x6), some (.inl x7), some (.inl x8), some (.inl x9)] [.inr (.inr 303), .inr (.inr 303)] h
      obtain ⟨v3, hv3, hm⟩ := ia_bnd hm
      have ev3 := t_Sc_frost (d + 6) hg (ka_0_4 pk_64) hv3
      refine ia_cV hK mk_Sc_frost lk_0_377 dc_I_branches_59 303 [] [.inr (.inr 303)] rfl rfl (Nat.le_of_ble_eq_true rfl) (by decide) rfl (gk_9 hg (ka_0_4 pk_64)) ev3 ⟨rfl, rfl⟩ ?_
      show K 62 [some (.inr (.inr 64)), none, none, none, none, some (.inl x5), some (.inl x6), some (.inl x7), some (.inl x8), some (.inl x9)] [.inl v3, .inr (.inr 303)] h
      obtain ⟨v4, hv4, hm⟩ := ia_bnd hm
      have ev4 := t_Sc_passDay (d + 3) hg (ka_0_4 pk_64) hv4
      have gv4 := g_Sc_passDay hg (ka_0_4 pk_64) hv4
      refine ia_cV hK mk_Sc_passDay lk_0_380 dc_I_branches_62 303 [.inl v3] [] rfl rfl (Nat.le_of_ble_eq_true rfl) (by decide) rfl (gk_9 hg (ka_0_4 pk_64)) ev4 (gd_nm hg gv4) ?_
      show K 65 [some (.inr (.inr 64)), none, none, none, none, some (.inl x5), some (.inl x6), some (.inl x7), some (.inl x8), some (.inl x9)] [] v4
      refine ia_go hK ck_I_branches_65 ?_
      show K 44 [some (.inr (.inr 64)), none, none, none, none, some (.inl x5), some (.inl x6), some (.inl x7), some (.inl x8), some (.inl (x9 + 1))] [] v4
      exact ih (x9 + 1) v4 gv4 hm
theorem gl_I_branches_44 {w : ia_O0} {x1 : Int32} {x2 : Int32} {x3 : Int32} {x4 : Int32} {x5 : Int32} {x6 : Int32} {x7 : Int32} {x8 : Int32} {r : Int64} {h1 : ia_H} {k71 : ia_H → Option (Int64 × ia_H)} (hk71 : ∀ (h : ia_H), gd_ w h → k71 h = some (r, h1) → gd_ w h1) : ∀ (n : Nat) (x9 : Int32) (h : ia_H), gd_ w h → l_I_branches_44 x1 x2 x3 x4 x5 x6 x7 x8 k71 n x9 h = some (r, h1) → gd_ w h1 := by
  intro n
  induction n with
  | zero =>
    intro x9 h hg hm
    cases (show (none : Option (Int64 × ia_H)) = some _ from hm)
  | succ n ih =>
    intro x9 h hg hm
    rw [l_I_branches_44] at hm
    by_cases c : x8 ≤ x9
    · replace hm := ia_ifp hm c
      exact hk71 h hg hm
    · replace hm := ia_ifn hm c
      obtain ⟨v3, hv3, hm⟩ := ia_bnd hm
      obtain ⟨v4, hv4, hm⟩ := ia_bnd hm
      have gv4 := g_Sc_passDay hg (ka_0_4 pk_64) hv4
      exact ih (x9 + 1) v4 gv4 hm
def f_I_branches (x1 : Int32) (x2 : Int32) (x3 : Int32) (x4 : Int32) (x5 : Int32) (x6 : Int32) (x7 : Int32) (x8 : Int32) (h : ia_H) : Option (Int64 × ia_H) := if x8 < 0 then (some ((-1), h)) else (if 30 < x8 then (some ((-1), h)) else ((f_I_stage x1 x2 x3 x4 h).bind fun v1 => (if v1.1 = 0 then (some ((-1), v1.2)) else ((f_I_isTrip x5 x6 x7 v1.2).bind fun v2 => (if v2 = 0 then (some ((-1), v1.2)) else (l_I_branches_44 x1 x2 x3 x4 x5 x6 x7 x8 (fun h => (f_Wa_shortCells 303 x5 x6 x7 h).bind fun v5 => (some (v5.1, v5.2))) fu_ 0 v1.2))))))
theorem g_I_branches {w : ia_O0} {x1 : Int32} {x2 : Int32} {x3 : Int32} {x4 : Int32} {x5 : Int32} {x6 : Int32} {x7 : Int32} {x8 : Int32} {h : ia_H} (hg : gd_ w h) {q : (Int64 × ia_H)} (hm : f_I_branches x1 x2 x3 x4 x5 x6 x7 x8 h = some q) : gd_ w q.2 := by
  obtain ⟨r, h1⟩ := q
  unfold f_I_branches at hm
  by_cases c : x8 < 0
  · replace hm := ia_ifp hm c
    obtain ⟨rfl, rfl⟩ := Prod.mk.inj (Option.some.inj hm)
    exact hg
  · replace hm := ia_ifn hm c
    by_cases c : 30 < x8
    · replace hm := ia_ifp hm c
      obtain ⟨rfl, rfl⟩ := Prod.mk.inj (Option.some.inj hm)
      exact hg
    · replace hm := ia_ifn hm c
      obtain ⟨v1, hv1, hm⟩ := ia_bnd hm
      have gv1 := g_I_stage hg hv1
      by_cases c : v1.1 = 0
      · replace hm := ia_ifp hm c
        obtain ⟨rfl, rfl⟩ := Prod.mk.inj (Option.some.inj hm)
        exact gv1
      · replace hm := ia_ifn hm c
        obtain ⟨v2, hv2, hm⟩ := ia_bnd hm
        by_cases c : v2 = 0
        · replace hm := ia_ifp hm c
          obtain ⟨rfl, rfl⟩ := Prod.mk.inj (Option.some.inj hm)
          exact gv1
        · replace hm := ia_ifn hm c
          refine gl_I_branches_44 ?_ fu_ 0 v1.2 gv1 hm
          · intro h hg hm
            obtain ⟨v5, hv5, hm⟩ := ia_bnd hm
            have gv5 := g_Wa_shortCells hg (ka_0_4 pk_64) hv5
            obtain ⟨rfl, rfl⟩ := Prod.mk.inj (Option.some.inj hm)
            exact gv5
theorem t_I_branches {w : ia_O0} (d : Nat) {x1 : Int32} {x2 : Int32} {x3 : Int32} {x4 : Int32} {x5 : Int32} {x6 : Int32} {x7 : Int32} {x8 : Int32} {h : ia_H} (hg : gd_ w h) {q : (Int64 × ia_H)} (hm : f_I_branches x1 x2 x3 x4 x5 x6 x7 x8 h = some q) : ia_Ev (d + 7) mm_I_branches [.inr (.inr 64), .inl x1, .inl x2, .inl x3, .inl x4, .inl x5, .inl x6, .inl x7, .inl x8] h (some (.inr (.inl q.1))) q.2 := by
  have gq := g_I_branches hg hm
  refine ia_Ev_intro ok_I_branches (gd_le hg gq).1 (gd_le hg gq).2 (Nat.le_of_ble_eq_true rfl) (fun K hK hret => ?_)
  obtain ⟨r, h1⟩ := q
  show K 0 [some (.inr (.inr 64)), some (.inl x1), some (.inl x2), some (.inl x3), some (.inl x4), some (.inl x5), some (.inl x6), some (.inl x7), some (.inl x8), none] [] h
  unfold f_I_branches at hm
  refine ia_go hK ck_I_branches_0 ⟨fun c => ?_, fun c => ?_⟩
  · replace hm := ia_ifp hm c
    show K 37 [some (.inr (.inr 64)), some (.inl x1), some (.inl x2), some (.inl x3), some (.inl x4), some (.inl x5), some (.inl x6), some (.inl x7), some (.inl x8), none] [] h
    refine ia_ldc2 hK (v := (-1)) (ia_tb_in (List.mem_of_getElem? (i := 1265) (by decide +kernel)) rfl) dc_I_branches_37 ?_
    show K 40 [some (.inr (.inr 64)), some (.inl x1), some (.inl x2), some (.inl x3), some (.inl x4), some (.inl x5), some (.inl x6), some (.inl x7), some (.inl x8), none] [.inr (.inl (-1))] h
    obtain ⟨rfl, rfl⟩ := Prod.mk.inj (Option.some.inj hm)
    exact hret 40 _ dc_I_branches_40
  · replace hm := ia_ifn hm c
    show K 5 [some (.inr (.inr 64)), some (.inl x1), some (.inl x2), some (.inl x3), some (.inl x4), some (.inl x5), some (.inl x6), some (.inl x7), some (.inl x8), none] [] h
    refine ia_go hK ck_I_branches_5 ⟨fun c => ?_, fun c => ?_⟩
    · replace hm := ia_ifp hm c
      show K 37 [some (.inr (.inr 64)), some (.inl x1), some (.inl x2), some (.inl x3), some (.inl x4), some (.inl x5), some (.inl x6), some (.inl x7), some (.inl x8), none] [] h
      refine ia_ldc2 hK (v := (-1)) (ia_tb_in (List.mem_of_getElem? (i := 1265) (by decide +kernel)) rfl) dc_I_branches_37 ?_
      show K 40 [some (.inr (.inr 64)), some (.inl x1), some (.inl x2), some (.inl x3), some (.inl x4), some (.inl x5), some (.inl x6), some (.inl x7), some (.inl x8), none] [.inr (.inl (-1))] h
      obtain ⟨rfl, rfl⟩ := Prod.mk.inj (Option.some.inj hm)
      exact hret 40 _ dc_I_branches_40
    · replace hm := ia_ifn hm c
      show K 12 [some (.inr (.inr 64)), some (.inl x1), some (.inl x2), some (.inl x3), some (.inl x4), some (.inl x5), some (.inl x6), some (.inl x7), some (.inl x8), none] [] h
      refine ia_go hK ck_I_branches_12 ?_
      show K 18 [some (.inr (.inr 64)), some (.inl x1), some (.inl x2), some (.inl x3), some (.inl x4), some (.inl x5), some (.inl x6), some (.inl x7), some (.inl x8), none] [.inl x4, .inl x3, .inl x2, .inl x1, .inr (.inr 64)] h
      obtain ⟨v1, hv1, hm⟩ := ia_bnd hm
      have ev1 := t_I_stage (d + 0) hg hv1
      have gv1 := g_I_stage hg hv1
      refine ia_cV hK mk_I_stage lk_0_266 dc_I_branches_18 64 [.inl x1, .inl x2, .inl x3, .inl x4] [] rfl rfl (Nat.le_of_ble_eq_true rfl) (by decide) rfl (gk_0 hg pk_64) ev1 (gd_nm hg gv1) ?_
      show K 21 [some (.inr (.inr 64)), some (.inl x1), some (.inl x2), some (.inl x3), some (.inl x4), some (.inl x5), some (.inl x6), some (.inl x7), some (.inl x8), none] [.inl v1.1] v1.2
      refine ia_go hK ck_I_branches_21 ⟨fun c => ?_, fun c => ?_⟩
      · replace hm := ia_ifp hm c
        show K 37 [some (.inr (.inr 64)), some (.inl x1), some (.inl x2), some (.inl x3), some (.inl x4), some (.inl x5), some (.inl x6), some (.inl x7), some (.inl x8), none] [] v1.2
        refine ia_ldc2 hK (v := (-1)) (ia_tb_in (List.mem_of_getElem? (i := 1265) (by decide +kernel)) rfl) dc_I_branches_37 ?_
        show K 40 [some (.inr (.inr 64)), some (.inl x1), some (.inl x2), some (.inl x3), some (.inl x4), some (.inl x5), some (.inl x6), some (.inl x7), some (.inl x8), none] [.inr (.inl (-1))] v1.2
        obtain ⟨rfl, rfl⟩ := Prod.mk.inj (Option.some.inj hm)
        exact hret 40 _ dc_I_branches_40
      · replace hm := ia_ifn hm c
        show K 24 [some (.inr (.inr 64)), some (.inl x1), some (.inl x2), some (.inl x3), some (.inl x4), some (.inl x5), some (.inl x6), some (.inl x7), some (.inl x8), none] [] v1.2
        refine ia_go hK ck_I_branches_24 ?_
        show K 31 [some (.inr (.inr 64)), some (.inl x1), some (.inl x2), some (.inl x3), some (.inl x4), some (.inl x5), some (.inl x6), some (.inl x7), some (.inl x8), none] [.inl x7, .inl x6, .inl x5, .inr (.inr 64)] v1.2
        obtain ⟨v2, hv2, hm⟩ := ia_bnd hm
        have ev2 := t_I_isTrip (d + 5) gv1 hv2
        refine ia_cV hK mk_I_isTrip lk_0_299 dc_I_branches_31 64 [.inl x5, .inl x6, .inl x7] [] rfl rfl (Nat.le_of_ble_eq_true rfl) (by decide) rfl (gk_0 gv1 pk_64) ev2 ⟨rfl, rfl⟩ ?_
        show K 34 [some (.inr (.inr 64)), some (.inl x1), some (.inl x2), some (.inl x3), some (.inl x4), some (.inl x5), some (.inl x6), some (.inl x7), some (.inl x8), none] [.inl v2] v1.2
        refine ia_go hK ck_I_branches_34 ⟨fun c => ?_, fun c => ?_⟩
        · replace hm := ia_ifn hm c
          show K 41 [some (.inr (.inr 64)), some (.inl x1), some (.inl x2), some (.inl x3), some (.inl x4), some (.inl x5), some (.inl x6), some (.inl x7), some (.inl x8), none] [] v1.2
          refine ia_go hK ck_I_branches_41 ?_
          show K 44 [some (.inr (.inr 64)), some (.inl x1), some (.inl x2), some (.inl x3), some (.inl x4), some (.inl x5), some (.inl x6), some (.inl x7), some (.inl x8), some (.inl 0)] [] v1.2
          refine ia_fg hK (lv' := [some (.inr (.inr 64)), none, none, none, none, some (.inl x5), some (.inl x6), some (.inl x7), some (.inl x8), some (.inl 0)]) ⟨rfl, rfl, rfl, rfl, rfl, rfl, trivial⟩ ?_
          refine tl_I_branches_44 hK hret ?_ fu_ 0 v1.2 gv1 hm
          · intro h hg hm
            refine ia_go hK ck_I_branches_71 ⟨gk_0 hg pk_64, gr_0_5 hg pk_64, gk_0 hg pk_64, gr_0_4 hg pk_64, ?_⟩
            show K 85 [some (.inr (.inr 64)), none, none, none, none, some (.inl x5), some (.inl x6), some (.inl x7), none, none] [.inl x7, .inl x6, .inl x5, .inr (.inr 303), .inr (.inr 311)] h
            obtain ⟨v5, hv5, hm⟩ := ia_bnd hm
            have ev5 := t_Wa_shortCells (d + 3) hg (ka_0_4 pk_64) hv5
            have gv5 := g_Wa_shortCells hg (ka_0_4 pk_64) hv5
            refine ia_cV hK mk_Wa_shortCells lk_0_383 dc_I_branches_85 311 [.inr (.inr 303), .inl x5, .inl x6, .inl x7] [] rfl rfl (Nat.le_of_ble_eq_true rfl) (by decide) rfl (gk_11 hg (ka_0_5 pk_64)) ev5 (gd_nm hg gv5) ?_
            show K 88 [some (.inr (.inr 64)), none, none, none, none, some (.inl x5), some (.inl x6), some (.inl x7), none, none] [.inr (.inl v5.1)] v5.2
            obtain ⟨rfl, rfl⟩ := Prod.mk.inj (Option.some.inj hm)
            exact hret 88 _ dc_I_branches_88
        · replace hm := ia_ifp hm c
          show K 37 [some (.inr (.inr 64)), some (.inl x1), some (.inl x2), some (.inl x3), some (.inl x4), some (.inl x5), some (.inl x6), some (.inl x7), some (.inl x8), none] [] v1.2
          refine ia_ldc2 hK (v := (-1)) (ia_tb_in (List.mem_of_getElem? (i := 1265) (by decide +kernel)) rfl) dc_I_branches_37 ?_
          show K 40 [some (.inr (.inr 64)), some (.inl x1), some (.inl x2), some (.inl x3), some (.inl x4), some (.inl x5), some (.inl x6), some (.inl x7), some (.inl x8), none] [.inr (.inl (-1))] v1.2
          obtain ⟨rfl, rfl⟩ := Prod.mk.inj (Option.some.inj hm)
          exact hret 40 _ dc_I_branches_40
def mm_I_old : ia_M := (⟨"IceStreet", "old", "(IIIIIIIJ)I"⟩, prog_1_method_27_code, 11, (some .int), 0, false)
theorem ok_I_old : ia_mok mm_I_old := ⟨by decide +kernel, by decide +kernel, by decide +kernel, by decide +kernel⟩
theorem mk_I_old : ia_mkn mm_I_old 1 8 := ⟨ia_tb_in (List.mem_of_getElem? (i := 1426) (by decide +kernel)) rfl, ia_tb_in (List.mem_of_getElem? (i := 133) (by decide +kernel)) rfl, by decide +kernel, by decide +kernel, ⟨ia_tb_in (List.mem_of_getElem? (i := 1424) (by decide +kernel)) rfl, ia_tb_in (List.mem_of_getElem? (i := 1425) (by decide +kernel)) rfl⟩⟩
theorem ck_I_old_0 : ia_cks 0 11 false prog_1_method_27_code 0 [(.lload 8, 0, 0, 0, 0), (.lconst 0, 0, 0, 0, 0), (.lcmp, 0, 0, 0, 0), (.ifCond .lt 28, 0, 0, 0, 0)] = true := by decide +kernel
theorem ck_I_old_32 : ia_cks 0 11 false prog_1_method_27_code 32 [(.iconst (-1), 0, 0, 0, 0)] = true := by decide +kernel
theorem ck_I_old_7 : ia_cks 0 11 false prog_1_method_27_code 7 [(.aload_n 0, 0, 0, 0, 0), (.iload_n 1, 0, 0, 0, 0), (.iload_n 2, 0, 0, 0, 0), (.iload_n 3, 0, 0, 0, 0), (.iload 4, 0, 0, 0, 0)] = true := by decide +kernel
theorem ck_I_old_16 : ia_cks 0 11 false prog_1_method_27_code 16 [(.ifCond .eq 16, 0, 0, 0, 0)] = true := by decide +kernel
theorem ck_I_old_19 : ia_cks 0 11 false prog_1_method_27_code 19 [(.aload_n 0, 0, 0, 0, 0), (.iload 5, 0, 0, 0, 0), (.iload 6, 0, 0, 0, 0), (.iload 7, 0, 0, 0, 0)] = true := by decide +kernel
theorem ck_I_old_29 : ia_cks 0 11 false prog_1_method_27_code 29 [(.ifCond .ne 5, 0, 0, 0, 0)] = true := by decide +kernel
theorem ck_I_old_34 : ia_cks 0 11 false prog_1_method_27_code 34 [(.iconst 0, 0, 0, 0, 0), (.istore 10, 0, 0, 0, 0)] = true := by decide +kernel
theorem ck_I_old_37 : ia_cks 0 11 false prog_1_method_27_code 37 [(.iload 10, 0, 0, 0, 0), (.bipush 30, 0, 0, 0, 0), (.if_icmp .gt 49, 0, 0, 0, 0)] = true := by decide +kernel
theorem ck_I_old_44 : ia_cks 0 11 false prog_1_method_27_code 44 [(.aload_n 0, 0, 0, 0, 0), (.getfield 51, 0, 5, 3, 247), (.aload_n 0, 0, 0, 0, 0), (.getfield 44, 0, 4, 3, 239), (.iload 5, 0, 0, 0, 0), (.iload 6, 0, 0, 0, 0), (.iload 7, 0, 0, 0, 0)] = true := by decide +kernel
theorem ck_I_old_61 : ia_cks 0 11 false prog_1_method_27_code 61 [(.lload 8, 0, 0, 0, 0), (.lcmp, 0, 0, 0, 0), (.ifCond .ne 6, 0, 0, 0, 0)] = true := by decide +kernel
theorem ck_I_old_70 : ia_cks 0 11 false prog_1_method_27_code 70 [(.aload_n 0, 0, 0, 0, 0), (.getfield 44, 0, 4, 3, 239), (.aload_n 0, 0, 0, 0, 0), (.getfield 44, 0, 4, 3, 239)] = true := by decide +kernel
theorem ck_I_old_84 : ia_cks 0 11 false prog_1_method_27_code 84 [(.iinc 10 1, 0, 0, 0, 0), (.goto (-50), 0, 0, 0, 0)] = true := by decide +kernel
theorem ck_I_old_67 : ia_cks 0 11 false prog_1_method_27_code 67 [(.iload 10, 0, 0, 0, 0)] = true := by decide +kernel
theorem ck_I_old_90 : ia_cks 0 11 false prog_1_method_27_code 90 [(.iconst (-1), 0, 0, 0, 0)] = true := by decide +kernel
theorem dc_I_old_33 : decode prog_1_method_27_code 33 = .ok (.ireturn, 1) := by decide +kernel
theorem dc_I_old_13 : decode prog_1_method_27_code 13 = .ok (.invokevirtual 266, 3) := by decide +kernel
theorem dc_I_old_26 : decode prog_1_method_27_code 26 = .ok (.invokevirtual 299, 3) := by decide +kernel
theorem dc_I_old_58 : decode prog_1_method_27_code 58 = .ok (.invokevirtual 383, 3) := by decide +kernel
theorem dc_I_old_78 : decode prog_1_method_27_code 78 = .ok (.invokevirtual 377, 3) := by decide +kernel
theorem dc_I_old_81 : decode prog_1_method_27_code 81 = .ok (.invokevirtual 380, 3) := by decide +kernel
theorem dc_I_old_69 : decode prog_1_method_27_code 69 = .ok (.ireturn, 1) := by decide +kernel
theorem dc_I_old_91 : decode prog_1_method_27_code 91 = .ok (.ireturn, 1) := by decide +kernel
def l_I_old_37 (x1 : Int32) (x2 : Int32) (x3 : Int32) (x4 : Int32) (x5 : Int32) (x6 : Int32) (x7 : Int32) (y8 : Int64) (k67 : Int32 → ia_H → Option (Int32 × ia_H)) (k90 : ia_H → Option (Int32 × ia_H)) (n : Nat) (x10 : Int32) (h : ia_H) : Option (Int32 × ia_H) := match n with
  | 0 => none
  | n + 1 => if 30 < x10 then (k90 h) else ((f_Wa_shortCells 303 x5 x6 x7 h).bind fun v3 => (if (lg_cmp v3.1 y8) = 0 then (k67 x10 v3.2) else ((f_Sc_frost 303 v3.2).bind fun v4 => ((f_Sc_passDay 303 v4 v3.2).bind fun v5 => (l_I_old_37 x1 x2 x3 x4 x5 x6 x7 y8 k67 k90 n (x10 + 1) v5)))))
theorem tl_I_old_37 {w : ia_O0} {d N1 W1 : Nat} {K : ia_K} (hK : ia_isK (d + 7) mm_I_old N1 W1 K) {x1 : Int32} {x2 : Int32} {x3 : Int32} {x4 : Int32} {x5 : Int32} {x6 : Int32} {x7 : Int32} {y8 : Int64} {r : Int32} {h1 : ia_H} (hret : ∀ (pc : Nat) (lv : ia_L), ia_ret mm_I_old pc (some (.inl r)) → K pc lv ((some (.inl r)) : Option ia_V).toList h1) {k67 : Int32 → ia_H → Option (Int32 × ia_H)} {k90 : ia_H → Option (Int32 × ia_H)} (hk67 : ∀ (x10 : Int32) (h : ia_H), gd_ w h → k67 x10 h = some (r, h1) → K 67 [none, none, none, none, none, none, none, none, none, none, some (.inl x10)] [] h) (hk90 : ∀ (h : ia_H), gd_ w h → k90 h = some (r, h1) → K 90 [none, none, none, none, none, none, none, none, none, none, none] [] h) : ∀ (n : Nat) (x10 : Int32) (h : ia_H), gd_ w h → l_I_old_37 x1 x2 x3 x4 x5 x6 x7 y8 k67 k90 n x10 h = some (r, h1) → K 37 [some (.inr (.inr 64)), none, none, none, none, some (.inl x5), some (.inl x6), some (.inl x7), some (.inr (.inl y8)), none, some (.inl x10)] [] h := by
  intro n
  induction n with
  | zero =>
    intro x10 h hg hm
    cases (show (none : Option (Int32 × ia_H)) = some _ from hm)
  | succ n ih =>
    intro x10 h hg hm
    rw [l_I_old_37] at hm
    refine ia_go hK ck_I_old_37 ⟨fun c => ?_, fun c => ?_⟩
    · replace hm := ia_ifp hm c
      show K 90 [some (.inr (.inr 64)), none, none, none, none, some (.inl x5), some (.inl x6), some (.inl x7), some (.inr (.inl y8)), none, some (.inl x10)] [] h
      refine ia_fg hK (lv' := [none, none, none, none, none, none, none, none, none, none, none]) trivial ?_
      exact hk90 h hg hm
    · replace hm := ia_ifn hm c
      show K 44 [some (.inr (.inr 64)), none, none, none, none, some (.inl x5), some (.inl x6), some (.inl x7), some (.inr (.inl y8)), none, some (.inl x10)] [] h
      refine ia_go hK ck_I_old_44 ⟨gk_0 hg pk_64, gr_0_5 hg pk_64, gk_0 hg pk_64, gr_0_4 hg pk_64, ?_⟩
      show K 58 [some (.inr (.inr 64)), none, none, none, none, some (.inl x5), some (.inl x6), some (.inl x7), some (.inr (.inl y8)), none, some (.inl x10)] [.inl x7, .inl x6, .inl x5, .inr (.inr 303), .inr (.inr 311)] h
      obtain ⟨v3, hv3, hm⟩ := ia_bnd hm
      have ev3 := t_Wa_shortCells (d + 3) hg (ka_0_4 pk_64) hv3
      have gv3 := g_Wa_shortCells hg (ka_0_4 pk_64) hv3
      refine ia_cV hK mk_Wa_shortCells lk_0_383 dc_I_old_58 311 [.inr (.inr 303), .inl x5, .inl x6, .inl x7] [] rfl rfl (Nat.le_of_ble_eq_true rfl) (by decide) rfl (gk_11 hg (ka_0_5 pk_64)) ev3 (gd_nm hg gv3) ?_
      show K 61 [some (.inr (.inr 64)), none, none, none, none, some (.inl x5), some (.inl x6), some (.inl x7), some (.inr (.inl y8)), none, some (.inl x10)] [.inr (.inl v3.1)] v3.2
      refine ia_go hK ck_I_old_61 ⟨fun c => ?_, fun c => ?_⟩
      · replace hm := ia_ifn hm c
        show K 70 [some (.inr (.inr 64)), none, none, none, none, some (.inl x5), some (.inl x6), some (.inl x7), some (.inr (.inl y8)), none, some (.inl x10)] [] v3.2
        refine ia_go hK ck_I_old_70 ⟨gk_0 gv3 pk_64, gr_0_4 gv3 pk_64, gk_0 gv3 pk_64, gr_0_4 gv3 pk_64, ?_⟩
        show K 78 [some (.inr (.inr 64)), none, none, none, none, some (.inl x5), some (.inl x6), some (.inl x7), some (.inr (.inl y8)), none, some (.inl x10)] [.inr (.inr 303), .inr (.inr 303)] v3.2
        obtain ⟨v4, hv4, hm⟩ := ia_bnd hm
        have ev4 := t_Sc_frost (d + 6) gv3 (ka_0_4 pk_64) hv4
        refine ia_cV hK mk_Sc_frost lk_0_377 dc_I_old_78 303 [] [.inr (.inr 303)] rfl rfl (Nat.le_of_ble_eq_true rfl) (by decide) rfl (gk_9 gv3 (ka_0_4 pk_64)) ev4 ⟨rfl, rfl⟩ ?_
        show K 81 [some (.inr (.inr 64)), none, none, none, none, some (.inl x5), some (.inl x6), some (.inl x7), some (.inr (.inl y8)), none, some (.inl x10)] [.inl v4, .inr (.inr 303)] v3.2
        obtain ⟨v5, hv5, hm⟩ := ia_bnd hm
        have ev5 := t_Sc_passDay (d + 3) gv3 (ka_0_4 pk_64) hv5
        have gv5 := g_Sc_passDay gv3 (ka_0_4 pk_64) hv5
        refine ia_cV hK mk_Sc_passDay lk_0_380 dc_I_old_81 303 [.inl v4] [] rfl rfl (Nat.le_of_ble_eq_true rfl) (by decide) rfl (gk_9 gv3 (ka_0_4 pk_64)) ev5 (gd_nm gv3 gv5) ?_
        show K 84 [some (.inr (.inr 64)), none, none, none, none, some (.inl x5), some (.inl x6), some (.inl x7), some (.inr (.inl y8)), none, some (.inl x10)] [] v5
        refine ia_go hK ck_I_old_84 ?_
        show K 37 [some (.inr (.inr 64)), none, none, none, none, some (.inl x5), some (.inl x6), some (.inl x7), some (.inr (.inl y8)), none, some (.inl (x10 + 1))] [] v5
        exact ih (x10 + 1) v5 gv5 hm
      · replace hm := ia_ifp hm c
        show K 67 [some (.inr (.inr 64)), none, none, none, none, some (.inl x5), some (.inl x6), some (.inl x7), some (.inr (.inl y8)), none, some (.inl x10)] [] v3.2
        refine ia_fg hK (lv' := [none, none, none, none, none, none, none, none, none, none, some (.inl x10)]) ⟨rfl, trivial⟩ ?_
        exact hk67 x10 v3.2 gv3 hm
theorem gl_I_old_37 {w : ia_O0} {x1 : Int32} {x2 : Int32} {x3 : Int32} {x4 : Int32} {x5 : Int32} {x6 : Int32} {x7 : Int32} {y8 : Int64} {r : Int32} {h1 : ia_H} {k67 : Int32 → ia_H → Option (Int32 × ia_H)} {k90 : ia_H → Option (Int32 × ia_H)} (hk67 : ∀ (x10 : Int32) (h : ia_H), gd_ w h → k67 x10 h = some (r, h1) → gd_ w h1) (hk90 : ∀ (h : ia_H), gd_ w h → k90 h = some (r, h1) → gd_ w h1) : ∀ (n : Nat) (x10 : Int32) (h : ia_H), gd_ w h → l_I_old_37 x1 x2 x3 x4 x5 x6 x7 y8 k67 k90 n x10 h = some (r, h1) → gd_ w h1 := by
  intro n
  induction n with
  | zero =>
    intro x10 h hg hm
    cases (show (none : Option (Int32 × ia_H)) = some _ from hm)
  | succ n ih =>
    intro x10 h hg hm
    rw [l_I_old_37] at hm
    by_cases c : 30 < x10
    · replace hm := ia_ifp hm c
      exact hk90 h hg hm
    · replace hm := ia_ifn hm c
      obtain ⟨v3, hv3, hm⟩ := ia_bnd hm
      have gv3 := g_Wa_shortCells hg (ka_0_4 pk_64) hv3
      by_cases c : (lg_cmp v3.1 y8) = 0
      · replace hm := ia_ifp hm c
        exact hk67 x10 v3.2 gv3 hm
      · replace hm := ia_ifn hm c
        obtain ⟨v4, hv4, hm⟩ := ia_bnd hm
        obtain ⟨v5, hv5, hm⟩ := ia_bnd hm
        have gv5 := g_Sc_passDay gv3 (ka_0_4 pk_64) hv5
        exact ih (x10 + 1) v5 gv5 hm
def f_I_old (x1 : Int32) (x2 : Int32) (x3 : Int32) (x4 : Int32) (x5 : Int32) (x6 : Int32) (x7 : Int32) (y8 : Int64) (h : ia_H) : Option (Int32 × ia_H) := if (lg_cmp y8 0) < 0 then (some ((-1), h)) else ((f_I_stage x1 x2 x3 x4 h).bind fun v1 => (if v1.1 = 0 then (some ((-1), v1.2)) else ((f_I_isTrip x5 x6 x7 v1.2).bind fun v2 => (if v2 = 0 then (some ((-1), v1.2)) else (l_I_old_37 x1 x2 x3 x4 x5 x6 x7 y8 (fun x10 h => some (x10, h)) (fun h => some ((-1), h)) fu_ 0 v1.2)))))
theorem g_I_old {w : ia_O0} {x1 : Int32} {x2 : Int32} {x3 : Int32} {x4 : Int32} {x5 : Int32} {x6 : Int32} {x7 : Int32} {y8 : Int64} {h : ia_H} (hg : gd_ w h) {q : (Int32 × ia_H)} (hm : f_I_old x1 x2 x3 x4 x5 x6 x7 y8 h = some q) : gd_ w q.2 := by
  obtain ⟨r, h1⟩ := q
  unfold f_I_old at hm
  by_cases c : (lg_cmp y8 0) < 0
  · replace hm := ia_ifp hm c
    obtain ⟨rfl, rfl⟩ := Prod.mk.inj (Option.some.inj hm)
    exact hg
  · replace hm := ia_ifn hm c
    obtain ⟨v1, hv1, hm⟩ := ia_bnd hm
    have gv1 := g_I_stage hg hv1
    by_cases c : v1.1 = 0
    · replace hm := ia_ifp hm c
      obtain ⟨rfl, rfl⟩ := Prod.mk.inj (Option.some.inj hm)
      exact gv1
    · replace hm := ia_ifn hm c
      obtain ⟨v2, hv2, hm⟩ := ia_bnd hm
      by_cases c : v2 = 0
      · replace hm := ia_ifp hm c
        obtain ⟨rfl, rfl⟩ := Prod.mk.inj (Option.some.inj hm)
        exact gv1
      · replace hm := ia_ifn hm c
        refine gl_I_old_37 ?_ ?_ fu_ 0 v1.2 gv1 hm
        · intro x10 h hg hm
          obtain ⟨rfl, rfl⟩ := Prod.mk.inj (Option.some.inj hm)
          exact hg
        · intro h hg hm
          obtain ⟨rfl, rfl⟩ := Prod.mk.inj (Option.some.inj hm)
          exact hg
theorem t_I_old {w : ia_O0} (d : Nat) {x1 : Int32} {x2 : Int32} {x3 : Int32} {x4 : Int32} {x5 : Int32} {x6 : Int32} {x7 : Int32} {y8 : Int64} {h : ia_H} (hg : gd_ w h) {q : (Int32 × ia_H)} (hm : f_I_old x1 x2 x3 x4 x5 x6 x7 y8 h = some q) : ia_Ev (d + 7) mm_I_old [.inr (.inr 64), .inl x1, .inl x2, .inl x3, .inl x4, .inl x5, .inl x6, .inl x7, .inr (.inl y8)] h (some (.inl q.1)) q.2 := by
  have gq := g_I_old hg hm
  refine ia_Ev_intro ok_I_old (gd_le hg gq).1 (gd_le hg gq).2 (Nat.le_of_ble_eq_true rfl) (fun K hK hret => ?_)
  obtain ⟨r, h1⟩ := q
  show K 0 [some (.inr (.inr 64)), some (.inl x1), some (.inl x2), some (.inl x3), some (.inl x4), some (.inl x5), some (.inl x6), some (.inl x7), some (.inr (.inl y8)), none, none] [] h
  unfold f_I_old at hm
  refine ia_go hK ck_I_old_0 ⟨fun c => ?_, fun c => ?_⟩
  · replace hm := ia_ifp hm c
    show K 32 [some (.inr (.inr 64)), some (.inl x1), some (.inl x2), some (.inl x3), some (.inl x4), some (.inl x5), some (.inl x6), some (.inl x7), some (.inr (.inl y8)), none, none] [] h
    refine ia_go hK ck_I_old_32 ?_
    show K 33 [some (.inr (.inr 64)), some (.inl x1), some (.inl x2), some (.inl x3), some (.inl x4), some (.inl x5), some (.inl x6), some (.inl x7), some (.inr (.inl y8)), none, none] [.inl (-1)] h
    obtain ⟨rfl, rfl⟩ := Prod.mk.inj (Option.some.inj hm)
    exact hret 33 _ dc_I_old_33
  · replace hm := ia_ifn hm c
    show K 7 [some (.inr (.inr 64)), some (.inl x1), some (.inl x2), some (.inl x3), some (.inl x4), some (.inl x5), some (.inl x6), some (.inl x7), some (.inr (.inl y8)), none, none] [] h
    refine ia_go hK ck_I_old_7 ?_
    show K 13 [some (.inr (.inr 64)), some (.inl x1), some (.inl x2), some (.inl x3), some (.inl x4), some (.inl x5), some (.inl x6), some (.inl x7), some (.inr (.inl y8)), none, none] [.inl x4, .inl x3, .inl x2, .inl x1, .inr (.inr 64)] h
    obtain ⟨v1, hv1, hm⟩ := ia_bnd hm
    have ev1 := t_I_stage (d + 0) hg hv1
    have gv1 := g_I_stage hg hv1
    refine ia_cV hK mk_I_stage lk_0_266 dc_I_old_13 64 [.inl x1, .inl x2, .inl x3, .inl x4] [] rfl rfl (Nat.le_of_ble_eq_true rfl) (by decide) rfl (gk_0 hg pk_64) ev1 (gd_nm hg gv1) ?_
    show K 16 [some (.inr (.inr 64)), some (.inl x1), some (.inl x2), some (.inl x3), some (.inl x4), some (.inl x5), some (.inl x6), some (.inl x7), some (.inr (.inl y8)), none, none] [.inl v1.1] v1.2
    refine ia_go hK ck_I_old_16 ⟨fun c => ?_, fun c => ?_⟩
    · replace hm := ia_ifp hm c
      show K 32 [some (.inr (.inr 64)), some (.inl x1), some (.inl x2), some (.inl x3), some (.inl x4), some (.inl x5), some (.inl x6), some (.inl x7), some (.inr (.inl y8)), none, none] [] v1.2
      refine ia_go hK ck_I_old_32 ?_
      show K 33 [some (.inr (.inr 64)), some (.inl x1), some (.inl x2), some (.inl x3), some (.inl x4), some (.inl x5), some (.inl x6), some (.inl x7), some (.inr (.inl y8)), none, none] [.inl (-1)] v1.2
      obtain ⟨rfl, rfl⟩ := Prod.mk.inj (Option.some.inj hm)
      exact hret 33 _ dc_I_old_33
    · replace hm := ia_ifn hm c
      show K 19 [some (.inr (.inr 64)), some (.inl x1), some (.inl x2), some (.inl x3), some (.inl x4), some (.inl x5), some (.inl x6), some (.inl x7), some (.inr (.inl y8)), none, none] [] v1.2
      refine ia_go hK ck_I_old_19 ?_
      show K 26 [some (.inr (.inr 64)), some (.inl x1), some (.inl x2), some (.inl x3), some (.inl x4), some (.inl x5), some (.inl x6), some (.inl x7), some (.inr (.inl y8)), none, none] [.inl x7, .inl x6, .inl x5, .inr (.inr 64)] v1.2
      obtain ⟨v2, hv2, hm⟩ := ia_bnd hm
      have ev2 := t_I_isTrip (d + 5) gv1 hv2
      refine ia_cV hK mk_I_isTrip lk_0_299 dc_I_old_26 64 [.inl x5, .inl x6, .inl x7] [] rfl rfl (Nat.le_of_ble_eq_true rfl) (by decide) rfl (gk_0 gv1 pk_64) ev2 ⟨rfl, rfl⟩ ?_
      show K 29 [some (.inr (.inr 64)), some (.inl x1), some (.inl x2), some (.inl x3), some (.inl x4), some (.inl x5), some (.inl x6), some (.inl x7), some (.inr (.inl y8)), none, none] [.inl v2] v1.2
      refine ia_go hK ck_I_old_29 ⟨fun c => ?_, fun c => ?_⟩
      · replace hm := ia_ifn hm c
        show K 34 [some (.inr (.inr 64)), some (.inl x1), some (.inl x2), some (.inl x3), some (.inl x4), some (.inl x5), some (.inl x6), some (.inl x7), some (.inr (.inl y8)), none, none] [] v1.2
        refine ia_go hK ck_I_old_34 ?_
        show K 37 [some (.inr (.inr 64)), some (.inl x1), some (.inl x2), some (.inl x3), some (.inl x4), some (.inl x5), some (.inl x6), some (.inl x7), some (.inr (.inl y8)), none, some (.inl 0)] [] v1.2
        refine ia_fg hK (lv' := [some (.inr (.inr 64)), none, none, none, none, some (.inl x5), some (.inl x6), some (.inl x7), some (.inr (.inl y8)), none, some (.inl 0)]) ⟨rfl, rfl, rfl, rfl, rfl, rfl, trivial⟩ ?_
        refine tl_I_old_37 hK hret ?_ ?_ fu_ 0 v1.2 gv1 hm
        · intro x10 h hg hm
          refine ia_go hK ck_I_old_67 ?_
          show K 69 [none, none, none, none, none, none, none, none, none, none, some (.inl x10)] [.inl x10] h
          obtain ⟨rfl, rfl⟩ := Prod.mk.inj (Option.some.inj hm)
          exact hret 69 _ dc_I_old_69
        · intro h hg hm
          refine ia_go hK ck_I_old_90 ?_
          show K 91 [none, none, none, none, none, none, none, none, none, none, none] [.inl (-1)] h
          obtain ⟨rfl, rfl⟩ := Prod.mk.inj (Option.some.inj hm)
          exact hret 91 _ dc_I_old_91
      · replace hm := ia_ifp hm c
        show K 32 [some (.inr (.inr 64)), some (.inl x1), some (.inl x2), some (.inl x3), some (.inl x4), some (.inl x5), some (.inl x6), some (.inl x7), some (.inr (.inl y8)), none, none] [] v1.2
        refine ia_go hK ck_I_old_32 ?_
        show K 33 [some (.inr (.inr 64)), some (.inl x1), some (.inl x2), some (.inl x3), some (.inl x4), some (.inl x5), some (.inl x6), some (.inl x7), some (.inr (.inl y8)), none, none] [.inl (-1)] v1.2
        obtain ⟨rfl, rfl⟩ := Prod.mk.inj (Option.some.inj hm)
        exact hret 33 _ dc_I_old_33
def mm_Ou_firstDayWith : ia_M := (⟨"IceStreet$Outlook", "firstDayWith", "(LIceStreet$Scene;ZIII)I"⟩, prog_6_method_10_code, 7, (some .int), 5, false)
theorem ok_Ou_firstDayWith : ia_mok mm_Ou_firstDayWith := ⟨by decide +kernel, by decide +kernel, by decide +kernel, by decide +kernel⟩
theorem mk_Ou_firstDayWith : ia_mkn mm_Ou_firstDayWith 1 5 := ⟨ia_tb_in (List.mem_of_getElem? (i := 1434) (by decide +kernel)) rfl, ia_tb_in (List.mem_of_getElem? (i := 143) (by decide +kernel)) rfl, by decide +kernel, by decide +kernel, ⟨ia_tb_in (List.mem_of_getElem? (i := 1432) (by decide +kernel)) rfl, ia_tb_in (List.mem_of_getElem? (i := 1433) (by decide +kernel)) rfl⟩⟩
theorem ck_Ou_firstDayWith_0 : ia_cks 5 7 false prog_6_method_10_code 0 [(.iconst 0, 0, 0, 0, 0), (.istore 6, 0, 0, 0, 0)] = true := by decide +kernel
theorem ck_Ou_firstDayWith_3 : ia_cks 5 7 false prog_6_method_10_code 3 [(.iload 6, 0, 0, 0, 0), (.bipush 60, 0, 0, 0, 0), (.if_icmp .gt 54, 0, 0, 0, 0)] = true := by decide +kernel
theorem ck_Ou_firstDayWith_10 : ia_cks 5 7 false prog_6_method_10_code 10 [(.aload_n 0, 0, 0, 0, 0), (.getfield 18, 5, 0, 4, 311), (.aload_n 1, 0, 0, 0, 0), (.iconst 0, 0, 0, 0, 0)] = true := by decide +kernel
theorem ck_Ou_firstDayWith_19 : ia_cks 5 7 false prog_6_method_10_code 19 [(.aload_n 0, 0, 0, 0, 0), (.getfield 18, 5, 0, 4, 311), (.iload_n 3, 0, 0, 0, 0), (.iload 4, 0, 0, 0, 0), (.iload 5, 0, 0, 0, 0)] = true := by decide +kernel
theorem ck_Ou_firstDayWith_31 : ia_cks 5 7 false prog_6_method_10_code 31 [(.iconst (-1), 0, 0, 0, 0), (.if_icmp .eq 7, 0, 0, 0, 0)] = true := by decide +kernel
theorem ck_Ou_firstDayWith_39 : ia_cks 5 7 false prog_6_method_10_code 39 [(.iconst 0, 0, 0, 0, 0)] = true := by decide +kernel
theorem ck_Ou_firstDayWith_40 : ia_cks 5 7 false prog_6_method_10_code 40 [(.iload_n 2, 0, 0, 0, 0), (.if_icmp .ne 6, 0, 0, 0, 0)] = true := by decide +kernel
theorem ck_Ou_firstDayWith_47 : ia_cks 5 7 false prog_6_method_10_code 47 [(.aload_n 1, 0, 0, 0, 0), (.aload_n 1, 0, 0, 0, 0)] = true := by decide +kernel
theorem ck_Ou_firstDayWith_55 : ia_cks 5 7 false prog_6_method_10_code 55 [(.iinc 6 1, 0, 0, 0, 0), (.goto (-55), 0, 0, 0, 0)] = true := by decide +kernel
theorem ck_Ou_firstDayWith_35 : ia_cks 5 7 false prog_6_method_10_code 35 [(.iconst 1, 0, 0, 0, 0), (.goto 4, 0, 0, 0, 0)] = true := by decide +kernel
theorem ck_Ou_firstDayWith_44 : ia_cks 5 7 false prog_6_method_10_code 44 [(.iload 6, 0, 0, 0, 0)] = true := by decide +kernel
theorem ck_Ou_firstDayWith_61 : ia_cks 5 7 false prog_6_method_10_code 61 [(.iconst (-1), 0, 0, 0, 0)] = true := by decide +kernel
theorem dc_Ou_firstDayWith_16 : decode prog_6_method_10_code 16 = .ok (.invokevirtual 137, 3) := by decide +kernel
theorem dc_Ou_firstDayWith_28 : decode prog_6_method_10_code 28 = .ok (.invokevirtual 141, 3) := by decide +kernel
theorem dc_Ou_firstDayWith_49 : decode prog_6_method_10_code 49 = .ok (.invokevirtual 42, 3) := by decide +kernel
theorem dc_Ou_firstDayWith_52 : decode prog_6_method_10_code 52 = .ok (.invokevirtual 111, 3) := by decide +kernel
theorem dc_Ou_firstDayWith_46 : decode prog_6_method_10_code 46 = .ok (.ireturn, 1) := by decide +kernel
theorem dc_Ou_firstDayWith_62 : decode prog_6_method_10_code 62 = .ok (.ireturn, 1) := by decide +kernel
def j_Ou_firstDayWith_40 (a1 : Nat) (x2 : Int32) (x3 : Int32) (x4 : Int32) (x5 : Int32) (kr : Int32 → ia_H → Option (Int32 × ia_H)) (k44 : Int32 → ia_H → Option (Int32 × ia_H)) (k61 : ia_H → Option (Int32 × ia_H)) (x6 : Int32) (s0 : Int32) (h : ia_H) : Option (Int32 × ia_H) := if s0 = x2 then (k44 x6 h) else ((f_Sc_frost a1 h).bind fun v3 => ((f_Sc_passDay a1 v3 h).bind fun v4 => (kr (x6 + 1) v4)))
theorem tj_Ou_firstDayWith_40 {w : ia_O0} {d N1 W1 : Nat} {K : ia_K} (hK : ia_isK (d + 4) mm_Ou_firstDayWith N1 W1 K) {a1 : Nat} {x2 : Int32} {x3 : Int32} {x4 : Int32} {x5 : Int32} (p1 : (kd_D a1).1 = 9) {r : Int32} {h1 : ia_H} (hret : ∀ (pc : Nat) (lv : ia_L), ia_ret mm_Ou_firstDayWith pc (some (.inl r)) → K pc lv ((some (.inl r)) : Option ia_V).toList h1) {kr : Int32 → ia_H → Option (Int32 × ia_H)} {k44 : Int32 → ia_H → Option (Int32 × ia_H)} {k61 : ia_H → Option (Int32 × ia_H)} (hkr : ∀ (x6 : Int32) (h : ia_H), gd_ w h → kr x6 h = some (r, h1) → K 3 [some (.inr (.inr 326)), some (.inr (.inr a1)), some (.inl x2), some (.inl x3), some (.inl x4), some (.inl x5), some (.inl x6)] [] h) (hk44 : ∀ (x6 : Int32) (h : ia_H), gd_ w h → k44 x6 h = some (r, h1) → K 44 [none, none, none, none, none, none, some (.inl x6)] [] h) (hk61 : ∀ (h : ia_H), gd_ w h → k61 h = some (r, h1) → K 61 [none, none, none, none, none, none, none] [] h) : ∀ (x6 : Int32) (s0 : Int32) (h : ia_H), gd_ w h → j_Ou_firstDayWith_40 a1 x2 x3 x4 x5 kr k44 k61 x6 s0 h = some (r, h1) → K 40 [some (.inr (.inr 326)), some (.inr (.inr a1)), some (.inl x2), some (.inl x3), some (.inl x4), some (.inl x5), some (.inl x6)] [.inl s0] h := by
  intro x6 s0 h hg hm
  unfold j_Ou_firstDayWith_40 at hm
  refine ia_go hK ck_Ou_firstDayWith_40 ⟨fun c => ?_, fun c => ?_⟩
  · replace hm := ia_ifn hm c
    show K 47 [some (.inr (.inr 326)), some (.inr (.inr a1)), some (.inl x2), some (.inl x3), some (.inl x4), some (.inl x5), some (.inl x6)] [] h
    refine ia_go hK ck_Ou_firstDayWith_47 ?_
    show K 49 [some (.inr (.inr 326)), some (.inr (.inr a1)), some (.inl x2), some (.inl x3), some (.inl x4), some (.inl x5), some (.inl x6)] [.inr (.inr a1), .inr (.inr a1)] h
    obtain ⟨v3, hv3, hm⟩ := ia_bnd hm
    have ev3 := t_Sc_frost (d + 3) hg p1 hv3
    refine ia_cV hK mk_Sc_frost lk_5_42 dc_Ou_firstDayWith_49 a1 [] [.inr (.inr a1)] rfl rfl (Nat.le_of_ble_eq_true rfl) (by decide) rfl (gk_9 hg p1) ev3 ⟨rfl, rfl⟩ ?_
    show K 52 [some (.inr (.inr 326)), some (.inr (.inr a1)), some (.inl x2), some (.inl x3), some (.inl x4), some (.inl x5), some (.inl x6)] [.inl v3, .inr (.inr a1)] h
    obtain ⟨v4, hv4, hm⟩ := ia_bnd hm
    have ev4 := t_Sc_passDay (d + 0) hg p1 hv4
    have gv4 := g_Sc_passDay hg p1 hv4
    refine ia_cV hK mk_Sc_passDay lk_5_111 dc_Ou_firstDayWith_52 a1 [.inl v3] [] rfl rfl (Nat.le_of_ble_eq_true rfl) (by decide) rfl (gk_9 hg p1) ev4 (gd_nm hg gv4) ?_
    show K 55 [some (.inr (.inr 326)), some (.inr (.inr a1)), some (.inl x2), some (.inl x3), some (.inl x4), some (.inl x5), some (.inl x6)] [] v4
    refine ia_go hK ck_Ou_firstDayWith_55 ?_
    show K 3 [some (.inr (.inr 326)), some (.inr (.inr a1)), some (.inl x2), some (.inl x3), some (.inl x4), some (.inl x5), some (.inl (x6 + 1))] [] v4
    exact hkr (x6 + 1) v4 gv4 hm
  · replace hm := ia_ifp hm c
    show K 44 [some (.inr (.inr 326)), some (.inr (.inr a1)), some (.inl x2), some (.inl x3), some (.inl x4), some (.inl x5), some (.inl x6)] [] h
    refine ia_fg hK (lv' := [none, none, none, none, none, none, some (.inl x6)]) ⟨rfl, trivial⟩ ?_
    exact hk44 x6 h hg hm
theorem gj_Ou_firstDayWith_40 {w : ia_O0} {a1 : Nat} {x2 : Int32} {x3 : Int32} {x4 : Int32} {x5 : Int32} (p1 : (kd_D a1).1 = 9) {r : Int32} {h1 : ia_H} {kr : Int32 → ia_H → Option (Int32 × ia_H)} {k44 : Int32 → ia_H → Option (Int32 × ia_H)} {k61 : ia_H → Option (Int32 × ia_H)} (hkr : ∀ (x6 : Int32) (h : ia_H), gd_ w h → kr x6 h = some (r, h1) → gd_ w h1) (hk44 : ∀ (x6 : Int32) (h : ia_H), gd_ w h → k44 x6 h = some (r, h1) → gd_ w h1) (hk61 : ∀ (h : ia_H), gd_ w h → k61 h = some (r, h1) → gd_ w h1) : ∀ (x6 : Int32) (s0 : Int32) (h : ia_H), gd_ w h → j_Ou_firstDayWith_40 a1 x2 x3 x4 x5 kr k44 k61 x6 s0 h = some (r, h1) → gd_ w h1 := by
  intro x6 s0 h hg hm
  unfold j_Ou_firstDayWith_40 at hm
  by_cases c : s0 = x2
  · replace hm := ia_ifp hm c
    exact hk44 x6 h hg hm
  · replace hm := ia_ifn hm c
    obtain ⟨v3, hv3, hm⟩ := ia_bnd hm
    obtain ⟨v4, hv4, hm⟩ := ia_bnd hm
    have gv4 := g_Sc_passDay hg p1 hv4
    exact hkr (x6 + 1) v4 gv4 hm
def l_Ou_firstDayWith_3 (a1 : Nat) (x2 : Int32) (x3 : Int32) (x4 : Int32) (x5 : Int32) (k44 : Int32 → ia_H → Option (Int32 × ia_H)) (k61 : ia_H → Option (Int32 × ia_H)) (n : Nat) (x6 : Int32) (h : ia_H) : Option (Int32 × ia_H) := match n with
  | 0 => none
  | n + 1 => if 60 < x6 then (k61 h) else ((f_Wa_survey a1 0 h).bind fun v1 => ((f_Wa_measure x3 x4 x5 v1).bind fun v2 => (if v2.1 = (-1) then (j_Ou_firstDayWith_40 a1 x2 x3 x4 x5 (l_Ou_firstDayWith_3 a1 x2 x3 x4 x5 k44 k61 n) k44 k61 x6 0 v2.2) else (j_Ou_firstDayWith_40 a1 x2 x3 x4 x5 (l_Ou_firstDayWith_3 a1 x2 x3 x4 x5 k44 k61 n) k44 k61 x6 1 v2.2))))
theorem tl_Ou_firstDayWith_3 {w : ia_O0} {d N1 W1 : Nat} {K : ia_K} (hK : ia_isK (d + 4) mm_Ou_firstDayWith N1 W1 K) {a1 : Nat} {x2 : Int32} {x3 : Int32} {x4 : Int32} {x5 : Int32} (p1 : (kd_D a1).1 = 9) {r : Int32} {h1 : ia_H} (hret : ∀ (pc : Nat) (lv : ia_L), ia_ret mm_Ou_firstDayWith pc (some (.inl r)) → K pc lv ((some (.inl r)) : Option ia_V).toList h1) {k44 : Int32 → ia_H → Option (Int32 × ia_H)} {k61 : ia_H → Option (Int32 × ia_H)} (hk44 : ∀ (x6 : Int32) (h : ia_H), gd_ w h → k44 x6 h = some (r, h1) → K 44 [none, none, none, none, none, none, some (.inl x6)] [] h) (hk61 : ∀ (h : ia_H), gd_ w h → k61 h = some (r, h1) → K 61 [none, none, none, none, none, none, none] [] h) : ∀ (n : Nat) (x6 : Int32) (h : ia_H), gd_ w h → l_Ou_firstDayWith_3 a1 x2 x3 x4 x5 k44 k61 n x6 h = some (r, h1) → K 3 [some (.inr (.inr 326)), some (.inr (.inr a1)), some (.inl x2), some (.inl x3), some (.inl x4), some (.inl x5), some (.inl x6)] [] h := by
  intro n
  induction n with
  | zero =>
    intro x6 h hg hm
    cases (show (none : Option (Int32 × ia_H)) = some _ from hm)
  | succ n ih =>
    intro x6 h hg hm
    rw [l_Ou_firstDayWith_3] at hm
    refine ia_go hK ck_Ou_firstDayWith_3 ⟨fun c => ?_, fun c => ?_⟩
    · replace hm := ia_ifp hm c
      show K 61 [some (.inr (.inr 326)), some (.inr (.inr a1)), some (.inl x2), some (.inl x3), some (.inl x4), some (.inl x5), some (.inl x6)] [] h
      refine ia_fg hK (lv' := [none, none, none, none, none, none, none]) trivial ?_
      exact hk61 h hg hm
    · replace hm := ia_ifn hm c
      show K 10 [some (.inr (.inr 326)), some (.inr (.inr a1)), some (.inl x2), some (.inl x3), some (.inl x4), some (.inl x5), some (.inl x6)] [] h
      refine ia_go hK ck_Ou_firstDayWith_10 ⟨gk_5 hg pk_326, gr_5_0 hg pk_326, ?_⟩
      show K 16 [some (.inr (.inr 326)), some (.inr (.inr a1)), some (.inl x2), some (.inl x3), some (.inl x4), some (.inl x5), some (.inl x6)] [.inl 0, .inr (.inr a1), .inr (.inr 311)] h
      obtain ⟨v1, hv1, hm⟩ := ia_bnd hm
      have ev1 := t_Wa_survey (d + 2) hg p1 hv1
      have gv1 := g_Wa_survey hg p1 hv1
      refine ia_cV hK mk_Wa_survey lk_5_137 dc_Ou_firstDayWith_16 311 [.inr (.inr a1), .inl 0] [] rfl rfl (Nat.le_of_ble_eq_true rfl) (by decide) rfl (gk_11 hg pk_311) ev1 (gd_nm hg gv1) ?_
      show K 19 [some (.inr (.inr 326)), some (.inr (.inr a1)), some (.inl x2), some (.inl x3), some (.inl x4), some (.inl x5), some (.inl x6)] [] v1
      refine ia_go hK ck_Ou_firstDayWith_19 ⟨gk_5 gv1 pk_326, gr_5_0 gv1 pk_326, ?_⟩
      show K 28 [some (.inr (.inr 326)), some (.inr (.inr a1)), some (.inl x2), some (.inl x3), some (.inl x4), some (.inl x5), some (.inl x6)] [.inl x5, .inl x4, .inl x3, .inr (.inr 311)] v1
      obtain ⟨v2, hv2, hm⟩ := ia_bnd hm
      have ev2 := t_Wa_measure (d + 2) gv1 hv2
      have gv2 := g_Wa_measure gv1 hv2
      refine ia_cV hK mk_Wa_measure lk_5_141 dc_Ou_firstDayWith_28 311 [.inl x3, .inl x4, .inl x5] [] rfl rfl (Nat.le_of_ble_eq_true rfl) (by decide) rfl (gk_11 gv1 pk_311) ev2 (gd_nm gv1 gv2) ?_
      show K 31 [some (.inr (.inr 326)), some (.inr (.inr a1)), some (.inl x2), some (.inl x3), some (.inl x4), some (.inl x5), some (.inl x6)] [.inl v2.1] v2.2
      refine ia_go hK ck_Ou_firstDayWith_31 ⟨fun c => ?_, fun c => ?_⟩
      · replace hm := ia_ifp hm c
        show K 39 [some (.inr (.inr 326)), some (.inr (.inr a1)), some (.inl x2), some (.inl x3), some (.inl x4), some (.inl x5), some (.inl x6)] [] v2.2
        refine ia_go hK ck_Ou_firstDayWith_39 ?_
        show K 40 [some (.inr (.inr 326)), some (.inr (.inr a1)), some (.inl x2), some (.inl x3), some (.inl x4), some (.inl x5), some (.inl x6)] [.inl 0] v2.2
        exact tj_Ou_firstDayWith_40 hK p1 hret ih hk44 hk61 x6 0 v2.2 gv2 hm
      · replace hm := ia_ifn hm c
        show K 35 [some (.inr (.inr 326)), some (.inr (.inr a1)), some (.inl x2), some (.inl x3), some (.inl x4), some (.inl x5), some (.inl x6)] [] v2.2
        refine ia_go hK ck_Ou_firstDayWith_35 ?_
        show K 40 [some (.inr (.inr 326)), some (.inr (.inr a1)), some (.inl x2), some (.inl x3), some (.inl x4), some (.inl x5), some (.inl x6)] [.inl 1] v2.2
        exact tj_Ou_firstDayWith_40 hK p1 hret ih hk44 hk61 x6 1 v2.2 gv2 hm
theorem gl_Ou_firstDayWith_3 {w : ia_O0} {a1 : Nat} {x2 : Int32} {x3 : Int32} {x4 : Int32} {x5 : Int32} (p1 : (kd_D a1).1 = 9) {r : Int32} {h1 : ia_H} {k44 : Int32 → ia_H → Option (Int32 × ia_H)} {k61 : ia_H → Option (Int32 × ia_H)} (hk44 : ∀ (x6 : Int32) (h : ia_H), gd_ w h → k44 x6 h = some (r, h1) → gd_ w h1) (hk61 : ∀ (h : ia_H), gd_ w h → k61 h = some (r, h1) → gd_ w h1) : ∀ (n : Nat) (x6 : Int32) (h : ia_H), gd_ w h → l_Ou_firstDayWith_3 a1 x2 x3 x4 x5 k44 k61 n x6 h = some (r, h1) → gd_ w h1 := by
  intro n
  induction n with
  | zero =>
    intro x6 h hg hm
    cases (show (none : Option (Int32 × ia_H)) = some _ from hm)
  | succ n ih =>
    intro x6 h hg hm
    rw [l_Ou_firstDayWith_3] at hm
    by_cases c : 60 < x6
    · replace hm := ia_ifp hm c
      exact hk61 h hg hm
    · replace hm := ia_ifn hm c
      obtain ⟨v1, hv1, hm⟩ := ia_bnd hm
      have gv1 := g_Wa_survey hg p1 hv1
      obtain ⟨v2, hv2, hm⟩ := ia_bnd hm
      have gv2 := g_Wa_measure gv1 hv2
      by_cases c : v2.1 = (-1)
      · replace hm := ia_ifp hm c
        exact gj_Ou_firstDayWith_40 p1 ih hk44 hk61 x6 0 v2.2 gv2 hm
      · replace hm := ia_ifn hm c
        exact gj_Ou_firstDayWith_40 p1 ih hk44 hk61 x6 1 v2.2 gv2 hm
def f_Ou_firstDayWith (a1 : Nat) (x2 : Int32) (x3 : Int32) (x4 : Int32) (x5 : Int32) (h : ia_H) : Option (Int32 × ia_H) := l_Ou_firstDayWith_3 a1 x2 x3 x4 x5 (fun x6 h => some (x6, h)) (fun h => some ((-1), h)) fu_ 0 h
theorem g_Ou_firstDayWith {w : ia_O0} {a1 : Nat} {x2 : Int32} {x3 : Int32} {x4 : Int32} {x5 : Int32} {h : ia_H} (hg : gd_ w h) (p1 : (kd_D a1).1 = 9) {q : (Int32 × ia_H)} (hm : f_Ou_firstDayWith a1 x2 x3 x4 x5 h = some q) : gd_ w q.2 := by
  obtain ⟨r, h1⟩ := q
  unfold f_Ou_firstDayWith at hm
  refine gl_Ou_firstDayWith_3 p1 ?_ ?_ fu_ 0 h hg hm
  · intro x6 h hg hm
    obtain ⟨rfl, rfl⟩ := Prod.mk.inj (Option.some.inj hm)
    exact hg
  · intro h hg hm
    obtain ⟨rfl, rfl⟩ := Prod.mk.inj (Option.some.inj hm)
    exact hg
theorem t_Ou_firstDayWith {w : ia_O0} (d : Nat) {a1 : Nat} {x2 : Int32} {x3 : Int32} {x4 : Int32} {x5 : Int32} {h : ia_H} (hg : gd_ w h) (p1 : (kd_D a1).1 = 9) {q : (Int32 × ia_H)} (hm : f_Ou_firstDayWith a1 x2 x3 x4 x5 h = some q) : ia_Ev (d + 4) mm_Ou_firstDayWith [.inr (.inr 326), .inr (.inr a1), .inl x2, .inl x3, .inl x4, .inl x5] h (some (.inl q.1)) q.2 := by
  have gq := g_Ou_firstDayWith hg p1 hm
  refine ia_Ev_intro ok_Ou_firstDayWith (gd_le hg gq).1 (gd_le hg gq).2 (Nat.le_of_ble_eq_true rfl) (fun K hK hret => ?_)
  obtain ⟨r, h1⟩ := q
  show K 0 [some (.inr (.inr 326)), some (.inr (.inr a1)), some (.inl x2), some (.inl x3), some (.inl x4), some (.inl x5), none] [] h
  unfold f_Ou_firstDayWith at hm
  refine ia_go hK ck_Ou_firstDayWith_0 ?_
  show K 3 [some (.inr (.inr 326)), some (.inr (.inr a1)), some (.inl x2), some (.inl x3), some (.inl x4), some (.inl x5), some (.inl 0)] [] h
  refine tl_Ou_firstDayWith_3 hK p1 hret ?_ ?_ fu_ 0 h hg hm
  · intro x6 h hg hm
    refine ia_go hK ck_Ou_firstDayWith_44 ?_
    show K 46 [none, none, none, none, none, none, some (.inl x6)] [.inl x6] h
    obtain ⟨rfl, rfl⟩ := Prod.mk.inj (Option.some.inj hm)
    exact hret 46 _ dc_Ou_firstDayWith_46
  · intro h hg hm
    refine ia_go hK ck_Ou_firstDayWith_61 ?_
    show K 62 [none, none, none, none, none, none, none] [.inl (-1)] h
    obtain ⟨rfl, rfl⟩ := Prod.mk.inj (Option.some.inj hm)
    exact hret 62 _ dc_Ou_firstDayWith_62
def mm_I_thaw : ia_M := (⟨"IceStreet", "thaw", "(IIIIIII)I"⟩, prog_1_method_28_code, 8, (some .int), 0, false)
theorem ok_I_thaw : ia_mok mm_I_thaw := ⟨by decide +kernel, by decide +kernel, by decide +kernel, by decide +kernel⟩
theorem mk_I_thaw : ia_mkn mm_I_thaw 1 7 := ⟨ia_tb_in (List.mem_of_getElem? (i := 1430) (by decide +kernel)) rfl, ia_tb_in (List.mem_of_getElem? (i := 133) (by decide +kernel)) rfl, by decide +kernel, by decide +kernel, ⟨ia_tb_in (List.mem_of_getElem? (i := 1428) (by decide +kernel)) rfl, ia_tb_in (List.mem_of_getElem? (i := 1429) (by decide +kernel)) rfl⟩⟩
theorem ck_I_thaw_0 : ia_cks 0 8 false prog_1_method_28_code 0 [(.aload_n 0, 0, 0, 0, 0), (.iload_n 1, 0, 0, 0, 0), (.iload_n 2, 0, 0, 0, 0), (.iload_n 3, 0, 0, 0, 0), (.iload 4, 0, 0, 0, 0)] = true := by decide +kernel
theorem ck_I_thaw_9 : ia_cks 0 8 false prog_1_method_28_code 9 [(.ifCond .eq 16, 0, 0, 0, 0)] = true := by decide +kernel
theorem ck_I_thaw_25 : ia_cks 0 8 false prog_1_method_28_code 25 [(.iconst (-1), 0, 0, 0, 0)] = true := by decide +kernel
theorem ck_I_thaw_12 : ia_cks 0 8 false prog_1_method_28_code 12 [(.aload_n 0, 0, 0, 0, 0), (.iload 5, 0, 0, 0, 0), (.iload 6, 0, 0, 0, 0), (.iload 7, 0, 0, 0, 0)] = true := by decide +kernel
theorem ck_I_thaw_22 : ia_cks 0 8 false prog_1_method_28_code 22 [(.ifCond .ne 5, 0, 0, 0, 0)] = true := by decide +kernel
theorem ck_I_thaw_27 : ia_cks 0 8 false prog_1_method_28_code 27 [(.aload_n 0, 0, 0, 0, 0), (.getfield 69, 0, 7, 3, 262), (.aload_n 0, 0, 0, 0, 0), (.getfield 44, 0, 4, 3, 239), (.iconst 0, 0, 0, 0, 0), (.iload 5, 0, 0, 0, 0), (.iload 6, 0, 0, 0, 0), (.iload 7, 0, 0, 0, 0)] = true := by decide +kernel
theorem dc_I_thaw_6 : decode prog_1_method_28_code 6 = .ok (.invokevirtual 266, 3) := by decide +kernel
theorem dc_I_thaw_26 : decode prog_1_method_28_code 26 = .ok (.ireturn, 1) := by decide +kernel
theorem dc_I_thaw_19 : decode prog_1_method_28_code 19 = .ok (.invokevirtual 299, 3) := by decide +kernel
theorem dc_I_thaw_42 : decode prog_1_method_28_code 42 = .ok (.invokevirtual 387, 3) := by decide +kernel
theorem dc_I_thaw_45 : decode prog_1_method_28_code 45 = .ok (.ireturn, 1) := by decide +kernel
def f_I_thaw (x1 : Int32) (x2 : Int32) (x3 : Int32) (x4 : Int32) (x5 : Int32) (x6 : Int32) (x7 : Int32) (h : ia_H) : Option (Int32 × ia_H) := (f_I_stage x1 x2 x3 x4 h).bind fun v1 => (if v1.1 = 0 then (some ((-1), v1.2)) else ((f_I_isTrip x5 x6 x7 v1.2).bind fun v2 => (if v2 = 0 then (some ((-1), v1.2)) else ((f_Ou_firstDayWith 303 0 x5 x6 x7 v1.2).bind fun v3 => (some (v3.1, v3.2))))))
theorem g_I_thaw {w : ia_O0} {x1 : Int32} {x2 : Int32} {x3 : Int32} {x4 : Int32} {x5 : Int32} {x6 : Int32} {x7 : Int32} {h : ia_H} (hg : gd_ w h) {q : (Int32 × ia_H)} (hm : f_I_thaw x1 x2 x3 x4 x5 x6 x7 h = some q) : gd_ w q.2 := by
  obtain ⟨r, h1⟩ := q
  unfold f_I_thaw at hm
  obtain ⟨v1, hv1, hm⟩ := ia_bnd hm
  have gv1 := g_I_stage hg hv1
  by_cases c : v1.1 = 0
  · replace hm := ia_ifp hm c
    obtain ⟨rfl, rfl⟩ := Prod.mk.inj (Option.some.inj hm)
    exact gv1
  · replace hm := ia_ifn hm c
    obtain ⟨v2, hv2, hm⟩ := ia_bnd hm
    by_cases c : v2 = 0
    · replace hm := ia_ifp hm c
      obtain ⟨rfl, rfl⟩ := Prod.mk.inj (Option.some.inj hm)
      exact gv1
    · replace hm := ia_ifn hm c
      obtain ⟨v3, hv3, hm⟩ := ia_bnd hm
      have gv3 := g_Ou_firstDayWith gv1 (ka_0_4 pk_64) hv3
      obtain ⟨rfl, rfl⟩ := Prod.mk.inj (Option.some.inj hm)
      exact gv3
theorem t_I_thaw {w : ia_O0} (d : Nat) {x1 : Int32} {x2 : Int32} {x3 : Int32} {x4 : Int32} {x5 : Int32} {x6 : Int32} {x7 : Int32} {h : ia_H} (hg : gd_ w h) {q : (Int32 × ia_H)} (hm : f_I_thaw x1 x2 x3 x4 x5 x6 x7 h = some q) : ia_Ev (d + 7) mm_I_thaw [.inr (.inr 64), .inl x1, .inl x2, .inl x3, .inl x4, .inl x5, .inl x6, .inl x7] h (some (.inl q.1)) q.2 := by
  have gq := g_I_thaw hg hm
  refine ia_Ev_intro ok_I_thaw (gd_le hg gq).1 (gd_le hg gq).2 (Nat.le_of_ble_eq_true rfl) (fun K hK hret => ?_)
  obtain ⟨r, h1⟩ := q
  show K 0 [some (.inr (.inr 64)), some (.inl x1), some (.inl x2), some (.inl x3), some (.inl x4), some (.inl x5), some (.inl x6), some (.inl x7)] [] h
  unfold f_I_thaw at hm
  refine ia_go hK ck_I_thaw_0 ?_
  show K 6 [some (.inr (.inr 64)), some (.inl x1), some (.inl x2), some (.inl x3), some (.inl x4), some (.inl x5), some (.inl x6), some (.inl x7)] [.inl x4, .inl x3, .inl x2, .inl x1, .inr (.inr 64)] h
  obtain ⟨v1, hv1, hm⟩ := ia_bnd hm
  have ev1 := t_I_stage (d + 0) hg hv1
  have gv1 := g_I_stage hg hv1
  refine ia_cV hK mk_I_stage lk_0_266 dc_I_thaw_6 64 [.inl x1, .inl x2, .inl x3, .inl x4] [] rfl rfl (Nat.le_of_ble_eq_true rfl) (by decide) rfl (gk_0 hg pk_64) ev1 (gd_nm hg gv1) ?_
  show K 9 [some (.inr (.inr 64)), some (.inl x1), some (.inl x2), some (.inl x3), some (.inl x4), some (.inl x5), some (.inl x6), some (.inl x7)] [.inl v1.1] v1.2
  refine ia_go hK ck_I_thaw_9 ⟨fun c => ?_, fun c => ?_⟩
  · replace hm := ia_ifp hm c
    show K 25 [some (.inr (.inr 64)), some (.inl x1), some (.inl x2), some (.inl x3), some (.inl x4), some (.inl x5), some (.inl x6), some (.inl x7)] [] v1.2
    refine ia_go hK ck_I_thaw_25 ?_
    show K 26 [some (.inr (.inr 64)), some (.inl x1), some (.inl x2), some (.inl x3), some (.inl x4), some (.inl x5), some (.inl x6), some (.inl x7)] [.inl (-1)] v1.2
    obtain ⟨rfl, rfl⟩ := Prod.mk.inj (Option.some.inj hm)
    exact hret 26 _ dc_I_thaw_26
  · replace hm := ia_ifn hm c
    show K 12 [some (.inr (.inr 64)), some (.inl x1), some (.inl x2), some (.inl x3), some (.inl x4), some (.inl x5), some (.inl x6), some (.inl x7)] [] v1.2
    refine ia_go hK ck_I_thaw_12 ?_
    show K 19 [some (.inr (.inr 64)), some (.inl x1), some (.inl x2), some (.inl x3), some (.inl x4), some (.inl x5), some (.inl x6), some (.inl x7)] [.inl x7, .inl x6, .inl x5, .inr (.inr 64)] v1.2
    obtain ⟨v2, hv2, hm⟩ := ia_bnd hm
    have ev2 := t_I_isTrip (d + 5) gv1 hv2
    refine ia_cV hK mk_I_isTrip lk_0_299 dc_I_thaw_19 64 [.inl x5, .inl x6, .inl x7] [] rfl rfl (Nat.le_of_ble_eq_true rfl) (by decide) rfl (gk_0 gv1 pk_64) ev2 ⟨rfl, rfl⟩ ?_
    show K 22 [some (.inr (.inr 64)), some (.inl x1), some (.inl x2), some (.inl x3), some (.inl x4), some (.inl x5), some (.inl x6), some (.inl x7)] [.inl v2] v1.2
    refine ia_go hK ck_I_thaw_22 ⟨fun c => ?_, fun c => ?_⟩
    · replace hm := ia_ifn hm c
      show K 27 [some (.inr (.inr 64)), some (.inl x1), some (.inl x2), some (.inl x3), some (.inl x4), some (.inl x5), some (.inl x6), some (.inl x7)] [] v1.2
      refine ia_go hK ck_I_thaw_27 ⟨gk_0 gv1 pk_64, gr_0_7 gv1 pk_64, gk_0 gv1 pk_64, gr_0_4 gv1 pk_64, ?_⟩
      show K 42 [some (.inr (.inr 64)), some (.inl x1), some (.inl x2), some (.inl x3), some (.inl x4), some (.inl x5), some (.inl x6), some (.inl x7)] [.inl x7, .inl x6, .inl x5, .inl 0, .inr (.inr 303), .inr (.inr 326)] v1.2
      obtain ⟨v3, hv3, hm⟩ := ia_bnd hm
      have ev3 := t_Ou_firstDayWith (d + 2) gv1 (ka_0_4 pk_64) hv3
      have gv3 := g_Ou_firstDayWith gv1 (ka_0_4 pk_64) hv3
      refine ia_cV hK mk_Ou_firstDayWith lk_0_387 dc_I_thaw_42 326 [.inr (.inr 303), .inl 0, .inl x5, .inl x6, .inl x7] [] rfl rfl (Nat.le_of_ble_eq_true rfl) (by decide) rfl (gk_5 gv1 (ka_0_7 pk_64)) ev3 (gd_nm gv1 gv3) ?_
      show K 45 [some (.inr (.inr 64)), some (.inl x1), some (.inl x2), some (.inl x3), some (.inl x4), some (.inl x5), some (.inl x6), some (.inl x7)] [.inl v3.1] v3.2
      obtain ⟨rfl, rfl⟩ := Prod.mk.inj (Option.some.inj hm)
      exact hret 45 _ dc_I_thaw_45
    · replace hm := ia_ifp hm c
      show K 25 [some (.inr (.inr 64)), some (.inl x1), some (.inl x2), some (.inl x3), some (.inl x4), some (.inl x5), some (.inl x6), some (.inl x7)] [] v1.2
      refine ia_go hK ck_I_thaw_25 ?_
      show K 26 [some (.inr (.inr 64)), some (.inl x1), some (.inl x2), some (.inl x3), some (.inl x4), some (.inl x5), some (.inl x6), some (.inl x7)] [.inl (-1)] v1.2
      obtain ⟨rfl, rfl⟩ := Prod.mk.inj (Option.some.inj hm)
      exact hret 26 _ dc_I_thaw_26
def mm_Ou_firstWater : ia_M := (⟨"IceStreet$Outlook", "firstWater", "(LIceStreet$Scene;)I"⟩, prog_6_method_11_code, 4, (some .int), 5, false)
theorem ok_Ou_firstWater : ia_mok mm_Ou_firstWater := ⟨by decide +kernel, by decide +kernel, by decide +kernel, by decide +kernel⟩
theorem mk_Ou_firstWater : ia_mkn mm_Ou_firstWater 1 1 := ⟨ia_tb_in (List.mem_of_getElem? (i := 1444) (by decide +kernel)) rfl, ia_tb_in (List.mem_of_getElem? (i := 143) (by decide +kernel)) rfl, by decide +kernel, by decide +kernel, ⟨ia_tb_in (List.mem_of_getElem? (i := 1442) (by decide +kernel)) rfl, ia_tb_in (List.mem_of_getElem? (i := 1443) (by decide +kernel)) rfl⟩⟩
theorem ck_Ou_firstWater_0 : ia_cks 5 4 false prog_6_method_11_code 0 [(.aload_n 0, 0, 0, 0, 0), (.getfield 31, 5, 2, 3, 11), (.aload_n 1, 0, 0, 0, 0)] = true := by decide +kernel
theorem ck_Ou_firstWater_8 : ia_cks 5 4 false prog_6_method_11_code 8 [(.iconst 1, 0, 0, 0, 0), (.istore_n 2, 0, 0, 0, 0)] = true := by decide +kernel
theorem ck_Ou_firstWater_10 : ia_cks 5 4 false prog_6_method_11_code 10 [(.iload_n 2, 0, 0, 0, 0), (.bipush 60, 0, 0, 0, 0), (.if_icmp .gt 59, 0, 0, 0, 0)] = true := by decide +kernel
theorem ck_Ou_firstWater_16 : ia_cks 5 4 false prog_6_method_11_code 16 [(.aload_n 1, 0, 0, 0, 0), (.aload_n 1, 0, 0, 0, 0)] = true := by decide +kernel
theorem ck_Ou_firstWater_24 : ia_cks 5 4 false prog_6_method_11_code 24 [(.iconst 0, 0, 0, 0, 0), (.istore_n 3, 0, 0, 0, 0)] = true := by decide +kernel
theorem ck_Ou_firstWater_26 : ia_cks 5 4 false prog_6_method_11_code 26 [(.iload_n 3, 0, 0, 0, 0), (.aload_n 1, 0, 0, 0, 0), (.getfield 69, 9, 0, 2, 0)] = true := by decide +kernel
theorem ck_Ou_firstWater_34 : ia_cks 5 4 false prog_6_method_11_code 34 [(.if_icmp .ge 32, 0, 0, 0, 0)] = true := by decide +kernel
theorem ck_Ou_firstWater_37 : ia_cks 5 4 false prog_6_method_11_code 37 [(.aload_n 1, 0, 0, 0, 0), (.getfield 145, 9, 2, 3, 1), (.iload_n 3, 0, 0, 0, 0), (.iaload, 0, 0, 0, 0), (.ifCond .ne 17, 0, 0, 0, 0)] = true := by decide +kernel
theorem ck_Ou_firstWater_60 : ia_cks 5 4 false prog_6_method_11_code 60 [(.iinc 3 1, 0, 0, 0, 0), (.goto (-37), 0, 0, 0, 0)] = true := by decide +kernel
theorem ck_Ou_firstWater_46 : ia_cks 5 4 false prog_6_method_11_code 46 [(.aload_n 0, 0, 0, 0, 0), (.getfield 31, 5, 2, 3, 11), (.getfield 145, 9, 2, 3, 1), (.iload_n 3, 0, 0, 0, 0), (.iaload, 0, 0, 0, 0), (.ifCond .eq 5, 0, 0, 0, 0)] = true := by decide +kernel
theorem ck_Ou_firstWater_66 : ia_cks 5 4 false prog_6_method_11_code 66 [(.iinc 2 1, 0, 0, 0, 0), (.goto (-59), 0, 0, 0, 0)] = true := by decide +kernel
theorem ck_Ou_firstWater_58 : ia_cks 5 4 false prog_6_method_11_code 58 [(.iload_n 3, 0, 0, 0, 0)] = true := by decide +kernel
theorem ck_Ou_firstWater_72 : ia_cks 5 4 false prog_6_method_11_code 72 [(.iconst (-1), 0, 0, 0, 0)] = true := by decide +kernel
theorem dc_Ou_firstWater_5 : decode prog_6_method_11_code 5 = .ok (.invokevirtual 34, 3) := by decide +kernel
theorem dc_Ou_firstWater_18 : decode prog_6_method_11_code 18 = .ok (.invokevirtual 42, 3) := by decide +kernel
theorem dc_Ou_firstWater_21 : decode prog_6_method_11_code 21 = .ok (.invokevirtual 111, 3) := by decide +kernel
theorem dc_Ou_firstWater_31 : decode prog_6_method_11_code 31 = .ok (.invokevirtual 73, 3) := by decide +kernel
theorem dc_Ou_firstWater_59 : decode prog_6_method_11_code 59 = .ok (.ireturn, 1) := by decide +kernel
theorem dc_Ou_firstWater_73 : decode prog_6_method_11_code 73 = .ok (.ireturn, 1) := by decide +kernel
def l_Ou_firstWater_26 (a1 : Nat) (k58 : Int32 → ia_H → Option (Int32 × ia_H)) (k66 : Int32 → ia_H → Option (Int32 × ia_H)) (n : Nat) (x2 : Int32) (x3 : Int32) (h : ia_H) : Option (Int32 × ia_H) := match n with
  | 0 => none
  | n + 1 => (f_La_cells (ia_r h a1 0) h).bind fun v4 => (if v4 ≤ x3 then (k66 x2 h) else (ia_gd (ia_ib x3 36) (if (ia_i h (a1 + 1) ((x3).toNatClampNeg)) = 0 then (ia_gd (ia_ib x3 36) (if (ia_i h 338 ((x3).toNatClampNeg)) = 0 then (l_Ou_firstWater_26 a1 k58 k66 n x2 (x3 + 1) h) else (k58 x3 h))) else (l_Ou_firstWater_26 a1 k58 k66 n x2 (x3 + 1) h))))
theorem tl_Ou_firstWater_26 {w : ia_O0} {d N1 W1 : Nat} {K : ia_K} (hK : ia_isK (d + 4) mm_Ou_firstWater N1 W1 K) {a1 : Nat} (p1 : (kd_D a1).1 = 9) {r : Int32} {h1 : ia_H} (hret : ∀ (pc : Nat) (lv : ia_L), ia_ret mm_Ou_firstWater pc (some (.inl r)) → K pc lv ((some (.inl r)) : Option ia_V).toList h1) {k58 : Int32 → ia_H → Option (Int32 × ia_H)} {k66 : Int32 → ia_H → Option (Int32 × ia_H)} (hk58 : ∀ (x3 : Int32) (h : ia_H), gd_ w h → k58 x3 h = some (r, h1) → K 58 [none, none, none, some (.inl x3)] [] h) (hk66 : ∀ (x2 : Int32) (h : ia_H), gd_ w h → k66 x2 h = some (r, h1) → K 66 [some (.inr (.inr 326)), some (.inr (.inr a1)), some (.inl x2), none] [] h) : ∀ (n : Nat) (x2 : Int32) (x3 : Int32) (h : ia_H), gd_ w h → l_Ou_firstWater_26 a1 k58 k66 n x2 x3 h = some (r, h1) → K 26 [some (.inr (.inr 326)), some (.inr (.inr a1)), some (.inl x2), some (.inl x3)] [] h := by
  intro n
  induction n with
  | zero =>
    intro x2 x3 h hg hm
    cases (show (none : Option (Int32 × ia_H)) = some _ from hm)
  | succ n ih =>
    intro x2 x3 h hg hm
    rw [l_Ou_firstWater_26] at hm
    refine ia_go hK ck_Ou_firstWater_26 ⟨gk_9 hg p1, ?_⟩
    show K 31 [some (.inr (.inr 326)), some (.inr (.inr a1)), some (.inl x2), some (.inl x3)] [.inr (.inr (ia_r h a1 0)), .inl x3] h
    obtain ⟨v4, hv4, hm⟩ := ia_bnd hm
    have ev4 := t_La_cells (d + 3) hg (gm_9_0 hg p1) hv4
    refine ia_cV hK mk_La_cells lk_5_73 dc_Ou_firstWater_31 (ia_r h a1 0) [] [.inl x3] rfl rfl (Nat.le_of_ble_eq_true rfl) (by decide) rfl (gk_3 hg (gm_9_0 hg p1)) ev4 ⟨rfl, rfl⟩ ?_
    show K 34 [some (.inr (.inr 326)), some (.inr (.inr a1)), some (.inl x2), some (.inl x3)] [.inl v4, .inl x3] h
    refine ia_go hK ck_Ou_firstWater_34 ⟨fun c => ?_, fun c => ?_⟩
    · replace hm := ia_ifp hm c
      show K 66 [some (.inr (.inr 326)), some (.inr (.inr a1)), some (.inl x2), some (.inl x3)] [] h
      refine ia_fg hK (lv' := [some (.inr (.inr 326)), some (.inr (.inr a1)), some (.inl x2), none]) ⟨rfl, rfl, rfl, trivial⟩ ?_
      exact hk66 x2 h hg hm
    · replace hm := ia_ifn hm c
      show K 37 [some (.inr (.inr 326)), some (.inr (.inr a1)), some (.inl x2), some (.inl x3)] [] h
      obtain ⟨c5, hm⟩ := ia_gd_some hm
      refine ia_go hK ck_Ou_firstWater_37 ⟨gk_9 hg p1, gr_9_2 hg p1, ga_i100 hg (ka_9_2 p1) c5, fun c => ?_, fun c => ?_⟩
      · replace hm := ia_ifn hm c
        show K 60 [some (.inr (.inr 326)), some (.inr (.inr a1)), some (.inl x2), some (.inl x3)] [] h
        refine ia_go hK ck_Ou_firstWater_60 ?_
        show K 26 [some (.inr (.inr 326)), some (.inr (.inr a1)), some (.inl x2), some (.inl (x3 + 1))] [] h
        exact ih x2 (x3 + 1) h hg hm
      · replace hm := ia_ifp hm c
        show K 46 [some (.inr (.inr 326)), some (.inr (.inr a1)), some (.inl x2), some (.inl x3)] [] h
        obtain ⟨c6, hm⟩ := ia_gd_some hm
        refine ia_go hK ck_Ou_firstWater_46 ⟨gk_5 hg pk_326, gr_5_2 hg pk_326, gk_9 hg (ka_5_2 pk_326), gr_9_2 hg (ka_5_2 pk_326), ga_i100 hg (ka_9_2 (ka_5_2 pk_326)) c6, fun c => ?_, fun c => ?_⟩
        · replace hm := ia_ifp hm c
          show K 60 [some (.inr (.inr 326)), some (.inr (.inr a1)), some (.inl x2), some (.inl x3)] [] h
          refine ia_go hK ck_Ou_firstWater_60 ?_
          show K 26 [some (.inr (.inr 326)), some (.inr (.inr a1)), some (.inl x2), some (.inl (x3 + 1))] [] h
          exact ih x2 (x3 + 1) h hg hm
        · replace hm := ia_ifn hm c
          show K 58 [some (.inr (.inr 326)), some (.inr (.inr a1)), some (.inl x2), some (.inl x3)] [] h
          refine ia_fg hK (lv' := [none, none, none, some (.inl x3)]) ⟨rfl, trivial⟩ ?_
          exact hk58 x3 h hg hm
theorem gl_Ou_firstWater_26 {w : ia_O0} {a1 : Nat} (p1 : (kd_D a1).1 = 9) {r : Int32} {h1 : ia_H} {k58 : Int32 → ia_H → Option (Int32 × ia_H)} {k66 : Int32 → ia_H → Option (Int32 × ia_H)} (hk58 : ∀ (x3 : Int32) (h : ia_H), gd_ w h → k58 x3 h = some (r, h1) → gd_ w h1) (hk66 : ∀ (x2 : Int32) (h : ia_H), gd_ w h → k66 x2 h = some (r, h1) → gd_ w h1) : ∀ (n : Nat) (x2 : Int32) (x3 : Int32) (h : ia_H), gd_ w h → l_Ou_firstWater_26 a1 k58 k66 n x2 x3 h = some (r, h1) → gd_ w h1 := by
  intro n
  induction n with
  | zero =>
    intro x2 x3 h hg hm
    cases (show (none : Option (Int32 × ia_H)) = some _ from hm)
  | succ n ih =>
    intro x2 x3 h hg hm
    rw [l_Ou_firstWater_26] at hm
    obtain ⟨v4, hv4, hm⟩ := ia_bnd hm
    by_cases c : v4 ≤ x3
    · replace hm := ia_ifp hm c
      exact hk66 x2 h hg hm
    · replace hm := ia_ifn hm c
      obtain ⟨c5, hm⟩ := ia_gd_some hm
      by_cases c : (ia_i h (a1 + 1) ((x3).toNatClampNeg)) = 0
      · replace hm := ia_ifp hm c
        obtain ⟨c6, hm⟩ := ia_gd_some hm
        by_cases c : (ia_i h 338 ((x3).toNatClampNeg)) = 0
        · replace hm := ia_ifp hm c
          exact ih x2 (x3 + 1) h hg hm
        · replace hm := ia_ifn hm c
          exact hk58 x3 h hg hm
      · replace hm := ia_ifn hm c
        exact ih x2 (x3 + 1) h hg hm
def l_Ou_firstWater_10 (a1 : Nat) (k58 : Int32 → ia_H → Option (Int32 × ia_H)) (k72 : ia_H → Option (Int32 × ia_H)) (n : Nat) (x2 : Int32) (h : ia_H) : Option (Int32 × ia_H) := match n with
  | 0 => none
  | n + 1 => if 60 < x2 then (k72 h) else ((f_Sc_frost a1 h).bind fun v2 => ((f_Sc_passDay a1 v2 h).bind fun v3 => (l_Ou_firstWater_26 a1 k58 (fun x2 h => l_Ou_firstWater_10 a1 k58 k72 n (x2 + 1) h) fu_ x2 0 v3)))
theorem tl_Ou_firstWater_10 {w : ia_O0} {d N1 W1 : Nat} {K : ia_K} (hK : ia_isK (d + 4) mm_Ou_firstWater N1 W1 K) {a1 : Nat} (p1 : (kd_D a1).1 = 9) {r : Int32} {h1 : ia_H} (hret : ∀ (pc : Nat) (lv : ia_L), ia_ret mm_Ou_firstWater pc (some (.inl r)) → K pc lv ((some (.inl r)) : Option ia_V).toList h1) {k58 : Int32 → ia_H → Option (Int32 × ia_H)} {k72 : ia_H → Option (Int32 × ia_H)} (hk58 : ∀ (x3 : Int32) (h : ia_H), gd_ w h → k58 x3 h = some (r, h1) → K 58 [none, none, none, some (.inl x3)] [] h) (hk72 : ∀ (h : ia_H), gd_ w h → k72 h = some (r, h1) → K 72 [none, none, none, none] [] h) : ∀ (n : Nat) (x2 : Int32) (h : ia_H), gd_ w h → l_Ou_firstWater_10 a1 k58 k72 n x2 h = some (r, h1) → K 10 [some (.inr (.inr 326)), some (.inr (.inr a1)), some (.inl x2), none] [] h := by
  intro n
  induction n with
  | zero =>
    intro x2 h hg hm
    cases (show (none : Option (Int32 × ia_H)) = some _ from hm)
  | succ n ih =>
    intro x2 h hg hm
    rw [l_Ou_firstWater_10] at hm
    refine ia_go hK ck_Ou_firstWater_10 ⟨fun c => ?_, fun c => ?_⟩
    · replace hm := ia_ifp hm c
      show K 72 [some (.inr (.inr 326)), some (.inr (.inr a1)), some (.inl x2), none] [] h
      refine ia_fg hK (lv' := [none, none, none, none]) trivial ?_
      exact hk72 h hg hm
    · replace hm := ia_ifn hm c
      show K 16 [some (.inr (.inr 326)), some (.inr (.inr a1)), some (.inl x2), none] [] h
      refine ia_go hK ck_Ou_firstWater_16 ?_
      show K 18 [some (.inr (.inr 326)), some (.inr (.inr a1)), some (.inl x2), none] [.inr (.inr a1), .inr (.inr a1)] h
      obtain ⟨v2, hv2, hm⟩ := ia_bnd hm
      have ev2 := t_Sc_frost (d + 3) hg p1 hv2
      refine ia_cV hK mk_Sc_frost lk_5_42 dc_Ou_firstWater_18 a1 [] [.inr (.inr a1)] rfl rfl (Nat.le_of_ble_eq_true rfl) (by decide) rfl (gk_9 hg p1) ev2 ⟨rfl, rfl⟩ ?_
      show K 21 [some (.inr (.inr 326)), some (.inr (.inr a1)), some (.inl x2), none] [.inl v2, .inr (.inr a1)] h
      obtain ⟨v3, hv3, hm⟩ := ia_bnd hm
      have ev3 := t_Sc_passDay (d + 0) hg p1 hv3
      have gv3 := g_Sc_passDay hg p1 hv3
      refine ia_cV hK mk_Sc_passDay lk_5_111 dc_Ou_firstWater_21 a1 [.inl v2] [] rfl rfl (Nat.le_of_ble_eq_true rfl) (by decide) rfl (gk_9 hg p1) ev3 (gd_nm hg gv3) ?_
      show K 24 [some (.inr (.inr 326)), some (.inr (.inr a1)), some (.inl x2), none] [] v3
      refine ia_go hK ck_Ou_firstWater_24 ?_
      show K 26 [some (.inr (.inr 326)), some (.inr (.inr a1)), some (.inl x2), some (.inl 0)] [] v3
      refine tl_Ou_firstWater_26 hK p1 hret ?_ ?_ fu_ x2 0 v3 gv3 hm
      · exact hk58
      · intro x2 h hg hm
        refine ia_go hK ck_Ou_firstWater_66 ?_
        show K 10 [some (.inr (.inr 326)), some (.inr (.inr a1)), some (.inl (x2 + 1)), none] [] h
        exact ih (x2 + 1) h hg hm
theorem gl_Ou_firstWater_10 {w : ia_O0} {a1 : Nat} (p1 : (kd_D a1).1 = 9) {r : Int32} {h1 : ia_H} {k58 : Int32 → ia_H → Option (Int32 × ia_H)} {k72 : ia_H → Option (Int32 × ia_H)} (hk58 : ∀ (x3 : Int32) (h : ia_H), gd_ w h → k58 x3 h = some (r, h1) → gd_ w h1) (hk72 : ∀ (h : ia_H), gd_ w h → k72 h = some (r, h1) → gd_ w h1) : ∀ (n : Nat) (x2 : Int32) (h : ia_H), gd_ w h → l_Ou_firstWater_10 a1 k58 k72 n x2 h = some (r, h1) → gd_ w h1 := by
  intro n
  induction n with
  | zero =>
    intro x2 h hg hm
    cases (show (none : Option (Int32 × ia_H)) = some _ from hm)
  | succ n ih =>
    intro x2 h hg hm
    rw [l_Ou_firstWater_10] at hm
    by_cases c : 60 < x2
    · replace hm := ia_ifp hm c
      exact hk72 h hg hm
    · replace hm := ia_ifn hm c
      obtain ⟨v2, hv2, hm⟩ := ia_bnd hm
      obtain ⟨v3, hv3, hm⟩ := ia_bnd hm
      have gv3 := g_Sc_passDay hg p1 hv3
      refine gl_Ou_firstWater_26 p1 ?_ ?_ fu_ x2 0 v3 gv3 hm
      · exact hk58
      · intro x2 h hg hm
        exact ih (x2 + 1) h hg hm
def f_Ou_firstWater (a1 : Nat) (h : ia_H) : Option (Int32 × ia_H) := (f_Sc_become 337 a1 h).bind fun v1 => (l_Ou_firstWater_10 a1 (fun x3 h => some (x3, h)) (fun h => some ((-1), h)) fu_ 1 v1)
theorem g_Ou_firstWater {w : ia_O0} {a1 : Nat} {h : ia_H} (hg : gd_ w h) (p1 : (kd_D a1).1 = 9) {q : (Int32 × ia_H)} (hm : f_Ou_firstWater a1 h = some q) : gd_ w q.2 := by
  obtain ⟨r, h1⟩ := q
  unfold f_Ou_firstWater at hm
  obtain ⟨v1, hv1, hm⟩ := ia_bnd hm
  have gv1 := g_Sc_become hg (ka_5_2 pk_326) p1 hv1
  refine gl_Ou_firstWater_10 p1 ?_ ?_ fu_ 1 v1 gv1 hm
  · intro x3 h hg hm
    obtain ⟨rfl, rfl⟩ := Prod.mk.inj (Option.some.inj hm)
    exact hg
  · intro h hg hm
    obtain ⟨rfl, rfl⟩ := Prod.mk.inj (Option.some.inj hm)
    exact hg
theorem t_Ou_firstWater {w : ia_O0} (d : Nat) {a1 : Nat} {h : ia_H} (hg : gd_ w h) (p1 : (kd_D a1).1 = 9) {q : (Int32 × ia_H)} (hm : f_Ou_firstWater a1 h = some q) : ia_Ev (d + 4) mm_Ou_firstWater [.inr (.inr 326), .inr (.inr a1)] h (some (.inl q.1)) q.2 := by
  have gq := g_Ou_firstWater hg p1 hm
  refine ia_Ev_intro ok_Ou_firstWater (gd_le hg gq).1 (gd_le hg gq).2 (Nat.le_of_ble_eq_true rfl) (fun K hK hret => ?_)
  obtain ⟨r, h1⟩ := q
  show K 0 [some (.inr (.inr 326)), some (.inr (.inr a1)), none, none] [] h
  unfold f_Ou_firstWater at hm
  refine ia_go hK ck_Ou_firstWater_0 ⟨gk_5 hg pk_326, gr_5_2 hg pk_326, ?_⟩
  show K 5 [some (.inr (.inr 326)), some (.inr (.inr a1)), none, none] [.inr (.inr a1), .inr (.inr 337)] h
  obtain ⟨v1, hv1, hm⟩ := ia_bnd hm
  have ev1 := t_Sc_become (d + 3) hg (ka_5_2 pk_326) p1 hv1
  have gv1 := g_Sc_become hg (ka_5_2 pk_326) p1 hv1
  refine ia_cV hK mk_Sc_become lk_5_34 dc_Ou_firstWater_5 337 [.inr (.inr a1)] [] rfl rfl (Nat.le_of_ble_eq_true rfl) (by decide) rfl (gk_9 hg (ka_5_2 pk_326)) ev1 (gd_nm hg gv1) ?_
  show K 8 [some (.inr (.inr 326)), some (.inr (.inr a1)), none, none] [] v1
  refine ia_go hK ck_Ou_firstWater_8 ?_
  show K 10 [some (.inr (.inr 326)), some (.inr (.inr a1)), some (.inl 1), none] [] v1
  refine tl_Ou_firstWater_10 hK p1 hret ?_ ?_ fu_ 1 v1 gv1 hm
  · intro x3 h hg hm
    refine ia_go hK ck_Ou_firstWater_58 ?_
    show K 59 [none, none, none, some (.inl x3)] [.inl x3] h
    obtain ⟨rfl, rfl⟩ := Prod.mk.inj (Option.some.inj hm)
    exact hret 59 _ dc_Ou_firstWater_59
  · intro h hg hm
    refine ia_go hK ck_Ou_firstWater_72 ?_
    show K 73 [none, none, none, none] [.inl (-1)] h
    obtain ⟨rfl, rfl⟩ := Prod.mk.inj (Option.some.inj hm)
    exact hret 73 _ dc_Ou_firstWater_73
def mm_I_gulls : ia_M := (⟨"IceStreet", "gulls", "(IIII)I"⟩, prog_1_method_29_code, 5, (some .int), 0, false)
theorem ok_I_gulls : ia_mok mm_I_gulls := ⟨by decide +kernel, by decide +kernel, by decide +kernel, by decide +kernel⟩
theorem mk_I_gulls : ia_mkn mm_I_gulls 1 4 := ⟨ia_tb_in (List.mem_of_getElem? (i := 1440) (by decide +kernel)) rfl, ia_tb_in (List.mem_of_getElem? (i := 133) (by decide +kernel)) rfl, by decide +kernel, by decide +kernel, ⟨ia_tb_in (List.mem_of_getElem? (i := 1438) (by decide +kernel)) rfl, ia_tb_in (List.mem_of_getElem? (i := 1439) (by decide +kernel)) rfl⟩⟩
theorem ck_I_gulls_0 : ia_cks 0 5 false prog_1_method_29_code 0 [(.aload_n 0, 0, 0, 0, 0), (.iload_n 1, 0, 0, 0, 0), (.iload_n 2, 0, 0, 0, 0), (.iload_n 3, 0, 0, 0, 0), (.iload 4, 0, 0, 0, 0)] = true := by decide +kernel
theorem ck_I_gulls_9 : ia_cks 0 5 false prog_1_method_29_code 9 [(.ifCond .ne 5, 0, 0, 0, 0)] = true := by decide +kernel
theorem ck_I_gulls_14 : ia_cks 0 5 false prog_1_method_29_code 14 [(.aload_n 0, 0, 0, 0, 0), (.getfield 69, 0, 7, 3, 262), (.aload_n 0, 0, 0, 0, 0), (.getfield 44, 0, 4, 3, 239)] = true := by decide +kernel
theorem ck_I_gulls_12 : ia_cks 0 5 false prog_1_method_29_code 12 [(.iconst (-1), 0, 0, 0, 0)] = true := by decide +kernel
theorem dc_I_gulls_6 : decode prog_1_method_29_code 6 = .ok (.invokevirtual 266, 3) := by decide +kernel
theorem dc_I_gulls_22 : decode prog_1_method_29_code 22 = .ok (.invokevirtual 391, 3) := by decide +kernel
theorem dc_I_gulls_25 : decode prog_1_method_29_code 25 = .ok (.ireturn, 1) := by decide +kernel
theorem dc_I_gulls_13 : decode prog_1_method_29_code 13 = .ok (.ireturn, 1) := by decide +kernel
def f_I_gulls (x1 : Int32) (x2 : Int32) (x3 : Int32) (x4 : Int32) (h : ia_H) : Option (Int32 × ia_H) := (f_I_stage x1 x2 x3 x4 h).bind fun v1 => (if v1.1 = 0 then (some ((-1), v1.2)) else ((f_Ou_firstWater 303 v1.2).bind fun v2 => (some (v2.1, v2.2))))
theorem g_I_gulls {w : ia_O0} {x1 : Int32} {x2 : Int32} {x3 : Int32} {x4 : Int32} {h : ia_H} (hg : gd_ w h) {q : (Int32 × ia_H)} (hm : f_I_gulls x1 x2 x3 x4 h = some q) : gd_ w q.2 := by
  obtain ⟨r, h1⟩ := q
  unfold f_I_gulls at hm
  obtain ⟨v1, hv1, hm⟩ := ia_bnd hm
  have gv1 := g_I_stage hg hv1
  by_cases c : v1.1 = 0
  · replace hm := ia_ifp hm c
    obtain ⟨rfl, rfl⟩ := Prod.mk.inj (Option.some.inj hm)
    exact gv1
  · replace hm := ia_ifn hm c
    obtain ⟨v2, hv2, hm⟩ := ia_bnd hm
    have gv2 := g_Ou_firstWater gv1 (ka_0_4 pk_64) hv2
    obtain ⟨rfl, rfl⟩ := Prod.mk.inj (Option.some.inj hm)
    exact gv2
theorem t_I_gulls {w : ia_O0} (d : Nat) {x1 : Int32} {x2 : Int32} {x3 : Int32} {x4 : Int32} {h : ia_H} (hg : gd_ w h) {q : (Int32 × ia_H)} (hm : f_I_gulls x1 x2 x3 x4 h = some q) : ia_Ev (d + 7) mm_I_gulls [.inr (.inr 64), .inl x1, .inl x2, .inl x3, .inl x4] h (some (.inl q.1)) q.2 := by
  have gq := g_I_gulls hg hm
  refine ia_Ev_intro ok_I_gulls (gd_le hg gq).1 (gd_le hg gq).2 (Nat.le_of_ble_eq_true rfl) (fun K hK hret => ?_)
  obtain ⟨r, h1⟩ := q
  show K 0 [some (.inr (.inr 64)), some (.inl x1), some (.inl x2), some (.inl x3), some (.inl x4)] [] h
  unfold f_I_gulls at hm
  refine ia_go hK ck_I_gulls_0 ?_
  show K 6 [some (.inr (.inr 64)), some (.inl x1), some (.inl x2), some (.inl x3), some (.inl x4)] [.inl x4, .inl x3, .inl x2, .inl x1, .inr (.inr 64)] h
  obtain ⟨v1, hv1, hm⟩ := ia_bnd hm
  have ev1 := t_I_stage (d + 0) hg hv1
  have gv1 := g_I_stage hg hv1
  refine ia_cV hK mk_I_stage lk_0_266 dc_I_gulls_6 64 [.inl x1, .inl x2, .inl x3, .inl x4] [] rfl rfl (Nat.le_of_ble_eq_true rfl) (by decide) rfl (gk_0 hg pk_64) ev1 (gd_nm hg gv1) ?_
  show K 9 [some (.inr (.inr 64)), some (.inl x1), some (.inl x2), some (.inl x3), some (.inl x4)] [.inl v1.1] v1.2
  refine ia_go hK ck_I_gulls_9 ⟨fun c => ?_, fun c => ?_⟩
  · replace hm := ia_ifn hm c
    show K 14 [some (.inr (.inr 64)), some (.inl x1), some (.inl x2), some (.inl x3), some (.inl x4)] [] v1.2
    refine ia_go hK ck_I_gulls_14 ⟨gk_0 gv1 pk_64, gr_0_7 gv1 pk_64, gk_0 gv1 pk_64, gr_0_4 gv1 pk_64, ?_⟩
    show K 22 [some (.inr (.inr 64)), some (.inl x1), some (.inl x2), some (.inl x3), some (.inl x4)] [.inr (.inr 303), .inr (.inr 326)] v1.2
    obtain ⟨v2, hv2, hm⟩ := ia_bnd hm
    have ev2 := t_Ou_firstWater (d + 2) gv1 (ka_0_4 pk_64) hv2
    have gv2 := g_Ou_firstWater gv1 (ka_0_4 pk_64) hv2
    refine ia_cV hK mk_Ou_firstWater lk_0_391 dc_I_gulls_22 326 [.inr (.inr 303)] [] rfl rfl (Nat.le_of_ble_eq_true rfl) (by decide) rfl (gk_5 gv1 (ka_0_7 pk_64)) ev2 (gd_nm gv1 gv2) ?_
    show K 25 [some (.inr (.inr 64)), some (.inl x1), some (.inl x2), some (.inl x3), some (.inl x4)] [.inl v2.1] v2.2
    obtain ⟨rfl, rfl⟩ := Prod.mk.inj (Option.some.inj hm)
    exact hret 25 _ dc_I_gulls_25
  · replace hm := ia_ifp hm c
    show K 12 [some (.inr (.inr 64)), some (.inl x1), some (.inl x2), some (.inl x3), some (.inl x4)] [] v1.2
    refine ia_go hK ck_I_gulls_12 ?_
    show K 13 [some (.inr (.inr 64)), some (.inl x1), some (.inl x2), some (.inl x3), some (.inl x4)] [.inl (-1)] v1.2
    obtain ⟨rfl, rfl⟩ := Prod.mk.inj (Option.some.inj hm)
    exact hret 13 _ dc_I_gulls_13
def mm_Wa_isCutBy : ia_M := (⟨"IceStreet$Ways", "isCutBy", "(IIII)Z"⟩, prog_12_method_23_code, 8, (some .boolean), 11, false)
theorem ok_Wa_isCutBy : ia_mok mm_Wa_isCutBy := ⟨by decide +kernel, by decide +kernel, by decide +kernel, by decide +kernel⟩
theorem mk_Wa_isCutBy : ia_mkn mm_Wa_isCutBy 1 4 := ⟨ia_tb_in (List.mem_of_getElem? (i := 1456) (by decide +kernel)) rfl, ia_tb_in (List.mem_of_getElem? (i := 141) (by decide +kernel)) rfl, by decide +kernel, by decide +kernel, ⟨ia_tb_in (List.mem_of_getElem? (i := 1455) (by decide +kernel)) rfl, ia_tb_in (List.mem_of_getElem? (i := 46) (by decide +kernel)) rfl⟩⟩
def mm_Wa_isCutWithout : ia_M := (⟨"IceStreet$Ways", "isCutWithout", "(IIIII)Z"⟩, prog_12_method_24_code, 8, (some .boolean), 11, false)
theorem ok_Wa_isCutWithout : ia_mok mm_Wa_isCutWithout := ⟨by decide +kernel, by decide +kernel, by decide +kernel, by decide +kernel⟩
theorem mk_Wa_isCutWithout : ia_mkn mm_Wa_isCutWithout 1 5 := ⟨ia_tb_in (List.mem_of_getElem? (i := 1460) (by decide +kernel)) rfl, ia_tb_in (List.mem_of_getElem? (i := 141) (by decide +kernel)) rfl, by decide +kernel, by decide +kernel, ⟨ia_tb_in (List.mem_of_getElem? (i := 1459) (by decide +kernel)) rfl, ia_tb_in (List.mem_of_getElem? (i := 47) (by decide +kernel)) rfl⟩⟩
theorem ck_Wa_isCutWithout_0 : ia_cks 11 8 false prog_12_method_24_code 0 [(.aload_n 0, 0, 0, 0, 0), (.getfield 15, 11, 6, 3, 2), (.iload_n 1, 0, 0, 0, 0), (.iaload, 0, 0, 0, 0), (.istore 6, 0, 0, 0, 0), (.aload_n 0, 0, 0, 0, 0), (.getfield 15, 11, 6, 3, 2), (.iload_n 1, 0, 0, 0, 0), (.iconst 0, 0, 0, 0, 0), (.iastore, 0, 0, 0, 0), (.aload_n 0, 0, 0, 0, 0), (.iload_n 2, 0, 0, 0, 0), (.iconst 1, 0, 0, 0, 0), (.isub, 0, 0, 0, 0), (.iload_n 3, 0, 0, 0, 0), (.iload 4, 0, 0, 0, 0), (.iload 5, 0, 0, 0, 0)] = true := by decide +kernel
theorem ck_Wa_isCutWithout_27 : ia_cks 11 8 false prog_12_method_24_code 27 [(.istore 7, 0, 0, 0, 0), (.aload_n 0, 0, 0, 0, 0), (.getfield 15, 11, 6, 3, 2), (.iload_n 1, 0, 0, 0, 0), (.iload 6, 0, 0, 0, 0), (.iastore, 0, 0, 0, 0), (.iload 7, 0, 0, 0, 0)] = true := by decide +kernel
theorem dc_Wa_isCutWithout_24 : decode prog_12_method_24_code 24 = .ok (.invokevirtual 191, 3) := by decide +kernel
theorem dc_Wa_isCutWithout_39 : decode prog_12_method_24_code 39 = .ok (.ireturn, 1) := by decide +kernel
def f_Wa_isCutWithout (rc : Int32 → Int32 → Int32 → Int32 → ia_H → Option (Int32 × ia_H)) (x1 : Int32) (x2 : Int32) (x3 : Int32) (x4 : Int32) (x5 : Int32) (h : ia_H) : Option (Int32 × ia_H) := ia_gd (ia_ib x1 36) (ia_gd (ia_ib x1 36) ((rc (x2 - 1) x3 x4 x5 (ia_wI h 313 ((x1).toNatClampNeg) 0)).bind fun v3 => (ia_gd (ia_ib x1 36) (ia_gd (ia_z1 v3.1) (some (v3.1, ia_wI v3.2 313 ((x1).toNatClampNeg) (ia_i h 313 ((x1).toNatClampNeg))))))))
theorem g_Wa_isCutWithout {w : ia_O0} {n2 : Nat} {rc : Int32 → Int32 → Int32 → Int32 → ia_H → Option (Int32 × ia_H)} (hrc : ∀ (z0 : Int32) (z1 : Int32) (z2 : Int32) (z3 : Int32)  (h : ia_H) (q : Int32 × ia_H), gd_ w h → rc z0 z1 z2 z3 h = some q → gd_ w q.2 ∧ ∀ d, ia_Ev (d + n2 + 4) mm_Wa_isCutBy [.inr (.inr 311), .inl z0, .inl z1, .inl z2, .inl z3] h (some (.inl q.1)) q.2) {x1 : Int32} {x2 : Int32} {x3 : Int32} {x4 : Int32} {x5 : Int32} {h : ia_H} (hg : gd_ w h) {q : (Int32 × ia_H)} (hm : f_Wa_isCutWithout rc x1 x2 x3 x4 x5 h = some q) : gd_ w q.2 := by
  obtain ⟨r, h1⟩ := q
  unfold f_Wa_isCutWithout at hm
  obtain ⟨c1, hm⟩ := ia_gd_some hm
  obtain ⟨c2, hm⟩ := ia_gd_some hm
  obtain ⟨v3, hv3, hm⟩ := ia_bnd hm
  have gv3 := (hrc (x2 - 1) x3 x4 x5 (ia_wI h 313 ((x1).toNatClampNeg) 0) v3 (gd_wI hg (kx_100 (ka_11_6 pk_311))) hv3).1
  obtain ⟨c4, hm⟩ := ia_gd_some hm
  obtain ⟨c5, hm⟩ := ia_gd_some hm
  obtain ⟨rfl, rfl⟩ := Prod.mk.inj (Option.some.inj hm)
  exact (gd_wI gv3 (kx_100 (ka_11_6 pk_311)))
theorem t_Wa_isCutWithout {w : ia_O0} {n2 : Nat} {rc : Int32 → Int32 → Int32 → Int32 → ia_H → Option (Int32 × ia_H)} (hrc : ∀ (z0 : Int32) (z1 : Int32) (z2 : Int32) (z3 : Int32)  (h : ia_H) (q : Int32 × ia_H), gd_ w h → rc z0 z1 z2 z3 h = some q → gd_ w q.2 ∧ ∀ d, ia_Ev (d + n2 + 4) mm_Wa_isCutBy [.inr (.inr 311), .inl z0, .inl z1, .inl z2, .inl z3] h (some (.inl q.1)) q.2) (d : Nat) {x1 : Int32} {x2 : Int32} {x3 : Int32} {x4 : Int32} {x5 : Int32} {h : ia_H} (hg : gd_ w h) {q : (Int32 × ia_H)} (hm : f_Wa_isCutWithout rc x1 x2 x3 x4 x5 h = some q) : ia_Ev (d + n2 + 5) mm_Wa_isCutWithout [.inr (.inr 311), .inl x1, .inl x2, .inl x3, .inl x4, .inl x5] h (some (.inl q.1)) q.2 := by
  have gq := g_Wa_isCutWithout hrc hg hm
  refine ia_Ev_intro ok_Wa_isCutWithout (gd_le hg gq).1 (gd_le hg gq).2 (Nat.le_of_ble_eq_true rfl) (fun K hK hret => ?_)
  obtain ⟨r, h1⟩ := q
  show K 0 [some (.inr (.inr 311)), some (.inl x1), some (.inl x2), some (.inl x3), some (.inl x4), some (.inl x5), none, none] [] h
  unfold f_Wa_isCutWithout at hm
  obtain ⟨c1, hm⟩ := ia_gd_some hm
  obtain ⟨c2, hm⟩ := ia_gd_some hm
  refine ia_go hK ck_Wa_isCutWithout_0 ⟨gk_11 hg pk_311, gr_11_6 hg pk_311, ga_i100 hg (ka_11_6 pk_311) c1, gk_11 hg pk_311, gr_11_6 hg pk_311, ga_s100 hg (ka_11_6 pk_311) c2, ?_⟩
  show K 24 [some (.inr (.inr 311)), some (.inl x1), some (.inl x2), some (.inl x3), some (.inl x4), some (.inl x5), some (.inl (ia_i h 313 ((x1).toNatClampNeg))), none] [.inl x5, .inl x4, .inl x3, .inl (x2 - 1), .inr (.inr 311)] (ia_wI h 313 ((x1).toNatClampNeg) 0)
  obtain ⟨v3, hv3, hm⟩ := ia_bnd hm
  have ev3 := (hrc (x2 - 1) x3 x4 x5 (ia_wI h 313 ((x1).toNatClampNeg) 0) v3 (gd_wI hg (kx_100 (ka_11_6 pk_311))) hv3).2 d
  have gv3 := (hrc (x2 - 1) x3 x4 x5 (ia_wI h 313 ((x1).toNatClampNeg) 0) v3 (gd_wI hg (kx_100 (ka_11_6 pk_311))) hv3).1
  refine ia_cV hK mk_Wa_isCutBy lk_11_191 dc_Wa_isCutWithout_24 311 [.inl (x2 - 1), .inl x3, .inl x4, .inl x5] [] rfl rfl (Nat.le_of_ble_eq_true rfl) (by decide) rfl (gk_11 (gd_wI hg (kx_100 (ka_11_6 pk_311))) pk_311) ev3 (gd_nm (gd_wI hg (kx_100 (ka_11_6 pk_311))) gv3) ?_
  show K 27 [some (.inr (.inr 311)), some (.inl x1), some (.inl x2), some (.inl x3), some (.inl x4), some (.inl x5), some (.inl (ia_i h 313 ((x1).toNatClampNeg))), none] [.inl v3.1] v3.2
  obtain ⟨c4, hm⟩ := ia_gd_some hm
  refine ia_go hK ck_Wa_isCutWithout_27 ⟨gk_11 gv3 pk_311, gr_11_6 gv3 pk_311, ga_s100 gv3 (ka_11_6 pk_311) c4, ?_⟩
  show K 39 [some (.inr (.inr 311)), some (.inl x1), some (.inl x2), some (.inl x3), some (.inl x4), some (.inl x5), some (.inl (ia_i h 313 ((x1).toNatClampNeg))), some (.inl v3.1)] [.inl v3.1] (ia_wI v3.2 313 ((x1).toNatClampNeg) (ia_i h 313 ((x1).toNatClampNeg)))
  obtain ⟨c5, hm⟩ := ia_gd_some hm
  obtain ⟨rfl, rfl⟩ := Prod.mk.inj (Option.some.inj hm)
  exact hret 39 _ ⟨ia_z1_spec c5, dc_Wa_isCutWithout_39⟩
