def mm_Wa_thickerBy : ia_M := (⟨"IceStreet$Ways", "thickerBy", "(LIceStreet$Scene;III)I"⟩, prog_12_method_28_code, 6, (some .int), 11, false)
theorem ok_Wa_thickerBy : ia_mok mm_Wa_thickerBy := ⟨by decide +kernel, by decide +kernel, by decide +kernel, by decide +kernel⟩
theorem mk_Wa_thickerBy : ia_mkn mm_Wa_thickerBy 1 4 := ⟨ia_tb_in (List.mem_of_getElem? (i := 1565) (by decide +kernel)) rfl, ia_tb_in (List.mem_of_getElem? (i := 141) (by decide +kernel)) rfl, by decide +kernel, by decide +kernel, ⟨ia_tb_in (List.mem_of_getElem? (i := 1563) (by decide +kernel)) rfl, ia_tb_in (List.mem_of_getElem? (i := 1564) (by decide +kernel)) rfl⟩⟩
theorem ck_Wa_thickerBy_0 : ia_cks 11 6 false prog_12_method_28_code 0 [(.iconst 0, 0, 0, 0, 0), (.istore 5, 0, 0, 0, 0)] = true := by decide +kernel
theorem ck_Wa_thickerBy_3 : ia_cks 11 6 false prog_12_method_28_code 3 [(.iload 5, 0, 0, 0, 0), (.bipush 99, 0, 0, 0, 0), (.if_icmp .gt 31, 0, 0, 0, 0)] = true := by decide +kernel
theorem ck_Wa_thickerBy_10 : ia_cks 11 6 false prog_12_method_28_code 10 [(.aload_n 0, 0, 0, 0, 0), (.aload_n 1, 0, 0, 0, 0), (.iload 5, 0, 0, 0, 0)] = true := by decide +kernel
theorem ck_Wa_thickerBy_17 : ia_cks 11 6 false prog_12_method_28_code 17 [(.aload_n 0, 0, 0, 0, 0), (.iload_n 2, 0, 0, 0, 0), (.iload_n 3, 0, 0, 0, 0), (.iload 4, 0, 0, 0, 0)] = true := by decide +kernel
theorem ck_Wa_thickerBy_25 : ia_cks 11 6 false prog_12_method_28_code 25 [(.iconst (-1), 0, 0, 0, 0), (.if_icmp .eq 6, 0, 0, 0, 0)] = true := by decide +kernel
theorem ck_Wa_thickerBy_32 : ia_cks 11 6 false prog_12_method_28_code 32 [(.iinc 5 1, 0, 0, 0, 0), (.goto (-32), 0, 0, 0, 0)] = true := by decide +kernel
theorem ck_Wa_thickerBy_29 : ia_cks 11 6 false prog_12_method_28_code 29 [(.iload 5, 0, 0, 0, 0)] = true := by decide +kernel
theorem ck_Wa_thickerBy_38 : ia_cks 11 6 false prog_12_method_28_code 38 [(.iconst (-1), 0, 0, 0, 0)] = true := by decide +kernel
theorem dc_Wa_thickerBy_14 : decode prog_12_method_28_code 14 = .ok (.invokevirtual 162, 3) := by decide +kernel
theorem dc_Wa_thickerBy_22 : decode prog_12_method_28_code 22 = .ok (.invokevirtual 83, 3) := by decide +kernel
theorem dc_Wa_thickerBy_31 : decode prog_12_method_28_code 31 = .ok (.ireturn, 1) := by decide +kernel
theorem dc_Wa_thickerBy_39 : decode prog_12_method_28_code 39 = .ok (.ireturn, 1) := by decide +kernel
def l_Wa_thickerBy_3 (a1 : Nat) (x2 : Int32) (x3 : Int32) (x4 : Int32) (k29 : Int32 → ia_H → Option (Int32 × ia_H)) (k38 : ia_H → Option (Int32 × ia_H)) (n : Nat) (x5 : Int32) (h : ia_H) : Option (Int32 × ia_H) := match n with
  | 0 => none
  | n + 1 => if 99 < x5 then (k38 h) else ((f_Wa_survey a1 x5 h).bind fun v1 => ((f_Wa_measure x2 x3 x4 v1).bind fun v2 => (if v2.1 = (-1) then (l_Wa_thickerBy_3 a1 x2 x3 x4 k29 k38 n (x5 + 1) v2.2) else (k29 x5 v2.2))))
theorem tl_Wa_thickerBy_3 {w : ia_O0} {d N1 W1 : Nat} {K : ia_K} (hK : ia_isK (d + 2) mm_Wa_thickerBy N1 W1 K) {a1 : Nat} {x2 : Int32} {x3 : Int32} {x4 : Int32} (p1 : (kd_D a1).1 = 9) {r : Int32} {h1 : ia_H} (hret : ∀ (pc : Nat) (lv : ia_L), ia_ret mm_Wa_thickerBy pc (some (.inl r)) → K pc lv ((some (.inl r)) : Option ia_V).toList h1) {k29 : Int32 → ia_H → Option (Int32 × ia_H)} {k38 : ia_H → Option (Int32 × ia_H)} (hk29 : ∀ (x5 : Int32) (h : ia_H), gd_ w h → k29 x5 h = some (r, h1) → K 29 [none, none, none, none, none, some (.inl x5)] [] h) (hk38 : ∀ (h : ia_H), gd_ w h → k38 h = some (r, h1) → K 38 [none, none, none, none, none, none] [] h) : ∀ (n : Nat) (x5 : Int32) (h : ia_H), gd_ w h → l_Wa_thickerBy_3 a1 x2 x3 x4 k29 k38 n x5 h = some (r, h1) → K 3 [some (.inr (.inr 311)), some (.inr (.inr a1)), some (.inl x2), some (.inl x3), some (.inl x4), some (.inl x5)] [] h := by
  intro n
  induction n with
  | zero =>
    intro x5 h hg hm
    cases (show (none : Option (Int32 × ia_H)) = some _ from hm)
  | succ n ih =>
    intro x5 h hg hm
    rw [l_Wa_thickerBy_3] at hm
    refine ia_go hK ck_Wa_thickerBy_3 ⟨fun c => ?_, fun c => ?_⟩
    · replace hm := ia_ifp hm c
      show K 38 [some (.inr (.inr 311)), some (.inr (.inr a1)), some (.inl x2), some (.inl x3), some (.inl x4), some (.inl x5)] [] h
      refine ia_fg hK (lv' := [none, none, none, none, none, none]) trivial ?_
      exact hk38 h hg hm
    · replace hm := ia_ifn hm c
      show K 10 [some (.inr (.inr 311)), some (.inr (.inr a1)), some (.inl x2), some (.inl x3), some (.inl x4), some (.inl x5)] [] h
      refine ia_go hK ck_Wa_thickerBy_10 ?_
      show K 14 [some (.inr (.inr 311)), some (.inr (.inr a1)), some (.inl x2), some (.inl x3), some (.inl x4), some (.inl x5)] [.inl x5, .inr (.inr a1), .inr (.inr 311)] h
      obtain ⟨v1, hv1, hm⟩ := ia_bnd hm
      have ev1 := t_Wa_survey (d + 0) hg p1 hv1
      have gv1 := g_Wa_survey hg p1 hv1
      refine ia_cV hK mk_Wa_survey lk_11_162 dc_Wa_thickerBy_14 311 [.inr (.inr a1), .inl x5] [] rfl rfl (Nat.le_of_ble_eq_true rfl) (by decide) rfl (gk_11 hg pk_311) ev1 (gd_nm hg gv1) ?_
      show K 17 [some (.inr (.inr 311)), some (.inr (.inr a1)), some (.inl x2), some (.inl x3), some (.inl x4), some (.inl x5)] [] v1
      refine ia_go hK ck_Wa_thickerBy_17 ?_
      show K 22 [some (.inr (.inr 311)), some (.inr (.inr a1)), some (.inl x2), some (.inl x3), some (.inl x4), some (.inl x5)] [.inl x4, .inl x3, .inl x2, .inr (.inr 311)] v1
      obtain ⟨v2, hv2, hm⟩ := ia_bnd hm
      have ev2 := t_Wa_measure (d + 0) gv1 hv2
      have gv2 := g_Wa_measure gv1 hv2
      refine ia_cV hK mk_Wa_measure lk_11_83 dc_Wa_thickerBy_22 311 [.inl x2, .inl x3, .inl x4] [] rfl rfl (Nat.le_of_ble_eq_true rfl) (by decide) rfl (gk_11 gv1 pk_311) ev2 (gd_nm gv1 gv2) ?_
      show K 25 [some (.inr (.inr 311)), some (.inr (.inr a1)), some (.inl x2), some (.inl x3), some (.inl x4), some (.inl x5)] [.inl v2.1] v2.2
      refine ia_go hK ck_Wa_thickerBy_25 ⟨fun c => ?_, fun c => ?_⟩
      · replace hm := ia_ifp hm c
        show K 32 [some (.inr (.inr 311)), some (.inr (.inr a1)), some (.inl x2), some (.inl x3), some (.inl x4), some (.inl x5)] [] v2.2
        refine ia_go hK ck_Wa_thickerBy_32 ?_
        show K 3 [some (.inr (.inr 311)), some (.inr (.inr a1)), some (.inl x2), some (.inl x3), some (.inl x4), some (.inl (x5 + 1))] [] v2.2
        exact ih (x5 + 1) v2.2 gv2 hm
      · replace hm := ia_ifn hm c
        show K 29 [some (.inr (.inr 311)), some (.inr (.inr a1)), some (.inl x2), some (.inl x3), some (.inl x4), some (.inl x5)] [] v2.2
        refine ia_fg hK (lv' := [none, none, none, none, none, some (.inl x5)]) ⟨rfl, trivial⟩ ?_
        exact hk29 x5 v2.2 gv2 hm
theorem gl_Wa_thickerBy_3 {w : ia_O0} {a1 : Nat} {x2 : Int32} {x3 : Int32} {x4 : Int32} (p1 : (kd_D a1).1 = 9) {r : Int32} {h1 : ia_H} {k29 : Int32 → ia_H → Option (Int32 × ia_H)} {k38 : ia_H → Option (Int32 × ia_H)} (hk29 : ∀ (x5 : Int32) (h : ia_H), gd_ w h → k29 x5 h = some (r, h1) → gd_ w h1) (hk38 : ∀ (h : ia_H), gd_ w h → k38 h = some (r, h1) → gd_ w h1) : ∀ (n : Nat) (x5 : Int32) (h : ia_H), gd_ w h → l_Wa_thickerBy_3 a1 x2 x3 x4 k29 k38 n x5 h = some (r, h1) → gd_ w h1 := by
  intro n
  induction n with
  | zero =>
    intro x5 h hg hm
    cases (show (none : Option (Int32 × ia_H)) = some _ from hm)
  | succ n ih =>
    intro x5 h hg hm
    rw [l_Wa_thickerBy_3] at hm
    by_cases c : 99 < x5
    · replace hm := ia_ifp hm c
      exact hk38 h hg hm
    · replace hm := ia_ifn hm c
      obtain ⟨v1, hv1, hm⟩ := ia_bnd hm
      have gv1 := g_Wa_survey hg p1 hv1
      obtain ⟨v2, hv2, hm⟩ := ia_bnd hm
      have gv2 := g_Wa_measure gv1 hv2
      by_cases c : v2.1 = (-1)
      · replace hm := ia_ifp hm c
        exact ih (x5 + 1) v2.2 gv2 hm
      · replace hm := ia_ifn hm c
        exact hk29 x5 v2.2 gv2 hm
def f_Wa_thickerBy (a1 : Nat) (x2 : Int32) (x3 : Int32) (x4 : Int32) (h : ia_H) : Option (Int32 × ia_H) := l_Wa_thickerBy_3 a1 x2 x3 x4 (fun x5 h => some (x5, h)) (fun h => some ((-1), h)) fu_ 0 h
theorem g_Wa_thickerBy {w : ia_O0} {a1 : Nat} {x2 : Int32} {x3 : Int32} {x4 : Int32} {h : ia_H} (hg : gd_ w h) (p1 : (kd_D a1).1 = 9) {q : (Int32 × ia_H)} (hm : f_Wa_thickerBy a1 x2 x3 x4 h = some q) : gd_ w q.2 := by
  obtain ⟨r, h1⟩ := q
  unfold f_Wa_thickerBy at hm
  refine gl_Wa_thickerBy_3 p1 ?_ ?_ fu_ 0 h hg hm
  · intro x5 h hg hm
    obtain ⟨rfl, rfl⟩ := Prod.mk.inj (Option.some.inj hm)
    exact hg
  · intro h hg hm
    obtain ⟨rfl, rfl⟩ := Prod.mk.inj (Option.some.inj hm)
    exact hg
theorem t_Wa_thickerBy {w : ia_O0} (d : Nat) {a1 : Nat} {x2 : Int32} {x3 : Int32} {x4 : Int32} {h : ia_H} (hg : gd_ w h) (p1 : (kd_D a1).1 = 9) {q : (Int32 × ia_H)} (hm : f_Wa_thickerBy a1 x2 x3 x4 h = some q) : ia_Ev (d + 2) mm_Wa_thickerBy [.inr (.inr 311), .inr (.inr a1), .inl x2, .inl x3, .inl x4] h (some (.inl q.1)) q.2 := by
  have gq := g_Wa_thickerBy hg p1 hm
  refine ia_Ev_intro ok_Wa_thickerBy (gd_le hg gq).1 (gd_le hg gq).2 (Nat.le_of_ble_eq_true rfl) (fun K hK hret => ?_)
  obtain ⟨r, h1⟩ := q
  show K 0 [some (.inr (.inr 311)), some (.inr (.inr a1)), some (.inl x2), some (.inl x3), some (.inl x4), none] [] h
  unfold f_Wa_thickerBy at hm
  refine ia_go hK ck_Wa_thickerBy_0 ?_
  show K 3 [some (.inr (.inr 311)), some (.inr (.inr a1)), some (.inl x2), some (.inl x3), some (.inl x4), some (.inl 0)] [] h
  refine tl_Wa_thickerBy_3 hK p1 hret ?_ ?_ fu_ 0 h hg hm
  · intro x5 h hg hm
    refine ia_go hK ck_Wa_thickerBy_29 ?_
    show K 31 [none, none, none, none, none, some (.inl x5)] [.inl x5] h
    obtain ⟨rfl, rfl⟩ := Prod.mk.inj (Option.some.inj hm)
    exact hret 31 _ dc_Wa_thickerBy_31
  · intro h hg hm
    refine ia_go hK ck_Wa_thickerBy_38 ?_
    show K 39 [none, none, none, none, none, none] [.inl (-1)] h
    obtain ⟨rfl, rfl⟩ := Prod.mk.inj (Option.some.inj hm)
    exact hret 39 _ dc_Wa_thickerBy_39
def mm_I_lacks : ia_M := (⟨"IceStreet", "lacks", "(IIIIIIII)I"⟩, prog_1_method_36_code, 9, (some .int), 0, false)
theorem ok_I_lacks : ia_mok mm_I_lacks := ⟨by decide +kernel, by decide +kernel, by decide +kernel, by decide +kernel⟩
theorem mk_I_lacks : ia_mkn mm_I_lacks 1 8 := ⟨ia_tb_in (List.mem_of_getElem? (i := 1553) (by decide +kernel)) rfl, ia_tb_in (List.mem_of_getElem? (i := 133) (by decide +kernel)) rfl, by decide +kernel, by decide +kernel, ⟨ia_tb_in (List.mem_of_getElem? (i := 1551) (by decide +kernel)) rfl, ia_tb_in (List.mem_of_getElem? (i := 1552) (by decide +kernel)) rfl⟩⟩
theorem ck_I_lacks_0 : ia_cks 0 9 false prog_1_method_36_code 0 [(.aload_n 0, 0, 0, 0, 0), (.iload_n 1, 0, 0, 0, 0), (.iload_n 2, 0, 0, 0, 0), (.iload_n 3, 0, 0, 0, 0), (.iload 4, 0, 0, 0, 0)] = true := by decide +kernel
theorem ck_I_lacks_9 : ia_cks 0 9 false prog_1_method_36_code 9 [(.ifCond .eq 16, 0, 0, 0, 0)] = true := by decide +kernel
theorem ck_I_lacks_25 : ia_cks 0 9 false prog_1_method_36_code 25 [(.iconst (-1), 0, 0, 0, 0)] = true := by decide +kernel
theorem ck_I_lacks_12 : ia_cks 0 9 false prog_1_method_36_code 12 [(.aload_n 0, 0, 0, 0, 0), (.iload 5, 0, 0, 0, 0), (.iload 6, 0, 0, 0, 0), (.iload 7, 0, 0, 0, 0)] = true := by decide +kernel
theorem ck_I_lacks_22 : ia_cks 0 9 false prog_1_method_36_code 22 [(.ifCond .ne 5, 0, 0, 0, 0)] = true := by decide +kernel
theorem ck_I_lacks_27 : ia_cks 0 9 false prog_1_method_36_code 27 [(.iload 8, 0, 0, 0, 0), (.tableswitch 90 0 2 #[27, 53, 71], 0, 0, 0, 0)] = true := by decide +kernel
theorem ck_I_lacks_56 : ia_cks 0 9 false prog_1_method_36_code 56 [(.aload_n 0, 0, 0, 0, 0), (.getfield 51, 0, 5, 3, 247), (.aload_n 0, 0, 0, 0, 0), (.getfield 44, 0, 4, 3, 239), (.iconst 0, 0, 0, 0, 0)] = true := by decide +kernel
theorem ck_I_lacks_68 : ia_cks 0 9 false prog_1_method_36_code 68 [(.aload_n 0, 0, 0, 0, 0), (.getfield 51, 0, 5, 3, 247), (.iload 5, 0, 0, 0, 0), (.iload 6, 0, 0, 0, 0), (.iload 7, 0, 0, 0, 0)] = true := by decide +kernel
theorem ck_I_lacks_82 : ia_cks 0 9 false prog_1_method_36_code 82 [(.aload_n 0, 0, 0, 0, 0), (.getfield 51, 0, 5, 3, 247), (.aload_n 0, 0, 0, 0, 0), (.getfield 44, 0, 4, 3, 239), (.iload 5, 0, 0, 0, 0), (.iload 6, 0, 0, 0, 0), (.iload 7, 0, 0, 0, 0)] = true := by decide +kernel
theorem ck_I_lacks_100 : ia_cks 0 9 false prog_1_method_36_code 100 [(.aload_n 0, 0, 0, 0, 0), (.getfield 69, 0, 7, 3, 262), (.aload_n 0, 0, 0, 0, 0), (.getfield 44, 0, 4, 3, 239), (.iconst 1, 0, 0, 0, 0), (.iload 5, 0, 0, 0, 0), (.iload 6, 0, 0, 0, 0), (.iload 7, 0, 0, 0, 0)] = true := by decide +kernel
theorem ck_I_lacks_119 : ia_cks 0 9 false prog_1_method_36_code 119 [(.iconst (-1), 0, 0, 0, 0)] = true := by decide +kernel
theorem dc_I_lacks_6 : decode prog_1_method_36_code 6 = .ok (.invokevirtual 266, 3) := by decide +kernel
theorem dc_I_lacks_26 : decode prog_1_method_36_code 26 = .ok (.ireturn, 1) := by decide +kernel
theorem dc_I_lacks_19 : decode prog_1_method_36_code 19 = .ok (.invokevirtual 299, 3) := by decide +kernel
theorem dc_I_lacks_65 : decode prog_1_method_36_code 65 = .ok (.invokevirtual 303, 3) := by decide +kernel
theorem dc_I_lacks_78 : decode prog_1_method_36_code 78 = .ok (.invokevirtual 436, 3) := by decide +kernel
theorem dc_I_lacks_81 : decode prog_1_method_36_code 81 = .ok (.ireturn, 1) := by decide +kernel
theorem dc_I_lacks_96 : decode prog_1_method_36_code 96 = .ok (.invokevirtual 439, 3) := by decide +kernel
theorem dc_I_lacks_99 : decode prog_1_method_36_code 99 = .ok (.ireturn, 1) := by decide +kernel
theorem dc_I_lacks_115 : decode prog_1_method_36_code 115 = .ok (.invokevirtual 387, 3) := by decide +kernel
theorem dc_I_lacks_118 : decode prog_1_method_36_code 118 = .ok (.ireturn, 1) := by decide +kernel
theorem dc_I_lacks_120 : decode prog_1_method_36_code 120 = .ok (.ireturn, 1) := by decide +kernel
def f_I_lacks (x1 : Int32) (x2 : Int32) (x3 : Int32) (x4 : Int32) (x5 : Int32) (x6 : Int32) (x7 : Int32) (x8 : Int32) (h : ia_H) : Option (Int32 × ia_H) := (f_I_stage x1 x2 x3 x4 h).bind fun v1 => (if v1.1 = 0 then (some ((-1), v1.2)) else ((f_I_isTrip x5 x6 x7 v1.2).bind fun v2 => (if v2 = 0 then (some ((-1), v1.2)) else (if x8 = 0 then ((f_Wa_survey 303 0 v1.2).bind fun v3 => ((f_Wa_fewestAgainst x5 x6 x7 v3).bind fun v4 => (some (v4.1, v4.2)))) else if x8 = 1 then ((f_Wa_thickerBy 303 x5 x6 x7 v1.2).bind fun v6 => (some (v6.1, v6.2))) else if x8 = 2 then ((f_Ou_firstDayWith 303 1 x5 x6 x7 v1.2).bind fun v8 => (some (v8.1, v8.2))) else (some ((-1), v1.2))))))
theorem g_I_lacks {w : ia_O0} {x1 : Int32} {x2 : Int32} {x3 : Int32} {x4 : Int32} {x5 : Int32} {x6 : Int32} {x7 : Int32} {x8 : Int32} {h : ia_H} (hg : gd_ w h) {q : (Int32 × ia_H)} (hm : f_I_lacks x1 x2 x3 x4 x5 x6 x7 x8 h = some q) : gd_ w q.2 := by
  obtain ⟨r, h1⟩ := q
  unfold f_I_lacks at hm
  obtain ⟨v1, hv1, hm⟩ := ia_bnd hm
  have gv1 := g_I_stage hg hv1
  by_cases c : v1.1 = 0
  · replace hm := ia_ifp hm c
    obtain ⟨rfl, rfl⟩ := Prod.mk.inj (Option.some.inj hm)
    exact gv1
  · replace hm := ia_ifn hm c
    obtain ⟨v2, hv2, hm⟩ := ia_bnd hm
    by_cases c : v2 = 0
    · replace hm := ia_ifp hm c
      obtain ⟨rfl, rfl⟩ := Prod.mk.inj (Option.some.inj hm)
      exact gv1
    · replace hm := ia_ifn hm c
      by_cases c5 : x8 = 0
      · replace hm := ia_ifp hm c5
        obtain ⟨v3, hv3, hm⟩ := ia_bnd hm
        have gv3 := g_Wa_survey gv1 (ka_0_4 pk_64) hv3
        obtain ⟨v4, hv4, hm⟩ := ia_bnd hm
        have gv4 := g_Wa_fewestAgainst gv3 hv4
        obtain ⟨rfl, rfl⟩ := Prod.mk.inj (Option.some.inj hm)
        exact gv4
      · replace hm := ia_ifn hm c5
        by_cases c7 : x8 = 1
        · replace hm := ia_ifp hm c7
          obtain ⟨v6, hv6, hm⟩ := ia_bnd hm
          have gv6 := g_Wa_thickerBy gv1 (ka_0_4 pk_64) hv6
          obtain ⟨rfl, rfl⟩ := Prod.mk.inj (Option.some.inj hm)
          exact gv6
        · replace hm := ia_ifn hm c7
          by_cases c9 : x8 = 2
          · replace hm := ia_ifp hm c9
            obtain ⟨v8, hv8, hm⟩ := ia_bnd hm
            have gv8 := g_Ou_firstDayWith gv1 (ka_0_4 pk_64) hv8
            obtain ⟨rfl, rfl⟩ := Prod.mk.inj (Option.some.inj hm)
            exact gv8
          · replace hm := ia_ifn hm c9
            obtain ⟨rfl, rfl⟩ := Prod.mk.inj (Option.some.inj hm)
            exact gv1
theorem t_I_lacks {w : ia_O0} (d : Nat) {x1 : Int32} {x2 : Int32} {x3 : Int32} {x4 : Int32} {x5 : Int32} {x6 : Int32} {x7 : Int32} {x8 : Int32} {h : ia_H} (hg : gd_ w h) {q : (Int32 × ia_H)} (hm : f_I_lacks x1 x2 x3 x4 x5 x6 x7 x8 h = some q) : ia_Ev (d + 7) mm_I_lacks [.inr (.inr 64), .inl x1, .inl x2, .inl x3, .inl x4, .inl x5, .inl x6, .inl x7, .inl x8] h (some (.inl q.1)) q.2 := by
  have gq := g_I_lacks hg hm
  refine ia_Ev_intro ok_I_lacks (gd_le hg gq).1 (gd_le hg gq).2 (Nat.le_of_ble_eq_true rfl) (fun K hK hret => ?_)
  obtain ⟨r, h1⟩ := q
  show K 0 [some (.inr (.inr 64)), some (.inl x1), some (.inl x2), some (.inl x3), some (.inl x4), some (.inl x5), some (.inl x6), some (.inl x7), some (.inl x8)] [] h
  unfold f_I_lacks at hm
  refine ia_go hK ck_I_lacks_0 ?_
  show K 6 [some (.inr (.inr 64)), some (.inl x1), some (.inl x2), some (.inl x3), some (.inl x4), some (.inl x5), some (.inl x6), some (.inl x7), some (.inl x8)] [.inl x4, .inl x3, .inl x2, .inl x1, .inr (.inr 64)] h
  obtain ⟨v1, hv1, hm⟩ := ia_bnd hm
  have ev1 := t_I_stage (d + 0) hg hv1
  have gv1 := g_I_stage hg hv1
  refine ia_cV hK mk_I_stage lk_0_266 dc_I_lacks_6 64 [.inl x1, .inl x2, .inl x3, .inl x4] [] rfl rfl (Nat.le_of_ble_eq_true rfl) (by decide) rfl (gk_0 hg pk_64) ev1 (gd_nm hg gv1) ?_
  show K 9 [some (.inr (.inr 64)), some (.inl x1), some (.inl x2), some (.inl x3), some (.inl x4), some (.inl x5), some (.inl x6), some (.inl x7), some (.inl x8)] [.inl v1.1] v1.2
  refine ia_go hK ck_I_lacks_9 ⟨fun c => ?_, fun c => ?_⟩
  · replace hm := ia_ifp hm c
    show K 25 [some (.inr (.inr 64)), some (.inl x1), some (.inl x2), some (.inl x3), some (.inl x4), some (.inl x5), some (.inl x6), some (.inl x7), some (.inl x8)] [] v1.2
    refine ia_go hK ck_I_lacks_25 ?_
    show K 26 [some (.inr (.inr 64)), some (.inl x1), some (.inl x2), some (.inl x3), some (.inl x4), some (.inl x5), some (.inl x6), some (.inl x7), some (.inl x8)] [.inl (-1)] v1.2
    obtain ⟨rfl, rfl⟩ := Prod.mk.inj (Option.some.inj hm)
    exact hret 26 _ dc_I_lacks_26
  · replace hm := ia_ifn hm c
    show K 12 [some (.inr (.inr 64)), some (.inl x1), some (.inl x2), some (.inl x3), some (.inl x4), some (.inl x5), some (.inl x6), some (.inl x7), some (.inl x8)] [] v1.2
    refine ia_go hK ck_I_lacks_12 ?_
    show K 19 [some (.inr (.inr 64)), some (.inl x1), some (.inl x2), some (.inl x3), some (.inl x4), some (.inl x5), some (.inl x6), some (.inl x7), some (.inl x8)] [.inl x7, .inl x6, .inl x5, .inr (.inr 64)] v1.2
    obtain ⟨v2, hv2, hm⟩ := ia_bnd hm
    have ev2 := t_I_isTrip (d + 5) gv1 hv2
    refine ia_cV hK mk_I_isTrip lk_0_299 dc_I_lacks_19 64 [.inl x5, .inl x6, .inl x7] [] rfl rfl (Nat.le_of_ble_eq_true rfl) (by decide) rfl (gk_0 gv1 pk_64) ev2 ⟨rfl, rfl⟩ ?_
    show K 22 [some (.inr (.inr 64)), some (.inl x1), some (.inl x2), some (.inl x3), some (.inl x4), some (.inl x5), some (.inl x6), some (.inl x7), some (.inl x8)] [.inl v2] v1.2
    refine ia_go hK ck_I_lacks_22 ⟨fun c => ?_, fun c => ?_⟩
    · replace hm := ia_ifn hm c
      show K 27 [some (.inr (.inr 64)), some (.inl x1), some (.inl x2), some (.inl x3), some (.inl x4), some (.inl x5), some (.inl x6), some (.inl x7), some (.inl x8)] [] v1.2
      refine ia_go hK ck_I_lacks_27 ?_
      show K (ia_tsw 29 90 0 2 #[27, 53, 71] x8) [some (.inr (.inr 64)), some (.inl x1), some (.inl x2), some (.inl x3), some (.inl x4), some (.inl x5), some (.inl x6), some (.inl x7), some (.inl x8)] [] v1.2
      by_cases c5 : x8 = 0
      · replace hm := ia_ifp hm c5
        rw [show ia_tsw 29 90 0 2 #[27, 53, 71] x8 = 56 from by rw [c5]; decide]
        refine ia_go hK ck_I_lacks_56 ⟨gk_0 gv1 pk_64, gr_0_5 gv1 pk_64, gk_0 gv1 pk_64, gr_0_4 gv1 pk_64, ?_⟩
        show K 65 [some (.inr (.inr 64)), some (.inl x1), some (.inl x2), some (.inl x3), some (.inl x4), some (.inl x5), some (.inl x6), some (.inl x7), some (.inl x8)] [.inl 0, .inr (.inr 303), .inr (.inr 311)] v1.2
        obtain ⟨v3, hv3, hm⟩ := ia_bnd hm
        have ev3 := t_Wa_survey (d + 5) gv1 (ka_0_4 pk_64) hv3
        have gv3 := g_Wa_survey gv1 (ka_0_4 pk_64) hv3
        refine ia_cV hK mk_Wa_survey lk_0_303 dc_I_lacks_65 311 [.inr (.inr 303), .inl 0] [] rfl rfl (Nat.le_of_ble_eq_true rfl) (by decide) rfl (gk_11 gv1 (ka_0_5 pk_64)) ev3 (gd_nm gv1 gv3) ?_
        show K 68 [some (.inr (.inr 64)), some (.inl x1), some (.inl x2), some (.inl x3), some (.inl x4), some (.inl x5), some (.inl x6), some (.inl x7), some (.inl x8)] [] v3
        refine ia_go hK ck_I_lacks_68 ⟨gk_0 gv3 pk_64, gr_0_5 gv3 pk_64, ?_⟩
        show K 78 [some (.inr (.inr 64)), some (.inl x1), some (.inl x2), some (.inl x3), some (.inl x4), some (.inl x5), some (.inl x6), some (.inl x7), some (.inl x8)] [.inl x7, .inl x6, .inl x5, .inr (.inr 311)] v3
        obtain ⟨v4, hv4, hm⟩ := ia_bnd hm
        have ev4 := t_Wa_fewestAgainst (d + 4) gv3 hv4
        have gv4 := g_Wa_fewestAgainst gv3 hv4
        refine ia_cV hK mk_Wa_fewestAgainst lk_0_436 dc_I_lacks_78 311 [.inl x5, .inl x6, .inl x7] [] rfl rfl (Nat.le_of_ble_eq_true rfl) (by decide) rfl (gk_11 gv3 (ka_0_5 pk_64)) ev4 (gd_nm gv3 gv4) ?_
        show K 81 [some (.inr (.inr 64)), some (.inl x1), some (.inl x2), some (.inl x3), some (.inl x4), some (.inl x5), some (.inl x6), some (.inl x7), some (.inl x8)] [.inl v4.1] v4.2
        obtain ⟨rfl, rfl⟩ := Prod.mk.inj (Option.some.inj hm)
        exact hret 81 _ dc_I_lacks_81
      · replace hm := ia_ifn hm c5
        by_cases c7 : x8 = 1
        · replace hm := ia_ifp hm c7
          rw [show ia_tsw 29 90 0 2 #[27, 53, 71] x8 = 82 from by rw [c7]; decide]
          refine ia_go hK ck_I_lacks_82 ⟨gk_0 gv1 pk_64, gr_0_5 gv1 pk_64, gk_0 gv1 pk_64, gr_0_4 gv1 pk_64, ?_⟩
          show K 96 [some (.inr (.inr 64)), some (.inl x1), some (.inl x2), some (.inl x3), some (.inl x4), some (.inl x5), some (.inl x6), some (.inl x7), some (.inl x8)] [.inl x7, .inl x6, .inl x5, .inr (.inr 303), .inr (.inr 311)] v1.2
          obtain ⟨v6, hv6, hm⟩ := ia_bnd hm
          have ev6 := t_Wa_thickerBy (d + 4) gv1 (ka_0_4 pk_64) hv6
          have gv6 := g_Wa_thickerBy gv1 (ka_0_4 pk_64) hv6
          refine ia_cV hK mk_Wa_thickerBy lk_0_439 dc_I_lacks_96 311 [.inr (.inr 303), .inl x5, .inl x6, .inl x7] [] rfl rfl (Nat.le_of_ble_eq_true rfl) (by decide) rfl (gk_11 gv1 (ka_0_5 pk_64)) ev6 (gd_nm gv1 gv6) ?_
          show K 99 [some (.inr (.inr 64)), some (.inl x1), some (.inl x2), some (.inl x3), some (.inl x4), some (.inl x5), some (.inl x6), some (.inl x7), some (.inl x8)] [.inl v6.1] v6.2
          obtain ⟨rfl, rfl⟩ := Prod.mk.inj (Option.some.inj hm)
          exact hret 99 _ dc_I_lacks_99
        · replace hm := ia_ifn hm c7
          by_cases c9 : x8 = 2
          · replace hm := ia_ifp hm c9
            rw [show ia_tsw 29 90 0 2 #[27, 53, 71] x8 = 100 from by rw [c9]; decide]
            refine ia_go hK ck_I_lacks_100 ⟨gk_0 gv1 pk_64, gr_0_7 gv1 pk_64, gk_0 gv1 pk_64, gr_0_4 gv1 pk_64, ?_⟩
            show K 115 [some (.inr (.inr 64)), some (.inl x1), some (.inl x2), some (.inl x3), some (.inl x4), some (.inl x5), some (.inl x6), some (.inl x7), some (.inl x8)] [.inl x7, .inl x6, .inl x5, .inl 1, .inr (.inr 303), .inr (.inr 326)] v1.2
            obtain ⟨v8, hv8, hm⟩ := ia_bnd hm
            have ev8 := t_Ou_firstDayWith (d + 2) gv1 (ka_0_4 pk_64) hv8
            have gv8 := g_Ou_firstDayWith gv1 (ka_0_4 pk_64) hv8
            refine ia_cV hK mk_Ou_firstDayWith lk_0_387 dc_I_lacks_115 326 [.inr (.inr 303), .inl 1, .inl x5, .inl x6, .inl x7] [] rfl rfl (Nat.le_of_ble_eq_true rfl) (by decide) rfl (gk_5 gv1 (ka_0_7 pk_64)) ev8 (gd_nm gv1 gv8) ?_
            show K 118 [some (.inr (.inr 64)), some (.inl x1), some (.inl x2), some (.inl x3), some (.inl x4), some (.inl x5), some (.inl x6), some (.inl x7), some (.inl x8)] [.inl v8.1] v8.2
            obtain ⟨rfl, rfl⟩ := Prod.mk.inj (Option.some.inj hm)
            exact hret 118 _ dc_I_lacks_118
          · replace hm := ia_ifn hm c9
            rw [show ia_tsw 29 90 0 2 #[27, 53, 71] x8 = 119 from (ia_tsw_d (fun k h1 h2 => by
                rcases (show k = 0 ∨ k = 1 ∨ k = 2 by omega) with rfl | rfl | rfl
                · exact c5
                · exact c7
                · exact c9
                )).trans (by decide)]
            refine ia_go hK ck_I_lacks_119 ?_
            show K 120 [some (.inr (.inr 64)), some (.inl x1), some (.inl x2), some (.inl x3), some (.inl x4), some (.inl x5), some (.inl x6), some (.inl x7), some (.inl x8)] [.inl (-1)] v1.2
            obtain ⟨rfl, rfl⟩ := Prod.mk.inj (Option.some.inj hm)
            exact hret 120 _ dc_I_lacks_120
    · replace hm := ia_ifp hm c
      show K 25 [some (.inr (.inr 64)), some (.inl x1), some (.inl x2), some (.inl x3), some (.inl x4), some (.inl x5), some (.inl x6), some (.inl x7), some (.inl x8)] [] v1.2
      refine ia_go hK ck_I_lacks_25 ?_
      show K 26 [some (.inr (.inr 64)), some (.inl x1), some (.inl x2), some (.inl x3), some (.inl x4), some (.inl x5), some (.inl x6), some (.inl x7), some (.inl x8)] [.inl (-1)] v1.2
      obtain ⟨rfl, rfl⟩ := Prod.mk.inj (Option.some.inj hm)
      exact hret 26 _ dc_I_lacks_26
def mm_Wa_neededCells : ia_M := (⟨"IceStreet$Ways", "neededCells", "(III)J"⟩, prog_12_method_25_code, 9, (some .long), 11, false)
theorem ok_Wa_neededCells : ia_mok mm_Wa_neededCells := ⟨by decide +kernel, by decide +kernel, by decide +kernel, by decide +kernel⟩
theorem mk_Wa_neededCells : ia_mkn mm_Wa_neededCells 1 3 := ⟨ia_tb_in (List.mem_of_getElem? (i := 1573) (by decide +kernel)) rfl, ia_tb_in (List.mem_of_getElem? (i := 141) (by decide +kernel)) rfl, by decide +kernel, by decide +kernel, ⟨ia_tb_in (List.mem_of_getElem? (i := 1571) (by decide +kernel)) rfl, ia_tb_in (List.mem_of_getElem? (i := 1572) (by decide +kernel)) rfl⟩⟩
theorem ck_Wa_neededCells_0 : ia_cks 11 9 false prog_12_method_25_code 0 [(.aload_n 0, 0, 0, 0, 0), (.iload_n 1, 0, 0, 0, 0), (.iload_n 2, 0, 0, 0, 0), (.iload_n 3, 0, 0, 0, 0)] = true := by decide +kernel
theorem ck_Wa_neededCells_7 : ia_cks 11 9 false prog_12_method_25_code 7 [(.ifCond .ne 7, 0, 0, 0, 0)] = true := by decide +kernel
theorem ck_Wa_neededCells_14 : ia_cks 11 9 false prog_12_method_25_code 14 [(.lconst 0, 0, 0, 0, 0), (.lstore 4, 0, 0, 0, 0), (.iconst 1, 0, 0, 0, 0), (.istore 6, 0, 0, 0, 0)] = true := by decide +kernel
theorem ck_Wa_neededCells_20 : ia_cks 11 9 false prog_12_method_25_code 20 [(.iload 6, 0, 0, 0, 0), (.aload_n 0, 0, 0, 0, 0), (.getfield 87, 11, 0, 0, 0), (.iconst 1, 0, 0, 0, 0), (.isub, 0, 0, 0, 0), (.if_icmp .ge 65, 0, 0, 0, 0)] = true := by decide +kernel
theorem ck_Wa_neededCells_31 : ia_cks 11 9 false prog_12_method_25_code 31 [(.aload_n 0, 0, 0, 0, 0), (.getfield 9, 11, 3, 3, 1), (.iload 6, 0, 0, 0, 0), (.iaload, 0, 0, 0, 0), (.istore 7, 0, 0, 0, 0), (.aload_n 0, 0, 0, 0, 0), (.getfield 15, 11, 6, 3, 2), (.iload 7, 0, 0, 0, 0), (.iaload, 0, 0, 0, 0), (.istore 8, 0, 0, 0, 0), (.aload_n 0, 0, 0, 0, 0), (.getfield 15, 11, 6, 3, 2), (.iload 7, 0, 0, 0, 0), (.iconst 0, 0, 0, 0, 0), (.iastore, 0, 0, 0, 0), (.aload_n 0, 0, 0, 0, 0), (.iload_n 1, 0, 0, 0, 0), (.iload_n 2, 0, 0, 0, 0), (.iload_n 3, 0, 0, 0, 0)] = true := by decide +kernel
theorem ck_Wa_neededCells_64 : ia_cks 11 9 false prog_12_method_25_code 64 [(.iconst (-1), 0, 0, 0, 0), (.if_icmp .ne 13, 0, 0, 0, 0)] = true := by decide +kernel
theorem ck_Wa_neededCells_78 : ia_cks 11 9 false prog_12_method_25_code 78 [(.aload_n 0, 0, 0, 0, 0), (.getfield 15, 11, 6, 3, 2), (.iload 7, 0, 0, 0, 0), (.iload 8, 0, 0, 0, 0), (.iastore, 0, 0, 0, 0), (.iinc 6 1, 0, 0, 0, 0), (.goto (-70), 0, 0, 0, 0)] = true := by decide +kernel
theorem ck_Wa_neededCells_68 : ia_cks 11 9 false prog_12_method_25_code 68 [(.lload 4, 0, 0, 0, 0), (.iload 7, 0, 0, 0, 0)] = true := by decide +kernel
theorem ck_Wa_neededCells_75 : ia_cks 11 9 false prog_12_method_25_code 75 [(.lor, 0, 0, 0, 0), (.lstore 4, 0, 0, 0, 0)] = true := by decide +kernel
theorem ck_Wa_neededCells_93 : ia_cks 11 9 false prog_12_method_25_code 93 [(.lload 4, 0, 0, 0, 0)] = true := by decide +kernel
theorem dc_Wa_neededCells_4 : decode prog_12_method_25_code 4 = .ok (.invokevirtual 73, 3) := by decide +kernel
theorem dc_Wa_neededCells_61 : decode prog_12_method_25_code 61 = .ok (.invokevirtual 83, 3) := by decide +kernel
theorem dc_Wa_neededCells_72 : decode prog_12_method_25_code 72 = .ok (.invokestatic 142, 3) := by decide +kernel
theorem dc_Wa_neededCells_95 : decode prog_12_method_25_code 95 = .ok (.lreturn, 1) := by decide +kernel
theorem dc_Wa_neededCells_10 : decode prog_12_method_25_code 10 = .ok (.ldc2_w 150, 3) := by decide +kernel
theorem dc_Wa_neededCells_13 : decode prog_12_method_25_code 13 = .ok (.lreturn, 1) := by decide +kernel
def j_Wa_neededCells_78 (x1 : Int32) (x2 : Int32) (x3 : Int32) (kr : Int64 → Int32 → ia_H → Option (Int64 × ia_H)) (k93 : Int64 → ia_H → Option (Int64 × ia_H)) (y4 : Int64) (x6 : Int32) (x7 : Int32) (x8 : Int32) (h : ia_H) : Option (Int64 × ia_H) := ia_gd (ia_ib x7 36) (kr y4 (x6 + 1) (ia_wI h 313 ((x7).toNatClampNeg) x8))
theorem tj_Wa_neededCells_78 {w : ia_O0} {d N1 W1 : Nat} {K : ia_K} (hK : ia_isK (d + 3) mm_Wa_neededCells N1 W1 K) {x1 : Int32} {x2 : Int32} {x3 : Int32} {r : Int64} {h1 : ia_H} (hret : ∀ (pc : Nat) (lv : ia_L), ia_ret mm_Wa_neededCells pc (some (.inr (.inl r))) → K pc lv ((some (.inr (.inl r))) : Option ia_V).toList h1) {kr : Int64 → Int32 → ia_H → Option (Int64 × ia_H)} {k93 : Int64 → ia_H → Option (Int64 × ia_H)} (hkr : ∀ (y4 : Int64) (x6 : Int32) (h : ia_H), gd_ w h → kr y4 x6 h = some (r, h1) → K 20 [some (.inr (.inr 311)), some (.inl x1), some (.inl x2), some (.inl x3), some (.inr (.inl y4)), none, some (.inl x6), none, none] [] h) (hk93 : ∀ (y4 : Int64) (h : ia_H), gd_ w h → k93 y4 h = some (r, h1) → K 93 [none, none, none, none, some (.inr (.inl y4)), none, none, none, none] [] h) : ∀ (y4 : Int64) (x6 : Int32) (x7 : Int32) (x8 : Int32) (h : ia_H), gd_ w h → j_Wa_neededCells_78 x1 x2 x3 kr k93 y4 x6 x7 x8 h = some (r, h1) → K 78 [some (.inr (.inr 311)), some (.inl x1), some (.inl x2), some (.inl x3), some (.inr (.inl y4)), none, some (.inl x6), some (.inl x7), some (.inl x8)] [] h := by
  intro y4 x6 x7 x8 h hg hm
  unfold j_Wa_neededCells_78 at hm
  obtain ⟨c6, hm⟩ := ia_gd_some hm
  refine ia_go hK ck_Wa_neededCells_78 ⟨gk_11 hg pk_311, gr_11_6 hg pk_311, ga_s100 hg (ka_11_6 pk_311) c6, ?_⟩
  show K 20 [some (.inr (.inr 311)), some (.inl x1), some (.inl x2), some (.inl x3), some (.inr (.inl y4)), none, some (.inl (x6 + 1)), some (.inl x7), some (.inl x8)] [] (ia_wI h 313 ((x7).toNatClampNeg) x8)
  refine ia_fg hK (lv' := [some (.inr (.inr 311)), some (.inl x1), some (.inl x2), some (.inl x3), some (.inr (.inl y4)), none, some (.inl (x6 + 1)), none, none]) ⟨rfl, rfl, rfl, rfl, rfl, rfl, trivial⟩ ?_
  exact hkr y4 (x6 + 1) (ia_wI h 313 ((x7).toNatClampNeg) x8) (gd_wI hg (kx_100 (ka_11_6 pk_311))) hm
theorem gj_Wa_neededCells_78 {w : ia_O0} {x1 : Int32} {x2 : Int32} {x3 : Int32} {r : Int64} {h1 : ia_H} {kr : Int64 → Int32 → ia_H → Option (Int64 × ia_H)} {k93 : Int64 → ia_H → Option (Int64 × ia_H)} (hkr : ∀ (y4 : Int64) (x6 : Int32) (h : ia_H), gd_ w h → kr y4 x6 h = some (r, h1) → gd_ w h1) (hk93 : ∀ (y4 : Int64) (h : ia_H), gd_ w h → k93 y4 h = some (r, h1) → gd_ w h1) : ∀ (y4 : Int64) (x6 : Int32) (x7 : Int32) (x8 : Int32) (h : ia_H), gd_ w h → j_Wa_neededCells_78 x1 x2 x3 kr k93 y4 x6 x7 x8 h = some (r, h1) → gd_ w h1 := by
  intro y4 x6 x7 x8 h hg hm
  unfold j_Wa_neededCells_78 at hm
  obtain ⟨c6, hm⟩ := ia_gd_some hm
  exact hkr y4 (x6 + 1) (ia_wI h 313 ((x7).toNatClampNeg) x8) (gd_wI hg (kx_100 (ka_11_6 pk_311))) hm
def l_Wa_neededCells_20 (x1 : Int32) (x2 : Int32) (x3 : Int32) (k93 : Int64 → ia_H → Option (Int64 × ia_H)) (n : Nat) (y4 : Int64) (x6 : Int32) (h : ia_H) : Option (Int64 × ia_H) := match n with
  | 0 => none
  | n + 1 => if ((ia_i h 311 0) - 1) ≤ x6 then (k93 y4 h) else (ia_gd (ia_ib x6 36) (ia_gd (ia_ib (ia_i h 312 ((x6).toNatClampNeg)) 36) (ia_gd (ia_ib (ia_i h 312 ((x6).toNatClampNeg)) 36) ((f_Wa_measure x1 x2 x3 (ia_wI h 313 ((ia_i h 312 ((x6).toNatClampNeg)).toNatClampNeg) 0)).bind fun v5 => (if v5.1 = (-1) then ((f_I_bit (ia_i h 312 ((x6).toNatClampNeg)) v5.2).bind fun v7 => (j_Wa_neededCells_78 x1 x2 x3 (l_Wa_neededCells_20 x1 x2 x3 k93 n) k93 (y4 ||| v7) x6 (ia_i h 312 ((x6).toNatClampNeg)) (ia_i h 313 ((ia_i h 312 ((x6).toNatClampNeg)).toNatClampNeg)) v5.2)) else (j_Wa_neededCells_78 x1 x2 x3 (l_Wa_neededCells_20 x1 x2 x3 k93 n) k93 y4 x6 (ia_i h 312 ((x6).toNatClampNeg)) (ia_i h 313 ((ia_i h 312 ((x6).toNatClampNeg)).toNatClampNeg)) v5.2))))))
theorem tl_Wa_neededCells_20 {w : ia_O0} {d N1 W1 : Nat} {K : ia_K} (hK : ia_isK (d + 3) mm_Wa_neededCells N1 W1 K) {x1 : Int32} {x2 : Int32} {x3 : Int32} {r : Int64} {h1 : ia_H} (hret : ∀ (pc : Nat) (lv : ia_L), ia_ret mm_Wa_neededCells pc (some (.inr (.inl r))) → K pc lv ((some (.inr (.inl r))) : Option ia_V).toList h1) {k93 : Int64 → ia_H → Option (Int64 × ia_H)} (hk93 : ∀ (y4 : Int64) (h : ia_H), gd_ w h → k93 y4 h = some (r, h1) → K 93 [none, none, none, none, some (.inr (.inl y4)), none, none, none, none] [] h) : ∀ (n : Nat) (y4 : Int64) (x6 : Int32) (h : ia_H), gd_ w h → l_Wa_neededCells_20 x1 x2 x3 k93 n y4 x6 h = some (r, h1) → K 20 [some (.inr (.inr 311)), some (.inl x1), some (.inl x2), some (.inl x3), some (.inr (.inl y4)), none, some (.inl x6), none, none] [] h := by
  intro n
  induction n with
  | zero =>
    intro y4 x6 h hg hm
    cases (show (none : Option (Int64 × ia_H)) = some _ from hm)
  | succ n ih =>
    intro y4 x6 h hg hm
    rw [l_Wa_neededCells_20] at hm
    refine ia_go hK ck_Wa_neededCells_20 ⟨gk_11 hg pk_311, fun c => ?_, fun c => ?_⟩
    · replace hm := ia_ifp hm c
      show K 93 [some (.inr (.inr 311)), some (.inl x1), some (.inl x2), some (.inl x3), some (.inr (.inl y4)), none, some (.inl x6), none, none] [] h
      refine ia_fg hK (lv' := [none, none, none, none, some (.inr (.inl y4)), none, none, none, none]) ⟨rfl, trivial⟩ ?_
      exact hk93 y4 h hg hm
    · replace hm := ia_ifn hm c
      show K 31 [some (.inr (.inr 311)), some (.inl x1), some (.inl x2), some (.inl x3), some (.inr (.inl y4)), none, some (.inl x6), none, none] [] h
      obtain ⟨c2, hm⟩ := ia_gd_some hm
      obtain ⟨c3, hm⟩ := ia_gd_some hm
      obtain ⟨c4, hm⟩ := ia_gd_some hm
      refine ia_go hK ck_Wa_neededCells_31 ⟨gk_11 hg pk_311, gr_11_3 hg pk_311, ga_i100 hg (ka_11_3 pk_311) c2, gk_11 hg pk_311, gr_11_6 hg pk_311, ga_i100 hg (ka_11_6 pk_311) c3, gk_11 hg pk_311, gr_11_6 hg pk_311, ga_s100 hg (ka_11_6 pk_311) c4, ?_⟩
      show K 61 [some (.inr (.inr 311)), some (.inl x1), some (.inl x2), some (.inl x3), some (.inr (.inl y4)), none, some (.inl x6), some (.inl (ia_i h 312 ((x6).toNatClampNeg))), some (.inl (ia_i h 313 ((ia_i h 312 ((x6).toNatClampNeg)).toNatClampNeg)))] [.inl x3, .inl x2, .inl x1, .inr (.inr 311)] (ia_wI h 313 ((ia_i h 312 ((x6).toNatClampNeg)).toNatClampNeg) 0)
      obtain ⟨v5, hv5, hm⟩ := ia_bnd hm
      have ev5 := t_Wa_measure (d + 1) (gd_wI hg (kx_100 (ka_11_6 pk_311))) hv5
      have gv5 := g_Wa_measure (gd_wI hg (kx_100 (ka_11_6 pk_311))) hv5
      refine ia_cV hK mk_Wa_measure lk_11_83 dc_Wa_neededCells_61 311 [.inl x1, .inl x2, .inl x3] [] rfl rfl (Nat.le_of_ble_eq_true rfl) (by decide) rfl (gk_11 (gd_wI hg (kx_100 (ka_11_6 pk_311))) pk_311) ev5 (gd_nm (gd_wI hg (kx_100 (ka_11_6 pk_311))) gv5) ?_
      show K 64 [some (.inr (.inr 311)), some (.inl x1), some (.inl x2), some (.inl x3), some (.inr (.inl y4)), none, some (.inl x6), some (.inl (ia_i h 312 ((x6).toNatClampNeg))), some (.inl (ia_i h 313 ((ia_i h 312 ((x6).toNatClampNeg)).toNatClampNeg)))] [.inl v5.1] v5.2
      refine ia_go hK ck_Wa_neededCells_64 ⟨fun c => ?_, fun c => ?_⟩
      · replace hm := ia_ifn hm c
        show K 78 [some (.inr (.inr 311)), some (.inl x1), some (.inl x2), some (.inl x3), some (.inr (.inl y4)), none, some (.inl x6), some (.inl (ia_i h 312 ((x6).toNatClampNeg))), some (.inl (ia_i h 313 ((ia_i h 312 ((x6).toNatClampNeg)).toNatClampNeg)))] [] v5.2
        exact tj_Wa_neededCells_78 hK hret ih hk93 y4 x6 (ia_i h 312 ((x6).toNatClampNeg)) (ia_i h 313 ((ia_i h 312 ((x6).toNatClampNeg)).toNatClampNeg)) v5.2 gv5 hm
      · replace hm := ia_ifp hm c
        show K 68 [some (.inr (.inr 311)), some (.inl x1), some (.inl x2), some (.inl x3), some (.inr (.inl y4)), none, some (.inl x6), some (.inl (ia_i h 312 ((x6).toNatClampNeg))), some (.inl (ia_i h 313 ((ia_i h 312 ((x6).toNatClampNeg)).toNatClampNeg)))] [] v5.2
        refine ia_go hK ck_Wa_neededCells_68 ?_
        show K 72 [some (.inr (.inr 311)), some (.inl x1), some (.inl x2), some (.inl x3), some (.inr (.inl y4)), none, some (.inl x6), some (.inl (ia_i h 312 ((x6).toNatClampNeg))), some (.inl (ia_i h 313 ((ia_i h 312 ((x6).toNatClampNeg)).toNatClampNeg)))] [.inl (ia_i h 312 ((x6).toNatClampNeg)), .inr (.inl y4)] v5.2
        obtain ⟨v7, hv7, hm⟩ := ia_bnd hm
        have ev7 := t_I_bit (d + 2) gv5 hv7
        refine ia_cS hK mk_I_bit lk_11_142 dc_Wa_neededCells_72 [.inl (ia_i h 312 ((x6).toNatClampNeg))] [.inr (.inl y4)] rfl rfl (Nat.le_of_ble_eq_true rfl) ev7 ⟨rfl, rfl⟩ ?_
        show K 75 [some (.inr (.inr 311)), some (.inl x1), some (.inl x2), some (.inl x3), some (.inr (.inl y4)), none, some (.inl x6), some (.inl (ia_i h 312 ((x6).toNatClampNeg))), some (.inl (ia_i h 313 ((ia_i h 312 ((x6).toNatClampNeg)).toNatClampNeg)))] [.inr (.inl v7), .inr (.inl y4)] v5.2
        refine ia_go hK ck_Wa_neededCells_75 ?_
        show K 78 [some (.inr (.inr 311)), some (.inl x1), some (.inl x2), some (.inl x3), some (.inr (.inl (y4 ||| v7))), none, some (.inl x6), some (.inl (ia_i h 312 ((x6).toNatClampNeg))), some (.inl (ia_i h 313 ((ia_i h 312 ((x6).toNatClampNeg)).toNatClampNeg)))] [] v5.2
        exact tj_Wa_neededCells_78 hK hret ih hk93 (y4 ||| v7) x6 (ia_i h 312 ((x6).toNatClampNeg)) (ia_i h 313 ((ia_i h 312 ((x6).toNatClampNeg)).toNatClampNeg)) v5.2 gv5 hm
theorem gl_Wa_neededCells_20 {w : ia_O0} {x1 : Int32} {x2 : Int32} {x3 : Int32} {r : Int64} {h1 : ia_H} {k93 : Int64 → ia_H → Option (Int64 × ia_H)} (hk93 : ∀ (y4 : Int64) (h : ia_H), gd_ w h → k93 y4 h = some (r, h1) → gd_ w h1) : ∀ (n : Nat) (y4 : Int64) (x6 : Int32) (h : ia_H), gd_ w h → l_Wa_neededCells_20 x1 x2 x3 k93 n y4 x6 h = some (r, h1) → gd_ w h1 := by
  intro n
  induction n with
  | zero =>
    intro y4 x6 h hg hm
    cases (show (none : Option (Int64 × ia_H)) = some _ from hm)
  | succ n ih =>
    intro y4 x6 h hg hm
    rw [l_Wa_neededCells_20] at hm
    by_cases c : ((ia_i h 311 0) - 1) ≤ x6
    · replace hm := ia_ifp hm c
      exact hk93 y4 h hg hm
    · replace hm := ia_ifn hm c
      obtain ⟨c2, hm⟩ := ia_gd_some hm
      obtain ⟨c3, hm⟩ := ia_gd_some hm
      obtain ⟨c4, hm⟩ := ia_gd_some hm
      obtain ⟨v5, hv5, hm⟩ := ia_bnd hm
      have gv5 := g_Wa_measure (gd_wI hg (kx_100 (ka_11_6 pk_311))) hv5
      by_cases c : v5.1 = (-1)
      · replace hm := ia_ifp hm c
        obtain ⟨v7, hv7, hm⟩ := ia_bnd hm
        exact gj_Wa_neededCells_78 ih hk93 (y4 ||| v7) x6 (ia_i h 312 ((x6).toNatClampNeg)) (ia_i h 313 ((ia_i h 312 ((x6).toNatClampNeg)).toNatClampNeg)) v5.2 gv5 hm
      · replace hm := ia_ifn hm c
        exact gj_Wa_neededCells_78 ih hk93 y4 x6 (ia_i h 312 ((x6).toNatClampNeg)) (ia_i h 313 ((ia_i h 312 ((x6).toNatClampNeg)).toNatClampNeg)) v5.2 gv5 hm
def f_Wa_neededCells (x1 : Int32) (x2 : Int32) (x3 : Int32) (h : ia_H) : Option (Int64 × ia_H) := (f_Wa_findShort x1 x2 x3 h).bind fun v1 => (if v1.1 = 0 then (some ((-1), v1.2)) else (l_Wa_neededCells_20 x1 x2 x3 (fun y4 h => some (y4, h)) fu_ 0 1 v1.2))
theorem g_Wa_neededCells {w : ia_O0} {x1 : Int32} {x2 : Int32} {x3 : Int32} {h : ia_H} (hg : gd_ w h) {q : (Int64 × ia_H)} (hm : f_Wa_neededCells x1 x2 x3 h = some q) : gd_ w q.2 := by
  obtain ⟨r, h1⟩ := q
  unfold f_Wa_neededCells at hm
  obtain ⟨v1, hv1, hm⟩ := ia_bnd hm
  have gv1 := g_Wa_findShort hg hv1
  by_cases c : v1.1 = 0
  · replace hm := ia_ifp hm c
    obtain ⟨rfl, rfl⟩ := Prod.mk.inj (Option.some.inj hm)
    exact gv1
  · replace hm := ia_ifn hm c
    refine gl_Wa_neededCells_20 ?_ fu_ 0 1 v1.2 gv1 hm
    · intro y4 h hg hm
      obtain ⟨rfl, rfl⟩ := Prod.mk.inj (Option.some.inj hm)
      exact hg
theorem t_Wa_neededCells {w : ia_O0} (d : Nat) {x1 : Int32} {x2 : Int32} {x3 : Int32} {h : ia_H} (hg : gd_ w h) {q : (Int64 × ia_H)} (hm : f_Wa_neededCells x1 x2 x3 h = some q) : ia_Ev (d + 3) mm_Wa_neededCells [.inr (.inr 311), .inl x1, .inl x2, .inl x3] h (some (.inr (.inl q.1))) q.2 := by
  have gq := g_Wa_neededCells hg hm
  refine ia_Ev_intro ok_Wa_neededCells (gd_le hg gq).1 (gd_le hg gq).2 (Nat.le_of_ble_eq_true rfl) (fun K hK hret => ?_)
  obtain ⟨r, h1⟩ := q
  show K 0 [some (.inr (.inr 311)), some (.inl x1), some (.inl x2), some (.inl x3), none, none, none, none, none] [] h
  unfold f_Wa_neededCells at hm
  refine ia_go hK ck_Wa_neededCells_0 ?_
  show K 4 [some (.inr (.inr 311)), some (.inl x1), some (.inl x2), some (.inl x3), none, none, none, none, none] [.inl x3, .inl x2, .inl x1, .inr (.inr 311)] h
  obtain ⟨v1, hv1, hm⟩ := ia_bnd hm
  have ev1 := t_Wa_findShort (d + 0) hg hv1
  have gv1 := g_Wa_findShort hg hv1
  refine ia_cV hK mk_Wa_findShort lk_11_73 dc_Wa_neededCells_4 311 [.inl x1, .inl x2, .inl x3] [] rfl rfl (Nat.le_of_ble_eq_true rfl) (by decide) rfl (gk_11 hg pk_311) ev1 (gd_nm hg gv1) ?_
  show K 7 [some (.inr (.inr 311)), some (.inl x1), some (.inl x2), some (.inl x3), none, none, none, none, none] [.inl v1.1] v1.2
  refine ia_go hK ck_Wa_neededCells_7 ⟨fun c => ?_, fun c => ?_⟩
  · replace hm := ia_ifn hm c
    show K 14 [some (.inr (.inr 311)), some (.inl x1), some (.inl x2), some (.inl x3), none, none, none, none, none] [] v1.2
    refine ia_go hK ck_Wa_neededCells_14 ?_
    show K 20 [some (.inr (.inr 311)), some (.inl x1), some (.inl x2), some (.inl x3), some (.inr (.inl 0)), none, some (.inl 1), none, none] [] v1.2
    refine tl_Wa_neededCells_20 hK hret ?_ fu_ 0 1 v1.2 gv1 hm
    · intro y4 h hg hm
      refine ia_go hK ck_Wa_neededCells_93 ?_
      show K 95 [none, none, none, none, some (.inr (.inl y4)), none, none, none, none] [.inr (.inl y4)] h
      obtain ⟨rfl, rfl⟩ := Prod.mk.inj (Option.some.inj hm)
      exact hret 95 _ dc_Wa_neededCells_95
  · replace hm := ia_ifp hm c
    show K 10 [some (.inr (.inr 311)), some (.inl x1), some (.inl x2), some (.inl x3), none, none, none, none, none] [] v1.2
    refine ia_ldc2 hK (v := (-1)) (ia_tb_in (List.mem_of_getElem? (i := 1132) (by decide +kernel)) rfl) dc_Wa_neededCells_10 ?_
    show K 13 [some (.inr (.inr 311)), some (.inl x1), some (.inl x2), some (.inl x3), none, none, none, none, none] [.inr (.inl (-1))] v1.2
    obtain ⟨rfl, rfl⟩ := Prod.mk.inj (Option.some.inj hm)
    exact hret 13 _ dc_Wa_neededCells_13
def mm_I_needs : ia_M := (⟨"IceStreet", "needs", "(IIIIIII)J"⟩, prog_1_method_37_code, 8, (some .long), 0, false)
theorem ok_I_needs : ia_mok mm_I_needs := ⟨by decide +kernel, by decide +kernel, by decide +kernel, by decide +kernel⟩
theorem mk_I_needs : ia_mkn mm_I_needs 1 7 := ⟨ia_tb_in (List.mem_of_getElem? (i := 1569) (by decide +kernel)) rfl, ia_tb_in (List.mem_of_getElem? (i := 133) (by decide +kernel)) rfl, by decide +kernel, by decide +kernel, ⟨ia_tb_in (List.mem_of_getElem? (i := 1567) (by decide +kernel)) rfl, ia_tb_in (List.mem_of_getElem? (i := 1568) (by decide +kernel)) rfl⟩⟩
theorem ck_I_needs_0 : ia_cks 0 8 false prog_1_method_37_code 0 [(.aload_n 0, 0, 0, 0, 0), (.iload_n 1, 0, 0, 0, 0), (.iload_n 2, 0, 0, 0, 0), (.iload_n 3, 0, 0, 0, 0), (.iload 4, 0, 0, 0, 0)] = true := by decide +kernel
theorem ck_I_needs_9 : ia_cks 0 8 false prog_1_method_37_code 9 [(.ifCond .eq 16, 0, 0, 0, 0)] = true := by decide +kernel
theorem ck_I_needs_12 : ia_cks 0 8 false prog_1_method_37_code 12 [(.aload_n 0, 0, 0, 0, 0), (.iload 5, 0, 0, 0, 0), (.iload 6, 0, 0, 0, 0), (.iload 7, 0, 0, 0, 0)] = true := by decide +kernel
theorem ck_I_needs_22 : ia_cks 0 8 false prog_1_method_37_code 22 [(.ifCond .ne 7, 0, 0, 0, 0)] = true := by decide +kernel
theorem ck_I_needs_29 : ia_cks 0 8 false prog_1_method_37_code 29 [(.aload_n 0, 0, 0, 0, 0), (.getfield 51, 0, 5, 3, 247), (.aload_n 0, 0, 0, 0, 0), (.getfield 44, 0, 4, 3, 239), (.iconst 0, 0, 0, 0, 0)] = true := by decide +kernel
theorem ck_I_needs_41 : ia_cks 0 8 false prog_1_method_37_code 41 [(.aload_n 0, 0, 0, 0, 0), (.getfield 51, 0, 5, 3, 247), (.iload 5, 0, 0, 0, 0), (.iload 6, 0, 0, 0, 0), (.iload 7, 0, 0, 0, 0)] = true := by decide +kernel
theorem dc_I_needs_6 : decode prog_1_method_37_code 6 = .ok (.invokevirtual 266, 3) := by decide +kernel
theorem dc_I_needs_25 : decode prog_1_method_37_code 25 = .ok (.ldc2_w 319, 3) := by decide +kernel
theorem dc_I_needs_28 : decode prog_1_method_37_code 28 = .ok (.lreturn, 1) := by decide +kernel
theorem dc_I_needs_19 : decode prog_1_method_37_code 19 = .ok (.invokevirtual 299, 3) := by decide +kernel
theorem dc_I_needs_38 : decode prog_1_method_37_code 38 = .ok (.invokevirtual 303, 3) := by decide +kernel
theorem dc_I_needs_51 : decode prog_1_method_37_code 51 = .ok (.invokevirtual 443, 3) := by decide +kernel
theorem dc_I_needs_54 : decode prog_1_method_37_code 54 = .ok (.lreturn, 1) := by decide +kernel
def f_I_needs (x1 : Int32) (x2 : Int32) (x3 : Int32) (x4 : Int32) (x5 : Int32) (x6 : Int32) (x7 : Int32) (h : ia_H) : Option (Int64 × ia_H) := (f_I_stage x1 x2 x3 x4 h).bind fun v1 => (if v1.1 = 0 then (some ((-1), v1.2)) else ((f_I_isTrip x5 x6 x7 v1.2).bind fun v2 => (if v2 = 0 then (some ((-1), v1.2)) else ((f_Wa_survey 303 0 v1.2).bind fun v3 => ((f_Wa_neededCells x5 x6 x7 v3).bind fun v4 => (some (v4.1, v4.2)))))))
theorem g_I_needs {w : ia_O0} {x1 : Int32} {x2 : Int32} {x3 : Int32} {x4 : Int32} {x5 : Int32} {x6 : Int32} {x7 : Int32} {h : ia_H} (hg : gd_ w h) {q : (Int64 × ia_H)} (hm : f_I_needs x1 x2 x3 x4 x5 x6 x7 h = some q) : gd_ w q.2 := by
  obtain ⟨r, h1⟩ := q
  unfold f_I_needs at hm
  obtain ⟨v1, hv1, hm⟩ := ia_bnd hm
  have gv1 := g_I_stage hg hv1
  by_cases c : v1.1 = 0
  · replace hm := ia_ifp hm c
    obtain ⟨rfl, rfl⟩ := Prod.mk.inj (Option.some.inj hm)
    exact gv1
  · replace hm := ia_ifn hm c
    obtain ⟨v2, hv2, hm⟩ := ia_bnd hm
    by_cases c : v2 = 0
    · replace hm := ia_ifp hm c
      obtain ⟨rfl, rfl⟩ := Prod.mk.inj (Option.some.inj hm)
      exact gv1
    · replace hm := ia_ifn hm c
      obtain ⟨v3, hv3, hm⟩ := ia_bnd hm
      have gv3 := g_Wa_survey gv1 (ka_0_4 pk_64) hv3
      obtain ⟨v4, hv4, hm⟩ := ia_bnd hm
      have gv4 := g_Wa_neededCells gv3 hv4
      obtain ⟨rfl, rfl⟩ := Prod.mk.inj (Option.some.inj hm)
      exact gv4
theorem t_I_needs {w : ia_O0} (d : Nat) {x1 : Int32} {x2 : Int32} {x3 : Int32} {x4 : Int32} {x5 : Int32} {x6 : Int32} {x7 : Int32} {h : ia_H} (hg : gd_ w h) {q : (Int64 × ia_H)} (hm : f_I_needs x1 x2 x3 x4 x5 x6 x7 h = some q) : ia_Ev (d + 7) mm_I_needs [.inr (.inr 64), .inl x1, .inl x2, .inl x3, .inl x4, .inl x5, .inl x6, .inl x7] h (some (.inr (.inl q.1))) q.2 := by
  have gq := g_I_needs hg hm
  refine ia_Ev_intro ok_I_needs (gd_le hg gq).1 (gd_le hg gq).2 (Nat.le_of_ble_eq_true rfl) (fun K hK hret => ?_)
  obtain ⟨r, h1⟩ := q
  show K 0 [some (.inr (.inr 64)), some (.inl x1), some (.inl x2), some (.inl x3), some (.inl x4), some (.inl x5), some (.inl x6), some (.inl x7)] [] h
  unfold f_I_needs at hm
  refine ia_go hK ck_I_needs_0 ?_
  show K 6 [some (.inr (.inr 64)), some (.inl x1), some (.inl x2), some (.inl x3), some (.inl x4), some (.inl x5), some (.inl x6), some (.inl x7)] [.inl x4, .inl x3, .inl x2, .inl x1, .inr (.inr 64)] h
  obtain ⟨v1, hv1, hm⟩ := ia_bnd hm
  have ev1 := t_I_stage (d + 0) hg hv1
  have gv1 := g_I_stage hg hv1
  refine ia_cV hK mk_I_stage lk_0_266 dc_I_needs_6 64 [.inl x1, .inl x2, .inl x3, .inl x4] [] rfl rfl (Nat.le_of_ble_eq_true rfl) (by decide) rfl (gk_0 hg pk_64) ev1 (gd_nm hg gv1) ?_
  show K 9 [some (.inr (.inr 64)), some (.inl x1), some (.inl x2), some (.inl x3), some (.inl x4), some (.inl x5), some (.inl x6), some (.inl x7)] [.inl v1.1] v1.2
  refine ia_go hK ck_I_needs_9 ⟨fun c => ?_, fun c => ?_⟩
  · replace hm := ia_ifp hm c
    show K 25 [some (.inr (.inr 64)), some (.inl x1), some (.inl x2), some (.inl x3), some (.inl x4), some (.inl x5), some (.inl x6), some (.inl x7)] [] v1.2
    refine ia_ldc2 hK (v := (-1)) (ia_tb_in (List.mem_of_getElem? (i := 1265) (by decide +kernel)) rfl) dc_I_needs_25 ?_
    show K 28 [some (.inr (.inr 64)), some (.inl x1), some (.inl x2), some (.inl x3), some (.inl x4), some (.inl x5), some (.inl x6), some (.inl x7)] [.inr (.inl (-1))] v1.2
    obtain ⟨rfl, rfl⟩ := Prod.mk.inj (Option.some.inj hm)
    exact hret 28 _ dc_I_needs_28
  · replace hm := ia_ifn hm c
    show K 12 [some (.inr (.inr 64)), some (.inl x1), some (.inl x2), some (.inl x3), some (.inl x4), some (.inl x5), some (.inl x6), some (.inl x7)] [] v1.2
    refine ia_go hK ck_I_needs_12 ?_
    show K 19 [some (.inr (.inr 64)), some (.inl x1), some (.inl x2), some (.inl x3), some (.inl x4), some (.inl x5), some (.inl x6), some (.inl x7)] [.inl x7, .inl x6, .inl x5, .inr (.inr 64)] v1.2
    obtain ⟨v2, hv2, hm⟩ := ia_bnd hm
    have ev2 := t_I_isTrip (d + 5) gv1 hv2
    refine ia_cV hK mk_I_isTrip lk_0_299 dc_I_needs_19 64 [.inl x5, .inl x6, .inl x7] [] rfl rfl (Nat.le_of_ble_eq_true rfl) (by decide) rfl (gk_0 gv1 pk_64) ev2 ⟨rfl, rfl⟩ ?_
    show K 22 [some (.inr (.inr 64)), some (.inl x1), some (.inl x2), some (.inl x3), some (.inl x4), some (.inl x5), some (.inl x6), some (.inl x7)] [.inl v2] v1.2
    refine ia_go hK ck_I_needs_22 ⟨fun c => ?_, fun c => ?_⟩
    · replace hm := ia_ifn hm c
      show K 29 [some (.inr (.inr 64)), some (.inl x1), some (.inl x2), some (.inl x3), some (.inl x4), some (.inl x5), some (.inl x6), some (.inl x7)] [] v1.2
      refine ia_go hK ck_I_needs_29 ⟨gk_0 gv1 pk_64, gr_0_5 gv1 pk_64, gk_0 gv1 pk_64, gr_0_4 gv1 pk_64, ?_⟩
      show K 38 [some (.inr (.inr 64)), some (.inl x1), some (.inl x2), some (.inl x3), some (.inl x4), some (.inl x5), some (.inl x6), some (.inl x7)] [.inl 0, .inr (.inr 303), .inr (.inr 311)] v1.2
      obtain ⟨v3, hv3, hm⟩ := ia_bnd hm
      have ev3 := t_Wa_survey (d + 5) gv1 (ka_0_4 pk_64) hv3
      have gv3 := g_Wa_survey gv1 (ka_0_4 pk_64) hv3
      refine ia_cV hK mk_Wa_survey lk_0_303 dc_I_needs_38 311 [.inr (.inr 303), .inl 0] [] rfl rfl (Nat.le_of_ble_eq_true rfl) (by decide) rfl (gk_11 gv1 (ka_0_5 pk_64)) ev3 (gd_nm gv1 gv3) ?_
      show K 41 [some (.inr (.inr 64)), some (.inl x1), some (.inl x2), some (.inl x3), some (.inl x4), some (.inl x5), some (.inl x6), some (.inl x7)] [] v3
      refine ia_go hK ck_I_needs_41 ⟨gk_0 gv3 pk_64, gr_0_5 gv3 pk_64, ?_⟩
      show K 51 [some (.inr (.inr 64)), some (.inl x1), some (.inl x2), some (.inl x3), some (.inl x4), some (.inl x5), some (.inl x6), some (.inl x7)] [.inl x7, .inl x6, .inl x5, .inr (.inr 311)] v3
      obtain ⟨v4, hv4, hm⟩ := ia_bnd hm
      have ev4 := t_Wa_neededCells (d + 3) gv3 hv4
      have gv4 := g_Wa_neededCells gv3 hv4
      refine ia_cV hK mk_Wa_neededCells lk_0_443 dc_I_needs_51 311 [.inl x5, .inl x6, .inl x7] [] rfl rfl (Nat.le_of_ble_eq_true rfl) (by decide) rfl (gk_11 gv3 (ka_0_5 pk_64)) ev4 (gd_nm gv3 gv4) ?_
      show K 54 [some (.inr (.inr 64)), some (.inl x1), some (.inl x2), some (.inl x3), some (.inl x4), some (.inl x5), some (.inl x6), some (.inl x7)] [.inr (.inl v4.1)] v4.2
      obtain ⟨rfl, rfl⟩ := Prod.mk.inj (Option.some.inj hm)
      exact hret 54 _ dc_I_needs_54
    · replace hm := ia_ifp hm c
      show K 25 [some (.inr (.inr 64)), some (.inl x1), some (.inl x2), some (.inl x3), some (.inl x4), some (.inl x5), some (.inl x6), some (.inl x7)] [] v1.2
      refine ia_ldc2 hK (v := (-1)) (ia_tb_in (List.mem_of_getElem? (i := 1265) (by decide +kernel)) rfl) dc_I_needs_25 ?_
      show K 28 [some (.inr (.inr 64)), some (.inl x1), some (.inl x2), some (.inl x3), some (.inl x4), some (.inl x5), some (.inl x6), some (.inl x7)] [.inr (.inl (-1))] v1.2
      obtain ⟨rfl, rfl⟩ := Prod.mk.inj (Option.some.inj hm)
      exact hret 28 _ dc_I_needs_28
def mm_Sc_nearestStoves : ia_M := (⟨"IceStreet$Scene", "nearestStoves", "()I"⟩, prog_10_method_27_code, 5, (some .int), 9, false)
theorem ok_Sc_nearestStoves : ia_mok mm_Sc_nearestStoves := ⟨by decide +kernel, by decide +kernel, by decide +kernel, by decide +kernel⟩
theorem mk_Sc_nearestStoves : ia_mkn mm_Sc_nearestStoves 1 0 := ⟨ia_tb_in (List.mem_of_getElem? (i := 1581) (by decide +kernel)) rfl, ia_tb_in (List.mem_of_getElem? (i := 140) (by decide +kernel)) rfl, by decide +kernel, by decide +kernel, ⟨ia_tb_in (List.mem_of_getElem? (i := 1579) (by decide +kernel)) rfl, ia_tb_in (List.mem_of_getElem? (i := 1580) (by decide +kernel)) rfl⟩⟩
theorem ck_Sc_nearestStoves_0 : ia_cks 9 5 false prog_10_method_27_code 0 [(.iconst (-1), 0, 0, 0, 0), (.istore_n 1, 0, 0, 0, 0), (.iconst 0, 0, 0, 0, 0), (.istore_n 2, 0, 0, 0, 0)] = true := by decide +kernel
theorem ck_Sc_nearestStoves_4 : ia_cks 9 5 false prog_10_method_27_code 4 [(.iload_n 2, 0, 0, 0, 0), (.aload_n 0, 0, 0, 0, 0), (.getfield 33, 9, 0, 2, 0), (.getfield 66, 3, 11, 0, 0), (.if_icmp .ge 96, 0, 0, 0, 0)] = true := by decide +kernel
theorem ck_Sc_nearestStoves_15 : ia_cks 9 5 false prog_10_method_27_code 15 [(.iconst 0, 0, 0, 0, 0), (.istore_n 3, 0, 0, 0, 0)] = true := by decide +kernel
theorem ck_Sc_nearestStoves_17 : ia_cks 9 5 false prog_10_method_27_code 17 [(.iload_n 3, 0, 0, 0, 0), (.iload_n 2, 0, 0, 0, 0), (.if_icmp .ge 83, 0, 0, 0, 0)] = true := by decide +kernel
theorem ck_Sc_nearestStoves_22 : ia_cks 9 5 false prog_10_method_27_code 22 [(.aload_n 0, 0, 0, 0, 0), (.getfield 24, 9, 6, 3, 5), (.iload_n 2, 0, 0, 0, 0), (.iaload, 0, 0, 0, 0), (.ifCond .lt 68, 0, 0, 0, 0)] = true := by decide +kernel
theorem ck_Sc_nearestStoves_96 : ia_cks 9 5 false prog_10_method_27_code 96 [(.iinc 3 1, 0, 0, 0, 0), (.goto (-82), 0, 0, 0, 0)] = true := by decide +kernel
theorem ck_Sc_nearestStoves_31 : ia_cks 9 5 false prog_10_method_27_code 31 [(.aload_n 0, 0, 0, 0, 0), (.getfield 30, 9, 8, 3, 7), (.iload_n 2, 0, 0, 0, 0), (.iaload, 0, 0, 0, 0), (.ifCond .le 59, 0, 0, 0, 0)] = true := by decide +kernel
theorem ck_Sc_nearestStoves_40 : ia_cks 9 5 false prog_10_method_27_code 40 [(.aload_n 0, 0, 0, 0, 0), (.getfield 24, 9, 6, 3, 5), (.iload_n 3, 0, 0, 0, 0), (.iaload, 0, 0, 0, 0), (.ifCond .lt 50, 0, 0, 0, 0)] = true := by decide +kernel
theorem ck_Sc_nearestStoves_49 : ia_cks 9 5 false prog_10_method_27_code 49 [(.aload_n 0, 0, 0, 0, 0), (.getfield 30, 9, 8, 3, 7), (.iload_n 3, 0, 0, 0, 0), (.iaload, 0, 0, 0, 0), (.ifCond .le 41, 0, 0, 0, 0)] = true := by decide +kernel
theorem ck_Sc_nearestStoves_58 : ia_cks 9 5 false prog_10_method_27_code 58 [(.aload_n 0, 0, 0, 0, 0), (.getfield 33, 9, 0, 2, 0), (.aload_n 0, 0, 0, 0, 0), (.getfield 24, 9, 6, 3, 5), (.iload_n 2, 0, 0, 0, 0), (.iaload, 0, 0, 0, 0), (.aload_n 0, 0, 0, 0, 0), (.getfield 24, 9, 6, 3, 5), (.iload_n 3, 0, 0, 0, 0), (.iaload, 0, 0, 0, 0)] = true := by decide +kernel
theorem ck_Sc_nearestStoves_77 : ia_cks 9 5 false prog_10_method_27_code 77 [(.istore 4, 0, 0, 0, 0), (.iload_n 1, 0, 0, 0, 0), (.iconst (-1), 0, 0, 0, 0), (.if_icmp .ne 8, 0, 0, 0, 0)] = true := by decide +kernel
theorem ck_Sc_nearestStoves_89 : ia_cks 9 5 false prog_10_method_27_code 89 [(.iload_n 1, 0, 0, 0, 0), (.iload 4, 0, 0, 0, 0)] = true := by decide +kernel
theorem ck_Sc_nearestStoves_95 : ia_cks 9 5 false prog_10_method_27_code 95 [(.istore_n 1, 0, 0, 0, 0), (.iinc 3 1, 0, 0, 0, 0), (.goto (-82), 0, 0, 0, 0)] = true := by decide +kernel
theorem ck_Sc_nearestStoves_84 : ia_cks 9 5 false prog_10_method_27_code 84 [(.iload 4, 0, 0, 0, 0), (.goto 9, 0, 0, 0, 0)] = true := by decide +kernel
theorem ck_Sc_nearestStoves_102 : ia_cks 9 5 false prog_10_method_27_code 102 [(.iinc 2 1, 0, 0, 0, 0), (.goto (-101), 0, 0, 0, 0)] = true := by decide +kernel
theorem ck_Sc_nearestStoves_108 : ia_cks 9 5 false prog_10_method_27_code 108 [(.iload_n 1, 0, 0, 0, 0)] = true := by decide +kernel
theorem dc_Sc_nearestStoves_74 : decode prog_10_method_27_code 74 = .ok (.invokevirtual 140, 3) := by decide +kernel
theorem dc_Sc_nearestStoves_92 : decode prog_10_method_27_code 92 = .ok (.invokestatic 123, 3) := by decide +kernel
theorem dc_Sc_nearestStoves_109 : decode prog_10_method_27_code 109 = .ok (.ireturn, 1) := by decide +kernel
def l_Sc_nearestStoves_17 (a0 : Nat) (h : ia_H) (k102 : Int32 → Int32 → Option Int32) (n : Nat) (x1 : Int32) (x2 : Int32) (x3 : Int32) : Option Int32 := match n with
  | 0 => none
  | n + 1 => if x2 ≤ x3 then (k102 x1 x2) else (ia_gd (ia_ib x2 6) (if (ia_i h (a0 + 5) ((x2).toNatClampNeg)) < 0 then (l_Sc_nearestStoves_17 a0 h k102 n x1 x2 (x3 + 1)) else (ia_gd (ia_ib x2 6) (if (ia_i h (a0 + 7) ((x2).toNatClampNeg)) ≤ 0 then (l_Sc_nearestStoves_17 a0 h k102 n x1 x2 (x3 + 1)) else (ia_gd (ia_ib x3 6) (if (ia_i h (a0 + 5) ((x3).toNatClampNeg)) < 0 then (l_Sc_nearestStoves_17 a0 h k102 n x1 x2 (x3 + 1)) else (ia_gd (ia_ib x3 6) (if (ia_i h (a0 + 7) ((x3).toNatClampNeg)) ≤ 0 then (l_Sc_nearestStoves_17 a0 h k102 n x1 x2 (x3 + 1)) else (ia_gd (ia_ib x2 6) (ia_gd (ia_ib x3 6) ((f_La_steps (ia_r h a0 0) (ia_i h (a0 + 5) ((x2).toNatClampNeg)) (ia_i h (a0 + 5) ((x3).toNatClampNeg)) h).bind fun v7 => (if x1 = (-1) then (l_Sc_nearestStoves_17 a0 h k102 n v7 x2 (x3 + 1)) else (l_Sc_nearestStoves_17 a0 h k102 n (ia_min x1 v7) x2 (x3 + 1))))))))))))))
theorem tl_Sc_nearestStoves_17 {w : ia_O0} {d N1 W1 : Nat} {K : ia_K} (hK : ia_isK (d + 1) mm_Sc_nearestStoves N1 W1 K) {a0 : Nat} {h : ia_H} (hg : gd_ w h) (p0 : (kd_D a0).1 = 9) {r : Int32} (hret : ∀ (pc : Nat) (lv : ia_L), ia_ret mm_Sc_nearestStoves pc (some (.inl r)) → K pc lv ((some (.inl r)) : Option ia_V).toList h) {k102 : Int32 → Int32 → Option Int32} (hk102 : ∀ (x1 : Int32) (x2 : Int32), k102 x1 x2 = some r → K 102 [some (.inr (.inr a0)), some (.inl x1), some (.inl x2), none, none] [] h) : ∀ (n : Nat) (x1 : Int32) (x2 : Int32) (x3 : Int32), l_Sc_nearestStoves_17 a0 h k102 n x1 x2 x3 = some r → K 17 [some (.inr (.inr a0)), some (.inl x1), some (.inl x2), some (.inl x3), none] [] h := by
  intro n
  induction n with
  | zero =>
    intro x1 x2 x3 hm
    cases (show (none : Option Int32) = some _ from hm)
  | succ n ih =>
    intro x1 x2 x3 hm
    rw [l_Sc_nearestStoves_17] at hm
    refine ia_go hK ck_Sc_nearestStoves_17 ⟨fun c => ?_, fun c => ?_⟩
    · replace hm := ia_ifp hm c
      show K 102 [some (.inr (.inr a0)), some (.inl x1), some (.inl x2), some (.inl x3), none] [] h
      refine ia_fg hK (lv' := [some (.inr (.inr a0)), some (.inl x1), some (.inl x2), none, none]) ⟨rfl, rfl, rfl, trivial⟩ ?_
      exact hk102 x1 x2 hm
    · replace hm := ia_ifn hm c
      show K 22 [some (.inr (.inr a0)), some (.inl x1), some (.inl x2), some (.inl x3), none] [] h
      obtain ⟨c1, hm⟩ := ia_gd_some hm
      refine ia_go hK ck_Sc_nearestStoves_22 ⟨gk_9 hg p0, gr_9_6 hg p0, ga_i100 hg (ka_9_6 p0) c1, fun c => ?_, fun c => ?_⟩
      · replace hm := ia_ifp hm c
        show K 96 [some (.inr (.inr a0)), some (.inl x1), some (.inl x2), some (.inl x3), none] [] h
        refine ia_go hK ck_Sc_nearestStoves_96 ?_
        show K 17 [some (.inr (.inr a0)), some (.inl x1), some (.inl x2), some (.inl (x3 + 1)), none] [] h
        exact ih x1 x2 (x3 + 1) hm
      · replace hm := ia_ifn hm c
        show K 31 [some (.inr (.inr a0)), some (.inl x1), some (.inl x2), some (.inl x3), none] [] h
        obtain ⟨c2, hm⟩ := ia_gd_some hm
        refine ia_go hK ck_Sc_nearestStoves_31 ⟨gk_9 hg p0, gr_9_8 hg p0, ga_i100 hg (ka_9_8 p0) c2, fun c => ?_, fun c => ?_⟩
        · replace hm := ia_ifp hm c
          show K 96 [some (.inr (.inr a0)), some (.inl x1), some (.inl x2), some (.inl x3), none] [] h
          refine ia_go hK ck_Sc_nearestStoves_96 ?_
          show K 17 [some (.inr (.inr a0)), some (.inl x1), some (.inl x2), some (.inl (x3 + 1)), none] [] h
          exact ih x1 x2 (x3 + 1) hm
        · replace hm := ia_ifn hm c
          show K 40 [some (.inr (.inr a0)), some (.inl x1), some (.inl x2), some (.inl x3), none] [] h
          obtain ⟨c3, hm⟩ := ia_gd_some hm
          refine ia_go hK ck_Sc_nearestStoves_40 ⟨gk_9 hg p0, gr_9_6 hg p0, ga_i100 hg (ka_9_6 p0) c3, fun c => ?_, fun c => ?_⟩
          · replace hm := ia_ifp hm c
            show K 96 [some (.inr (.inr a0)), some (.inl x1), some (.inl x2), some (.inl x3), none] [] h
            refine ia_go hK ck_Sc_nearestStoves_96 ?_
            show K 17 [some (.inr (.inr a0)), some (.inl x1), some (.inl x2), some (.inl (x3 + 1)), none] [] h
            exact ih x1 x2 (x3 + 1) hm
          · replace hm := ia_ifn hm c
            show K 49 [some (.inr (.inr a0)), some (.inl x1), some (.inl x2), some (.inl x3), none] [] h
            obtain ⟨c4, hm⟩ := ia_gd_some hm
            refine ia_go hK ck_Sc_nearestStoves_49 ⟨gk_9 hg p0, gr_9_8 hg p0, ga_i100 hg (ka_9_8 p0) c4, fun c => ?_, fun c => ?_⟩
            · replace hm := ia_ifp hm c
              show K 96 [some (.inr (.inr a0)), some (.inl x1), some (.inl x2), some (.inl x3), none] [] h
              refine ia_go hK ck_Sc_nearestStoves_96 ?_
              show K 17 [some (.inr (.inr a0)), some (.inl x1), some (.inl x2), some (.inl (x3 + 1)), none] [] h
              exact ih x1 x2 (x3 + 1) hm
            · replace hm := ia_ifn hm c
              show K 58 [some (.inr (.inr a0)), some (.inl x1), some (.inl x2), some (.inl x3), none] [] h
              obtain ⟨c5, hm⟩ := ia_gd_some hm
              obtain ⟨c6, hm⟩ := ia_gd_some hm
              refine ia_go hK ck_Sc_nearestStoves_58 ⟨gk_9 hg p0, gk_9 hg p0, gr_9_6 hg p0, ga_i100 hg (ka_9_6 p0) c5, gk_9 hg p0, gr_9_6 hg p0, ga_i100 hg (ka_9_6 p0) c6, ?_⟩
              show K 74 [some (.inr (.inr a0)), some (.inl x1), some (.inl x2), some (.inl x3), none] [.inl (ia_i h (a0 + 5) ((x3).toNatClampNeg)), .inl (ia_i h (a0 + 5) ((x2).toNatClampNeg)), .inr (.inr (ia_r h a0 0))] h
              obtain ⟨v7, hv7, hm⟩ := ia_bnd hm
              have ev7 := t_La_steps (d + 0) hg (gm_9_0 hg p0) hv7
              refine ia_cV hK mk_La_steps lk_9_140 dc_Sc_nearestStoves_74 (ia_r h a0 0) [.inl (ia_i h (a0 + 5) ((x2).toNatClampNeg)), .inl (ia_i h (a0 + 5) ((x3).toNatClampNeg))] [] rfl rfl (Nat.le_of_ble_eq_true rfl) (by decide) rfl (gk_3 hg (gm_9_0 hg p0)) ev7 ⟨rfl, rfl⟩ ?_
              show K 77 [some (.inr (.inr a0)), some (.inl x1), some (.inl x2), some (.inl x3), none] [.inl v7] h
              refine ia_go hK ck_Sc_nearestStoves_77 ⟨fun c => ?_, fun c => ?_⟩
              · replace hm := ia_ifn hm c
                show K 89 [some (.inr (.inr a0)), some (.inl x1), some (.inl x2), some (.inl x3), some (.inl v7)] [] h
                refine ia_go hK ck_Sc_nearestStoves_89 ?_
                show K 92 [some (.inr (.inr a0)), some (.inl x1), some (.inl x2), some (.inl x3), some (.inl v7)] [.inl v7, .inl x1] h
                refine ia_mmin hK (ia_tb_in (List.mem_of_getElem? (i := 1088) (by decide +kernel)) rfl) dc_Sc_nearestStoves_92 (Nat.le_of_ble_eq_true rfl) ?_
                show K 95 [some (.inr (.inr a0)), some (.inl x1), some (.inl x2), some (.inl x3), some (.inl v7)] [.inl (ia_min x1 v7)] h
                refine ia_go hK ck_Sc_nearestStoves_95 ?_
                show K 17 [some (.inr (.inr a0)), some (.inl (ia_min x1 v7)), some (.inl x2), some (.inl (x3 + 1)), some (.inl v7)] [] h
                refine ia_fg hK (lv' := [some (.inr (.inr a0)), some (.inl (ia_min x1 v7)), some (.inl x2), some (.inl (x3 + 1)), none]) ⟨rfl, rfl, rfl, rfl, trivial⟩ ?_
                exact ih (ia_min x1 v7) x2 (x3 + 1) hm
              · replace hm := ia_ifp hm c
                show K 84 [some (.inr (.inr a0)), some (.inl x1), some (.inl x2), some (.inl x3), some (.inl v7)] [] h
                refine ia_go hK ck_Sc_nearestStoves_84 ?_
                show K 95 [some (.inr (.inr a0)), some (.inl x1), some (.inl x2), some (.inl x3), some (.inl v7)] [.inl v7] h
                refine ia_go hK ck_Sc_nearestStoves_95 ?_
                show K 17 [some (.inr (.inr a0)), some (.inl v7), some (.inl x2), some (.inl (x3 + 1)), some (.inl v7)] [] h
                refine ia_fg hK (lv' := [some (.inr (.inr a0)), some (.inl v7), some (.inl x2), some (.inl (x3 + 1)), none]) ⟨rfl, rfl, rfl, rfl, trivial⟩ ?_
                exact ih v7 x2 (x3 + 1) hm
def l_Sc_nearestStoves_4 (a0 : Nat) (h : ia_H) (k108 : Int32 → Option Int32) (n : Nat) (x1 : Int32) (x2 : Int32) : Option Int32 := match n with
  | 0 => none
  | n + 1 => if (ia_i h (ia_r h a0 0) 11) ≤ x2 then (k108 x1) else (l_Sc_nearestStoves_17 a0 h (fun x1 x2 => l_Sc_nearestStoves_4 a0 h k108 n x1 (x2 + 1)) fu_ x1 x2 0)
theorem tl_Sc_nearestStoves_4 {w : ia_O0} {d N1 W1 : Nat} {K : ia_K} (hK : ia_isK (d + 1) mm_Sc_nearestStoves N1 W1 K) {a0 : Nat} {h : ia_H} (hg : gd_ w h) (p0 : (kd_D a0).1 = 9) {r : Int32} (hret : ∀ (pc : Nat) (lv : ia_L), ia_ret mm_Sc_nearestStoves pc (some (.inl r)) → K pc lv ((some (.inl r)) : Option ia_V).toList h) {k108 : Int32 → Option Int32} (hk108 : ∀ (x1 : Int32), k108 x1 = some r → K 108 [none, some (.inl x1), none, none, none] [] h) : ∀ (n : Nat) (x1 : Int32) (x2 : Int32), l_Sc_nearestStoves_4 a0 h k108 n x1 x2 = some r → K 4 [some (.inr (.inr a0)), some (.inl x1), some (.inl x2), none, none] [] h := by
  intro n
  induction n with
  | zero =>
    intro x1 x2 hm
    cases (show (none : Option Int32) = some _ from hm)
  | succ n ih =>
    intro x1 x2 hm
    rw [l_Sc_nearestStoves_4] at hm
    refine ia_go hK ck_Sc_nearestStoves_4 ⟨gk_9 hg p0, gk_3 hg (gm_9_0 hg p0), fun c => ?_, fun c => ?_⟩
    · replace hm := ia_ifp hm c
      show K 108 [some (.inr (.inr a0)), some (.inl x1), some (.inl x2), none, none] [] h
      refine ia_fg hK (lv' := [none, some (.inl x1), none, none, none]) ⟨rfl, trivial⟩ ?_
      exact hk108 x1 hm
    · replace hm := ia_ifn hm c
      show K 15 [some (.inr (.inr a0)), some (.inl x1), some (.inl x2), none, none] [] h
      refine ia_go hK ck_Sc_nearestStoves_15 ?_
      show K 17 [some (.inr (.inr a0)), some (.inl x1), some (.inl x2), some (.inl 0), none] [] h
      refine tl_Sc_nearestStoves_17 hK hg p0 hret ?_ fu_ x1 x2 0 hm
      · intro x1 x2 hm
        refine ia_go hK ck_Sc_nearestStoves_102 ?_
        show K 4 [some (.inr (.inr a0)), some (.inl x1), some (.inl (x2 + 1)), none, none] [] h
        exact ih x1 (x2 + 1) hm
def f_Sc_nearestStoves (a0 : Nat) (h : ia_H) : Option Int32 := l_Sc_nearestStoves_4 a0 h (fun x1 => some x1) fu_ (-1) 0
theorem t_Sc_nearestStoves {w : ia_O0} (d : Nat) {a0 : Nat} {h : ia_H} (hg : gd_ w h) (p0 : (kd_D a0).1 = 9) {r : Int32} (hm : f_Sc_nearestStoves a0 h = some r) : ia_Ev (d + 1) mm_Sc_nearestStoves [.inr (.inr a0)] h (some (.inl r)) h := by
  refine ia_Ev_intro ok_Sc_nearestStoves (Nat.le_refl _) (Nat.le_refl _) (Nat.le_of_ble_eq_true rfl) (fun K hK hret => ?_)
  show K 0 [some (.inr (.inr a0)), none, none, none, none] [] h
  unfold f_Sc_nearestStoves at hm
  refine ia_go hK ck_Sc_nearestStoves_0 ?_
  show K 4 [some (.inr (.inr a0)), some (.inl (-1)), some (.inl 0), none, none] [] h
  refine tl_Sc_nearestStoves_4 hK hg p0 hret ?_ fu_ (-1) 0 hm
  · intro x1 hm
    refine ia_go hK ck_Sc_nearestStoves_108 ?_
    show K 109 [none, some (.inl x1), none, none, none] [.inl x1] h
    obtain rfl := Option.some.inj hm
    exact hret 109 _ dc_Sc_nearestStoves_109
def mm_I_spread : ia_M := (⟨"IceStreet", "spread", "(IIII)I"⟩, prog_1_method_38_code, 5, (some .int), 0, false)
theorem ok_I_spread : ia_mok mm_I_spread := ⟨by decide +kernel, by decide +kernel, by decide +kernel, by decide +kernel⟩
theorem mk_I_spread : ia_mkn mm_I_spread 1 4 := ⟨ia_tb_in (List.mem_of_getElem? (i := 1577) (by decide +kernel)) rfl, ia_tb_in (List.mem_of_getElem? (i := 133) (by decide +kernel)) rfl, by decide +kernel, by decide +kernel, ⟨ia_tb_in (List.mem_of_getElem? (i := 1575) (by decide +kernel)) rfl, ia_tb_in (List.mem_of_getElem? (i := 1576) (by decide +kernel)) rfl⟩⟩
theorem ck_I_spread_0 : ia_cks 0 5 false prog_1_method_38_code 0 [(.aload_n 0, 0, 0, 0, 0), (.iload_n 1, 0, 0, 0, 0), (.iload_n 2, 0, 0, 0, 0), (.iload_n 3, 0, 0, 0, 0), (.iload 4, 0, 0, 0, 0)] = true := by decide +kernel
theorem ck_I_spread_9 : ia_cks 0 5 false prog_1_method_38_code 9 [(.ifCond .ne 5, 0, 0, 0, 0)] = true := by decide +kernel
theorem ck_I_spread_14 : ia_cks 0 5 false prog_1_method_38_code 14 [(.aload_n 0, 0, 0, 0, 0), (.getfield 44, 0, 4, 3, 239)] = true := by decide +kernel
theorem ck_I_spread_12 : ia_cks 0 5 false prog_1_method_38_code 12 [(.iconst (-1), 0, 0, 0, 0)] = true := by decide +kernel
theorem dc_I_spread_6 : decode prog_1_method_38_code 6 = .ok (.invokevirtual 266, 3) := by decide +kernel
theorem dc_I_spread_18 : decode prog_1_method_38_code 18 = .ok (.invokevirtual 447, 3) := by decide +kernel
theorem dc_I_spread_21 : decode prog_1_method_38_code 21 = .ok (.ireturn, 1) := by decide +kernel
theorem dc_I_spread_13 : decode prog_1_method_38_code 13 = .ok (.ireturn, 1) := by decide +kernel
def f_I_spread (x1 : Int32) (x2 : Int32) (x3 : Int32) (x4 : Int32) (h : ia_H) : Option (Int32 × ia_H) := (f_I_stage x1 x2 x3 x4 h).bind fun v1 => (if v1.1 = 0 then (some ((-1), v1.2)) else ((f_Sc_nearestStoves 303 v1.2).bind fun v2 => (some (v2, v1.2))))
theorem g_I_spread {w : ia_O0} {x1 : Int32} {x2 : Int32} {x3 : Int32} {x4 : Int32} {h : ia_H} (hg : gd_ w h) {q : (Int32 × ia_H)} (hm : f_I_spread x1 x2 x3 x4 h = some q) : gd_ w q.2 := by
  obtain ⟨r, h1⟩ := q
  unfold f_I_spread at hm
  obtain ⟨v1, hv1, hm⟩ := ia_bnd hm
  have gv1 := g_I_stage hg hv1
  by_cases c : v1.1 = 0
  · replace hm := ia_ifp hm c
    obtain ⟨rfl, rfl⟩ := Prod.mk.inj (Option.some.inj hm)
    exact gv1
  · replace hm := ia_ifn hm c
    obtain ⟨v2, hv2, hm⟩ := ia_bnd hm
    obtain ⟨rfl, rfl⟩ := Prod.mk.inj (Option.some.inj hm)
    exact gv1
theorem t_I_spread {w : ia_O0} (d : Nat) {x1 : Int32} {x2 : Int32} {x3 : Int32} {x4 : Int32} {h : ia_H} (hg : gd_ w h) {q : (Int32 × ia_H)} (hm : f_I_spread x1 x2 x3 x4 h = some q) : ia_Ev (d + 7) mm_I_spread [.inr (.inr 64), .inl x1, .inl x2, .inl x3, .inl x4] h (some (.inl q.1)) q.2 := by
  have gq := g_I_spread hg hm
  refine ia_Ev_intro ok_I_spread (gd_le hg gq).1 (gd_le hg gq).2 (Nat.le_of_ble_eq_true rfl) (fun K hK hret => ?_)
  obtain ⟨r, h1⟩ := q
  show K 0 [some (.inr (.inr 64)), some (.inl x1), some (.inl x2), some (.inl x3), some (.inl x4)] [] h
  unfold f_I_spread at hm
  refine ia_go hK ck_I_spread_0 ?_
  show K 6 [some (.inr (.inr 64)), some (.inl x1), some (.inl x2), some (.inl x3), some (.inl x4)] [.inl x4, .inl x3, .inl x2, .inl x1, .inr (.inr 64)] h
  obtain ⟨v1, hv1, hm⟩ := ia_bnd hm
  have ev1 := t_I_stage (d + 0) hg hv1
  have gv1 := g_I_stage hg hv1
  refine ia_cV hK mk_I_stage lk_0_266 dc_I_spread_6 64 [.inl x1, .inl x2, .inl x3, .inl x4] [] rfl rfl (Nat.le_of_ble_eq_true rfl) (by decide) rfl (gk_0 hg pk_64) ev1 (gd_nm hg gv1) ?_
  show K 9 [some (.inr (.inr 64)), some (.inl x1), some (.inl x2), some (.inl x3), some (.inl x4)] [.inl v1.1] v1.2
  refine ia_go hK ck_I_spread_9 ⟨fun c => ?_, fun c => ?_⟩
  · replace hm := ia_ifn hm c
    show K 14 [some (.inr (.inr 64)), some (.inl x1), some (.inl x2), some (.inl x3), some (.inl x4)] [] v1.2
    refine ia_go hK ck_I_spread_14 ⟨gk_0 gv1 pk_64, gr_0_4 gv1 pk_64, ?_⟩
    show K 18 [some (.inr (.inr 64)), some (.inl x1), some (.inl x2), some (.inl x3), some (.inl x4)] [.inr (.inr 303)] v1.2
    obtain ⟨v2, hv2, hm⟩ := ia_bnd hm
    have ev2 := t_Sc_nearestStoves (d + 5) gv1 (ka_0_4 pk_64) hv2
    refine ia_cV hK mk_Sc_nearestStoves lk_0_447 dc_I_spread_18 303 [] [] rfl rfl (Nat.le_of_ble_eq_true rfl) (by decide) rfl (gk_9 gv1 (ka_0_4 pk_64)) ev2 ⟨rfl, rfl⟩ ?_
    show K 21 [some (.inr (.inr 64)), some (.inl x1), some (.inl x2), some (.inl x3), some (.inl x4)] [.inl v2] v1.2
    obtain ⟨rfl, rfl⟩ := Prod.mk.inj (Option.some.inj hm)
    exact hret 21 _ dc_I_spread_21
  · replace hm := ia_ifp hm c
    show K 12 [some (.inr (.inr 64)), some (.inl x1), some (.inl x2), some (.inl x3), some (.inl x4)] [] v1.2
    refine ia_go hK ck_I_spread_12 ?_
    show K 13 [some (.inr (.inr 64)), some (.inl x1), some (.inl x2), some (.inl x3), some (.inl x4)] [.inl (-1)] v1.2
    obtain ⟨rfl, rfl⟩ := Prod.mk.inj (Option.some.inj hm)
    exact hret 13 _ dc_I_spread_13
def mm_I_count : ia_M := (⟨"IceStreet", "count", "(I)I"⟩, prog_1_method_39_code, 2, (some .int), 0, false)
theorem ok_I_count : ia_mok mm_I_count := ⟨by decide +kernel, by decide +kernel, by decide +kernel, by decide +kernel⟩
theorem mk_I_count : ia_mkn mm_I_count 1 1 := ⟨ia_tb_in (List.mem_of_getElem? (i := 1585) (by decide +kernel)) rfl, ia_tb_in (List.mem_of_getElem? (i := 133) (by decide +kernel)) rfl, by decide +kernel, by decide +kernel, ⟨ia_tb_in (List.mem_of_getElem? (i := 1583) (by decide +kernel)) rfl, ia_tb_in (List.mem_of_getElem? (i := 1584) (by decide +kernel)) rfl⟩⟩
theorem ck_I_count_0 : ia_cks 0 2 false prog_1_method_39_code 0 [(.iload_n 1, 0, 0, 0, 0), (.ifCond .lt 8, 0, 0, 0, 0)] = true := by decide +kernel
theorem ck_I_count_9 : ia_cks 0 2 false prog_1_method_39_code 9 [(.bipush (-2), 0, 0, 0, 0), (.goto 12, 0, 0, 0, 0)] = true := by decide +kernel
theorem ck_I_count_4 : ia_cks 0 2 false prog_1_method_39_code 4 [(.iload_n 1, 0, 0, 0, 0), (.iconst 2, 0, 0, 0, 0), (.if_icmp .le 8, 0, 0, 0, 0)] = true := by decide +kernel
theorem ck_I_count_14 : ia_cks 0 2 false prog_1_method_39_code 14 [(.aload_n 0, 0, 0, 0, 0), (.getfield 10, 0, 0, 3, 1), (.getfield 118, 10, 4, 3, 2), (.iload_n 1, 0, 0, 0, 0), (.iaload, 0, 0, 0, 0)] = true := by decide +kernel
theorem dc_I_count_23 : decode prog_1_method_39_code 23 = .ok (.ireturn, 1) := by decide +kernel
def f_I_count (x1 : Int32) (h : ia_H) : Option Int32 := if x1 < 0 then (some (-2)) else (if x1 ≤ 2 then (ia_gd (ia_ib x1 3) (some (ia_i h 67 ((x1).toNatClampNeg)))) else (some (-2)))
theorem t_I_count {w : ia_O0} (d : Nat) {x1 : Int32} {h : ia_H} (hg : gd_ w h) {r : Int32} (hm : f_I_count x1 h = some r) : ia_Ev (d + 0) mm_I_count [.inr (.inr 64), .inl x1] h (some (.inl r)) h := by
  refine ia_Ev_intro ok_I_count (Nat.le_refl _) (Nat.le_refl _) (Nat.le_of_ble_eq_true rfl) (fun K hK hret => ?_)
  show K 0 [some (.inr (.inr 64)), some (.inl x1)] [] h
  unfold f_I_count at hm
  refine ia_go hK ck_I_count_0 ⟨fun c => ?_, fun c => ?_⟩
  · replace hm := ia_ifp hm c
    show K 9 [some (.inr (.inr 64)), some (.inl x1)] [] h
    refine ia_go hK ck_I_count_9 ?_
    show K 23 [some (.inr (.inr 64)), some (.inl x1)] [.inl (-2)] h
    obtain rfl := Option.some.inj hm
    exact hret 23 _ dc_I_count_23
  · replace hm := ia_ifn hm c
    show K 4 [some (.inr (.inr 64)), some (.inl x1)] [] h
    refine ia_go hK ck_I_count_4 ⟨fun c => ?_, fun c => ?_⟩
    · replace hm := ia_ifp hm c
      show K 14 [some (.inr (.inr 64)), some (.inl x1)] [] h
      obtain ⟨c1, hm⟩ := ia_gd_some hm
      refine ia_go hK ck_I_count_14 ⟨gk_0 hg pk_64, gr_0_0 hg pk_64, gk_10 hg (ka_0_0 pk_64), gr_10_4 hg (ka_0_0 pk_64), ga_i100 hg (ka_10_4 (ka_0_0 pk_64)) c1, ?_⟩
      show K 23 [some (.inr (.inr 64)), some (.inl x1)] [.inl (ia_i h 67 ((x1).toNatClampNeg))] h
      obtain rfl := Option.some.inj hm
      exact hret 23 _ dc_I_count_23
    · replace hm := ia_ifn hm c
      show K 9 [some (.inr (.inr 64)), some (.inl x1)] [] h
      refine ia_go hK ck_I_count_9 ?_
      show K 23 [some (.inr (.inr 64)), some (.inl x1)] [.inl (-2)] h
      obtain rfl := Option.some.inj hm
      exact hret 23 _ dc_I_count_23
def mm_To_become : ia_M := (⟨"IceStreet$Told", "become", "(LIceStreet$Told;)V"⟩, prog_11_method_4_code, 3, none, 10, false)
theorem ok_To_become : ia_mok mm_To_become := ⟨by decide +kernel, by decide +kernel, by decide +kernel, by decide +kernel⟩
theorem mk_To_become : ia_mkn mm_To_become 1 1 := ⟨ia_tb_in (List.mem_of_getElem? (i := 1593) (by decide +kernel)) rfl, ia_tb_in (List.mem_of_getElem? (i := 134) (by decide +kernel)) rfl, by decide +kernel, by decide +kernel, ⟨ia_tb_in (List.mem_of_getElem? (i := 1591) (by decide +kernel)) rfl, ia_tb_in (List.mem_of_getElem? (i := 1592) (by decide +kernel)) rfl⟩⟩
theorem ck_To_become_0 : ia_cks 10 3 false prog_11_method_4_code 0 [(.aload_n 1, 0, 0, 0, 0), (.getfield 9, 10, 0, 3, 1), (.iconst 0, 0, 0, 0, 0), (.aload_n 0, 0, 0, 0, 0), (.getfield 9, 10, 0, 3, 1), (.iconst 0, 0, 0, 0, 0), (.aload_n 1, 0, 0, 0, 0), (.getfield 44, 10, 1, 0, 0)] = true := by decide +kernel
theorem ck_To_become_17 : ia_cks 10 3 false prog_11_method_4_code 17 [(.aload_n 0, 0, 0, 0, 0), (.aload_n 1, 0, 0, 0, 0), (.getfield 44, 10, 1, 0, 0), (.putfield 44, 10, 1, 0, 0), (.aload_n 0, 0, 0, 0, 0), (.aload_n 1, 0, 0, 0, 0), (.getfield 53, 10, 2, 0, 0), (.putfield 53, 10, 2, 0, 0)] = true := by decide +kernel
theorem ck_To_become_33 : ia_cks 10 3 false prog_11_method_4_code 33 [(.aload_n 0, 0, 0, 0, 0), (.aload_n 1, 0, 0, 0, 0), (.getfield 15, 10, 3, 0, 0), (.putfield 15, 10, 3, 0, 0), (.aload_n 1, 0, 0, 0, 0), (.getfield 19, 10, 4, 3, 2), (.iconst 0, 0, 0, 0, 0), (.aload_n 0, 0, 0, 0, 0), (.getfield 19, 10, 4, 3, 2), (.iconst 0, 0, 0, 0, 0), (.aload_n 0, 0, 0, 0, 0), (.getfield 19, 10, 4, 3, 2), (.arraylength, 0, 0, 0, 0)] = true := by decide +kernel
theorem ck_To_become_59 : ia_cks 10 3 false prog_11_method_4_code 59 [(.iconst 0, 0, 0, 0, 0), (.istore_n 2, 0, 0, 0, 0)] = true := by decide +kernel
theorem ck_To_become_61 : ia_cks 10 3 false prog_11_method_4_code 61 [(.iload_n 2, 0, 0, 0, 0), (.aload_n 0, 0, 0, 0, 0), (.getfield 19, 10, 4, 3, 2), (.iconst 0, 0, 0, 0, 0), (.iaload, 0, 0, 0, 0), (.if_icmp .ge 24, 0, 0, 0, 0)] = true := by decide +kernel
theorem ck_To_become_71 : ia_cks 10 3 false prog_11_method_4_code 71 [(.aload_n 0, 0, 0, 0, 0), (.getfield 26, 10, 5, 3, 3), (.iload_n 2, 0, 0, 0, 0), (.aaload, 107, 12, 0, 0), (.aload_n 1, 0, 0, 0, 0), (.getfield 26, 10, 5, 3, 3), (.iload_n 2, 0, 0, 0, 0), (.aaload, 107, 12, 0, 0)] = true := by decide +kernel
theorem ck_To_become_86 : ia_cks 10 3 false prog_11_method_4_code 86 [(.iinc 2 1, 0, 0, 0, 0), (.goto (-28), 0, 0, 0, 0)] = true := by decide +kernel
theorem ck_To_become_92 : ia_cks 10 3 false prog_11_method_4_code 92 [(.iconst 0, 0, 0, 0, 0), (.istore_n 2, 0, 0, 0, 0)] = true := by decide +kernel
theorem ck_To_become_94 : ia_cks 10 3 false prog_11_method_4_code 94 [(.iload_n 2, 0, 0, 0, 0), (.aload_n 0, 0, 0, 0, 0), (.getfield 19, 10, 4, 3, 2), (.iconst 1, 0, 0, 0, 0), (.iaload, 0, 0, 0, 0), (.if_icmp .ge 24, 0, 0, 0, 0)] = true := by decide +kernel
theorem ck_To_become_104 : ia_cks 10 3 false prog_11_method_4_code 104 [(.aload_n 0, 0, 0, 0, 0), (.getfield 33, 10, 6, 3, 28), (.iload_n 2, 0, 0, 0, 0), (.aaload, 108, 4, 0, 0), (.aload_n 1, 0, 0, 0, 0), (.getfield 33, 10, 6, 3, 28), (.iload_n 2, 0, 0, 0, 0), (.aaload, 108, 4, 0, 0)] = true := by decide +kernel
theorem ck_To_become_119 : ia_cks 10 3 false prog_11_method_4_code 119 [(.iinc 2 1, 0, 0, 0, 0), (.goto (-28), 0, 0, 0, 0)] = true := by decide +kernel
theorem ck_To_become_125 : ia_cks 10 3 false prog_11_method_4_code 125 [(.iconst 0, 0, 0, 0, 0), (.istore_n 2, 0, 0, 0, 0)] = true := by decide +kernel
theorem ck_To_become_127 : ia_cks 10 3 false prog_11_method_4_code 127 [(.iload_n 2, 0, 0, 0, 0), (.aload_n 0, 0, 0, 0, 0), (.getfield 19, 10, 4, 3, 2), (.iconst 2, 0, 0, 0, 0), (.iaload, 0, 0, 0, 0), (.if_icmp .ge 24, 0, 0, 0, 0)] = true := by decide +kernel
theorem ck_To_become_137 : ia_cks 10 3 false prog_11_method_4_code 137 [(.aload_n 0, 0, 0, 0, 0), (.getfield 40, 10, 7, 3, 37), (.iload_n 2, 0, 0, 0, 0), (.aaload, 110, 5, 0, 0), (.aload_n 1, 0, 0, 0, 0), (.getfield 40, 10, 7, 3, 37), (.iload_n 2, 0, 0, 0, 0), (.aaload, 110, 5, 0, 0)] = true := by decide +kernel
theorem ck_To_become_152 : ia_cks 10 3 false prog_11_method_4_code 152 [(.iinc 2 1, 0, 0, 0, 0), (.goto (-28), 0, 0, 0, 0)] = true := by decide +kernel
theorem dc_To_become_14 : decode prog_11_method_4_code 14 = .ok (.invokestatic 47, 3) := by decide +kernel
theorem dc_To_become_56 : decode prog_11_method_4_code 56 = .ok (.invokestatic 47, 3) := by decide +kernel
theorem dc_To_become_83 : decode prog_11_method_4_code 83 = .ok (.invokevirtual 56, 3) := by decide +kernel
theorem dc_To_become_116 : decode prog_11_method_4_code 116 = .ok (.invokevirtual 60, 3) := by decide +kernel
theorem dc_To_become_149 : decode prog_11_method_4_code 149 = .ok (.invokevirtual 63, 3) := by decide +kernel
theorem dc_To_become_158 : decode prog_11_method_4_code 158 = .ok (.return_, 1) := by decide +kernel
def l_To_become_61 (a0 : Nat) (a1 : Nat) (k92 : ia_H → Option ia_H) (n : Nat) (x2 : Int32) (h : ia_H) : Option ia_H := match n with
  | 0 => none
  | n + 1 => if (ia_i h (a0 + 2) 0) ≤ x2 then (k92 h) else (ia_gd (ia_ib x2 2) (ia_gd (ia_ib x2 2) ((f_La_become ((a0 + 3) + 1 + 12 * (x2).toNatClampNeg) ((a1 + 3) + 1 + 12 * (x2).toNatClampNeg) h).bind fun v6 => (l_To_become_61 a0 a1 k92 n (x2 + 1) v6))))
theorem tl_To_become_61 {w : ia_O0} {d N1 W1 : Nat} {K : ia_K} (hK : ia_isK (d + 1) mm_To_become N1 W1 K) {a0 : Nat} {a1 : Nat} (p0 : (kd_D a0).1 = 10) (p1 : (kd_D a1).1 = 10) {h1 : ia_H} (hret : ∀ (pc : Nat) (lv : ia_L), ia_ret mm_To_become pc none → K pc lv (none : Option ia_V).toList h1) {k92 : ia_H → Option ia_H} (hk92 : ∀ (h : ia_H), gd_ w h → k92 h = some h1 → K 92 [some (.inr (.inr a0)), some (.inr (.inr a1)), none] [] h) : ∀ (n : Nat) (x2 : Int32) (h : ia_H), gd_ w h → l_To_become_61 a0 a1 k92 n x2 h = some h1 → K 61 [some (.inr (.inr a0)), some (.inr (.inr a1)), some (.inl x2)] [] h := by
  intro n
  induction n with
  | zero =>
    intro x2 h hg hm
    cases (show (none : Option ia_H) = some _ from hm)
  | succ n ih =>
    intro x2 h hg hm
    rw [l_To_become_61] at hm
    refine ia_go hK ck_To_become_61 ⟨gk_10 hg p0, gr_10_4 hg p0, ga_i100 hg (ka_10_4 p0) (by decide), fun c => ?_, fun c => ?_⟩
    · replace hm := ia_ifp hm c
      show K 92 [some (.inr (.inr a0)), some (.inr (.inr a1)), some (.inl x2)] [] h
      refine ia_fg hK (lv' := [some (.inr (.inr a0)), some (.inr (.inr a1)), none]) ⟨rfl, rfl, trivial⟩ ?_
      exact hk92 h hg hm
    · replace hm := ia_ifn hm c
      show K 71 [some (.inr (.inr a0)), some (.inr (.inr a1)), some (.inl x2)] [] h
      obtain ⟨c4, hm⟩ := ia_gd_some hm
      obtain ⟨c5, hm⟩ := ia_gd_some hm
      refine ia_go hK ck_To_become_71 ⟨gk_10 hg p0, gr_10_5 hg p0, ga_r107 hg (ka_10_5 p0) c4, gk_10 hg p1, gr_10_5 hg p1, ga_r107 hg (ka_10_5 p1) c5, ?_⟩
      show K 83 [some (.inr (.inr a0)), some (.inr (.inr a1)), some (.inl x2)] [.inr (.inr ((a1 + 3) + 1 + 12 * (x2).toNatClampNeg)), .inr (.inr ((a0 + 3) + 1 + 12 * (x2).toNatClampNeg))] h
      obtain ⟨v6, hv6, hm⟩ := ia_bnd hm
      have ev6 := t_La_become (d + 0) hg (ke_107 (ka_10_5 p0) c4) (ke_107 (ka_10_5 p1) c5) hv6
      have gv6 := g_La_become hg (ke_107 (ka_10_5 p0) c4) (ke_107 (ka_10_5 p1) c5) hv6
      refine ia_cV hK mk_La_become lk_10_56 dc_To_become_83 ((a0 + 3) + 1 + 12 * (x2).toNatClampNeg) [.inr (.inr ((a1 + 3) + 1 + 12 * (x2).toNatClampNeg))] [] rfl rfl (Nat.le_of_ble_eq_true rfl) (by decide) rfl (gk_3 hg (ke_107 (ka_10_5 p0) c4)) ev6 (gd_nm hg gv6) ?_
      show K 86 [some (.inr (.inr a0)), some (.inr (.inr a1)), some (.inl x2)] [] v6
      refine ia_go hK ck_To_become_86 ?_
      show K 61 [some (.inr (.inr a0)), some (.inr (.inr a1)), some (.inl (x2 + 1))] [] v6
      exact ih (x2 + 1) v6 gv6 hm
theorem gl_To_become_61 {w : ia_O0} {a0 : Nat} {a1 : Nat} (p0 : (kd_D a0).1 = 10) (p1 : (kd_D a1).1 = 10) {h1 : ia_H} {k92 : ia_H → Option ia_H} (hk92 : ∀ (h : ia_H), gd_ w h → k92 h = some h1 → gd_ w h1) : ∀ (n : Nat) (x2 : Int32) (h : ia_H), gd_ w h → l_To_become_61 a0 a1 k92 n x2 h = some h1 → gd_ w h1 := by
  intro n
  induction n with
  | zero =>
    intro x2 h hg hm
    cases (show (none : Option ia_H) = some _ from hm)
  | succ n ih =>
    intro x2 h hg hm
    rw [l_To_become_61] at hm
    by_cases c : (ia_i h (a0 + 2) 0) ≤ x2
    · replace hm := ia_ifp hm c
      exact hk92 h hg hm
    · replace hm := ia_ifn hm c
      obtain ⟨c4, hm⟩ := ia_gd_some hm
      obtain ⟨c5, hm⟩ := ia_gd_some hm
      obtain ⟨v6, hv6, hm⟩ := ia_bnd hm
      have gv6 := g_La_become hg (ke_107 (ka_10_5 p0) c4) (ke_107 (ka_10_5 p1) c5) hv6
      exact ih (x2 + 1) v6 gv6 hm
def l_To_become_94 (a0 : Nat) (a1 : Nat) (k125 : ia_H → Option ia_H) (n : Nat) (x2 : Int32) (h : ia_H) : Option ia_H := match n with
  | 0 => none
  | n + 1 => if (ia_i h (a0 + 2) 1) ≤ x2 then (k125 h) else (ia_gd (ia_ib x2 2) (ia_gd (ia_ib x2 2) ((f_Lw_become ((a0 + 28) + 1 + 4 * (x2).toNatClampNeg) ((a1 + 28) + 1 + 4 * (x2).toNatClampNeg) h).bind fun v9 => (l_To_become_94 a0 a1 k125 n (x2 + 1) v9))))
theorem tl_To_become_94 {w : ia_O0} {d N1 W1 : Nat} {K : ia_K} (hK : ia_isK (d + 1) mm_To_become N1 W1 K) {a0 : Nat} {a1 : Nat} (p0 : (kd_D a0).1 = 10) (p1 : (kd_D a1).1 = 10) {h1 : ia_H} (hret : ∀ (pc : Nat) (lv : ia_L), ia_ret mm_To_become pc none → K pc lv (none : Option ia_V).toList h1) {k125 : ia_H → Option ia_H} (hk125 : ∀ (h : ia_H), gd_ w h → k125 h = some h1 → K 125 [some (.inr (.inr a0)), some (.inr (.inr a1)), none] [] h) : ∀ (n : Nat) (x2 : Int32) (h : ia_H), gd_ w h → l_To_become_94 a0 a1 k125 n x2 h = some h1 → K 94 [some (.inr (.inr a0)), some (.inr (.inr a1)), some (.inl x2)] [] h := by
  intro n
  induction n with
  | zero =>
    intro x2 h hg hm
    cases (show (none : Option ia_H) = some _ from hm)
  | succ n ih =>
    intro x2 h hg hm
    rw [l_To_become_94] at hm
    refine ia_go hK ck_To_become_94 ⟨gk_10 hg p0, gr_10_4 hg p0, ga_i100 hg (ka_10_4 p0) (by decide), fun c => ?_, fun c => ?_⟩
    · replace hm := ia_ifp hm c
      show K 125 [some (.inr (.inr a0)), some (.inr (.inr a1)), some (.inl x2)] [] h
      refine ia_fg hK (lv' := [some (.inr (.inr a0)), some (.inr (.inr a1)), none]) ⟨rfl, rfl, trivial⟩ ?_
      exact hk125 h hg hm
    · replace hm := ia_ifn hm c
      show K 104 [some (.inr (.inr a0)), some (.inr (.inr a1)), some (.inl x2)] [] h
      obtain ⟨c7, hm⟩ := ia_gd_some hm
      obtain ⟨c8, hm⟩ := ia_gd_some hm
      refine ia_go hK ck_To_become_104 ⟨gk_10 hg p0, gr_10_6 hg p0, ga_r108 hg (ka_10_6 p0) c7, gk_10 hg p1, gr_10_6 hg p1, ga_r108 hg (ka_10_6 p1) c8, ?_⟩
      show K 116 [some (.inr (.inr a0)), some (.inr (.inr a1)), some (.inl x2)] [.inr (.inr ((a1 + 28) + 1 + 4 * (x2).toNatClampNeg)), .inr (.inr ((a0 + 28) + 1 + 4 * (x2).toNatClampNeg))] h
      obtain ⟨v9, hv9, hm⟩ := ia_bnd hm
      have ev9 := t_Lw_become (d + 0) hg (ke_108 (ka_10_6 p0) c7) (ke_108 (ka_10_6 p1) c8) hv9
      have gv9 := g_Lw_become hg (ke_108 (ka_10_6 p0) c7) (ke_108 (ka_10_6 p1) c8) hv9
      refine ia_cV hK mk_Lw_become lk_10_60 dc_To_become_116 ((a0 + 28) + 1 + 4 * (x2).toNatClampNeg) [.inr (.inr ((a1 + 28) + 1 + 4 * (x2).toNatClampNeg))] [] rfl rfl (Nat.le_of_ble_eq_true rfl) (by decide) rfl (gk_4 hg (ke_108 (ka_10_6 p0) c7)) ev9 (gd_nm hg gv9) ?_
      show K 119 [some (.inr (.inr a0)), some (.inr (.inr a1)), some (.inl x2)] [] v9
      refine ia_go hK ck_To_become_119 ?_
      show K 94 [some (.inr (.inr a0)), some (.inr (.inr a1)), some (.inl (x2 + 1))] [] v9
      exact ih (x2 + 1) v9 gv9 hm
theorem gl_To_become_94 {w : ia_O0} {a0 : Nat} {a1 : Nat} (p0 : (kd_D a0).1 = 10) (p1 : (kd_D a1).1 = 10) {h1 : ia_H} {k125 : ia_H → Option ia_H} (hk125 : ∀ (h : ia_H), gd_ w h → k125 h = some h1 → gd_ w h1) : ∀ (n : Nat) (x2 : Int32) (h : ia_H), gd_ w h → l_To_become_94 a0 a1 k125 n x2 h = some h1 → gd_ w h1 := by
  intro n
  induction n with
  | zero =>
    intro x2 h hg hm
    cases (show (none : Option ia_H) = some _ from hm)
  | succ n ih =>
    intro x2 h hg hm
    rw [l_To_become_94] at hm
    by_cases c : (ia_i h (a0 + 2) 1) ≤ x2
    · replace hm := ia_ifp hm c
      exact hk125 h hg hm
    · replace hm := ia_ifn hm c
      obtain ⟨c7, hm⟩ := ia_gd_some hm
      obtain ⟨c8, hm⟩ := ia_gd_some hm
      obtain ⟨v9, hv9, hm⟩ := ia_bnd hm
      have gv9 := g_Lw_become hg (ke_108 (ka_10_6 p0) c7) (ke_108 (ka_10_6 p1) c8) hv9
      exact ih (x2 + 1) v9 gv9 hm
def l_To_become_127 (a0 : Nat) (a1 : Nat) (k158 : ia_H → Option ia_H) (n : Nat) (x2 : Int32) (h : ia_H) : Option ia_H := match n with
  | 0 => none
  | n + 1 => if (ia_i h (a0 + 2) 2) ≤ x2 then (k158 h) else (ia_gd (ia_ib x2 3) (ia_gd (ia_ib x2 3) ((f_Pl_become ((a0 + 37) + 1 + 5 * (x2).toNatClampNeg) ((a1 + 37) + 1 + 5 * (x2).toNatClampNeg) h).bind fun v12 => (l_To_become_127 a0 a1 k158 n (x2 + 1) v12))))
theorem tl_To_become_127 {w : ia_O0} {d N1 W1 : Nat} {K : ia_K} (hK : ia_isK (d + 1) mm_To_become N1 W1 K) {a0 : Nat} {a1 : Nat} (p0 : (kd_D a0).1 = 10) (p1 : (kd_D a1).1 = 10) {h1 : ia_H} (hret : ∀ (pc : Nat) (lv : ia_L), ia_ret mm_To_become pc none → K pc lv (none : Option ia_V).toList h1) {k158 : ia_H → Option ia_H} (hk158 : ∀ (h : ia_H), gd_ w h → k158 h = some h1 → K 158 [none, none, none] [] h) : ∀ (n : Nat) (x2 : Int32) (h : ia_H), gd_ w h → l_To_become_127 a0 a1 k158 n x2 h = some h1 → K 127 [some (.inr (.inr a0)), some (.inr (.inr a1)), some (.inl x2)] [] h := by
  intro n
  induction n with
  | zero =>
    intro x2 h hg hm
    cases (show (none : Option ia_H) = some _ from hm)
  | succ n ih =>
    intro x2 h hg hm
    rw [l_To_become_127] at hm
    refine ia_go hK ck_To_become_127 ⟨gk_10 hg p0, gr_10_4 hg p0, ga_i100 hg (ka_10_4 p0) (by decide), fun c => ?_, fun c => ?_⟩
    · replace hm := ia_ifp hm c
      show K 158 [some (.inr (.inr a0)), some (.inr (.inr a1)), some (.inl x2)] [] h
      refine ia_fg hK (lv' := [none, none, none]) trivial ?_
      exact hk158 h hg hm
    · replace hm := ia_ifn hm c
      show K 137 [some (.inr (.inr a0)), some (.inr (.inr a1)), some (.inl x2)] [] h
      obtain ⟨c10, hm⟩ := ia_gd_some hm
      obtain ⟨c11, hm⟩ := ia_gd_some hm
      refine ia_go hK ck_To_become_137 ⟨gk_10 hg p0, gr_10_7 hg p0, ga_r110 hg (ka_10_7 p0) c10, gk_10 hg p1, gr_10_7 hg p1, ga_r110 hg (ka_10_7 p1) c11, ?_⟩
      show K 149 [some (.inr (.inr a0)), some (.inr (.inr a1)), some (.inl x2)] [.inr (.inr ((a1 + 37) + 1 + 5 * (x2).toNatClampNeg)), .inr (.inr ((a0 + 37) + 1 + 5 * (x2).toNatClampNeg))] h
      obtain ⟨v12, hv12, hm⟩ := ia_bnd hm
      have ev12 := t_Pl_become (d + 0) hg (ke_110 (ka_10_7 p0) c10) (ke_110 (ka_10_7 p1) c11) hv12
      have gv12 := g_Pl_become hg (ke_110 (ka_10_7 p0) c10) (ke_110 (ka_10_7 p1) c11) hv12
      refine ia_cV hK mk_Pl_become lk_10_63 dc_To_become_149 ((a0 + 37) + 1 + 5 * (x2).toNatClampNeg) [.inr (.inr ((a1 + 37) + 1 + 5 * (x2).toNatClampNeg))] [] rfl rfl (Nat.le_of_ble_eq_true rfl) (by decide) rfl (gk_6 hg (ke_110 (ka_10_7 p0) c10)) ev12 (gd_nm hg gv12) ?_
      show K 152 [some (.inr (.inr a0)), some (.inr (.inr a1)), some (.inl x2)] [] v12
      refine ia_go hK ck_To_become_152 ?_
      show K 127 [some (.inr (.inr a0)), some (.inr (.inr a1)), some (.inl (x2 + 1))] [] v12
      exact ih (x2 + 1) v12 gv12 hm
theorem gl_To_become_127 {w : ia_O0} {a0 : Nat} {a1 : Nat} (p0 : (kd_D a0).1 = 10) (p1 : (kd_D a1).1 = 10) {h1 : ia_H} {k158 : ia_H → Option ia_H} (hk158 : ∀ (h : ia_H), gd_ w h → k158 h = some h1 → gd_ w h1) : ∀ (n : Nat) (x2 : Int32) (h : ia_H), gd_ w h → l_To_become_127 a0 a1 k158 n x2 h = some h1 → gd_ w h1 := by
  intro n
  induction n with
  | zero =>
    intro x2 h hg hm
    cases (show (none : Option ia_H) = some _ from hm)
  | succ n ih =>
    intro x2 h hg hm
    rw [l_To_become_127] at hm
    by_cases c : (ia_i h (a0 + 2) 2) ≤ x2
    · replace hm := ia_ifp hm c
      exact hk158 h hg hm
    · replace hm := ia_ifn hm c
      obtain ⟨c10, hm⟩ := ia_gd_some hm
      obtain ⟨c11, hm⟩ := ia_gd_some hm
      obtain ⟨v12, hv12, hm⟩ := ia_bnd hm
      have gv12 := g_Pl_become hg (ke_110 (ka_10_7 p0) c10) (ke_110 (ka_10_7 p1) c11) hv12
      exact ih (x2 + 1) v12 gv12 hm
def j_To_become_33 (a0 : Nat) (a1 : Nat) (h : ia_H) : Option ia_H := ia_gd (ia_cb 0 0 (Int32.ofNat 3) 3 3) (l_To_become_61 a0 a1 (fun h => l_To_become_94 a0 a1 (fun h => l_To_become_127 a0 a1 (fun h => some h) fu_ 0 h) fu_ 0 h) fu_ 0 (ia_cpI (ia_wI h a0 3 (ia_i h a1 3)) (a1 + 2) (a0 + 2) 0 0 ((Int32.ofNat 3).toNatClampNeg)))
theorem tj_To_become_33 {w : ia_O0} {d N1 W1 : Nat} {K : ia_K} (hK : ia_isK (d + 1) mm_To_become N1 W1 K) {a0 : Nat} {a1 : Nat} (p0 : (kd_D a0).1 = 10) (p1 : (kd_D a1).1 = 10) {h1 : ia_H} (hret : ∀ (pc : Nat) (lv : ia_L), ia_ret mm_To_become pc none → K pc lv (none : Option ia_V).toList h1) : ∀ (h : ia_H), gd_ w h → j_To_become_33 a0 a1 h = some h1 → K 33 [some (.inr (.inr a0)), some (.inr (.inr a1)), none] [] h := by
  intro h hg hm
  unfold j_To_become_33 at hm
  refine ia_go hK ck_To_become_33 ⟨gk_10 hg p1, gk_10 hg p0, gk_10 (gd_wI hg (ko_10 p0)) p1, gr_10_4 (gd_wI hg (ko_10 p0)) p1, gk_10 (gd_wI hg (ko_10 p0)) p0, gr_10_4 (gd_wI hg (ko_10 p0)) p0, gk_10 (gd_wI hg (ko_10 p0)) p0, gr_10_4 (gd_wI hg (ko_10 p0)) p0, ga_len (gd_wI hg (ko_10 p0)) (ka_10_4 p0) ⟨by decide, by decide⟩, ?_⟩
  show K 56 [some (.inr (.inr a0)), some (.inr (.inr a1)), none] [.inl (Int32.ofNat (ia_k (ia_wI h a0 3 (ia_i h a1 3)) (a0 + 2)).2), .inl 0, .inr (.inr (a0 + 2)), .inl 0, .inr (.inr (a1 + 2))] (ia_wI h a0 3 (ia_i h a1 3))
  rw [ga_ln (gd_wI hg (ko_10 p0)) (ka_10_4 p0) ⟨by decide, by decide⟩]
  obtain ⟨c3, hm⟩ := ia_gd_some hm
  refine gd_cI hK (ia_tb_in (List.mem_of_getElem? (i := 1594) (by decide +kernel)) rfl) dc_To_become_56 (Nat.le_of_ble_eq_true rfl) (Or.inl rfl) (gd_wI hg (ko_10 p0)) (ka_10_4 p1) (ka_10_4 p0) c3 rfl ?_
  show K 59 [some (.inr (.inr a0)), some (.inr (.inr a1)), none] [] (ia_cpI (ia_wI h a0 3 (ia_i h a1 3)) (a1 + 2) (a0 + 2) 0 0 ((Int32.ofNat 3).toNatClampNeg))
  refine ia_go hK ck_To_become_59 ?_
  show K 61 [some (.inr (.inr a0)), some (.inr (.inr a1)), some (.inl 0)] [] (ia_cpI (ia_wI h a0 3 (ia_i h a1 3)) (a1 + 2) (a0 + 2) 0 0 ((Int32.ofNat 3).toNatClampNeg))
  refine tl_To_become_61 hK p0 p1 hret ?_ fu_ 0 (ia_cpI (ia_wI h a0 3 (ia_i h a1 3)) (a1 + 2) (a0 + 2) 0 0 ((Int32.ofNat 3).toNatClampNeg)) (gd_cpI (gd_wI hg (ko_10 p0)) (kx_100 (ka_10_4 p0))) hm
  · intro h hg hm
    refine ia_go hK ck_To_become_92 ?_
    show K 94 [some (.inr (.inr a0)), some (.inr (.inr a1)), some (.inl 0)] [] h
    refine tl_To_become_94 hK p0 p1 hret ?_ fu_ 0 h hg hm
    · intro h hg hm
      refine ia_go hK ck_To_become_125 ?_
      show K 127 [some (.inr (.inr a0)), some (.inr (.inr a1)), some (.inl 0)] [] h
      refine tl_To_become_127 hK p0 p1 hret ?_ fu_ 0 h hg hm
      · intro h hg hm
        obtain rfl := Option.some.inj hm
        exact hret 158 _ dc_To_become_158
theorem gj_To_become_33 {w : ia_O0} {a0 : Nat} {a1 : Nat} (p0 : (kd_D a0).1 = 10) (p1 : (kd_D a1).1 = 10) {h1 : ia_H} : ∀ (h : ia_H), gd_ w h → j_To_become_33 a0 a1 h = some h1 → gd_ w h1 := by
  intro h hg hm
  unfold j_To_become_33 at hm
  obtain ⟨c3, hm⟩ := ia_gd_some hm
  refine gl_To_become_61 p0 p1 ?_ fu_ 0 (ia_cpI (ia_wI h a0 3 (ia_i h a1 3)) (a1 + 2) (a0 + 2) 0 0 ((Int32.ofNat 3).toNatClampNeg)) (gd_cpI (gd_wI hg (ko_10 p0)) (kx_100 (ka_10_4 p0))) hm
  · intro h hg hm
    refine gl_To_become_94 p0 p1 ?_ fu_ 0 h hg hm
    · intro h hg hm
      refine gl_To_become_127 p0 p1 ?_ fu_ 0 h hg hm
      · intro h hg hm
        obtain rfl := Option.some.inj hm
        exact hg
def f_To_become (a0 : Nat) (a1 : Nat) (h : ia_H) : Option ia_H := ia_gd (ia_cb 0 0 (ia_i h a1 1) 600 600) (ia_gd (ia_fb 102 (ia_i h (a1 + 1)) 0 ((ia_i h a1 1).toNatClampNeg)) (j_To_become_33 a0 a1 (ia_wI (ia_wI (ia_cpI h (a1 + 1) (a0 + 1) 0 0 ((ia_i h a1 1).toNatClampNeg)) a0 1 (ia_i (ia_cpI h (a1 + 1) (a0 + 1) 0 0 ((ia_i h a1 1).toNatClampNeg)) a1 1)) a0 2 (ia_i (ia_wI (ia_cpI h (a1 + 1) (a0 + 1) 0 0 ((ia_i h a1 1).toNatClampNeg)) a0 1 (ia_i (ia_cpI h (a1 + 1) (a0 + 1) 0 0 ((ia_i h a1 1).toNatClampNeg)) a1 1)) a1 2))))
theorem g_To_become {w : ia_O0} {a0 : Nat} {a1 : Nat} {h : ia_H} (hg : gd_ w h) (p0 : (kd_D a0).1 = 10) (p1 : (kd_D a1).1 = 10) {q : ia_H} (hm : f_To_become a0 a1 h = some q) : gd_ w q := by
  obtain ⟨h1, e1⟩ : ∃ x, x = q := ⟨_, rfl⟩
  subst e1
  unfold f_To_become at hm
  obtain ⟨c1, hm⟩ := ia_gd_some hm
  obtain ⟨c2, hm⟩ := ia_gd_some hm
  exact gj_To_become_33 p0 p1 (ia_wI (ia_wI (ia_cpI h (a1 + 1) (a0 + 1) 0 0 ((ia_i h a1 1).toNatClampNeg)) a0 1 (ia_i (ia_cpI h (a1 + 1) (a0 + 1) 0 0 ((ia_i h a1 1).toNatClampNeg)) a1 1)) a0 2 (ia_i (ia_wI (ia_cpI h (a1 + 1) (a0 + 1) 0 0 ((ia_i h a1 1).toNatClampNeg)) a0 1 (ia_i (ia_cpI h (a1 + 1) (a0 + 1) 0 0 ((ia_i h a1 1).toNatClampNeg)) a1 1)) a1 2)) (gd_wI (gd_wI (gd_cpI hg (kx_102 (ka_10_0 p0))) (ko_10 p0)) (ko_10 p0)) hm
theorem t_To_become {w : ia_O0} (d : Nat) {a0 : Nat} {a1 : Nat} {h : ia_H} (hg : gd_ w h) (p0 : (kd_D a0).1 = 10) (p1 : (kd_D a1).1 = 10) {q : ia_H} (hm : f_To_become a0 a1 h = some q) : ia_Ev (d + 1) mm_To_become [.inr (.inr a0), .inr (.inr a1)] h none q := by
  have gq := g_To_become hg p0 p1 hm
  refine ia_Ev_intro ok_To_become (gd_le hg gq).1 (gd_le hg gq).2 (Nat.le_of_ble_eq_true rfl) (fun K hK hret => ?_)
  obtain ⟨h1, e1⟩ : ∃ x, x = q := ⟨_, rfl⟩
  subst e1
  show K 0 [some (.inr (.inr a0)), some (.inr (.inr a1)), none] [] h
  unfold f_To_become at hm
  refine ia_go hK ck_To_become_0 ⟨gk_10 hg p1, gr_10_0 hg p1, gk_10 hg p0, gr_10_0 hg p0, gk_10 hg p1, ?_⟩
  show K 14 [some (.inr (.inr a0)), some (.inr (.inr a1)), none] [.inl (ia_i h a1 1), .inl 0, .inr (.inr (a0 + 1)), .inl 0, .inr (.inr (a1 + 1))] h
  obtain ⟨c1, hm⟩ := ia_gd_some hm
  obtain ⟨c2, hm⟩ := ia_gd_some hm
  refine gd_cI hK (ia_tb_in (List.mem_of_getElem? (i := 1594) (by decide +kernel)) rfl) dc_To_become_14 (Nat.le_of_ble_eq_true rfl) (Or.inr (Or.inr rfl)) hg (ka_10_0 p1) (ka_10_0 p0) c1 c2 ?_
  show K 17 [some (.inr (.inr a0)), some (.inr (.inr a1)), none] [] (ia_cpI h (a1 + 1) (a0 + 1) 0 0 ((ia_i h a1 1).toNatClampNeg))
  refine ia_go hK ck_To_become_17 ⟨gk_10 (gd_cpI hg (kx_102 (ka_10_0 p0))) p1, gk_10 (gd_cpI hg (kx_102 (ka_10_0 p0))) p0, gk_10 (gd_wI (gd_cpI hg (kx_102 (ka_10_0 p0))) (ko_10 p0)) p1, gk_10 (gd_wI (gd_cpI hg (kx_102 (ka_10_0 p0))) (ko_10 p0)) p0, ?_⟩
  show K 33 [some (.inr (.inr a0)), some (.inr (.inr a1)), none] [] (ia_wI (ia_wI (ia_cpI h (a1 + 1) (a0 + 1) 0 0 ((ia_i h a1 1).toNatClampNeg)) a0 1 (ia_i (ia_cpI h (a1 + 1) (a0 + 1) 0 0 ((ia_i h a1 1).toNatClampNeg)) a1 1)) a0 2 (ia_i (ia_wI (ia_cpI h (a1 + 1) (a0 + 1) 0 0 ((ia_i h a1 1).toNatClampNeg)) a0 1 (ia_i (ia_cpI h (a1 + 1) (a0 + 1) 0 0 ((ia_i h a1 1).toNatClampNeg)) a1 1)) a1 2))
  exact tj_To_become_33 hK p0 p1 hret (ia_wI (ia_wI (ia_cpI h (a1 + 1) (a0 + 1) 0 0 ((ia_i h a1 1).toNatClampNeg)) a0 1 (ia_i (ia_cpI h (a1 + 1) (a0 + 1) 0 0 ((ia_i h a1 1).toNatClampNeg)) a1 1)) a0 2 (ia_i (ia_wI (ia_cpI h (a1 + 1) (a0 + 1) 0 0 ((ia_i h a1 1).toNatClampNeg)) a0 1 (ia_i (ia_cpI h (a1 + 1) (a0 + 1) 0 0 ((ia_i h a1 1).toNatClampNeg)) a1 1)) a1 2)) (gd_wI (gd_wI (gd_cpI hg (kx_102 (ka_10_0 p0))) (ko_10 p0)) (ko_10 p0)) hm
def mm_I_image : ia_M := (⟨"IceStreet", "image", "(I)Z"⟩, prog_1_method_40_code, 2, (some .boolean), 0, false)
theorem ok_I_image : ia_mok mm_I_image := ⟨by decide +kernel, by decide +kernel, by decide +kernel, by decide +kernel⟩
theorem mk_I_image : ia_mkn mm_I_image 1 1 := ⟨ia_tb_in (List.mem_of_getElem? (i := 1589) (by decide +kernel)) rfl, ia_tb_in (List.mem_of_getElem? (i := 133) (by decide +kernel)) rfl, by decide +kernel, by decide +kernel, ⟨ia_tb_in (List.mem_of_getElem? (i := 1587) (by decide +kernel)) rfl, ia_tb_in (List.mem_of_getElem? (i := 1588) (by decide +kernel)) rfl⟩⟩
theorem ck_I_image_0 : ia_cks 0 2 false prog_1_method_40_code 0 [(.iload_n 1, 0, 0, 0, 0), (.ifCond .lt 8, 0, 0, 0, 0)] = true := by decide +kernel
theorem ck_I_image_9 : ia_cks 0 2 false prog_1_method_40_code 9 [(.iconst 0, 0, 0, 0, 0)] = true := by decide +kernel
theorem ck_I_image_4 : ia_cks 0 2 false prog_1_method_40_code 4 [(.iload_n 1, 0, 0, 0, 0), (.iconst 3, 0, 0, 0, 0), (.if_icmp .lt 5, 0, 0, 0, 0)] = true := by decide +kernel
theorem ck_I_image_11 : ia_cks 0 2 false prog_1_method_40_code 11 [(.aload_n 0, 0, 0, 0, 0), (.getfield 16, 0, 1, 3, 54), (.iload_n 1, 0, 0, 0, 0), (.aaload, 114, 53, 0, 0), (.aload_n 0, 0, 0, 0, 0), (.getfield 10, 0, 0, 3, 1)] = true := by decide +kernel
theorem ck_I_image_24 : ia_cks 0 2 false prog_1_method_40_code 24 [(.aload_n 0, 0, 0, 0, 0), (.getfield 20, 0, 2, 3, 214), (.iload_n 1, 0, 0, 0, 0), (.iconst 1, 0, 0, 0, 0), (.bastore, 101, 0, 0, 0), (.iconst 1, 0, 0, 0, 0)] = true := by decide +kernel
theorem dc_I_image_10 : decode prog_1_method_40_code 10 = .ok (.ireturn, 1) := by decide +kernel
theorem dc_I_image_21 : decode prog_1_method_40_code 21 = .ok (.invokevirtual 450, 3) := by decide +kernel
theorem dc_I_image_32 : decode prog_1_method_40_code 32 = .ok (.ireturn, 1) := by decide +kernel
def f_I_image (x1 : Int32) (h : ia_H) : Option (Int32 × ia_H) := if x1 < 0 then (some (0, h)) else (if x1 < 3 then (ia_gd (ia_ib x1 3) ((f_To_become (118 + 1 + 53 * (x1).toNatClampNeg) 65 h).bind fun v2 => (ia_gd (ia_ib x1 3) (some (1, ia_wI v2 278 ((x1).toNatClampNeg) (vp_nar .boolean 1)))))) else (some (0, h)))
theorem g_I_image {w : ia_O0} {x1 : Int32} {h : ia_H} (hg : gd_ w h) {q : (Int32 × ia_H)} (hm : f_I_image x1 h = some q) : gd_ w q.2 := by
  obtain ⟨r, h1⟩ := q
  unfold f_I_image at hm
  by_cases c : x1 < 0
  · replace hm := ia_ifp hm c
    obtain ⟨rfl, rfl⟩ := Prod.mk.inj (Option.some.inj hm)
    exact hg
  · replace hm := ia_ifn hm c
    by_cases c : x1 < 3
    · replace hm := ia_ifp hm c
      obtain ⟨c1, hm⟩ := ia_gd_some hm
      obtain ⟨v2, hv2, hm⟩ := ia_bnd hm
      have gv2 := g_To_become hg (ke_114 (ka_0_1 pk_64) c1) (ka_0_0 pk_64) hv2
      obtain ⟨c3, hm⟩ := ia_gd_some hm
      obtain ⟨rfl, rfl⟩ := Prod.mk.inj (Option.some.inj hm)
      exact (gd_wI gv2 (kx_101 (ka_0_2 pk_64)))
    · replace hm := ia_ifn hm c
      obtain ⟨rfl, rfl⟩ := Prod.mk.inj (Option.some.inj hm)
      exact hg
theorem t_I_image {w : ia_O0} (d : Nat) {x1 : Int32} {h : ia_H} (hg : gd_ w h) {q : (Int32 × ia_H)} (hm : f_I_image x1 h = some q) : ia_Ev (d + 2) mm_I_image [.inr (.inr 64), .inl x1] h (some (.inl q.1)) q.2 := by
  have gq := g_I_image hg hm
  refine ia_Ev_intro ok_I_image (gd_le hg gq).1 (gd_le hg gq).2 (Nat.le_of_ble_eq_true rfl) (fun K hK hret => ?_)
  obtain ⟨r, h1⟩ := q
  show K 0 [some (.inr (.inr 64)), some (.inl x1)] [] h
  unfold f_I_image at hm
  refine ia_go hK ck_I_image_0 ⟨fun c => ?_, fun c => ?_⟩
  · replace hm := ia_ifp hm c
    show K 9 [some (.inr (.inr 64)), some (.inl x1)] [] h
    refine ia_go hK ck_I_image_9 ?_
    show K 10 [some (.inr (.inr 64)), some (.inl x1)] [.inl 0] h
    obtain ⟨rfl, rfl⟩ := Prod.mk.inj (Option.some.inj hm)
    exact hret 10 _ ⟨Or.inl rfl, dc_I_image_10⟩
  · replace hm := ia_ifn hm c
    show K 4 [some (.inr (.inr 64)), some (.inl x1)] [] h
    refine ia_go hK ck_I_image_4 ⟨fun c => ?_, fun c => ?_⟩
    · replace hm := ia_ifp hm c
      show K 11 [some (.inr (.inr 64)), some (.inl x1)] [] h
      obtain ⟨c1, hm⟩ := ia_gd_some hm
      refine ia_go hK ck_I_image_11 ⟨gk_0 hg pk_64, gr_0_1 hg pk_64, ga_r114 hg (ka_0_1 pk_64) c1, gk_0 hg pk_64, gr_0_0 hg pk_64, ?_⟩
      show K 21 [some (.inr (.inr 64)), some (.inl x1)] [.inr (.inr 65), .inr (.inr (118 + 1 + 53 * (x1).toNatClampNeg))] h
      obtain ⟨v2, hv2, hm⟩ := ia_bnd hm
      have ev2 := t_To_become (d + 0) hg (ke_114 (ka_0_1 pk_64) c1) (ka_0_0 pk_64) hv2
      have gv2 := g_To_become hg (ke_114 (ka_0_1 pk_64) c1) (ka_0_0 pk_64) hv2
      refine ia_cV hK mk_To_become lk_0_450 dc_I_image_21 (118 + 1 + 53 * (x1).toNatClampNeg) [.inr (.inr 65)] [] rfl rfl (Nat.le_of_ble_eq_true rfl) (by decide) rfl (gk_10 hg (ke_114 (ka_0_1 pk_64) c1)) ev2 (gd_nm hg gv2) ?_
      show K 24 [some (.inr (.inr 64)), some (.inl x1)] [] v2
      obtain ⟨c3, hm⟩ := ia_gd_some hm
      refine ia_go hK ck_I_image_24 ⟨gk_0 gv2 pk_64, gr_0_2 gv2 pk_64, ga_s101 gv2 (ka_0_2 pk_64) c3, ?_⟩
      show K 32 [some (.inr (.inr 64)), some (.inl x1)] [.inl 1] (ia_wI v2 278 ((x1).toNatClampNeg) (vp_nar .boolean 1))
      obtain ⟨rfl, rfl⟩ := Prod.mk.inj (Option.some.inj hm)
      exact hret 32 _ ⟨Or.inr rfl, dc_I_image_32⟩
    · replace hm := ia_ifn hm c
      show K 9 [some (.inr (.inr 64)), some (.inl x1)] [] h
      refine ia_go hK ck_I_image_9 ?_
      show K 10 [some (.inr (.inr 64)), some (.inl x1)] [.inl 0] h
      obtain ⟨rfl, rfl⟩ := Prod.mk.inj (Option.some.inj hm)
      exact hret 10 _ ⟨Or.inl rfl, dc_I_image_10⟩
def mm_I_again : ia_M := (⟨"IceStreet", "again", "(I)Z"⟩, prog_1_method_41_code, 2, (some .boolean), 0, false)
theorem ok_I_again : ia_mok mm_I_again := ⟨by decide +kernel, by decide +kernel, by decide +kernel, by decide +kernel⟩
theorem mk_I_again : ia_mkn mm_I_again 1 1 := ⟨ia_tb_in (List.mem_of_getElem? (i := 1601) (by decide +kernel)) rfl, ia_tb_in (List.mem_of_getElem? (i := 133) (by decide +kernel)) rfl, by decide +kernel, by decide +kernel, ⟨ia_tb_in (List.mem_of_getElem? (i := 1599) (by decide +kernel)) rfl, ia_tb_in (List.mem_of_getElem? (i := 1600) (by decide +kernel)) rfl⟩⟩
theorem ck_I_again_0 : ia_cks 0 2 false prog_1_method_41_code 0 [(.iload_n 1, 0, 0, 0, 0), (.ifCond .lt 17, 0, 0, 0, 0)] = true := by decide +kernel
theorem ck_I_again_18 : ia_cks 0 2 false prog_1_method_41_code 18 [(.iconst 0, 0, 0, 0, 0)] = true := by decide +kernel
theorem ck_I_again_4 : ia_cks 0 2 false prog_1_method_41_code 4 [(.iload_n 1, 0, 0, 0, 0), (.iconst 3, 0, 0, 0, 0), (.if_icmp .ge 12, 0, 0, 0, 0)] = true := by decide +kernel
theorem ck_I_again_9 : ia_cks 0 2 false prog_1_method_41_code 9 [(.aload_n 0, 0, 0, 0, 0), (.getfield 20, 0, 2, 3, 214), (.iload_n 1, 0, 0, 0, 0), (.baload, 101, 0, 0, 0), (.ifCond .ne 5, 0, 0, 0, 0)] = true := by decide +kernel
theorem ck_I_again_20 : ia_cks 0 2 false prog_1_method_41_code 20 [(.aload_n 0, 0, 0, 0, 0), (.getfield 10, 0, 0, 3, 1), (.aload_n 0, 0, 0, 0, 0), (.getfield 16, 0, 1, 3, 54), (.iload_n 1, 0, 0, 0, 0), (.aaload, 114, 53, 0, 0)] = true := by decide +kernel
theorem ck_I_again_33 : ia_cks 0 2 false prog_1_method_41_code 33 [(.iconst 1, 0, 0, 0, 0)] = true := by decide +kernel
theorem dc_I_again_19 : decode prog_1_method_41_code 19 = .ok (.ireturn, 1) := by decide +kernel
theorem dc_I_again_30 : decode prog_1_method_41_code 30 = .ok (.invokevirtual 450, 3) := by decide +kernel
theorem dc_I_again_34 : decode prog_1_method_41_code 34 = .ok (.ireturn, 1) := by decide +kernel
def f_I_again (x1 : Int32) (h : ia_H) : Option (Int32 × ia_H) := if x1 < 0 then (some (0, h)) else (if 3 ≤ x1 then (some (0, h)) else (ia_gd (ia_ib x1 3) (if (ia_i h 278 ((x1).toNatClampNeg)) = 0 then (some (0, h)) else (ia_gd (ia_ib x1 3) ((f_To_become 65 (118 + 1 + 53 * (x1).toNatClampNeg) h).bind fun v3 => (some (1, v3)))))))
theorem g_I_again {w : ia_O0} {x1 : Int32} {h : ia_H} (hg : gd_ w h) {q : (Int32 × ia_H)} (hm : f_I_again x1 h = some q) : gd_ w q.2 := by
  obtain ⟨r, h1⟩ := q
  unfold f_I_again at hm
  by_cases c : x1 < 0
  · replace hm := ia_ifp hm c
    obtain ⟨rfl, rfl⟩ := Prod.mk.inj (Option.some.inj hm)
    exact hg
  · replace hm := ia_ifn hm c
    by_cases c : 3 ≤ x1
    · replace hm := ia_ifp hm c
      obtain ⟨rfl, rfl⟩ := Prod.mk.inj (Option.some.inj hm)
      exact hg
    · replace hm := ia_ifn hm c
      obtain ⟨c1, hm⟩ := ia_gd_some hm
      by_cases c : (ia_i h 278 ((x1).toNatClampNeg)) = 0
      · replace hm := ia_ifp hm c
        obtain ⟨rfl, rfl⟩ := Prod.mk.inj (Option.some.inj hm)
        exact hg
      · replace hm := ia_ifn hm c
        obtain ⟨c2, hm⟩ := ia_gd_some hm
        obtain ⟨v3, hv3, hm⟩ := ia_bnd hm
        have gv3 := g_To_become hg (ka_0_0 pk_64) (ke_114 (ka_0_1 pk_64) c2) hv3
        obtain ⟨rfl, rfl⟩ := Prod.mk.inj (Option.some.inj hm)
        exact gv3
theorem t_I_again {w : ia_O0} (d : Nat) {x1 : Int32} {h : ia_H} (hg : gd_ w h) {q : (Int32 × ia_H)} (hm : f_I_again x1 h = some q) : ia_Ev (d + 2) mm_I_again [.inr (.inr 64), .inl x1] h (some (.inl q.1)) q.2 := by
  have gq := g_I_again hg hm
  refine ia_Ev_intro ok_I_again (gd_le hg gq).1 (gd_le hg gq).2 (Nat.le_of_ble_eq_true rfl) (fun K hK hret => ?_)
  obtain ⟨r, h1⟩ := q
  show K 0 [some (.inr (.inr 64)), some (.inl x1)] [] h
  unfold f_I_again at hm
  refine ia_go hK ck_I_again_0 ⟨fun c => ?_, fun c => ?_⟩
  · replace hm := ia_ifp hm c
    show K 18 [some (.inr (.inr 64)), some (.inl x1)] [] h
    refine ia_go hK ck_I_again_18 ?_
    show K 19 [some (.inr (.inr 64)), some (.inl x1)] [.inl 0] h
    obtain ⟨rfl, rfl⟩ := Prod.mk.inj (Option.some.inj hm)
    exact hret 19 _ ⟨Or.inl rfl, dc_I_again_19⟩
  · replace hm := ia_ifn hm c
    show K 4 [some (.inr (.inr 64)), some (.inl x1)] [] h
    refine ia_go hK ck_I_again_4 ⟨fun c => ?_, fun c => ?_⟩
    · replace hm := ia_ifp hm c
      show K 18 [some (.inr (.inr 64)), some (.inl x1)] [] h
      refine ia_go hK ck_I_again_18 ?_
      show K 19 [some (.inr (.inr 64)), some (.inl x1)] [.inl 0] h
      obtain ⟨rfl, rfl⟩ := Prod.mk.inj (Option.some.inj hm)
      exact hret 19 _ ⟨Or.inl rfl, dc_I_again_19⟩
    · replace hm := ia_ifn hm c
      show K 9 [some (.inr (.inr 64)), some (.inl x1)] [] h
      obtain ⟨c1, hm⟩ := ia_gd_some hm
      refine ia_go hK ck_I_again_9 ⟨gk_0 hg pk_64, gr_0_2 hg pk_64, ga_s101 hg (ka_0_2 pk_64) c1, fun c => ?_, fun c => ?_⟩
      · replace hm := ia_ifn hm c
        show K 20 [some (.inr (.inr 64)), some (.inl x1)] [] h
        obtain ⟨c2, hm⟩ := ia_gd_some hm
        refine ia_go hK ck_I_again_20 ⟨gk_0 hg pk_64, gr_0_0 hg pk_64, gk_0 hg pk_64, gr_0_1 hg pk_64, ga_r114 hg (ka_0_1 pk_64) c2, ?_⟩
        show K 30 [some (.inr (.inr 64)), some (.inl x1)] [.inr (.inr (118 + 1 + 53 * (x1).toNatClampNeg)), .inr (.inr 65)] h
        obtain ⟨v3, hv3, hm⟩ := ia_bnd hm
        have ev3 := t_To_become (d + 0) hg (ka_0_0 pk_64) (ke_114 (ka_0_1 pk_64) c2) hv3
        have gv3 := g_To_become hg (ka_0_0 pk_64) (ke_114 (ka_0_1 pk_64) c2) hv3
        refine ia_cV hK mk_To_become lk_0_450 dc_I_again_30 65 [.inr (.inr (118 + 1 + 53 * (x1).toNatClampNeg))] [] rfl rfl (Nat.le_of_ble_eq_true rfl) (by decide) rfl (gk_10 hg (ka_0_0 pk_64)) ev3 (gd_nm hg gv3) ?_
        show K 33 [some (.inr (.inr 64)), some (.inl x1)] [] v3
        refine ia_go hK ck_I_again_33 ?_
        show K 34 [some (.inr (.inr 64)), some (.inl x1)] [.inl 1] v3
        obtain ⟨rfl, rfl⟩ := Prod.mk.inj (Option.some.inj hm)
        exact hret 34 _ ⟨Or.inr rfl, dc_I_again_34⟩
      · replace hm := ia_ifp hm c
        show K 18 [some (.inr (.inr 64)), some (.inl x1)] [] h
        refine ia_go hK ck_I_again_18 ?_
        show K 19 [some (.inr (.inr 64)), some (.inl x1)] [.inl 0] h
        obtain ⟨rfl, rfl⟩ := Prod.mk.inj (Option.some.inj hm)
        exact hret 19 _ ⟨Or.inl rfl, dc_I_again_19⟩
def mm_M_feed : ia_M := (⟨"IceStreetModel", "feed", "(IIIII)I"⟩, prog_14_method_3_code, 8, (some .int), 12, false)
theorem ok_M_feed : ia_mok mm_M_feed := ⟨by decide +kernel, by decide +kernel, by decide +kernel, by decide +kernel⟩
theorem mk_M_feed : ia_mkn mm_M_feed 1 5 := ⟨ia_tb_in (List.mem_of_getElem? (i := 1726) (by decide +kernel)) rfl, ia_tb_in (List.mem_of_getElem? (i := 146) (by decide +kernel)) rfl, by decide +kernel, by decide +kernel, ⟨ia_tb_in (List.mem_of_getElem? (i := 1724) (by decide +kernel)) rfl, ia_tb_in (List.mem_of_getElem? (i := 1725) (by decide +kernel)) rfl⟩⟩
theorem ck_M_feed_0 : ia_cks 12 8 false prog_14_method_3_code 0 [(.aload_n 0, 0, 0, 0, 0), (.getfield 7, 12, 0, 3, 1), (.iconst 3, 0, 0, 0, 0), (.iaload, 0, 0, 0, 0), (.bipush 20, 0, 0, 0, 0), (.iadd, 0, 0, 0, 0), (.sipush 600, 0, 0, 0, 0), (.if_icmp .le 5, 0, 0, 0, 0)] = true := by decide +kernel
theorem ck_M_feed_17 : ia_cks 12 8 false prog_14_method_3_code 17 [(.iconst 0, 0, 0, 0, 0), (.istore 6, 0, 0, 0, 0)] = true := by decide +kernel
theorem ck_M_feed_20 : ia_cks 12 8 false prog_14_method_3_code 20 [(.iload 6, 0, 0, 0, 0), (.bipush 20, 0, 0, 0, 0), (.if_icmp .ge 98, 0, 0, 0, 0)] = true := by decide +kernel
theorem ck_M_feed_27 : ia_cks 12 8 false prog_14_method_3_code 27 [(.iload 6, 0, 0, 0, 0), (.iconst 4, 0, 0, 0, 0), (.if_icmp .ge 7, 0, 0, 0, 0)] = true := by decide +kernel
theorem ck_M_feed_37 : ia_cks 12 8 false prog_14_method_3_code 37 [(.iload 6, 0, 0, 0, 0), (.bipush 8, 0, 0, 0, 0), (.if_icmp .ge 7, 0, 0, 0, 0)] = true := by decide +kernel
theorem ck_M_feed_48 : ia_cks 12 8 false prog_14_method_3_code 48 [(.iload 6, 0, 0, 0, 0), (.bipush 12, 0, 0, 0, 0), (.if_icmp .ge 7, 0, 0, 0, 0)] = true := by decide +kernel
theorem ck_M_feed_59 : ia_cks 12 8 false prog_14_method_3_code 59 [(.iload 6, 0, 0, 0, 0), (.bipush 16, 0, 0, 0, 0), (.if_icmp .ge 8, 0, 0, 0, 0)] = true := by decide +kernel
theorem ck_M_feed_71 : ia_cks 12 8 false prog_14_method_3_code 71 [(.iload 5, 0, 0, 0, 0)] = true := by decide +kernel
theorem ck_M_feed_73 : ia_cks 12 8 false prog_14_method_3_code 73 [(.istore 7, 0, 0, 0, 0), (.aload_n 0, 0, 0, 0, 0), (.getfield 7, 12, 0, 3, 1), (.bipush 10, 0, 0, 0, 0), (.aload_n 0, 0, 0, 0, 0), (.getfield 7, 12, 0, 3, 1), (.iconst 3, 0, 0, 0, 0), (.iaload, 0, 0, 0, 0), (.iadd, 0, 0, 0, 0), (.iload 7, 0, 0, 0, 0), (.bipush 24, 0, 0, 0, 0), (.bipush 8, 0, 0, 0, 0), (.iload 6, 0, 0, 0, 0), (.iconst 4, 0, 0, 0, 0), (.irem, 0, 0, 0, 0), (.imul, 0, 0, 0, 0), (.isub, 0, 0, 0, 0), (.ishr, 0, 0, 0, 0), (.sipush 255, 0, 0, 0, 0), (.iand, 0, 0, 0, 0), (.iastore, 0, 0, 0, 0), (.aload_n 0, 0, 0, 0, 0), (.getfield 7, 12, 0, 3, 1), (.iconst 3, 0, 0, 0, 0), (.dup2, 0, 0, 0, 0), (.iaload, 0, 0, 0, 0), (.iconst 1, 0, 0, 0, 0), (.iadd, 0, 0, 0, 0), (.iastore, 0, 0, 0, 0), (.iinc 6 1, 0, 0, 0, 0), (.goto (-99), 0, 0, 0, 0)] = true := by decide +kernel
theorem ck_M_feed_66 : ia_cks 12 8 false prog_14_method_3_code 66 [(.iload 4, 0, 0, 0, 0), (.goto 5, 0, 0, 0, 0)] = true := by decide +kernel
theorem ck_M_feed_55 : ia_cks 12 8 false prog_14_method_3_code 55 [(.iload_n 3, 0, 0, 0, 0), (.goto 17, 0, 0, 0, 0)] = true := by decide +kernel
theorem ck_M_feed_44 : ia_cks 12 8 false prog_14_method_3_code 44 [(.iload_n 2, 0, 0, 0, 0), (.goto 28, 0, 0, 0, 0)] = true := by decide +kernel
theorem ck_M_feed_33 : ia_cks 12 8 false prog_14_method_3_code 33 [(.iload_n 1, 0, 0, 0, 0), (.goto 39, 0, 0, 0, 0)] = true := by decide +kernel
theorem ck_M_feed_122 : ia_cks 12 8 false prog_14_method_3_code 122 [(.aload_n 0, 0, 0, 0, 0), (.getfield 7, 12, 0, 3, 1), (.iconst 3, 0, 0, 0, 0), (.iaload, 0, 0, 0, 0)] = true := by decide +kernel
theorem ck_M_feed_15 : ia_cks 12 8 false prog_14_method_3_code 15 [(.iconst (-1), 0, 0, 0, 0)] = true := by decide +kernel
theorem dc_M_feed_128 : decode prog_14_method_3_code 128 = .ok (.ireturn, 1) := by decide +kernel
theorem dc_M_feed_16 : decode prog_14_method_3_code 16 = .ok (.ireturn, 1) := by decide +kernel
def j_M_feed_73 (x1 : Int32) (x2 : Int32) (x3 : Int32) (x4 : Int32) (x5 : Int32) (kr : Int32 → ia_H → Option (Int32 × ia_H)) (k122 : ia_H → Option (Int32 × ia_H)) (x6 : Int32) (s0 : Int32) (h : ia_H) : Option (Int32 × ia_H) := ia_gd (ia_ib (10 + (ia_i h 418 3)) 6528) (kr (x6 + 1) (ia_wI (ia_wI h 418 ((10 + (ia_i h 418 3)).toNatClampNeg) ((s0 >>> ((24 - (8 * (x6 - x6 / 4 * 4))) &&& 31)) &&& 255)) 418 3 ((ia_i (ia_wI h 418 ((10 + (ia_i h 418 3)).toNatClampNeg) ((s0 >>> ((24 - (8 * (x6 - x6 / 4 * 4))) &&& 31)) &&& 255)) 418 3) + 1)))
theorem tj_M_feed_73 {w : ia_O0} {d N1 W1 : Nat} {K : ia_K} (hK : ia_isK (d + 0) mm_M_feed N1 W1 K) {x1 : Int32} {x2 : Int32} {x3 : Int32} {x4 : Int32} {x5 : Int32} {r : Int32} {h1 : ia_H} (hret : ∀ (pc : Nat) (lv : ia_L), ia_ret mm_M_feed pc (some (.inl r)) → K pc lv ((some (.inl r)) : Option ia_V).toList h1) {kr : Int32 → ia_H → Option (Int32 × ia_H)} {k122 : ia_H → Option (Int32 × ia_H)} (hkr : ∀ (x6 : Int32) (h : ia_H), gd_ w h → kr x6 h = some (r, h1) → K 20 [some (.inr (.inr 417)), some (.inl x1), some (.inl x2), some (.inl x3), some (.inl x4), some (.inl x5), some (.inl x6), none] [] h) (hk122 : ∀ (h : ia_H), gd_ w h → k122 h = some (r, h1) → K 122 [some (.inr (.inr 417)), none, none, none, none, none, none, none] [] h) : ∀ (x6 : Int32) (s0 : Int32) (h : ia_H), gd_ w h → j_M_feed_73 x1 x2 x3 x4 x5 kr k122 x6 s0 h = some (r, h1) → K 73 [some (.inr (.inr 417)), some (.inl x1), some (.inl x2), some (.inl x3), some (.inl x4), some (.inl x5), some (.inl x6), none] [.inl s0] h := by
  intro x6 s0 h hg hm
  unfold j_M_feed_73 at hm
  obtain ⟨c1, hm⟩ := ia_gd_some hm
  refine ia_go hK ck_M_feed_73 ⟨gk_12 hg pk_417, gr_12_0 hg pk_417, gk_12 hg pk_417, gr_12_0 hg pk_417, ga_i100 hg (ka_12_0 pk_417) (by decide), (by decide), ga_s100 hg (ka_12_0 pk_417) c1, gk_12 (gd_wI hg (kx_100 (ka_12_0 pk_417))) pk_417, gr_12_0 (gd_wI hg (kx_100 (ka_12_0 pk_417))) pk_417, ga_i100 (gd_wI hg (kx_100 (ka_12_0 pk_417))) (ka_12_0 pk_417) (by decide), ga_s100 (gd_wI hg (kx_100 (ka_12_0 pk_417))) (ka_12_0 pk_417) (by decide), ?_⟩
  show K 20 [some (.inr (.inr 417)), some (.inl x1), some (.inl x2), some (.inl x3), some (.inl x4), some (.inl x5), some (.inl (x6 + 1)), some (.inl s0)] [] (ia_wI (ia_wI h 418 ((10 + (ia_i h 418 3)).toNatClampNeg) ((s0 >>> ((24 - (8 * (x6 - x6 / 4 * 4))) &&& 31)) &&& 255)) 418 3 ((ia_i (ia_wI h 418 ((10 + (ia_i h 418 3)).toNatClampNeg) ((s0 >>> ((24 - (8 * (x6 - x6 / 4 * 4))) &&& 31)) &&& 255)) 418 3) + 1))
  refine ia_fg hK (lv' := [some (.inr (.inr 417)), some (.inl x1), some (.inl x2), some (.inl x3), some (.inl x4), some (.inl x5), some (.inl (x6 + 1)), none]) ⟨rfl, rfl, rfl, rfl, rfl, rfl, rfl, trivial⟩ ?_
  exact hkr (x6 + 1) (ia_wI (ia_wI h 418 ((10 + (ia_i h 418 3)).toNatClampNeg) ((s0 >>> ((24 - (8 * (x6 - x6 / 4 * 4))) &&& 31)) &&& 255)) 418 3 ((ia_i (ia_wI h 418 ((10 + (ia_i h 418 3)).toNatClampNeg) ((s0 >>> ((24 - (8 * (x6 - x6 / 4 * 4))) &&& 31)) &&& 255)) 418 3) + 1)) (gd_wI (gd_wI hg (kx_100 (ka_12_0 pk_417))) (kx_100 (ka_12_0 pk_417))) hm
theorem gj_M_feed_73 {w : ia_O0} {x1 : Int32} {x2 : Int32} {x3 : Int32} {x4 : Int32} {x5 : Int32} {r : Int32} {h1 : ia_H} {kr : Int32 → ia_H → Option (Int32 × ia_H)} {k122 : ia_H → Option (Int32 × ia_H)} (hkr : ∀ (x6 : Int32) (h : ia_H), gd_ w h → kr x6 h = some (r, h1) → gd_ w h1) (hk122 : ∀ (h : ia_H), gd_ w h → k122 h = some (r, h1) → gd_ w h1) : ∀ (x6 : Int32) (s0 : Int32) (h : ia_H), gd_ w h → j_M_feed_73 x1 x2 x3 x4 x5 kr k122 x6 s0 h = some (r, h1) → gd_ w h1 := by
  intro x6 s0 h hg hm
  unfold j_M_feed_73 at hm
  obtain ⟨c1, hm⟩ := ia_gd_some hm
  exact hkr (x6 + 1) (ia_wI (ia_wI h 418 ((10 + (ia_i h 418 3)).toNatClampNeg) ((s0 >>> ((24 - (8 * (x6 - x6 / 4 * 4))) &&& 31)) &&& 255)) 418 3 ((ia_i (ia_wI h 418 ((10 + (ia_i h 418 3)).toNatClampNeg) ((s0 >>> ((24 - (8 * (x6 - x6 / 4 * 4))) &&& 31)) &&& 255)) 418 3) + 1)) (gd_wI (gd_wI hg (kx_100 (ka_12_0 pk_417))) (kx_100 (ka_12_0 pk_417))) hm
def l_M_feed_20 (x1 : Int32) (x2 : Int32) (x3 : Int32) (x4 : Int32) (x5 : Int32) (k122 : ia_H → Option (Int32 × ia_H)) (n : Nat) (x6 : Int32) (h : ia_H) : Option (Int32 × ia_H) := match n with
  | 0 => none
  | n + 1 => if 20 ≤ x6 then (k122 h) else (if 4 ≤ x6 then (if 8 ≤ x6 then (if 12 ≤ x6 then (if 16 ≤ x6 then (j_M_feed_73 x1 x2 x3 x4 x5 (l_M_feed_20 x1 x2 x3 x4 x5 k122 n) k122 x6 x5 h) else (j_M_feed_73 x1 x2 x3 x4 x5 (l_M_feed_20 x1 x2 x3 x4 x5 k122 n) k122 x6 x4 h)) else (j_M_feed_73 x1 x2 x3 x4 x5 (l_M_feed_20 x1 x2 x3 x4 x5 k122 n) k122 x6 x3 h)) else (j_M_feed_73 x1 x2 x3 x4 x5 (l_M_feed_20 x1 x2 x3 x4 x5 k122 n) k122 x6 x2 h)) else (j_M_feed_73 x1 x2 x3 x4 x5 (l_M_feed_20 x1 x2 x3 x4 x5 k122 n) k122 x6 x1 h))
theorem tl_M_feed_20 {w : ia_O0} {d N1 W1 : Nat} {K : ia_K} (hK : ia_isK (d + 0) mm_M_feed N1 W1 K) {x1 : Int32} {x2 : Int32} {x3 : Int32} {x4 : Int32} {x5 : Int32} {r : Int32} {h1 : ia_H} (hret : ∀ (pc : Nat) (lv : ia_L), ia_ret mm_M_feed pc (some (.inl r)) → K pc lv ((some (.inl r)) : Option ia_V).toList h1) {k122 : ia_H → Option (Int32 × ia_H)} (hk122 : ∀ (h : ia_H), gd_ w h → k122 h = some (r, h1) → K 122 [some (.inr (.inr 417)), none, none, none, none, none, none, none] [] h) : ∀ (n : Nat) (x6 : Int32) (h : ia_H), gd_ w h → l_M_feed_20 x1 x2 x3 x4 x5 k122 n x6 h = some (r, h1) → K 20 [some (.inr (.inr 417)), some (.inl x1), some (.inl x2), some (.inl x3), some (.inl x4), some (.inl x5), some (.inl x6), none] [] h := by
  intro n
  induction n with
  | zero =>
    intro x6 h hg hm
    cases (show (none : Option (Int32 × ia_H)) = some _ from hm)
  | succ n ih =>
    intro x6 h hg hm
    rw [l_M_feed_20] at hm
    refine ia_go hK ck_M_feed_20 ⟨fun c => ?_, fun c => ?_⟩
    · replace hm := ia_ifp hm c
      show K 122 [some (.inr (.inr 417)), some (.inl x1), some (.inl x2), some (.inl x3), some (.inl x4), some (.inl x5), some (.inl x6), none] [] h
      refine ia_fg hK (lv' := [some (.inr (.inr 417)), none, none, none, none, none, none, none]) ⟨rfl, trivial⟩ ?_
      exact hk122 h hg hm
    · replace hm := ia_ifn hm c
      show K 27 [some (.inr (.inr 417)), some (.inl x1), some (.inl x2), some (.inl x3), some (.inl x4), some (.inl x5), some (.inl x6), none] [] h
      refine ia_go hK ck_M_feed_27 ⟨fun c => ?_, fun c => ?_⟩
      · replace hm := ia_ifp hm c
        show K 37 [some (.inr (.inr 417)), some (.inl x1), some (.inl x2), some (.inl x3), some (.inl x4), some (.inl x5), some (.inl x6), none] [] h
        refine ia_go hK ck_M_feed_37 ⟨fun c => ?_, fun c => ?_⟩
        · replace hm := ia_ifp hm c
          show K 48 [some (.inr (.inr 417)), some (.inl x1), some (.inl x2), some (.inl x3), some (.inl x4), some (.inl x5), some (.inl x6), none] [] h
          refine ia_go hK ck_M_feed_48 ⟨fun c => ?_, fun c => ?_⟩
          · replace hm := ia_ifp hm c
            show K 59 [some (.inr (.inr 417)), some (.inl x1), some (.inl x2), some (.inl x3), some (.inl x4), some (.inl x5), some (.inl x6), none] [] h
            refine ia_go hK ck_M_feed_59 ⟨fun c => ?_, fun c => ?_⟩
            · replace hm := ia_ifp hm c
              show K 71 [some (.inr (.inr 417)), some (.inl x1), some (.inl x2), some (.inl x3), some (.inl x4), some (.inl x5), some (.inl x6), none] [] h
              refine ia_go hK ck_M_feed_71 ?_
              show K 73 [some (.inr (.inr 417)), some (.inl x1), some (.inl x2), some (.inl x3), some (.inl x4), some (.inl x5), some (.inl x6), none] [.inl x5] h
              exact tj_M_feed_73 hK hret ih hk122 x6 x5 h hg hm
            · replace hm := ia_ifn hm c
              show K 66 [some (.inr (.inr 417)), some (.inl x1), some (.inl x2), some (.inl x3), some (.inl x4), some (.inl x5), some (.inl x6), none] [] h
              refine ia_go hK ck_M_feed_66 ?_
              show K 73 [some (.inr (.inr 417)), some (.inl x1), some (.inl x2), some (.inl x3), some (.inl x4), some (.inl x5), some (.inl x6), none] [.inl x4] h
              exact tj_M_feed_73 hK hret ih hk122 x6 x4 h hg hm
          · replace hm := ia_ifn hm c
            show K 55 [some (.inr (.inr 417)), some (.inl x1), some (.inl x2), some (.inl x3), some (.inl x4), some (.inl x5), some (.inl x6), none] [] h
            refine ia_go hK ck_M_feed_55 ?_
            show K 73 [some (.inr (.inr 417)), some (.inl x1), some (.inl x2), some (.inl x3), some (.inl x4), some (.inl x5), some (.inl x6), none] [.inl x3] h
            exact tj_M_feed_73 hK hret ih hk122 x6 x3 h hg hm
        · replace hm := ia_ifn hm c
          show K 44 [some (.inr (.inr 417)), some (.inl x1), some (.inl x2), some (.inl x3), some (.inl x4), some (.inl x5), some (.inl x6), none] [] h
          refine ia_go hK ck_M_feed_44 ?_
          show K 73 [some (.inr (.inr 417)), some (.inl x1), some (.inl x2), some (.inl x3), some (.inl x4), some (.inl x5), some (.inl x6), none] [.inl x2] h
          exact tj_M_feed_73 hK hret ih hk122 x6 x2 h hg hm
      · replace hm := ia_ifn hm c
        show K 33 [some (.inr (.inr 417)), some (.inl x1), some (.inl x2), some (.inl x3), some (.inl x4), some (.inl x5), some (.inl x6), none] [] h
        refine ia_go hK ck_M_feed_33 ?_
        show K 73 [some (.inr (.inr 417)), some (.inl x1), some (.inl x2), some (.inl x3), some (.inl x4), some (.inl x5), some (.inl x6), none] [.inl x1] h
        exact tj_M_feed_73 hK hret ih hk122 x6 x1 h hg hm
theorem gl_M_feed_20 {w : ia_O0} {x1 : Int32} {x2 : Int32} {x3 : Int32} {x4 : Int32} {x5 : Int32} {r : Int32} {h1 : ia_H} {k122 : ia_H → Option (Int32 × ia_H)} (hk122 : ∀ (h : ia_H), gd_ w h → k122 h = some (r, h1) → gd_ w h1) : ∀ (n : Nat) (x6 : Int32) (h : ia_H), gd_ w h → l_M_feed_20 x1 x2 x3 x4 x5 k122 n x6 h = some (r, h1) → gd_ w h1 := by
  intro n
  induction n with
  | zero =>
    intro x6 h hg hm
    cases (show (none : Option (Int32 × ia_H)) = some _ from hm)
  | succ n ih =>
    intro x6 h hg hm
    rw [l_M_feed_20] at hm
    by_cases c : 20 ≤ x6
    · replace hm := ia_ifp hm c
      exact hk122 h hg hm
    · replace hm := ia_ifn hm c
      by_cases c : 4 ≤ x6
      · replace hm := ia_ifp hm c
        by_cases c : 8 ≤ x6
        · replace hm := ia_ifp hm c
          by_cases c : 12 ≤ x6
          · replace hm := ia_ifp hm c
            by_cases c : 16 ≤ x6
            · replace hm := ia_ifp hm c
              exact gj_M_feed_73 ih hk122 x6 x5 h hg hm
            · replace hm := ia_ifn hm c
              exact gj_M_feed_73 ih hk122 x6 x4 h hg hm
          · replace hm := ia_ifn hm c
            exact gj_M_feed_73 ih hk122 x6 x3 h hg hm
        · replace hm := ia_ifn hm c
          exact gj_M_feed_73 ih hk122 x6 x2 h hg hm
      · replace hm := ia_ifn hm c
        exact gj_M_feed_73 ih hk122 x6 x1 h hg hm
def f_M_feed (x1 : Int32) (x2 : Int32) (x3 : Int32) (x4 : Int32) (x5 : Int32) (h : ia_H) : Option (Int32 × ia_H) := if ((ia_i h 418 3) + 20) ≤ 600 then (l_M_feed_20 x1 x2 x3 x4 x5 (fun h => some (ia_i h 418 3, h)) fu_ 0 h) else (some ((-1), h))
theorem g_M_feed {w : ia_O0} {x1 : Int32} {x2 : Int32} {x3 : Int32} {x4 : Int32} {x5 : Int32} {h : ia_H} (hg : gd_ w h) {q : (Int32 × ia_H)} (hm : f_M_feed x1 x2 x3 x4 x5 h = some q) : gd_ w q.2 := by
  obtain ⟨r, h1⟩ := q
  unfold f_M_feed at hm
  by_cases c : ((ia_i h 418 3) + 20) ≤ 600
  · replace hm := ia_ifp hm c
    refine gl_M_feed_20 ?_ fu_ 0 h hg hm
    · intro h hg hm
      obtain ⟨rfl, rfl⟩ := Prod.mk.inj (Option.some.inj hm)
      exact hg
  · replace hm := ia_ifn hm c
    obtain ⟨rfl, rfl⟩ := Prod.mk.inj (Option.some.inj hm)
    exact hg
theorem t_M_feed {w : ia_O0} (d : Nat) {x1 : Int32} {x2 : Int32} {x3 : Int32} {x4 : Int32} {x5 : Int32} {h : ia_H} (hg : gd_ w h) {q : (Int32 × ia_H)} (hm : f_M_feed x1 x2 x3 x4 x5 h = some q) : ia_Ev (d + 0) mm_M_feed [.inr (.inr 417), .inl x1, .inl x2, .inl x3, .inl x4, .inl x5] h (some (.inl q.1)) q.2 := by
  have gq := g_M_feed hg hm
  refine ia_Ev_intro ok_M_feed (gd_le hg gq).1 (gd_le hg gq).2 (Nat.le_of_ble_eq_true rfl) (fun K hK hret => ?_)
  obtain ⟨r, h1⟩ := q
  show K 0 [some (.inr (.inr 417)), some (.inl x1), some (.inl x2), some (.inl x3), some (.inl x4), some (.inl x5), none, none] [] h
  unfold f_M_feed at hm
  refine ia_go hK ck_M_feed_0 ⟨gk_12 hg pk_417, gr_12_0 hg pk_417, ga_i100 hg (ka_12_0 pk_417) (by decide), fun c => ?_, fun c => ?_⟩
  · replace hm := ia_ifp hm c
    show K 17 [some (.inr (.inr 417)), some (.inl x1), some (.inl x2), some (.inl x3), some (.inl x4), some (.inl x5), none, none] [] h
    refine ia_go hK ck_M_feed_17 ?_
    show K 20 [some (.inr (.inr 417)), some (.inl x1), some (.inl x2), some (.inl x3), some (.inl x4), some (.inl x5), some (.inl 0), none] [] h
    refine tl_M_feed_20 hK hret ?_ fu_ 0 h hg hm
    · intro h hg hm
      refine ia_go hK ck_M_feed_122 ⟨gk_12 hg pk_417, gr_12_0 hg pk_417, ga_i100 hg (ka_12_0 pk_417) (by decide), ?_⟩
      show K 128 [some (.inr (.inr 417)), none, none, none, none, none, none, none] [.inl (ia_i h 418 3)] h
      obtain ⟨rfl, rfl⟩ := Prod.mk.inj (Option.some.inj hm)
      exact hret 128 _ dc_M_feed_128
  · replace hm := ia_ifn hm c
    show K 15 [some (.inr (.inr 417)), some (.inl x1), some (.inl x2), some (.inl x3), some (.inl x4), some (.inl x5), none, none] [] h
    refine ia_go hK ck_M_feed_15 ?_
    show K 16 [some (.inr (.inr 417)), some (.inl x1), some (.inl x2), some (.inl x3), some (.inl x4), some (.inl x5), none, none] [.inl (-1)] h
    obtain ⟨rfl, rfl⟩ := Prod.mk.inj (Option.some.inj hm)
    exact hret 16 _ dc_M_feed_16
def mm_M_end : ia_M := (⟨"IceStreetModel", "end", "(I)I"⟩, prog_14_method_4_code, 2, (some .int), 12, false)
theorem ok_M_end : ia_mok mm_M_end := ⟨by decide +kernel, by decide +kernel, by decide +kernel, by decide +kernel⟩
theorem mk_M_end : ia_mkn mm_M_end 1 1 := ⟨ia_tb_in (List.mem_of_getElem? (i := 1730) (by decide +kernel)) rfl, ia_tb_in (List.mem_of_getElem? (i := 146) (by decide +kernel)) rfl, by decide +kernel, by decide +kernel, ⟨ia_tb_in (List.mem_of_getElem? (i := 1728) (by decide +kernel)) rfl, ia_tb_in (List.mem_of_getElem? (i := 1729) (by decide +kernel)) rfl⟩⟩
theorem ck_M_end_0 : ia_cks 12 2 false prog_14_method_4_code 0 [(.iload_n 1, 0, 0, 0, 0), (.ifCond .lt 13, 0, 0, 0, 0)] = true := by decide +kernel
theorem ck_M_end_14 : ia_cks 12 2 false prog_14_method_4_code 14 [(.iconst (-1), 0, 0, 0, 0)] = true := by decide +kernel
theorem ck_M_end_4 : ia_cks 12 2 false prog_14_method_4_code 4 [(.iload_n 1, 0, 0, 0, 0), (.aload_n 0, 0, 0, 0, 0), (.getfield 7, 12, 0, 3, 1), (.iconst 3, 0, 0, 0, 0), (.iaload, 0, 0, 0, 0), (.if_icmp .le 5, 0, 0, 0, 0)] = true := by decide +kernel
theorem ck_M_end_16 : ia_cks 12 2 false prog_14_method_4_code 16 [(.aload_n 0, 0, 0, 0, 0), (.getfield 7, 12, 0, 3, 1), (.iconst 3, 0, 0, 0, 0), (.iload_n 1, 0, 0, 0, 0), (.iastore, 0, 0, 0, 0), (.iload_n 1, 0, 0, 0, 0)] = true := by decide +kernel
theorem dc_M_end_15 : decode prog_14_method_4_code 15 = .ok (.ireturn, 1) := by decide +kernel
theorem dc_M_end_24 : decode prog_14_method_4_code 24 = .ok (.ireturn, 1) := by decide +kernel
def f_M_end (x1 : Int32) (h : ia_H) : Option (Int32 × ia_H) := if x1 < 0 then (some ((-1), h)) else (if x1 ≤ (ia_i h 418 3) then (some (x1, ia_wI h 418 3 x1)) else (some ((-1), h)))
theorem g_M_end {w : ia_O0} {x1 : Int32} {h : ia_H} (hg : gd_ w h) {q : (Int32 × ia_H)} (hm : f_M_end x1 h = some q) : gd_ w q.2 := by
  obtain ⟨r, h1⟩ := q
  unfold f_M_end at hm
  by_cases c : x1 < 0
  · replace hm := ia_ifp hm c
    obtain ⟨rfl, rfl⟩ := Prod.mk.inj (Option.some.inj hm)
    exact hg
  · replace hm := ia_ifn hm c
    by_cases c : x1 ≤ (ia_i h 418 3)
    · replace hm := ia_ifp hm c
      obtain ⟨rfl, rfl⟩ := Prod.mk.inj (Option.some.inj hm)
      exact (gd_wI hg (kx_100 (ka_12_0 pk_417)))
    · replace hm := ia_ifn hm c
      obtain ⟨rfl, rfl⟩ := Prod.mk.inj (Option.some.inj hm)
      exact hg
theorem t_M_end {w : ia_O0} (d : Nat) {x1 : Int32} {h : ia_H} (hg : gd_ w h) {q : (Int32 × ia_H)} (hm : f_M_end x1 h = some q) : ia_Ev (d + 0) mm_M_end [.inr (.inr 417), .inl x1] h (some (.inl q.1)) q.2 := by
  have gq := g_M_end hg hm
  refine ia_Ev_intro ok_M_end (gd_le hg gq).1 (gd_le hg gq).2 (Nat.le_of_ble_eq_true rfl) (fun K hK hret => ?_)
  obtain ⟨r, h1⟩ := q
  show K 0 [some (.inr (.inr 417)), some (.inl x1)] [] h
  unfold f_M_end at hm
  refine ia_go hK ck_M_end_0 ⟨fun c => ?_, fun c => ?_⟩
  · replace hm := ia_ifp hm c
    show K 14 [some (.inr (.inr 417)), some (.inl x1)] [] h
    refine ia_go hK ck_M_end_14 ?_
    show K 15 [some (.inr (.inr 417)), some (.inl x1)] [.inl (-1)] h
    obtain ⟨rfl, rfl⟩ := Prod.mk.inj (Option.some.inj hm)
    exact hret 15 _ dc_M_end_15
  · replace hm := ia_ifn hm c
    show K 4 [some (.inr (.inr 417)), some (.inl x1)] [] h
    refine ia_go hK ck_M_end_4 ⟨gk_12 hg pk_417, gr_12_0 hg pk_417, ga_i100 hg (ka_12_0 pk_417) (by decide), fun c => ?_, fun c => ?_⟩
    · replace hm := ia_ifp hm c
      show K 16 [some (.inr (.inr 417)), some (.inl x1)] [] h
      refine ia_go hK ck_M_end_16 ⟨gk_12 hg pk_417, gr_12_0 hg pk_417, ga_s100 hg (ka_12_0 pk_417) (by decide), ?_⟩
      show K 24 [some (.inr (.inr 417)), some (.inl x1)] [.inl x1] (ia_wI h 418 3 x1)
      obtain ⟨rfl, rfl⟩ := Prod.mk.inj (Option.some.inj hm)
      exact hret 24 _ dc_M_end_24
    · replace hm := ia_ifn hm c
      show K 14 [some (.inr (.inr 417)), some (.inl x1)] [] h
      refine ia_go hK ck_M_end_14 ?_
      show K 15 [some (.inr (.inr 417)), some (.inl x1)] [.inl (-1)] h
      obtain ⟨rfl, rfl⟩ := Prod.mk.inj (Option.some.inj hm)
      exact hret 15 _ dc_M_end_15
def mm_M_isIn : ia_M := (⟨"IceStreetModel", "isIn", "(III)Z"⟩, prog_14_method_2_code, 3, (some .boolean), 12, false)
theorem ok_M_isIn : ia_mok mm_M_isIn := ⟨by decide +kernel, by decide +kernel, by decide +kernel, by decide +kernel⟩
theorem mk_M_isIn : ia_mkn mm_M_isIn 0 3 := ⟨ia_tb_in (List.mem_of_getElem? (i := 1737) (by decide +kernel)) rfl, ia_tb_in (List.mem_of_getElem? (i := 146) (by decide +kernel)) rfl, by decide +kernel, by decide +kernel, ia_tb_in (List.mem_of_getElem? (i := 1736) (by decide +kernel)) rfl⟩
theorem ck_M_isIn_0 : ia_cks 12 3 false prog_14_method_2_code 0 [(.iload_n 0, 0, 0, 0, 0), (.iload_n 1, 0, 0, 0, 0), (.if_icmp .lt 12, 0, 0, 0, 0)] = true := by decide +kernel
theorem ck_M_isIn_14 : ia_cks 12 3 false prog_14_method_2_code 14 [(.iconst 0, 0, 0, 0, 0)] = true := by decide +kernel
theorem ck_M_isIn_5 : ia_cks 12 3 false prog_14_method_2_code 5 [(.iload_n 0, 0, 0, 0, 0), (.iload_n 2, 0, 0, 0, 0), (.if_icmp .gt 7, 0, 0, 0, 0)] = true := by decide +kernel
theorem ck_M_isIn_10 : ia_cks 12 3 false prog_14_method_2_code 10 [(.iconst 1, 0, 0, 0, 0), (.goto 4, 0, 0, 0, 0)] = true := by decide +kernel
theorem dc_M_isIn_15 : decode prog_14_method_2_code 15 = .ok (.ireturn, 1) := by decide +kernel
def f_M_isIn (x0 : Int32) (x1 : Int32) (x2 : Int32) (h : ia_H) : Option Int32 := if x0 < x1 then (some 0) else (if x2 < x0 then (some 0) else (some 1))
theorem t_M_isIn {w : ia_O0} (d : Nat) {x0 : Int32} {x1 : Int32} {x2 : Int32} {h : ia_H} (hg : gd_ w h) {r : Int32} (hm : f_M_isIn x0 x1 x2 h = some r) : ia_Ev (d + 0) mm_M_isIn [.inl x0, .inl x1, .inl x2] h (some (.inl r)) h := by
  refine ia_Ev_intro ok_M_isIn (Nat.le_refl _) (Nat.le_refl _) (Nat.le_of_ble_eq_true rfl) (fun K hK hret => ?_)
  show K 0 [some (.inl x0), some (.inl x1), some (.inl x2)] [] h
  unfold f_M_isIn at hm
  refine ia_go hK ck_M_isIn_0 ⟨fun c => ?_, fun c => ?_⟩
  · replace hm := ia_ifp hm c
    show K 14 [some (.inl x0), some (.inl x1), some (.inl x2)] [] h
    refine ia_go hK ck_M_isIn_14 ?_
    show K 15 [some (.inl x0), some (.inl x1), some (.inl x2)] [.inl 0] h
    obtain rfl := Option.some.inj hm
    exact hret 15 _ ⟨Or.inl rfl, dc_M_isIn_15⟩
  · replace hm := ia_ifn hm c
    show K 5 [some (.inl x0), some (.inl x1), some (.inl x2)] [] h
    refine ia_go hK ck_M_isIn_5 ⟨fun c => ?_, fun c => ?_⟩
    · replace hm := ia_ifp hm c
      show K 14 [some (.inl x0), some (.inl x1), some (.inl x2)] [] h
      refine ia_go hK ck_M_isIn_14 ?_
      show K 15 [some (.inl x0), some (.inl x1), some (.inl x2)] [.inl 0] h
      obtain rfl := Option.some.inj hm
      exact hret 15 _ ⟨Or.inl rfl, dc_M_isIn_15⟩
    · replace hm := ia_ifn hm c
      show K 10 [some (.inl x0), some (.inl x1), some (.inl x2)] [] h
      refine ia_go hK ck_M_isIn_10 ?_
      show K 15 [some (.inl x0), some (.inl x1), some (.inl x2)] [.inl 1] h
      obtain rfl := Option.some.inj hm
      exact hret 15 _ ⟨Or.inr rfl, dc_M_isIn_15⟩
def mm_M_isOf : ia_M := (⟨"IceStreetModel", "isOf", "(II)Z"⟩, prog_14_method_28_code, 3, (some .boolean), 12, false)
theorem ok_M_isOf : ia_mok mm_M_isOf := ⟨by decide +kernel, by decide +kernel, by decide +kernel, by decide +kernel⟩
theorem mk_M_isOf : ia_mkn mm_M_isOf 1 2 := ⟨ia_tb_in (List.mem_of_getElem? (i := 1741) (by decide +kernel)) rfl, ia_tb_in (List.mem_of_getElem? (i := 146) (by decide +kernel)) rfl, by decide +kernel, by decide +kernel, ⟨ia_tb_in (List.mem_of_getElem? (i := 1740) (by decide +kernel)) rfl, ia_tb_in (List.mem_of_getElem? (i := 51) (by decide +kernel)) rfl⟩⟩
theorem ck_M_isOf_0 : ia_cks 12 3 false prog_14_method_28_code 0 [(.iload_n 2, 0, 0, 0, 0), (.iconst 0, 0, 0, 0, 0), (.aload_n 0, 0, 0, 0, 0), (.getfield 7, 12, 0, 3, 1), (.iload_n 1, 0, 0, 0, 0), (.iaload, 0, 0, 0, 0), (.iconst 1, 0, 0, 0, 0), (.isub, 0, 0, 0, 0)] = true := by decide +kernel
theorem dc_M_isOf_10 : decode prog_14_method_28_code 10 = .ok (.invokestatic 116, 3) := by decide +kernel
theorem dc_M_isOf_13 : decode prog_14_method_28_code 13 = .ok (.ireturn, 1) := by decide +kernel
def f_M_isOf (x1 : Int32) (x2 : Int32) (h : ia_H) : Option Int32 := ia_gd (ia_ib x1 6528) ((f_M_isIn x2 0 ((ia_i h 418 ((x1).toNatClampNeg)) - 1) h).bind fun v2 => (ia_gd (ia_z1 v2) (some v2)))
theorem t_M_isOf {w : ia_O0} (d : Nat) {x1 : Int32} {x2 : Int32} {h : ia_H} (hg : gd_ w h) {r : Int32} (hm : f_M_isOf x1 x2 h = some r) : ia_Ev (d + 1) mm_M_isOf [.inr (.inr 417), .inl x1, .inl x2] h (some (.inl r)) h := by
  refine ia_Ev_intro ok_M_isOf (Nat.le_refl _) (Nat.le_refl _) (Nat.le_of_ble_eq_true rfl) (fun K hK hret => ?_)
  show K 0 [some (.inr (.inr 417)), some (.inl x1), some (.inl x2)] [] h
  unfold f_M_isOf at hm
  obtain ⟨c1, hm⟩ := ia_gd_some hm
  refine ia_go hK ck_M_isOf_0 ⟨gk_12 hg pk_417, gr_12_0 hg pk_417, ga_i100 hg (ka_12_0 pk_417) c1, ?_⟩
  show K 10 [some (.inr (.inr 417)), some (.inl x1), some (.inl x2)] [.inl ((ia_i h 418 ((x1).toNatClampNeg)) - 1), .inl 0, .inl x2] h
  obtain ⟨v2, hv2, hm⟩ := ia_bnd hm
  have ev2 := t_M_isIn (d + 0) hg hv2
  refine ia_cS hK mk_M_isIn lk_12_116 dc_M_isOf_10 [.inl x2, .inl 0, .inl ((ia_i h 418 ((x1).toNatClampNeg)) - 1)] [] rfl rfl (Nat.le_of_ble_eq_true rfl) ev2 ⟨rfl, rfl⟩ ?_
  show K 13 [some (.inr (.inr 417)), some (.inl x1), some (.inl x2)] [.inl v2] h
  obtain ⟨c3, hm⟩ := ia_gd_some hm
  obtain rfl := Option.some.inj hm
  exact hret 13 _ ⟨ia_z1_spec c3, dc_M_isOf_13⟩
def mm_M_begins : ia_M := (⟨"IceStreetModel", "begins", "(I)V"⟩, prog_14_method_29_code, 3, none, 12, false)
theorem ok_M_begins : ia_mok mm_M_begins := ⟨by decide +kernel, by decide +kernel, by decide +kernel, by decide +kernel⟩
theorem mk_M_begins : ia_mkn mm_M_begins 1 1 := ⟨ia_tb_in (List.mem_of_getElem? (i := 1745) (by decide +kernel)) rfl, ia_tb_in (List.mem_of_getElem? (i := 146) (by decide +kernel)) rfl, by decide +kernel, by decide +kernel, ⟨ia_tb_in (List.mem_of_getElem? (i := 1744) (by decide +kernel)) rfl, ia_tb_in (List.mem_of_getElem? (i := 52) (by decide +kernel)) rfl⟩⟩
theorem ck_M_begins_0 : ia_cks 12 3 false prog_14_method_29_code 0 [(.iconst 0, 0, 0, 0, 0), (.istore_n 2, 0, 0, 0, 0)] = true := by decide +kernel
theorem ck_M_begins_2 : ia_cks 12 3 false prog_14_method_29_code 2 [(.iload_n 2, 0, 0, 0, 0), (.sipush 260, 0, 0, 0, 0), (.if_icmp .ge 16, 0, 0, 0, 0)] = true := by decide +kernel
theorem ck_M_begins_9 : ia_cks 12 3 false prog_14_method_29_code 9 [(.aload_n 0, 0, 0, 0, 0), (.getfield 17, 12, 10, 3, 3), (.iload_n 2, 0, 0, 0, 0), (.iconst 0, 0, 0, 0, 0), (.iastore, 0, 0, 0, 0), (.iinc 2 1, 0, 0, 0, 0), (.goto (-17), 0, 0, 0, 0)] = true := by decide +kernel
theorem ck_M_begins_22 : ia_cks 12 3 false prog_14_method_29_code 22 [(.aload_n 0, 0, 0, 0, 0), (.iconst 0, 0, 0, 0, 0), (.putfield 131, 12, 9, 0, 0), (.aload_n 0, 0, 0, 0, 0), (.iconst 0, 0, 0, 0, 0), (.putfield 141, 12, 11, 0, 0), (.iload_n 1, 0, 0, 0, 0), (.ifCond .ne 57, 0, 0, 0, 0)] = true := by decide +kernel
theorem ck_M_begins_90 : ia_cks 12 3 false prog_14_method_29_code 90 [(.iload_n 1, 0, 0, 0, 0), (.iconst 1, 0, 0, 0, 0), (.if_icmp .ne 17, 0, 0, 0, 0)] = true := by decide +kernel
theorem ck_M_begins_95 : ia_cks 12 3 false prog_14_method_29_code 95 [(.aload_n 0, 0, 0, 0, 0), (.getfield 17, 12, 10, 3, 3), (.iconst 2, 0, 0, 0, 0), (.iconst 5, 0, 0, 0, 0), (.iastore, 0, 0, 0, 0), (.aload_n 0, 0, 0, 0, 0), (.getfield 17, 12, 10, 3, 3), (.iconst 3, 0, 0, 0, 0), (.iconst 1, 0, 0, 0, 0), (.iastore, 0, 0, 0, 0)] = true := by decide +kernel
theorem ck_M_begins_36 : ia_cks 12 3 false prog_14_method_29_code 36 [(.aload_n 0, 0, 0, 0, 0), (.getfield 17, 12, 10, 3, 3), (.iconst 0, 0, 0, 0, 0), (.iconst 4, 0, 0, 0, 0), (.iastore, 0, 0, 0, 0), (.aload_n 0, 0, 0, 0, 0), (.getfield 17, 12, 10, 3, 3), (.iconst 1, 0, 0, 0, 0), (.iconst 4, 0, 0, 0, 0), (.iastore, 0, 0, 0, 0), (.aload_n 0, 0, 0, 0, 0), (.getfield 17, 12, 10, 3, 3), (.iconst 2, 0, 0, 0, 0), (.bipush 10, 0, 0, 0, 0), (.iastore, 0, 0, 0, 0), (.aload_n 0, 0, 0, 0, 0), (.getfield 17, 12, 10, 3, 3), (.iconst 3, 0, 0, 0, 0), (.iconst 1, 0, 0, 0, 0), (.iastore, 0, 0, 0, 0), (.iconst 0, 0, 0, 0, 0), (.istore_n 2, 0, 0, 0, 0)] = true := by decide +kernel
theorem ck_M_begins_67 : ia_cks 12 3 false prog_14_method_29_code 67 [(.iload_n 2, 0, 0, 0, 0), (.bipush 36, 0, 0, 0, 0), (.if_icmp .ge 20, 0, 0, 0, 0)] = true := by decide +kernel
theorem ck_M_begins_73 : ia_cks 12 3 false prog_14_method_29_code 73 [(.aload_n 0, 0, 0, 0, 0), (.getfield 17, 12, 10, 3, 3), (.bipush 8, 0, 0, 0, 0), (.iload_n 2, 0, 0, 0, 0), (.iadd, 0, 0, 0, 0), (.bipush 20, 0, 0, 0, 0), (.iastore, 0, 0, 0, 0), (.iinc 2 1, 0, 0, 0, 0), (.goto (-20), 0, 0, 0, 0)] = true := by decide +kernel
theorem dc_M_begins_109 : decode prog_14_method_29_code 109 = .ok (.return_, 1) := by decide +kernel
def l_M_begins_2 (x1 : Int32) (k22 : ia_H → Option ia_H) (n : Nat) (x2 : Int32) (h : ia_H) : Option ia_H := match n with
  | 0 => none
  | n + 1 => if 260 ≤ x2 then (k22 h) else (ia_gd (ia_ib x2 260) (l_M_begins_2 x1 k22 n (x2 + 1) (ia_wI h 420 ((x2).toNatClampNeg) 0)))
theorem tl_M_begins_2 {w : ia_O0} {d N1 W1 : Nat} {K : ia_K} (hK : ia_isK (d + 0) mm_M_begins N1 W1 K) {x1 : Int32} {h1 : ia_H} (hret : ∀ (pc : Nat) (lv : ia_L), ia_ret mm_M_begins pc none → K pc lv (none : Option ia_V).toList h1) {k22 : ia_H → Option ia_H} (hk22 : ∀ (h : ia_H), gd_ w h → k22 h = some h1 → K 22 [some (.inr (.inr 417)), some (.inl x1), none] [] h) : ∀ (n : Nat) (x2 : Int32) (h : ia_H), gd_ w h → l_M_begins_2 x1 k22 n x2 h = some h1 → K 2 [some (.inr (.inr 417)), some (.inl x1), some (.inl x2)] [] h := by
  intro n
  induction n with
  | zero =>
    intro x2 h hg hm
    cases (show (none : Option ia_H) = some _ from hm)
  | succ n ih =>
    intro x2 h hg hm
    rw [l_M_begins_2] at hm
    refine ia_go hK ck_M_begins_2 ⟨fun c => ?_, fun c => ?_⟩
    · replace hm := ia_ifp hm c
      show K 22 [some (.inr (.inr 417)), some (.inl x1), some (.inl x2)] [] h
      refine ia_fg hK (lv' := [some (.inr (.inr 417)), some (.inl x1), none]) ⟨rfl, rfl, trivial⟩ ?_
      exact hk22 h hg hm
    · replace hm := ia_ifn hm c
      show K 9 [some (.inr (.inr 417)), some (.inl x1), some (.inl x2)] [] h
      obtain ⟨c1, hm⟩ := ia_gd_some hm
      refine ia_go hK ck_M_begins_9 ⟨gk_12 hg pk_417, gr_12_10 hg pk_417, ga_s100 hg (ka_12_10 pk_417) c1, ?_⟩
      show K 2 [some (.inr (.inr 417)), some (.inl x1), some (.inl (x2 + 1))] [] (ia_wI h 420 ((x2).toNatClampNeg) 0)
      exact ih (x2 + 1) (ia_wI h 420 ((x2).toNatClampNeg) 0) (gd_wI hg (kx_100 (ka_12_10 pk_417))) hm
theorem gl_M_begins_2 {w : ia_O0} {x1 : Int32} {h1 : ia_H} {k22 : ia_H → Option ia_H} (hk22 : ∀ (h : ia_H), gd_ w h → k22 h = some h1 → gd_ w h1) : ∀ (n : Nat) (x2 : Int32) (h : ia_H), gd_ w h → l_M_begins_2 x1 k22 n x2 h = some h1 → gd_ w h1 := by
  intro n
  induction n with
  | zero =>
    intro x2 h hg hm
    cases (show (none : Option ia_H) = some _ from hm)
  | succ n ih =>
    intro x2 h hg hm
    rw [l_M_begins_2] at hm
    by_cases c : 260 ≤ x2
    · replace hm := ia_ifp hm c
      exact hk22 h hg hm
    · replace hm := ia_ifn hm c
      obtain ⟨c1, hm⟩ := ia_gd_some hm
      exact ih (x2 + 1) (ia_wI h 420 ((x2).toNatClampNeg) 0) (gd_wI hg (kx_100 (ka_12_10 pk_417))) hm
def j_M_begins_90 (x1 : Int32) (h : ia_H) : Option ia_H := if x1 = 1 then (some (ia_wI (ia_wI h 420 2 5) 420 3 1)) else (some h)
theorem tj_M_begins_90 {w : ia_O0} {d N1 W1 : Nat} {K : ia_K} (hK : ia_isK (d + 0) mm_M_begins N1 W1 K) {x1 : Int32} {h1 : ia_H} (hret : ∀ (pc : Nat) (lv : ia_L), ia_ret mm_M_begins pc none → K pc lv (none : Option ia_V).toList h1) : ∀ (h : ia_H), gd_ w h → j_M_begins_90 x1 h = some h1 → K 90 [some (.inr (.inr 417)), some (.inl x1), none] [] h := by
  intro h hg hm
  unfold j_M_begins_90 at hm
  refine ia_go hK ck_M_begins_90 ⟨fun c => ?_, fun c => ?_⟩
  · replace hm := ia_ifn hm c
    show K 109 [some (.inr (.inr 417)), some (.inl x1), none] [] h
    obtain rfl := Option.some.inj hm
    exact hret 109 _ dc_M_begins_109
  · replace hm := ia_ifp hm c
    show K 95 [some (.inr (.inr 417)), some (.inl x1), none] [] h
    refine ia_go hK ck_M_begins_95 ⟨gk_12 hg pk_417, gr_12_10 hg pk_417, ga_s100 hg (ka_12_10 pk_417) (by decide), gk_12 (gd_wI hg (kx_100 (ka_12_10 pk_417))) pk_417, gr_12_10 (gd_wI hg (kx_100 (ka_12_10 pk_417))) pk_417, ga_s100 (gd_wI hg (kx_100 (ka_12_10 pk_417))) (ka_12_10 pk_417) (by decide), ?_⟩
    show K 109 [some (.inr (.inr 417)), some (.inl x1), none] [] (ia_wI (ia_wI h 420 2 5) 420 3 1)
    obtain rfl := Option.some.inj hm
    exact hret 109 _ dc_M_begins_109
theorem gj_M_begins_90 {w : ia_O0} {x1 : Int32} {h1 : ia_H} : ∀ (h : ia_H), gd_ w h → j_M_begins_90 x1 h = some h1 → gd_ w h1 := by
  intro h hg hm
  unfold j_M_begins_90 at hm
  by_cases c : x1 = 1
  · replace hm := ia_ifp hm c
    obtain rfl := Option.some.inj hm
    exact (gd_wI (gd_wI hg (kx_100 (ka_12_10 pk_417))) (kx_100 (ka_12_10 pk_417)))
  · replace hm := ia_ifn hm c
    obtain rfl := Option.some.inj hm
    exact hg
def l_M_begins_67 (x1 : Int32) (k90 : ia_H → Option ia_H) (n : Nat) (x2 : Int32) (h : ia_H) : Option ia_H := match n with
  | 0 => none
  | n + 1 => if 36 ≤ x2 then (k90 h) else (ia_gd (ia_ib (8 + x2) 260) (l_M_begins_67 x1 k90 n (x2 + 1) (ia_wI h 420 ((8 + x2).toNatClampNeg) 20)))
theorem tl_M_begins_67 {w : ia_O0} {d N1 W1 : Nat} {K : ia_K} (hK : ia_isK (d + 0) mm_M_begins N1 W1 K) {x1 : Int32} {h1 : ia_H} (hret : ∀ (pc : Nat) (lv : ia_L), ia_ret mm_M_begins pc none → K pc lv (none : Option ia_V).toList h1) {k90 : ia_H → Option ia_H} (hk90 : ∀ (h : ia_H), gd_ w h → k90 h = some h1 → K 90 [some (.inr (.inr 417)), some (.inl x1), none] [] h) : ∀ (n : Nat) (x2 : Int32) (h : ia_H), gd_ w h → l_M_begins_67 x1 k90 n x2 h = some h1 → K 67 [some (.inr (.inr 417)), some (.inl x1), some (.inl x2)] [] h := by
  intro n
  induction n with
  | zero =>
    intro x2 h hg hm
    cases (show (none : Option ia_H) = some _ from hm)
  | succ n ih =>
    intro x2 h hg hm
    rw [l_M_begins_67] at hm
    refine ia_go hK ck_M_begins_67 ⟨fun c => ?_, fun c => ?_⟩
    · replace hm := ia_ifp hm c
      show K 90 [some (.inr (.inr 417)), some (.inl x1), some (.inl x2)] [] h
      refine ia_fg hK (lv' := [some (.inr (.inr 417)), some (.inl x1), none]) ⟨rfl, rfl, trivial⟩ ?_
      exact hk90 h hg hm
    · replace hm := ia_ifn hm c
      show K 73 [some (.inr (.inr 417)), some (.inl x1), some (.inl x2)] [] h
      obtain ⟨c2, hm⟩ := ia_gd_some hm
      refine ia_go hK ck_M_begins_73 ⟨gk_12 hg pk_417, gr_12_10 hg pk_417, ga_s100 hg (ka_12_10 pk_417) c2, ?_⟩
      show K 67 [some (.inr (.inr 417)), some (.inl x1), some (.inl (x2 + 1))] [] (ia_wI h 420 ((8 + x2).toNatClampNeg) 20)
      exact ih (x2 + 1) (ia_wI h 420 ((8 + x2).toNatClampNeg) 20) (gd_wI hg (kx_100 (ka_12_10 pk_417))) hm
theorem gl_M_begins_67 {w : ia_O0} {x1 : Int32} {h1 : ia_H} {k90 : ia_H → Option ia_H} (hk90 : ∀ (h : ia_H), gd_ w h → k90 h = some h1 → gd_ w h1) : ∀ (n : Nat) (x2 : Int32) (h : ia_H), gd_ w h → l_M_begins_67 x1 k90 n x2 h = some h1 → gd_ w h1 := by
  intro n
  induction n with
  | zero =>
    intro x2 h hg hm
    cases (show (none : Option ia_H) = some _ from hm)
  | succ n ih =>
    intro x2 h hg hm
    rw [l_M_begins_67] at hm
    by_cases c : 36 ≤ x2
    · replace hm := ia_ifp hm c
      exact hk90 h hg hm
    · replace hm := ia_ifn hm c
      obtain ⟨c2, hm⟩ := ia_gd_some hm
      exact ih (x2 + 1) (ia_wI h 420 ((8 + x2).toNatClampNeg) 20) (gd_wI hg (kx_100 (ka_12_10 pk_417))) hm
def f_M_begins (x1 : Int32) (h : ia_H) : Option ia_H := l_M_begins_2 x1 (fun h => if x1 = 0 then (l_M_begins_67 x1 (fun h => j_M_begins_90 x1 h) fu_ 0 (ia_wI (ia_wI (ia_wI (ia_wI (ia_wI (ia_wI h 417 9 0) 417 11 0) 420 0 4) 420 1 4) 420 2 10) 420 3 1)) else (j_M_begins_90 x1 (ia_wI (ia_wI h 417 9 0) 417 11 0))) fu_ 0 h
theorem g_M_begins {w : ia_O0} {x1 : Int32} {h : ia_H} (hg : gd_ w h) {q : ia_H} (hm : f_M_begins x1 h = some q) : gd_ w q := by
  obtain ⟨h1, e1⟩ : ∃ x, x = q := ⟨_, rfl⟩
  subst e1
  unfold f_M_begins at hm
  refine gl_M_begins_2 ?_ fu_ 0 h hg hm
  · intro h hg hm
    by_cases c : x1 = 0
    · replace hm := ia_ifp hm c
      refine gl_M_begins_67 ?_ fu_ 0 (ia_wI (ia_wI (ia_wI (ia_wI (ia_wI (ia_wI h 417 9 0) 417 11 0) 420 0 4) 420 1 4) 420 2 10) 420 3 1) (gd_wI (gd_wI (gd_wI (gd_wI (gd_wI (gd_wI hg (ko_12 pk_417)) (ko_12 pk_417)) (kx_100 (ka_12_10 pk_417))) (kx_100 (ka_12_10 pk_417))) (kx_100 (ka_12_10 pk_417))) (kx_100 (ka_12_10 pk_417))) hm
      · intro h hg hm
        exact gj_M_begins_90 h hg hm
    · replace hm := ia_ifn hm c
      exact gj_M_begins_90 (ia_wI (ia_wI h 417 9 0) 417 11 0) (gd_wI (gd_wI hg (ko_12 pk_417)) (ko_12 pk_417)) hm
theorem t_M_begins {w : ia_O0} (d : Nat) {x1 : Int32} {h : ia_H} (hg : gd_ w h) {q : ia_H} (hm : f_M_begins x1 h = some q) : ia_Ev (d + 0) mm_M_begins [.inr (.inr 417), .inl x1] h none q := by
  have gq := g_M_begins hg hm
  refine ia_Ev_intro ok_M_begins (gd_le hg gq).1 (gd_le hg gq).2 (Nat.le_of_ble_eq_true rfl) (fun K hK hret => ?_)
  obtain ⟨h1, e1⟩ : ∃ x, x = q := ⟨_, rfl⟩
  subst e1
  show K 0 [some (.inr (.inr 417)), some (.inl x1), none] [] h
  unfold f_M_begins at hm
  refine ia_go hK ck_M_begins_0 ?_
  show K 2 [some (.inr (.inr 417)), some (.inl x1), some (.inl 0)] [] h
  refine tl_M_begins_2 hK hret ?_ fu_ 0 h hg hm
  · intro h hg hm
    refine ia_go hK ck_M_begins_22 ⟨gk_12 hg pk_417, gk_12 (gd_wI hg (ko_12 pk_417)) pk_417, fun c => ?_, fun c => ?_⟩
    · replace hm := ia_ifn hm c
      show K 90 [some (.inr (.inr 417)), some (.inl x1), none] [] (ia_wI (ia_wI h 417 9 0) 417 11 0)
      exact tj_M_begins_90 hK hret (ia_wI (ia_wI h 417 9 0) 417 11 0) (gd_wI (gd_wI hg (ko_12 pk_417)) (ko_12 pk_417)) hm
    · replace hm := ia_ifp hm c
      show K 36 [some (.inr (.inr 417)), some (.inl x1), none] [] (ia_wI (ia_wI h 417 9 0) 417 11 0)
      refine ia_go hK ck_M_begins_36 ⟨gk_12 (gd_wI (gd_wI hg (ko_12 pk_417)) (ko_12 pk_417)) pk_417, gr_12_10 (gd_wI (gd_wI hg (ko_12 pk_417)) (ko_12 pk_417)) pk_417, ga_s100 (gd_wI (gd_wI hg (ko_12 pk_417)) (ko_12 pk_417)) (ka_12_10 pk_417) (by decide), gk_12 (gd_wI (gd_wI (gd_wI hg (ko_12 pk_417)) (ko_12 pk_417)) (kx_100 (ka_12_10 pk_417))) pk_417, gr_12_10 (gd_wI (gd_wI (gd_wI hg (ko_12 pk_417)) (ko_12 pk_417)) (kx_100 (ka_12_10 pk_417))) pk_417, ga_s100 (gd_wI (gd_wI (gd_wI hg (ko_12 pk_417)) (ko_12 pk_417)) (kx_100 (ka_12_10 pk_417))) (ka_12_10 pk_417) (by decide), gk_12 (gd_wI (gd_wI (gd_wI (gd_wI hg (ko_12 pk_417)) (ko_12 pk_417)) (kx_100 (ka_12_10 pk_417))) (kx_100 (ka_12_10 pk_417))) pk_417, gr_12_10 (gd_wI (gd_wI (gd_wI (gd_wI hg (ko_12 pk_417)) (ko_12 pk_417)) (kx_100 (ka_12_10 pk_417))) (kx_100 (ka_12_10 pk_417))) pk_417, ga_s100 (gd_wI (gd_wI (gd_wI (gd_wI hg (ko_12 pk_417)) (ko_12 pk_417)) (kx_100 (ka_12_10 pk_417))) (kx_100 (ka_12_10 pk_417))) (ka_12_10 pk_417) (by decide), gk_12 (gd_wI (gd_wI (gd_wI (gd_wI (gd_wI hg (ko_12 pk_417)) (ko_12 pk_417)) (kx_100 (ka_12_10 pk_417))) (kx_100 (ka_12_10 pk_417))) (kx_100 (ka_12_10 pk_417))) pk_417, gr_12_10 (gd_wI (gd_wI (gd_wI (gd_wI (gd_wI hg (ko_12 pk_417)) (ko_12 pk_417)) (kx_100 (ka_12_10 pk_417))) (kx_100 (ka_12_10 pk_417))) (kx_100 (ka_12_10 pk_417))) pk_417, ga_s100 (gd_wI (gd_wI (gd_wI (gd_wI (gd_wI hg (ko_12 pk_417)) (ko_12 pk_417)) (kx_100 (ka_12_10 pk_417))) (kx_100 (ka_12_10 pk_417))) (kx_100 (ka_12_10 pk_417))) (ka_12_10 pk_417) (by decide), ?_⟩
      show K 67 [some (.inr (.inr 417)), some (.inl x1), some (.inl 0)] [] (ia_wI (ia_wI (ia_wI (ia_wI (ia_wI (ia_wI h 417 9 0) 417 11 0) 420 0 4) 420 1 4) 420 2 10) 420 3 1)
      refine tl_M_begins_67 hK hret ?_ fu_ 0 (ia_wI (ia_wI (ia_wI (ia_wI (ia_wI (ia_wI h 417 9 0) 417 11 0) 420 0 4) 420 1 4) 420 2 10) 420 3 1) (gd_wI (gd_wI (gd_wI (gd_wI (gd_wI (gd_wI hg (ko_12 pk_417)) (ko_12 pk_417)) (kx_100 (ka_12_10 pk_417))) (kx_100 (ka_12_10 pk_417))) (kx_100 (ka_12_10 pk_417))) (kx_100 (ka_12_10 pk_417))) hm
      · intro h hg hm
        exact tj_M_begins_90 hK hret h hg hm
