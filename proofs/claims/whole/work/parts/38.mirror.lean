def mm_M_runs : ia_M := (⟨"IceStreetModel", "runs", "(II)I"⟩, prog_14_method_68_code, 5, (some .int), 12, false)
theorem ok_M_runs : ia_mok mm_M_runs := ⟨by decide +kernel, by decide +kernel, by decide +kernel, by decide +kernel⟩
theorem mk_M_runs : ia_mkn mm_M_runs 1 2 := ⟨ia_tb_in (List.mem_of_getElem? (i := 1887) (by decide +kernel)) rfl, ia_tb_in (List.mem_of_getElem? (i := 146) (by decide +kernel)) rfl, by decide +kernel, by decide +kernel, ⟨ia_tb_in (List.mem_of_getElem? (i := 1886) (by decide +kernel)) rfl, ia_tb_in (List.mem_of_getElem? (i := 76) (by decide +kernel)) rfl⟩⟩
theorem ck_M_runs_0 : ia_cks 12 5 false prog_14_method_68_code 0 [(.aload_n 0, 0, 0, 0, 0)] = true := by decide +kernel
theorem ck_M_runs_4 : ia_cks 12 5 false prog_14_method_68_code 4 [(.iconst 2, 0, 0, 0, 0), (.iload_n 1, 0, 0, 0, 0)] = true := by decide +kernel
theorem ck_M_runs_9 : ia_cks 12 5 false prog_14_method_68_code 9 [(.istore_n 3, 0, 0, 0, 0), (.iconst 0, 0, 0, 0, 0), (.istore 4, 0, 0, 0, 0)] = true := by decide +kernel
theorem ck_M_runs_13 : ia_cks 12 5 false prog_14_method_68_code 13 [(.iload 4, 0, 0, 0, 0), (.iload_n 2, 0, 0, 0, 0), (.if_icmp .ge 35, 0, 0, 0, 0)] = true := by decide +kernel
theorem ck_M_runs_19 : ia_cks 12 5 false prog_14_method_68_code 19 [(.iload 4, 0, 0, 0, 0), (.aload_n 0, 0, 0, 0, 0), (.getfield 7, 12, 0, 3, 1), (.iload_n 3, 0, 0, 0, 0), (.iaload, 0, 0, 0, 0), (.if_icmp .ge 24, 0, 0, 0, 0)] = true := by decide +kernel
theorem ck_M_runs_30 : ia_cks 12 5 false prog_14_method_68_code 30 [(.aload_n 0, 0, 0, 0, 0), (.iload_n 3, 0, 0, 0, 0), (.iconst 1, 0, 0, 0, 0), (.iadd, 0, 0, 0, 0), (.iconst 4, 0, 0, 0, 0), (.iload 4, 0, 0, 0, 0), (.imul, 0, 0, 0, 0), (.iadd, 0, 0, 0, 0)] = true := by decide +kernel
theorem ck_M_runs_42 : ia_cks 12 5 false prog_14_method_68_code 42 [(.ifCond .eq 9, 0, 0, 0, 0)] = true := by decide +kernel
theorem ck_M_runs_45 : ia_cks 12 5 false prog_14_method_68_code 45 [(.iinc 4 1, 0, 0, 0, 0), (.goto (-35), 0, 0, 0, 0)] = true := by decide +kernel
theorem ck_M_runs_51 : ia_cks 12 5 false prog_14_method_68_code 51 [(.iload 4, 0, 0, 0, 0)] = true := by decide +kernel
theorem dc_M_runs_1 : decode prog_14_method_68_code 1 = .ok (.invokevirtual 293, 3) := by decide +kernel
theorem dc_M_runs_6 : decode prog_14_method_68_code 6 = .ok (.invokestatic 183, 3) := by decide +kernel
theorem dc_M_runs_39 : decode prog_14_method_68_code 39 = .ok (.invokevirtual 296, 3) := by decide +kernel
theorem dc_M_runs_53 : decode prog_14_method_68_code 53 = .ok (.ireturn, 1) := by decide +kernel
def l_M_runs_13 (x1 : Int32) (x2 : Int32) (k51 : Int32 → ia_H → Option (Int32 × ia_H)) (n : Nat) (x3 : Int32) (x4 : Int32) (h : ia_H) : Option (Int32 × ia_H) := match n with
  | 0 => none
  | n + 1 => if x2 ≤ x4 then (k51 x4 h) else (ia_gd (ia_ib x3 6528) (if (ia_i h 418 ((x3).toNatClampNeg)) ≤ x4 then (k51 x4 h) else ((f_M_does ((x3 + 1) + (4 * x4)) h).bind fun v4 => (if v4.1 = 0 then (k51 x4 v4.2) else (l_M_runs_13 x1 x2 k51 n x3 (x4 + 1) v4.2)))))
theorem tl_M_runs_13 {w : ia_O0} {d N1 W1 : Nat} {K : ia_K} (hK : ia_isK (d + 9) mm_M_runs N1 W1 K) {x1 : Int32} {x2 : Int32} {r : Int32} {h1 : ia_H} (hret : ∀ (pc : Nat) (lv : ia_L), ia_ret mm_M_runs pc (some (.inl r)) → K pc lv ((some (.inl r)) : Option ia_V).toList h1) {k51 : Int32 → ia_H → Option (Int32 × ia_H)} (hk51 : ∀ (x4 : Int32) (h : ia_H), gd_ w h → k51 x4 h = some (r, h1) → K 51 [none, none, none, none, some (.inl x4)] [] h) : ∀ (n : Nat) (x3 : Int32) (x4 : Int32) (h : ia_H), gd_ w h → l_M_runs_13 x1 x2 k51 n x3 x4 h = some (r, h1) → K 13 [some (.inr (.inr 417)), none, some (.inl x2), some (.inl x3), some (.inl x4)] [] h := by
  intro n
  induction n with
  | zero =>
    intro x3 x4 h hg hm
    cases (show (none : Option (Int32 × ia_H)) = some _ from hm)
  | succ n ih =>
    intro x3 x4 h hg hm
    rw [l_M_runs_13] at hm
    refine ia_go hK ck_M_runs_13 ⟨fun c => ?_, fun c => ?_⟩
    · replace hm := ia_ifp hm c
      show K 51 [some (.inr (.inr 417)), none, some (.inl x2), some (.inl x3), some (.inl x4)] [] h
      refine ia_fg hK (lv' := [none, none, none, none, some (.inl x4)]) ⟨rfl, trivial⟩ ?_
      exact hk51 x4 h hg hm
    · replace hm := ia_ifn hm c
      show K 19 [some (.inr (.inr 417)), none, some (.inl x2), some (.inl x3), some (.inl x4)] [] h
      obtain ⟨c3, hm⟩ := ia_gd_some hm
      refine ia_go hK ck_M_runs_19 ⟨gk_12 hg pk_417, gr_12_0 hg pk_417, ga_i100 hg (ka_12_0 pk_417) c3, fun c => ?_, fun c => ?_⟩
      · replace hm := ia_ifp hm c
        show K 51 [some (.inr (.inr 417)), none, some (.inl x2), some (.inl x3), some (.inl x4)] [] h
        refine ia_fg hK (lv' := [none, none, none, none, some (.inl x4)]) ⟨rfl, trivial⟩ ?_
        exact hk51 x4 h hg hm
      · replace hm := ia_ifn hm c
        show K 30 [some (.inr (.inr 417)), none, some (.inl x2), some (.inl x3), some (.inl x4)] [] h
        refine ia_go hK ck_M_runs_30 ?_
        show K 39 [some (.inr (.inr 417)), none, some (.inl x2), some (.inl x3), some (.inl x4)] [.inl ((x3 + 1) + (4 * x4)), .inr (.inr 417)] h
        obtain ⟨v4, hv4, hm⟩ := ia_bnd hm
        have ev4 := t_M_does (d + 0) hg hv4
        have gv4 := g_M_does hg hv4
        refine ia_cV hK mk_M_does lk_12_296 dc_M_runs_39 417 [.inl ((x3 + 1) + (4 * x4))] [] rfl rfl (Nat.le_of_ble_eq_true rfl) (by decide) rfl (gk_12 hg pk_417) ev4 (gd_nm hg gv4) ?_
        show K 42 [some (.inr (.inr 417)), none, some (.inl x2), some (.inl x3), some (.inl x4)] [.inl v4.1] v4.2
        refine ia_go hK ck_M_runs_42 ⟨fun c => ?_, fun c => ?_⟩
        · replace hm := ia_ifp hm c
          show K 51 [some (.inr (.inr 417)), none, some (.inl x2), some (.inl x3), some (.inl x4)] [] v4.2
          refine ia_fg hK (lv' := [none, none, none, none, some (.inl x4)]) ⟨rfl, trivial⟩ ?_
          exact hk51 x4 v4.2 gv4 hm
        · replace hm := ia_ifn hm c
          show K 45 [some (.inr (.inr 417)), none, some (.inl x2), some (.inl x3), some (.inl x4)] [] v4.2
          refine ia_go hK ck_M_runs_45 ?_
          show K 13 [some (.inr (.inr 417)), none, some (.inl x2), some (.inl x3), some (.inl (x4 + 1))] [] v4.2
          exact ih x3 (x4 + 1) v4.2 gv4 hm
theorem gl_M_runs_13 {w : ia_O0} {x1 : Int32} {x2 : Int32} {r : Int32} {h1 : ia_H} {k51 : Int32 → ia_H → Option (Int32 × ia_H)} (hk51 : ∀ (x4 : Int32) (h : ia_H), gd_ w h → k51 x4 h = some (r, h1) → gd_ w h1) : ∀ (n : Nat) (x3 : Int32) (x4 : Int32) (h : ia_H), gd_ w h → l_M_runs_13 x1 x2 k51 n x3 x4 h = some (r, h1) → gd_ w h1 := by
  intro n
  induction n with
  | zero =>
    intro x3 x4 h hg hm
    cases (show (none : Option (Int32 × ia_H)) = some _ from hm)
  | succ n ih =>
    intro x3 x4 h hg hm
    rw [l_M_runs_13] at hm
    by_cases c : x2 ≤ x4
    · replace hm := ia_ifp hm c
      exact hk51 x4 h hg hm
    · replace hm := ia_ifn hm c
      obtain ⟨c3, hm⟩ := ia_gd_some hm
      by_cases c : (ia_i h 418 ((x3).toNatClampNeg)) ≤ x4
      · replace hm := ia_ifp hm c
        exact hk51 x4 h hg hm
      · replace hm := ia_ifn hm c
        obtain ⟨v4, hv4, hm⟩ := ia_bnd hm
        have gv4 := g_M_does hg hv4
        by_cases c : v4.1 = 0
        · replace hm := ia_ifp hm c
          exact hk51 x4 v4.2 gv4 hm
        · replace hm := ia_ifn hm c
          exact ih x3 (x4 + 1) v4.2 gv4 hm
def f_M_runs (x1 : Int32) (x2 : Int32) (h : ia_H) : Option (Int32 × ia_H) := (f_M_anew h).bind fun v1 => ((f_M_placeOf 2 x1 v1).bind fun v2 => (l_M_runs_13 x1 x2 (fun x4 h => some (x4, h)) fu_ v2 0 v1))
theorem g_M_runs {w : ia_O0} {x1 : Int32} {x2 : Int32} {h : ia_H} (hg : gd_ w h) {q : (Int32 × ia_H)} (hm : f_M_runs x1 x2 h = some q) : gd_ w q.2 := by
  obtain ⟨r, h1⟩ := q
  unfold f_M_runs at hm
  obtain ⟨v1, hv1, hm⟩ := ia_bnd hm
  have gv1 := g_M_anew hg hv1
  obtain ⟨v2, hv2, hm⟩ := ia_bnd hm
  refine gl_M_runs_13 ?_ fu_ v2 0 v1 gv1 hm
  · intro x4 h hg hm
    obtain ⟨rfl, rfl⟩ := Prod.mk.inj (Option.some.inj hm)
    exact hg
theorem t_M_runs {w : ia_O0} (d : Nat) {x1 : Int32} {x2 : Int32} {h : ia_H} (hg : gd_ w h) {q : (Int32 × ia_H)} (hm : f_M_runs x1 x2 h = some q) : ia_Ev (d + 9) mm_M_runs [.inr (.inr 417), .inl x1, .inl x2] h (some (.inl q.1)) q.2 := by
  have gq := g_M_runs hg hm
  refine ia_Ev_intro ok_M_runs (gd_le hg gq).1 (gd_le hg gq).2 (Nat.le_of_ble_eq_true rfl) (fun K hK hret => ?_)
  obtain ⟨r, h1⟩ := q
  show K 0 [some (.inr (.inr 417)), some (.inl x1), some (.inl x2), none, none] [] h
  unfold f_M_runs at hm
  refine ia_go hK ck_M_runs_0 ?_
  show K 1 [some (.inr (.inr 417)), some (.inl x1), some (.inl x2), none, none] [.inr (.inr 417)] h
  obtain ⟨v1, hv1, hm⟩ := ia_bnd hm
  have ev1 := t_M_anew (d + 2) hg hv1
  have gv1 := g_M_anew hg hv1
  refine ia_cV hK mk_M_anew lk_12_293 dc_M_runs_1 417 [] [] rfl rfl (Nat.le_of_ble_eq_true rfl) (by decide) rfl (gk_12 hg pk_417) ev1 (gd_nm hg gv1) ?_
  show K 4 [some (.inr (.inr 417)), some (.inl x1), some (.inl x2), none, none] [] v1
  refine ia_go hK ck_M_runs_4 ?_
  show K 6 [some (.inr (.inr 417)), some (.inl x1), some (.inl x2), none, none] [.inl x1, .inl 2] v1
  obtain ⟨v2, hv2, hm⟩ := ia_bnd hm
  have ev2 := t_M_placeOf (d + 8) gv1 hv2
  refine ia_cS hK mk_M_placeOf lk_12_183 dc_M_runs_6 [.inl 2, .inl x1] [] rfl rfl (Nat.le_of_ble_eq_true rfl) ev2 ⟨rfl, rfl⟩ ?_
  show K 9 [some (.inr (.inr 417)), some (.inl x1), some (.inl x2), none, none] [.inl v2] v1
  refine ia_go hK ck_M_runs_9 ?_
  show K 13 [some (.inr (.inr 417)), some (.inl x1), some (.inl x2), some (.inl v2), some (.inl 0)] [] v1
  refine ia_fg hK (lv' := [some (.inr (.inr 417)), none, some (.inl x2), some (.inl v2), some (.inl 0)]) ⟨rfl, rfl, rfl, rfl, trivial⟩ ?_
  refine tl_M_runs_13 hK hret ?_ fu_ v2 0 v1 gv1 hm
  · intro x4 h hg hm
    refine ia_go hK ck_M_runs_51 ?_
    show K 53 [none, none, none, none, some (.inl x4)] [.inl x4] h
    obtain ⟨rfl, rfl⟩ := Prod.mk.inj (Option.some.inj hm)
    exact hret 53 _ dc_M_runs_53
def mm_M_stop : ia_M := (⟨"IceStreetModel", "stop", "(III)I"⟩, prog_14_method_71_code, 4, (some .int), 12, false)
theorem ok_M_stop : ia_mok mm_M_stop := ⟨by decide +kernel, by decide +kernel, by decide +kernel, by decide +kernel⟩
theorem mk_M_stop : ia_mkn mm_M_stop 1 3 := ⟨ia_tb_in (List.mem_of_getElem? (i := 1879) (by decide +kernel)) rfl, ia_tb_in (List.mem_of_getElem? (i := 146) (by decide +kernel)) rfl, by decide +kernel, by decide +kernel, ⟨ia_tb_in (List.mem_of_getElem? (i := 1877) (by decide +kernel)) rfl, ia_tb_in (List.mem_of_getElem? (i := 1878) (by decide +kernel)) rfl⟩⟩
theorem ck_M_stop_0 : ia_cks 12 4 false prog_14_method_71_code 0 [(.aload_n 0, 0, 0, 0, 0), (.iload_n 1, 0, 0, 0, 0), (.iload_n 2, 0, 0, 0, 0)] = true := by decide +kernel
theorem ck_M_stop_6 : ia_cks 12 4 false prog_14_method_71_code 6 [(.ifCond .eq 22, 0, 0, 0, 0)] = true := by decide +kernel
theorem ck_M_stop_28 : ia_cks 12 4 false prog_14_method_71_code 28 [(.iconst (-1), 0, 0, 0, 0)] = true := by decide +kernel
theorem ck_M_stop_9 : ia_cks 12 4 false prog_14_method_71_code 9 [(.aload_n 0, 0, 0, 0, 0), (.iconst 2, 0, 0, 0, 0), (.iload_n 3, 0, 0, 0, 0)] = true := by decide +kernel
theorem ck_M_stop_15 : ia_cks 12 4 false prog_14_method_71_code 15 [(.ifCond .eq 13, 0, 0, 0, 0)] = true := by decide +kernel
theorem ck_M_stop_18 : ia_cks 12 4 false prog_14_method_71_code 18 [(.aload_n 0, 0, 0, 0, 0), (.iload_n 3, 0, 0, 0, 0), (.bipush 99, 0, 0, 0, 0)] = true := by decide +kernel
theorem ck_M_stop_25 : ia_cks 12 4 false prog_14_method_71_code 25 [(.goto 4, 0, 0, 0, 0)] = true := by decide +kernel
theorem dc_M_stop_3 : decode prog_14_method_71_code 3 = .ok (.invokevirtual 299, 3) := by decide +kernel
theorem dc_M_stop_29 : decode prog_14_method_71_code 29 = .ok (.ireturn, 1) := by decide +kernel
theorem dc_M_stop_12 : decode prog_14_method_71_code 12 = .ok (.invokevirtual 163, 3) := by decide +kernel
theorem dc_M_stop_22 : decode prog_14_method_71_code 22 = .ok (.invokevirtual 302, 3) := by decide +kernel
def f_M_stop (x1 : Int32) (x2 : Int32) (x3 : Int32) (h : ia_H) : Option (Int32 × ia_H) := (f_M_areBoth x1 x2 h).bind fun v1 => (if v1.1 = 0 then (some ((-1), v1.2)) else ((f_M_isOf 2 x3 v1.2).bind fun v2 => (if v2 = 0 then (some ((-1), v1.2)) else ((f_M_runs x3 99 v1.2).bind fun v3 => (some (v3.1, v3.2))))))
theorem g_M_stop {w : ia_O0} {x1 : Int32} {x2 : Int32} {x3 : Int32} {h : ia_H} (hg : gd_ w h) {q : (Int32 × ia_H)} (hm : f_M_stop x1 x2 x3 h = some q) : gd_ w q.2 := by
  obtain ⟨r, h1⟩ := q
  unfold f_M_stop at hm
  obtain ⟨v1, hv1, hm⟩ := ia_bnd hm
  have gv1 := g_M_areBoth hg hv1
  by_cases c : v1.1 = 0
  · replace hm := ia_ifp hm c
    obtain ⟨rfl, rfl⟩ := Prod.mk.inj (Option.some.inj hm)
    exact gv1
  · replace hm := ia_ifn hm c
    obtain ⟨v2, hv2, hm⟩ := ia_bnd hm
    by_cases c : v2 = 0
    · replace hm := ia_ifp hm c
      obtain ⟨rfl, rfl⟩ := Prod.mk.inj (Option.some.inj hm)
      exact gv1
    · replace hm := ia_ifn hm c
      obtain ⟨v3, hv3, hm⟩ := ia_bnd hm
      have gv3 := g_M_runs gv1 hv3
      obtain ⟨rfl, rfl⟩ := Prod.mk.inj (Option.some.inj hm)
      exact gv3
theorem t_M_stop {w : ia_O0} (d : Nat) {x1 : Int32} {x2 : Int32} {x3 : Int32} {h : ia_H} (hg : gd_ w h) {q : (Int32 × ia_H)} (hm : f_M_stop x1 x2 x3 h = some q) : ia_Ev (d + 10) mm_M_stop [.inr (.inr 417), .inl x1, .inl x2, .inl x3] h (some (.inl q.1)) q.2 := by
  have gq := g_M_stop hg hm
  refine ia_Ev_intro ok_M_stop (gd_le hg gq).1 (gd_le hg gq).2 (Nat.le_of_ble_eq_true rfl) (fun K hK hret => ?_)
  obtain ⟨r, h1⟩ := q
  show K 0 [some (.inr (.inr 417)), some (.inl x1), some (.inl x2), some (.inl x3)] [] h
  unfold f_M_stop at hm
  refine ia_go hK ck_M_stop_0 ?_
  show K 3 [some (.inr (.inr 417)), some (.inl x1), some (.inl x2), some (.inl x3)] [.inl x2, .inl x1, .inr (.inr 417)] h
  obtain ⟨v1, hv1, hm⟩ := ia_bnd hm
  have ev1 := t_M_areBoth (d + 7) hg hv1
  have gv1 := g_M_areBoth hg hv1
  refine ia_cV hK mk_M_areBoth lk_12_299 dc_M_stop_3 417 [.inl x1, .inl x2] [] rfl rfl (Nat.le_of_ble_eq_true rfl) (by decide) rfl (gk_12 hg pk_417) ev1 (gd_nm hg gv1) ?_
  show K 6 [some (.inr (.inr 417)), some (.inl x1), some (.inl x2), some (.inl x3)] [.inl v1.1] v1.2
  refine ia_go hK ck_M_stop_6 ⟨fun c => ?_, fun c => ?_⟩
  · replace hm := ia_ifp hm c
    show K 28 [some (.inr (.inr 417)), some (.inl x1), some (.inl x2), some (.inl x3)] [] v1.2
    refine ia_go hK ck_M_stop_28 ?_
    show K 29 [some (.inr (.inr 417)), some (.inl x1), some (.inl x2), some (.inl x3)] [.inl (-1)] v1.2
    obtain ⟨rfl, rfl⟩ := Prod.mk.inj (Option.some.inj hm)
    exact hret 29 _ dc_M_stop_29
  · replace hm := ia_ifn hm c
    show K 9 [some (.inr (.inr 417)), some (.inl x1), some (.inl x2), some (.inl x3)] [] v1.2
    refine ia_go hK ck_M_stop_9 ?_
    show K 12 [some (.inr (.inr 417)), some (.inl x1), some (.inl x2), some (.inl x3)] [.inl x3, .inl 2, .inr (.inr 417)] v1.2
    obtain ⟨v2, hv2, hm⟩ := ia_bnd hm
    have ev2 := t_M_isOf (d + 8) gv1 hv2
    refine ia_cV hK mk_M_isOf lk_12_163 dc_M_stop_12 417 [.inl 2, .inl x3] [] rfl rfl (Nat.le_of_ble_eq_true rfl) (by decide) rfl (gk_12 gv1 pk_417) ev2 ⟨rfl, rfl⟩ ?_
    show K 15 [some (.inr (.inr 417)), some (.inl x1), some (.inl x2), some (.inl x3)] [.inl v2] v1.2
    refine ia_go hK ck_M_stop_15 ⟨fun c => ?_, fun c => ?_⟩
    · replace hm := ia_ifp hm c
      show K 28 [some (.inr (.inr 417)), some (.inl x1), some (.inl x2), some (.inl x3)] [] v1.2
      refine ia_go hK ck_M_stop_28 ?_
      show K 29 [some (.inr (.inr 417)), some (.inl x1), some (.inl x2), some (.inl x3)] [.inl (-1)] v1.2
      obtain ⟨rfl, rfl⟩ := Prod.mk.inj (Option.some.inj hm)
      exact hret 29 _ dc_M_stop_29
    · replace hm := ia_ifn hm c
      show K 18 [some (.inr (.inr 417)), some (.inl x1), some (.inl x2), some (.inl x3)] [] v1.2
      refine ia_go hK ck_M_stop_18 ?_
      show K 22 [some (.inr (.inr 417)), some (.inl x1), some (.inl x2), some (.inl x3)] [.inl 99, .inl x3, .inr (.inr 417)] v1.2
      obtain ⟨v3, hv3, hm⟩ := ia_bnd hm
      have ev3 := t_M_runs (d + 0) gv1 hv3
      have gv3 := g_M_runs gv1 hv3
      refine ia_cV hK mk_M_runs lk_12_302 dc_M_stop_22 417 [.inl x3, .inl 99] [] rfl rfl (Nat.le_of_ble_eq_true rfl) (by decide) rfl (gk_12 gv1 pk_417) ev3 (gd_nm gv1 gv3) ?_
      show K 25 [some (.inr (.inr 417)), some (.inl x1), some (.inl x2), some (.inl x3)] [.inl v3.1] v3.2
      refine ia_go hK ck_M_stop_25 ?_
      show K 29 [some (.inr (.inr 417)), some (.inl x1), some (.inl x2), some (.inl x3)] [.inl v3.1] v3.2
      obtain ⟨rfl, rfl⟩ := Prod.mk.inj (Option.some.inj hm)
      exact hret 29 _ dc_M_stop_29
def mm_M_isState : ia_M := (⟨"IceStreetModel", "isState", "(IIII)Z"⟩, prog_14_method_70_code, 5, (some .boolean), 12, false)
theorem ok_M_isState : ia_mok mm_M_isState := ⟨by decide +kernel, by decide +kernel, by decide +kernel, by decide +kernel⟩
theorem mk_M_isState : ia_mkn mm_M_isState 1 4 := ⟨ia_tb_in (List.mem_of_getElem? (i := 1995) (by decide +kernel)) rfl, ia_tb_in (List.mem_of_getElem? (i := 146) (by decide +kernel)) rfl, by decide +kernel, by decide +kernel, ⟨ia_tb_in (List.mem_of_getElem? (i := 1994) (by decide +kernel)) rfl, ia_tb_in (List.mem_of_getElem? (i := 101) (by decide +kernel)) rfl⟩⟩
theorem ck_M_isState_0 : ia_cks 12 5 false prog_14_method_70_code 0 [(.aload_n 0, 0, 0, 0, 0), (.iload_n 1, 0, 0, 0, 0), (.iload_n 2, 0, 0, 0, 0)] = true := by decide +kernel
theorem ck_M_isState_6 : ia_cks 12 5 false prog_14_method_70_code 6 [(.ifCond .eq 22, 0, 0, 0, 0)] = true := by decide +kernel
theorem ck_M_isState_28 : ia_cks 12 5 false prog_14_method_70_code 28 [(.iconst 0, 0, 0, 0, 0)] = true := by decide +kernel
theorem ck_M_isState_9 : ia_cks 12 5 false prog_14_method_70_code 9 [(.iload 4, 0, 0, 0, 0), (.ifCond .lt 17, 0, 0, 0, 0)] = true := by decide +kernel
theorem ck_M_isState_14 : ia_cks 12 5 false prog_14_method_70_code 14 [(.iload_n 3, 0, 0, 0, 0), (.iconst (-1), 0, 0, 0, 0), (.if_icmp .eq 14, 0, 0, 0, 0)] = true := by decide +kernel
theorem ck_M_isState_30 : ia_cks 12 5 false prog_14_method_70_code 30 [(.iload_n 3, 0, 0, 0, 0), (.iconst (-1), 0, 0, 0, 0), (.if_icmp .eq 21, 0, 0, 0, 0)] = true := by decide +kernel
theorem ck_M_isState_53 : ia_cks 12 5 false prog_14_method_70_code 53 [(.aload_n 0, 0, 0, 0, 0)] = true := by decide +kernel
theorem ck_M_isState_57 : ia_cks 12 5 false prog_14_method_70_code 57 [(.iload 4, 0, 0, 0, 0), (.ifCond .ne 7, 0, 0, 0, 0)] = true := by decide +kernel
theorem ck_M_isState_66 : ia_cks 12 5 false prog_14_method_70_code 66 [(.iconst 0, 0, 0, 0, 0)] = true := by decide +kernel
theorem ck_M_isState_62 : ia_cks 12 5 false prog_14_method_70_code 62 [(.iconst 1, 0, 0, 0, 0), (.goto 4, 0, 0, 0, 0)] = true := by decide +kernel
theorem ck_M_isState_35 : ia_cks 12 5 false prog_14_method_70_code 35 [(.aload_n 0, 0, 0, 0, 0), (.iload_n 3, 0, 0, 0, 0), (.iload 4, 0, 0, 0, 0)] = true := by decide +kernel
theorem ck_M_isState_42 : ia_cks 12 5 false prog_14_method_70_code 42 [(.iload 4, 0, 0, 0, 0), (.if_icmp .ne 7, 0, 0, 0, 0)] = true := by decide +kernel
theorem ck_M_isState_51 : ia_cks 12 5 false prog_14_method_70_code 51 [(.iconst 0, 0, 0, 0, 0)] = true := by decide +kernel
theorem ck_M_isState_47 : ia_cks 12 5 false prog_14_method_70_code 47 [(.iconst 1, 0, 0, 0, 0), (.goto 4, 0, 0, 0, 0)] = true := by decide +kernel
theorem ck_M_isState_19 : ia_cks 12 5 false prog_14_method_70_code 19 [(.aload_n 0, 0, 0, 0, 0), (.iconst 2, 0, 0, 0, 0), (.iload_n 3, 0, 0, 0, 0)] = true := by decide +kernel
theorem ck_M_isState_25 : ia_cks 12 5 false prog_14_method_70_code 25 [(.ifCond .ne 5, 0, 0, 0, 0)] = true := by decide +kernel
theorem dc_M_isState_3 : decode prog_14_method_70_code 3 = .ok (.invokevirtual 299, 3) := by decide +kernel
theorem dc_M_isState_29 : decode prog_14_method_70_code 29 = .ok (.ireturn, 1) := by decide +kernel
theorem dc_M_isState_54 : decode prog_14_method_70_code 54 = .ok (.invokevirtual 293, 3) := by decide +kernel
theorem dc_M_isState_67 : decode prog_14_method_70_code 67 = .ok (.ireturn, 1) := by decide +kernel
theorem dc_M_isState_39 : decode prog_14_method_70_code 39 = .ok (.invokevirtual 302, 3) := by decide +kernel
theorem dc_M_isState_52 : decode prog_14_method_70_code 52 = .ok (.ireturn, 1) := by decide +kernel
theorem dc_M_isState_22 : decode prog_14_method_70_code 22 = .ok (.invokevirtual 163, 3) := by decide +kernel
def j_M_isState_30 (x1 : Int32) (x2 : Int32) (x3 : Int32) (x4 : Int32) (h : ia_H) : Option (Int32 × ia_H) := if x3 = (-1) then ((f_M_anew h).bind fun v2 => (if x4 = 0 then (some (1, v2)) else (some (0, v2)))) else ((f_M_runs x3 x4 h).bind fun v3 => (if v3.1 = x4 then (some (1, v3.2)) else (some (0, v3.2))))
theorem tj_M_isState_30 {w : ia_O0} {d N1 W1 : Nat} {K : ia_K} (hK : ia_isK (d + 10) mm_M_isState N1 W1 K) {x1 : Int32} {x2 : Int32} {x3 : Int32} {x4 : Int32} {r : Int32} {h1 : ia_H} (hret : ∀ (pc : Nat) (lv : ia_L), ia_ret mm_M_isState pc (some (.inl r)) → K pc lv ((some (.inl r)) : Option ia_V).toList h1) : ∀ (h : ia_H), gd_ w h → j_M_isState_30 x1 x2 x3 x4 h = some (r, h1) → K 30 [some (.inr (.inr 417)), none, none, some (.inl x3), some (.inl x4)] [] h := by
  intro h hg hm
  unfold j_M_isState_30 at hm
  refine ia_go hK ck_M_isState_30 ⟨fun c => ?_, fun c => ?_⟩
  · replace hm := ia_ifp hm c
    show K 53 [some (.inr (.inr 417)), none, none, some (.inl x3), some (.inl x4)] [] h
    refine ia_go hK ck_M_isState_53 ?_
    show K 54 [some (.inr (.inr 417)), none, none, some (.inl x3), some (.inl x4)] [.inr (.inr 417)] h
    obtain ⟨v2, hv2, hm⟩ := ia_bnd hm
    have ev2 := t_M_anew (d + 3) hg hv2
    have gv2 := g_M_anew hg hv2
    refine ia_cV hK mk_M_anew lk_12_293 dc_M_isState_54 417 [] [] rfl rfl (Nat.le_of_ble_eq_true rfl) (by decide) rfl (gk_12 hg pk_417) ev2 (gd_nm hg gv2) ?_
    show K 57 [some (.inr (.inr 417)), none, none, some (.inl x3), some (.inl x4)] [] v2
    refine ia_go hK ck_M_isState_57 ⟨fun c => ?_, fun c => ?_⟩
    · replace hm := ia_ifn hm c
      show K 66 [some (.inr (.inr 417)), none, none, some (.inl x3), some (.inl x4)] [] v2
      refine ia_go hK ck_M_isState_66 ?_
      show K 67 [some (.inr (.inr 417)), none, none, some (.inl x3), some (.inl x4)] [.inl 0] v2
      obtain ⟨rfl, rfl⟩ := Prod.mk.inj (Option.some.inj hm)
      exact hret 67 _ ⟨Or.inl rfl, dc_M_isState_67⟩
    · replace hm := ia_ifp hm c
      show K 62 [some (.inr (.inr 417)), none, none, some (.inl x3), some (.inl x4)] [] v2
      refine ia_go hK ck_M_isState_62 ?_
      show K 67 [some (.inr (.inr 417)), none, none, some (.inl x3), some (.inl x4)] [.inl 1] v2
      obtain ⟨rfl, rfl⟩ := Prod.mk.inj (Option.some.inj hm)
      exact hret 67 _ ⟨Or.inr rfl, dc_M_isState_67⟩
  · replace hm := ia_ifn hm c
    show K 35 [some (.inr (.inr 417)), none, none, some (.inl x3), some (.inl x4)] [] h
    refine ia_go hK ck_M_isState_35 ?_
    show K 39 [some (.inr (.inr 417)), none, none, some (.inl x3), some (.inl x4)] [.inl x4, .inl x3, .inr (.inr 417)] h
    obtain ⟨v3, hv3, hm⟩ := ia_bnd hm
    have ev3 := t_M_runs (d + 0) hg hv3
    have gv3 := g_M_runs hg hv3
    refine ia_cV hK mk_M_runs lk_12_302 dc_M_isState_39 417 [.inl x3, .inl x4] [] rfl rfl (Nat.le_of_ble_eq_true rfl) (by decide) rfl (gk_12 hg pk_417) ev3 (gd_nm hg gv3) ?_
    show K 42 [some (.inr (.inr 417)), none, none, some (.inl x3), some (.inl x4)] [.inl v3.1] v3.2
    refine ia_go hK ck_M_isState_42 ⟨fun c => ?_, fun c => ?_⟩
    · replace hm := ia_ifn hm c
      show K 51 [some (.inr (.inr 417)), none, none, some (.inl x3), some (.inl x4)] [] v3.2
      refine ia_go hK ck_M_isState_51 ?_
      show K 52 [some (.inr (.inr 417)), none, none, some (.inl x3), some (.inl x4)] [.inl 0] v3.2
      obtain ⟨rfl, rfl⟩ := Prod.mk.inj (Option.some.inj hm)
      exact hret 52 _ ⟨Or.inl rfl, dc_M_isState_52⟩
    · replace hm := ia_ifp hm c
      show K 47 [some (.inr (.inr 417)), none, none, some (.inl x3), some (.inl x4)] [] v3.2
      refine ia_go hK ck_M_isState_47 ?_
      show K 52 [some (.inr (.inr 417)), none, none, some (.inl x3), some (.inl x4)] [.inl 1] v3.2
      obtain ⟨rfl, rfl⟩ := Prod.mk.inj (Option.some.inj hm)
      exact hret 52 _ ⟨Or.inr rfl, dc_M_isState_52⟩
theorem gj_M_isState_30 {w : ia_O0} {x1 : Int32} {x2 : Int32} {x3 : Int32} {x4 : Int32} {r : Int32} {h1 : ia_H} : ∀ (h : ia_H), gd_ w h → j_M_isState_30 x1 x2 x3 x4 h = some (r, h1) → gd_ w h1 := by
  intro h hg hm
  unfold j_M_isState_30 at hm
  by_cases c : x3 = (-1)
  · replace hm := ia_ifp hm c
    obtain ⟨v2, hv2, hm⟩ := ia_bnd hm
    have gv2 := g_M_anew hg hv2
    by_cases c : x4 = 0
    · replace hm := ia_ifp hm c
      obtain ⟨rfl, rfl⟩ := Prod.mk.inj (Option.some.inj hm)
      exact gv2
    · replace hm := ia_ifn hm c
      obtain ⟨rfl, rfl⟩ := Prod.mk.inj (Option.some.inj hm)
      exact gv2
  · replace hm := ia_ifn hm c
    obtain ⟨v3, hv3, hm⟩ := ia_bnd hm
    have gv3 := g_M_runs hg hv3
    by_cases c : v3.1 = x4
    · replace hm := ia_ifp hm c
      obtain ⟨rfl, rfl⟩ := Prod.mk.inj (Option.some.inj hm)
      exact gv3
    · replace hm := ia_ifn hm c
      obtain ⟨rfl, rfl⟩ := Prod.mk.inj (Option.some.inj hm)
      exact gv3
def f_M_isState (x1 : Int32) (x2 : Int32) (x3 : Int32) (x4 : Int32) (h : ia_H) : Option (Int32 × ia_H) := (f_M_areBoth x1 x2 h).bind fun v1 => (if v1.1 = 0 then (some (0, v1.2)) else (if x4 < 0 then (some (0, v1.2)) else (if x3 = (-1) then (j_M_isState_30 x1 x2 x3 x4 v1.2) else ((f_M_isOf 2 x3 v1.2).bind fun v4 => (if v4 = 0 then (some (0, v1.2)) else (j_M_isState_30 x1 x2 x3 x4 v1.2))))))
theorem g_M_isState {w : ia_O0} {x1 : Int32} {x2 : Int32} {x3 : Int32} {x4 : Int32} {h : ia_H} (hg : gd_ w h) {q : (Int32 × ia_H)} (hm : f_M_isState x1 x2 x3 x4 h = some q) : gd_ w q.2 := by
  obtain ⟨r, h1⟩ := q
  unfold f_M_isState at hm
  obtain ⟨v1, hv1, hm⟩ := ia_bnd hm
  have gv1 := g_M_areBoth hg hv1
  by_cases c : v1.1 = 0
  · replace hm := ia_ifp hm c
    obtain ⟨rfl, rfl⟩ := Prod.mk.inj (Option.some.inj hm)
    exact gv1
  · replace hm := ia_ifn hm c
    by_cases c : x4 < 0
    · replace hm := ia_ifp hm c
      obtain ⟨rfl, rfl⟩ := Prod.mk.inj (Option.some.inj hm)
      exact gv1
    · replace hm := ia_ifn hm c
      by_cases c : x3 = (-1)
      · replace hm := ia_ifp hm c
        exact gj_M_isState_30 v1.2 gv1 hm
      · replace hm := ia_ifn hm c
        obtain ⟨v4, hv4, hm⟩ := ia_bnd hm
        by_cases c : v4 = 0
        · replace hm := ia_ifp hm c
          obtain ⟨rfl, rfl⟩ := Prod.mk.inj (Option.some.inj hm)
          exact gv1
        · replace hm := ia_ifn hm c
          exact gj_M_isState_30 v1.2 gv1 hm
theorem t_M_isState {w : ia_O0} (d : Nat) {x1 : Int32} {x2 : Int32} {x3 : Int32} {x4 : Int32} {h : ia_H} (hg : gd_ w h) {q : (Int32 × ia_H)} (hm : f_M_isState x1 x2 x3 x4 h = some q) : ia_Ev (d + 10) mm_M_isState [.inr (.inr 417), .inl x1, .inl x2, .inl x3, .inl x4] h (some (.inl q.1)) q.2 := by
  have gq := g_M_isState hg hm
  refine ia_Ev_intro ok_M_isState (gd_le hg gq).1 (gd_le hg gq).2 (Nat.le_of_ble_eq_true rfl) (fun K hK hret => ?_)
  obtain ⟨r, h1⟩ := q
  show K 0 [some (.inr (.inr 417)), some (.inl x1), some (.inl x2), some (.inl x3), some (.inl x4)] [] h
  unfold f_M_isState at hm
  refine ia_go hK ck_M_isState_0 ?_
  show K 3 [some (.inr (.inr 417)), some (.inl x1), some (.inl x2), some (.inl x3), some (.inl x4)] [.inl x2, .inl x1, .inr (.inr 417)] h
  obtain ⟨v1, hv1, hm⟩ := ia_bnd hm
  have ev1 := t_M_areBoth (d + 7) hg hv1
  have gv1 := g_M_areBoth hg hv1
  refine ia_cV hK mk_M_areBoth lk_12_299 dc_M_isState_3 417 [.inl x1, .inl x2] [] rfl rfl (Nat.le_of_ble_eq_true rfl) (by decide) rfl (gk_12 hg pk_417) ev1 (gd_nm hg gv1) ?_
  show K 6 [some (.inr (.inr 417)), some (.inl x1), some (.inl x2), some (.inl x3), some (.inl x4)] [.inl v1.1] v1.2
  refine ia_go hK ck_M_isState_6 ⟨fun c => ?_, fun c => ?_⟩
  · replace hm := ia_ifp hm c
    show K 28 [some (.inr (.inr 417)), some (.inl x1), some (.inl x2), some (.inl x3), some (.inl x4)] [] v1.2
    refine ia_go hK ck_M_isState_28 ?_
    show K 29 [some (.inr (.inr 417)), some (.inl x1), some (.inl x2), some (.inl x3), some (.inl x4)] [.inl 0] v1.2
    obtain ⟨rfl, rfl⟩ := Prod.mk.inj (Option.some.inj hm)
    exact hret 29 _ ⟨Or.inl rfl, dc_M_isState_29⟩
  · replace hm := ia_ifn hm c
    show K 9 [some (.inr (.inr 417)), some (.inl x1), some (.inl x2), some (.inl x3), some (.inl x4)] [] v1.2
    refine ia_go hK ck_M_isState_9 ⟨fun c => ?_, fun c => ?_⟩
    · replace hm := ia_ifp hm c
      show K 28 [some (.inr (.inr 417)), some (.inl x1), some (.inl x2), some (.inl x3), some (.inl x4)] [] v1.2
      refine ia_go hK ck_M_isState_28 ?_
      show K 29 [some (.inr (.inr 417)), some (.inl x1), some (.inl x2), some (.inl x3), some (.inl x4)] [.inl 0] v1.2
      obtain ⟨rfl, rfl⟩ := Prod.mk.inj (Option.some.inj hm)
      exact hret 29 _ ⟨Or.inl rfl, dc_M_isState_29⟩
    · replace hm := ia_ifn hm c
      show K 14 [some (.inr (.inr 417)), some (.inl x1), some (.inl x2), some (.inl x3), some (.inl x4)] [] v1.2
      refine ia_go hK ck_M_isState_14 ⟨fun c => ?_, fun c => ?_⟩
      · replace hm := ia_ifp hm c
        show K 30 [some (.inr (.inr 417)), some (.inl x1), some (.inl x2), some (.inl x3), some (.inl x4)] [] v1.2
        refine ia_fg hK (lv' := [some (.inr (.inr 417)), none, none, some (.inl x3), some (.inl x4)]) ⟨rfl, rfl, rfl, trivial⟩ ?_
        exact tj_M_isState_30 hK hret v1.2 gv1 hm
      · replace hm := ia_ifn hm c
        show K 19 [some (.inr (.inr 417)), some (.inl x1), some (.inl x2), some (.inl x3), some (.inl x4)] [] v1.2
        refine ia_go hK ck_M_isState_19 ?_
        show K 22 [some (.inr (.inr 417)), some (.inl x1), some (.inl x2), some (.inl x3), some (.inl x4)] [.inl x3, .inl 2, .inr (.inr 417)] v1.2
        obtain ⟨v4, hv4, hm⟩ := ia_bnd hm
        have ev4 := t_M_isOf (d + 8) gv1 hv4
        refine ia_cV hK mk_M_isOf lk_12_163 dc_M_isState_22 417 [.inl 2, .inl x3] [] rfl rfl (Nat.le_of_ble_eq_true rfl) (by decide) rfl (gk_12 gv1 pk_417) ev4 ⟨rfl, rfl⟩ ?_
        show K 25 [some (.inr (.inr 417)), some (.inl x1), some (.inl x2), some (.inl x3), some (.inl x4)] [.inl v4] v1.2
        refine ia_go hK ck_M_isState_25 ⟨fun c => ?_, fun c => ?_⟩
        · replace hm := ia_ifn hm c
          show K 30 [some (.inr (.inr 417)), some (.inl x1), some (.inl x2), some (.inl x3), some (.inl x4)] [] v1.2
          refine ia_fg hK (lv' := [some (.inr (.inr 417)), none, none, some (.inl x3), some (.inl x4)]) ⟨rfl, rfl, rfl, trivial⟩ ?_
          exact tj_M_isState_30 hK hret v1.2 gv1 hm
        · replace hm := ia_ifp hm c
          show K 28 [some (.inr (.inr 417)), some (.inl x1), some (.inl x2), some (.inl x3), some (.inl x4)] [] v1.2
          refine ia_go hK ck_M_isState_28 ?_
          show K 29 [some (.inr (.inr 417)), some (.inl x1), some (.inl x2), some (.inl x3), some (.inl x4)] [.inl 0] v1.2
          obtain ⟨rfl, rfl⟩ := Prod.mk.inj (Option.some.inj hm)
          exact hret 29 _ ⟨Or.inl rfl, dc_M_isState_29⟩
def mm_M_lost : ia_M := (⟨"IceStreetModel", "lost", "()I"⟩, prog_14_method_72_code, 3, (some .int), 12, false)
theorem ok_M_lost : ia_mok mm_M_lost := ⟨by decide +kernel, by decide +kernel, by decide +kernel, by decide +kernel⟩
theorem mk_M_lost : ia_mkn mm_M_lost 1 0 := ⟨ia_tb_in (List.mem_of_getElem? (i := 1999) (by decide +kernel)) rfl, ia_tb_in (List.mem_of_getElem? (i := 146) (by decide +kernel)) rfl, by decide +kernel, by decide +kernel, ⟨ia_tb_in (List.mem_of_getElem? (i := 1998) (by decide +kernel)) rfl, ia_tb_in (List.mem_of_getElem? (i := 102) (by decide +kernel)) rfl⟩⟩
theorem ck_M_lost_0 : ia_cks 12 3 false prog_14_method_72_code 0 [(.iconst 0, 0, 0, 0, 0), (.istore_n 1, 0, 0, 0, 0), (.iconst 0, 0, 0, 0, 0), (.istore_n 2, 0, 0, 0, 0)] = true := by decide +kernel
theorem ck_M_lost_4 : ia_cks 12 3 false prog_14_method_72_code 4 [(.iload_n 2, 0, 0, 0, 0), (.aload_n 0, 0, 0, 0, 0), (.getfield 7, 12, 0, 3, 1), (.aload_n 0, 0, 0, 0, 0), (.getfield 201, 12, 14, 0, 0), (.iconst 4, 0, 0, 0, 0), (.iadd, 0, 0, 0, 0), (.iaload, 0, 0, 0, 0), (.if_icmp .ge 40, 0, 0, 0, 0)] = true := by decide +kernel
theorem ck_M_lost_19 : ia_cks 12 3 false prog_14_method_72_code 19 [(.iload_n 1, 0, 0, 0, 0), (.aload_n 0, 0, 0, 0, 0), (.getfield 23, 12, 13, 3, 5), (.bipush 72, 0, 0, 0, 0), (.iload_n 2, 0, 0, 0, 0), (.iadd, 0, 0, 0, 0), (.iaload, 0, 0, 0, 0), (.bipush (-2), 0, 0, 0, 0), (.if_icmp .ne 16, 0, 0, 0, 0)] = true := by decide +kernel
theorem ck_M_lost_47 : ia_cks 12 3 false prog_14_method_72_code 47 [(.iconst 0, 0, 0, 0, 0)] = true := by decide +kernel
theorem ck_M_lost_48 : ia_cks 12 3 false prog_14_method_72_code 48 [(.iadd, 0, 0, 0, 0), (.istore_n 1, 0, 0, 0, 0), (.iinc 2 1, 0, 0, 0, 0), (.goto (-49), 0, 0, 0, 0)] = true := by decide +kernel
theorem ck_M_lost_34 : ia_cks 12 3 false prog_14_method_72_code 34 [(.aload_n 0, 0, 0, 0, 0), (.aload_n 0, 0, 0, 0, 0), (.getfield 201, 12, 14, 0, 0), (.iload_n 2, 0, 0, 0, 0), (.iconst 3, 0, 0, 0, 0)] = true := by decide +kernel
theorem ck_M_lost_44 : ia_cks 12 3 false prog_14_method_72_code 44 [(.goto 4, 0, 0, 0, 0)] = true := by decide +kernel
theorem ck_M_lost_56 : ia_cks 12 3 false prog_14_method_72_code 56 [(.iload_n 1, 0, 0, 0, 0)] = true := by decide +kernel
theorem dc_M_lost_41 : decode prog_14_method_72_code 41 = .ok (.invokevirtual 198, 3) := by decide +kernel
theorem dc_M_lost_57 : decode prog_14_method_72_code 57 = .ok (.ireturn, 1) := by decide +kernel
def j_M_lost_48 (h : ia_H) (kr : Int32 → Int32 → Option Int32) (k56 : Int32 → Option Int32) (x2 : Int32) (s0 : Int32) (s1 : Int32) : Option Int32 := kr (s0 + s1) (x2 + 1)
theorem tj_M_lost_48 {w : ia_O0} {d N1 W1 : Nat} {K : ia_K} (hK : ia_isK (d + 1) mm_M_lost N1 W1 K) {h : ia_H} (hg : gd_ w h) {r : Int32} (hret : ∀ (pc : Nat) (lv : ia_L), ia_ret mm_M_lost pc (some (.inl r)) → K pc lv ((some (.inl r)) : Option ia_V).toList h) {kr : Int32 → Int32 → Option Int32} {k56 : Int32 → Option Int32} (hkr : ∀ (x1 : Int32) (x2 : Int32), kr x1 x2 = some r → K 4 [some (.inr (.inr 417)), some (.inl x1), some (.inl x2)] [] h) (hk56 : ∀ (x1 : Int32), k56 x1 = some r → K 56 [none, some (.inl x1), none] [] h) : ∀ (x2 : Int32) (s0 : Int32) (s1 : Int32), j_M_lost_48 h kr k56 x2 s0 s1 = some r → K 48 [some (.inr (.inr 417)), none, some (.inl x2)] [.inl s1, .inl s0] h := by
  intro x2 s0 s1 hm
  unfold j_M_lost_48 at hm
  refine ia_go hK ck_M_lost_48 ?_
  show K 4 [some (.inr (.inr 417)), some (.inl (s0 + s1)), some (.inl (x2 + 1))] [] h
  exact hkr (s0 + s1) (x2 + 1) hm
def l_M_lost_4 (h : ia_H) (k56 : Int32 → Option Int32) (n : Nat) (x1 : Int32) (x2 : Int32) : Option Int32 := match n with
  | 0 => none
  | n + 1 => ia_gd (ia_ib ((ia_i h 417 14) + 4) 6528) (if (ia_i h 418 (((ia_i h 417 14) + 4).toNatClampNeg)) ≤ x2 then (k56 x1) else (ia_gd (ia_ib (72 + x2) 1120) (if (ia_i h 422 ((72 + x2).toNatClampNeg)) = (-2) then ((f_M_shopOf (ia_i h 417 14) x2 3 h).bind fun v3 => (j_M_lost_48 h (l_M_lost_4 h k56 n) k56 x2 x1 v3)) else (j_M_lost_48 h (l_M_lost_4 h k56 n) k56 x2 x1 0))))
theorem tl_M_lost_4 {w : ia_O0} {d N1 W1 : Nat} {K : ia_K} (hK : ia_isK (d + 1) mm_M_lost N1 W1 K) {h : ia_H} (hg : gd_ w h) {r : Int32} (hret : ∀ (pc : Nat) (lv : ia_L), ia_ret mm_M_lost pc (some (.inl r)) → K pc lv ((some (.inl r)) : Option ia_V).toList h) {k56 : Int32 → Option Int32} (hk56 : ∀ (x1 : Int32), k56 x1 = some r → K 56 [none, some (.inl x1), none] [] h) : ∀ (n : Nat) (x1 : Int32) (x2 : Int32), l_M_lost_4 h k56 n x1 x2 = some r → K 4 [some (.inr (.inr 417)), some (.inl x1), some (.inl x2)] [] h := by
  intro n
  induction n with
  | zero =>
    intro x1 x2 hm
    cases (show (none : Option Int32) = some _ from hm)
  | succ n ih =>
    intro x1 x2 hm
    rw [l_M_lost_4] at hm
    obtain ⟨c1, hm⟩ := ia_gd_some hm
    refine ia_go hK ck_M_lost_4 ⟨gk_12 hg pk_417, gr_12_0 hg pk_417, gk_12 hg pk_417, ga_i100 hg (ka_12_0 pk_417) c1, fun c => ?_, fun c => ?_⟩
    · replace hm := ia_ifp hm c
      show K 56 [some (.inr (.inr 417)), some (.inl x1), some (.inl x2)] [] h
      refine ia_fg hK (lv' := [none, some (.inl x1), none]) ⟨rfl, trivial⟩ ?_
      exact hk56 x1 hm
    · replace hm := ia_ifn hm c
      show K 19 [some (.inr (.inr 417)), some (.inl x1), some (.inl x2)] [] h
      obtain ⟨c2, hm⟩ := ia_gd_some hm
      refine ia_go hK ck_M_lost_19 ⟨gk_12 hg pk_417, gr_12_13 hg pk_417, ga_i100 hg (ka_12_13 pk_417) c2, fun c => ?_, fun c => ?_⟩
      · replace hm := ia_ifn hm c
        show K 47 [some (.inr (.inr 417)), some (.inl x1), some (.inl x2)] [.inl x1] h
        refine ia_go hK ck_M_lost_47 ?_
        show K 48 [some (.inr (.inr 417)), some (.inl x1), some (.inl x2)] [.inl 0, .inl x1] h
        refine ia_fg hK (lv' := [some (.inr (.inr 417)), none, some (.inl x2)]) ⟨rfl, rfl, trivial⟩ ?_
        exact tj_M_lost_48 hK hg hret ih hk56 x2 x1 0 hm
      · replace hm := ia_ifp hm c
        show K 34 [some (.inr (.inr 417)), some (.inl x1), some (.inl x2)] [.inl x1] h
        refine ia_go hK ck_M_lost_34 ⟨gk_12 hg pk_417, ?_⟩
        show K 41 [some (.inr (.inr 417)), some (.inl x1), some (.inl x2)] [.inl 3, .inl x2, .inl (ia_i h 417 14), .inr (.inr 417), .inl x1] h
        obtain ⟨v3, hv3, hm⟩ := ia_bnd hm
        have ev3 := t_M_shopOf (d + 0) hg hv3
        refine ia_cV hK mk_M_shopOf lk_12_198 dc_M_lost_41 417 [.inl (ia_i h 417 14), .inl x2, .inl 3] [.inl x1] rfl rfl (Nat.le_of_ble_eq_true rfl) (by decide) rfl (gk_12 hg pk_417) ev3 ⟨rfl, rfl⟩ ?_
        show K 44 [some (.inr (.inr 417)), some (.inl x1), some (.inl x2)] [.inl v3, .inl x1] h
        refine ia_go hK ck_M_lost_44 ?_
        show K 48 [some (.inr (.inr 417)), some (.inl x1), some (.inl x2)] [.inl v3, .inl x1] h
        refine ia_fg hK (lv' := [some (.inr (.inr 417)), none, some (.inl x2)]) ⟨rfl, rfl, trivial⟩ ?_
        exact tj_M_lost_48 hK hg hret ih hk56 x2 x1 v3 hm
def f_M_lost (h : ia_H) : Option Int32 := l_M_lost_4 h (fun x1 => some x1) fu_ 0 0
theorem t_M_lost {w : ia_O0} (d : Nat) {h : ia_H} (hg : gd_ w h) {r : Int32} (hm : f_M_lost h = some r) : ia_Ev (d + 1) mm_M_lost [.inr (.inr 417)] h (some (.inl r)) h := by
  refine ia_Ev_intro ok_M_lost (Nat.le_refl _) (Nat.le_refl _) (Nat.le_of_ble_eq_true rfl) (fun K hK hret => ?_)
  show K 0 [some (.inr (.inr 417)), none, none] [] h
  unfold f_M_lost at hm
  refine ia_go hK ck_M_lost_0 ?_
  show K 4 [some (.inr (.inr 417)), some (.inl 0), some (.inl 0)] [] h
  refine tl_M_lost_4 hK hg hret ?_ fu_ 0 0 hm
  · intro x1 hm
    refine ia_go hK ck_M_lost_56 ?_
    show K 57 [none, some (.inl x1), none] [.inl x1] h
    obtain rfl := Option.some.inj hm
    exact hret 57 _ dc_M_lost_57
def mm_M_broken : ia_M := (⟨"IceStreetModel", "broken", "()I"⟩, prog_14_method_73_code, 3, (some .int), 12, false)
theorem ok_M_broken : ia_mok mm_M_broken := ⟨by decide +kernel, by decide +kernel, by decide +kernel, by decide +kernel⟩
theorem mk_M_broken : ia_mkn mm_M_broken 1 0 := ⟨ia_tb_in (List.mem_of_getElem? (i := 2003) (by decide +kernel)) rfl, ia_tb_in (List.mem_of_getElem? (i := 146) (by decide +kernel)) rfl, by decide +kernel, by decide +kernel, ⟨ia_tb_in (List.mem_of_getElem? (i := 2002) (by decide +kernel)) rfl, ia_tb_in (List.mem_of_getElem? (i := 103) (by decide +kernel)) rfl⟩⟩
theorem ck_M_broken_0 : ia_cks 12 3 false prog_14_method_73_code 0 [(.iconst 0, 0, 0, 0, 0), (.istore_n 1, 0, 0, 0, 0), (.iconst 0, 0, 0, 0, 0), (.istore_n 2, 0, 0, 0, 0)] = true := by decide +kernel
theorem ck_M_broken_4 : ia_cks 12 3 false prog_14_method_73_code 4 [(.iload_n 2, 0, 0, 0, 0), (.aload_n 0, 0, 0, 0, 0), (.getfield 7, 12, 0, 3, 1), (.aload_n 0, 0, 0, 0, 0), (.getfield 201, 12, 14, 0, 0), (.iconst 4, 0, 0, 0, 0), (.iadd, 0, 0, 0, 0), (.iaload, 0, 0, 0, 0), (.if_icmp .ge 70, 0, 0, 0, 0)] = true := by decide +kernel
theorem ck_M_broken_19 : ia_cks 12 3 false prog_14_method_73_code 19 [(.iload_n 1, 0, 0, 0, 0), (.aload_n 0, 0, 0, 0, 0), (.iload_n 2, 0, 0, 0, 0)] = true := by decide +kernel
theorem ck_M_broken_25 : ia_cks 12 3 false prog_14_method_73_code 25 [(.ifCond .eq 52, 0, 0, 0, 0)] = true := by decide +kernel
theorem ck_M_broken_77 : ia_cks 12 3 false prog_14_method_73_code 77 [(.iconst 0, 0, 0, 0, 0)] = true := by decide +kernel
theorem ck_M_broken_78 : ia_cks 12 3 false prog_14_method_73_code 78 [(.ior, 0, 0, 0, 0), (.istore_n 1, 0, 0, 0, 0), (.iinc 2 1, 0, 0, 0, 0), (.goto (-79), 0, 0, 0, 0)] = true := by decide +kernel
theorem ck_M_broken_28 : ia_cks 12 3 false prog_14_method_73_code 28 [(.aload_n 0, 0, 0, 0, 0), (.getfield 7, 12, 0, 3, 1), (.aload_n 0, 0, 0, 0, 0), (.getfield 219, 12, 15, 0, 0), (.bipush 30, 0, 0, 0, 0), (.iadd, 0, 0, 0, 0), (.aload_n 0, 0, 0, 0, 0), (.getfield 23, 12, 13, 3, 5), (.bipush 72, 0, 0, 0, 0), (.iload_n 2, 0, 0, 0, 0), (.iadd, 0, 0, 0, 0), (.iaload, 0, 0, 0, 0), (.iadd, 0, 0, 0, 0), (.iaload, 0, 0, 0, 0), (.iconst 1, 0, 0, 0, 0), (.if_icmp .eq 20, 0, 0, 0, 0)] = true := by decide +kernel
theorem ck_M_broken_71 : ia_cks 12 3 false prog_14_method_73_code 71 [(.iconst 1, 0, 0, 0, 0), (.iload_n 2, 0, 0, 0, 0), (.ishl, 0, 0, 0, 0), (.goto 4, 0, 0, 0, 0)] = true := by decide +kernel
theorem ck_M_broken_54 : ia_cks 12 3 false prog_14_method_73_code 54 [(.aload_n 0, 0, 0, 0, 0), (.iload_n 2, 0, 0, 0, 0), (.aload_n 0, 0, 0, 0, 0), (.getfield 23, 12, 13, 3, 5), (.bipush 72, 0, 0, 0, 0), (.iload_n 2, 0, 0, 0, 0), (.iadd, 0, 0, 0, 0), (.iaload, 0, 0, 0, 0)] = true := by decide +kernel
theorem ck_M_broken_68 : ia_cks 12 3 false prog_14_method_73_code 68 [(.ifCond .ne 9, 0, 0, 0, 0)] = true := by decide +kernel
theorem ck_M_broken_86 : ia_cks 12 3 false prog_14_method_73_code 86 [(.iload_n 1, 0, 0, 0, 0)] = true := by decide +kernel
theorem dc_M_broken_22 : decode prog_14_method_73_code 22 = .ok (.invokevirtual 222, 3) := by decide +kernel
theorem dc_M_broken_65 : decode prog_14_method_73_code 65 = .ok (.invokevirtual 278, 3) := by decide +kernel
theorem dc_M_broken_87 : decode prog_14_method_73_code 87 = .ok (.ireturn, 1) := by decide +kernel
def j_M_broken_78 (h : ia_H) (kr : Int32 → Int32 → Option Int32) (k86 : Int32 → Option Int32) (x2 : Int32) (s0 : Int32) (s1 : Int32) : Option Int32 := kr (s0 ||| s1) (x2 + 1)
theorem tj_M_broken_78 {w : ia_O0} {d N1 W1 : Nat} {K : ia_K} (hK : ia_isK (d + 4) mm_M_broken N1 W1 K) {h : ia_H} (hg : gd_ w h) {r : Int32} (hret : ∀ (pc : Nat) (lv : ia_L), ia_ret mm_M_broken pc (some (.inl r)) → K pc lv ((some (.inl r)) : Option ia_V).toList h) {kr : Int32 → Int32 → Option Int32} {k86 : Int32 → Option Int32} (hkr : ∀ (x1 : Int32) (x2 : Int32), kr x1 x2 = some r → K 4 [some (.inr (.inr 417)), some (.inl x1), some (.inl x2)] [] h) (hk86 : ∀ (x1 : Int32), k86 x1 = some r → K 86 [none, some (.inl x1), none] [] h) : ∀ (x2 : Int32) (s0 : Int32) (s1 : Int32), j_M_broken_78 h kr k86 x2 s0 s1 = some r → K 78 [some (.inr (.inr 417)), none, some (.inl x2)] [.inl s1, .inl s0] h := by
  intro x2 s0 s1 hm
  unfold j_M_broken_78 at hm
  refine ia_go hK ck_M_broken_78 ?_
  show K 4 [some (.inr (.inr 417)), some (.inl (s0 ||| s1)), some (.inl (x2 + 1))] [] h
  exact hkr (s0 ||| s1) (x2 + 1) hm
def j_M_broken_71 (h : ia_H) (kr : Int32 → Int32 → Option Int32) (k86 : Int32 → Option Int32) (x2 : Int32) (s0 : Int32) : Option Int32 := j_M_broken_78 h kr k86 x2 s0 (1 <<< (x2 &&& 31))
theorem tj_M_broken_71 {w : ia_O0} {d N1 W1 : Nat} {K : ia_K} (hK : ia_isK (d + 4) mm_M_broken N1 W1 K) {h : ia_H} (hg : gd_ w h) {r : Int32} (hret : ∀ (pc : Nat) (lv : ia_L), ia_ret mm_M_broken pc (some (.inl r)) → K pc lv ((some (.inl r)) : Option ia_V).toList h) {kr : Int32 → Int32 → Option Int32} {k86 : Int32 → Option Int32} (hkr : ∀ (x1 : Int32) (x2 : Int32), kr x1 x2 = some r → K 4 [some (.inr (.inr 417)), some (.inl x1), some (.inl x2)] [] h) (hk86 : ∀ (x1 : Int32), k86 x1 = some r → K 86 [none, some (.inl x1), none] [] h) : ∀ (x2 : Int32) (s0 : Int32), j_M_broken_71 h kr k86 x2 s0 = some r → K 71 [some (.inr (.inr 417)), none, some (.inl x2)] [.inl s0] h := by
  intro x2 s0 hm
  unfold j_M_broken_71 at hm
  refine ia_go hK ck_M_broken_71 ?_
  show K 78 [some (.inr (.inr 417)), none, some (.inl x2)] [.inl (1 <<< (x2 &&& 31)), .inl s0] h
  exact tj_M_broken_78 hK hg hret hkr hk86 x2 s0 (1 <<< (x2 &&& 31)) hm
def l_M_broken_4 (h : ia_H) (k86 : Int32 → Option Int32) (n : Nat) (x1 : Int32) (x2 : Int32) : Option Int32 := match n with
  | 0 => none
  | n + 1 => ia_gd (ia_ib ((ia_i h 417 14) + 4) 6528) (if (ia_i h 418 (((ia_i h 417 14) + 4).toNatClampNeg)) ≤ x2 then (k86 x1) else ((f_M_stands x2 h).bind fun v2 => (if v2 = 0 then (j_M_broken_78 h (l_M_broken_4 h k86 n) k86 x2 x1 0) else (ia_gd (ia_ib (72 + x2) 1120) (ia_gd (ia_ib (((ia_i h 417 15) + 30) + (ia_i h 422 ((72 + x2).toNatClampNeg))) 6528) (if (ia_i h 418 ((((ia_i h 417 15) + 30) + (ia_i h 422 ((72 + x2).toNatClampNeg))).toNatClampNeg)) = 1 then (j_M_broken_71 h (l_M_broken_4 h k86 n) k86 x2 x1) else (ia_gd (ia_ib (72 + x2) 1120) ((f_M_isApart x2 (ia_i h 422 ((72 + x2).toNatClampNeg)) h).bind fun v6 => (if v6 = 0 then (j_M_broken_71 h (l_M_broken_4 h k86 n) k86 x2 x1) else (j_M_broken_78 h (l_M_broken_4 h k86 n) k86 x2 x1 0))))))))))
theorem tl_M_broken_4 {w : ia_O0} {d N1 W1 : Nat} {K : ia_K} (hK : ia_isK (d + 4) mm_M_broken N1 W1 K) {h : ia_H} (hg : gd_ w h) {r : Int32} (hret : ∀ (pc : Nat) (lv : ia_L), ia_ret mm_M_broken pc (some (.inl r)) → K pc lv ((some (.inl r)) : Option ia_V).toList h) {k86 : Int32 → Option Int32} (hk86 : ∀ (x1 : Int32), k86 x1 = some r → K 86 [none, some (.inl x1), none] [] h) : ∀ (n : Nat) (x1 : Int32) (x2 : Int32), l_M_broken_4 h k86 n x1 x2 = some r → K 4 [some (.inr (.inr 417)), some (.inl x1), some (.inl x2)] [] h := by
  intro n
  induction n with
  | zero =>
    intro x1 x2 hm
    cases (show (none : Option Int32) = some _ from hm)
  | succ n ih =>
    intro x1 x2 hm
    rw [l_M_broken_4] at hm
    obtain ⟨c1, hm⟩ := ia_gd_some hm
    refine ia_go hK ck_M_broken_4 ⟨gk_12 hg pk_417, gr_12_0 hg pk_417, gk_12 hg pk_417, ga_i100 hg (ka_12_0 pk_417) c1, fun c => ?_, fun c => ?_⟩
    · replace hm := ia_ifp hm c
      show K 86 [some (.inr (.inr 417)), some (.inl x1), some (.inl x2)] [] h
      refine ia_fg hK (lv' := [none, some (.inl x1), none]) ⟨rfl, trivial⟩ ?_
      exact hk86 x1 hm
    · replace hm := ia_ifn hm c
      show K 19 [some (.inr (.inr 417)), some (.inl x1), some (.inl x2)] [] h
      refine ia_go hK ck_M_broken_19 ?_
      show K 22 [some (.inr (.inr 417)), some (.inl x1), some (.inl x2)] [.inl x2, .inr (.inr 417), .inl x1] h
      obtain ⟨v2, hv2, hm⟩ := ia_bnd hm
      have ev2 := t_M_stands (d + 1) hg hv2
      refine ia_cV hK mk_M_stands lk_12_222 dc_M_broken_22 417 [.inl x2] [.inl x1] rfl rfl (Nat.le_of_ble_eq_true rfl) (by decide) rfl (gk_12 hg pk_417) ev2 ⟨rfl, rfl⟩ ?_
      show K 25 [some (.inr (.inr 417)), some (.inl x1), some (.inl x2)] [.inl v2, .inl x1] h
      refine ia_go hK ck_M_broken_25 ⟨fun c => ?_, fun c => ?_⟩
      · replace hm := ia_ifp hm c
        show K 77 [some (.inr (.inr 417)), some (.inl x1), some (.inl x2)] [.inl x1] h
        refine ia_go hK ck_M_broken_77 ?_
        show K 78 [some (.inr (.inr 417)), some (.inl x1), some (.inl x2)] [.inl 0, .inl x1] h
        refine ia_fg hK (lv' := [some (.inr (.inr 417)), none, some (.inl x2)]) ⟨rfl, rfl, trivial⟩ ?_
        exact tj_M_broken_78 hK hg hret ih hk86 x2 x1 0 hm
      · replace hm := ia_ifn hm c
        show K 28 [some (.inr (.inr 417)), some (.inl x1), some (.inl x2)] [.inl x1] h
        obtain ⟨c3, hm⟩ := ia_gd_some hm
        obtain ⟨c4, hm⟩ := ia_gd_some hm
        refine ia_go hK ck_M_broken_28 ⟨gk_12 hg pk_417, gr_12_0 hg pk_417, gk_12 hg pk_417, gk_12 hg pk_417, gr_12_13 hg pk_417, ga_i100 hg (ka_12_13 pk_417) c3, ga_i100 hg (ka_12_0 pk_417) c4, fun c => ?_, fun c => ?_⟩
        · replace hm := ia_ifp hm c
          show K 71 [some (.inr (.inr 417)), some (.inl x1), some (.inl x2)] [.inl x1] h
          refine ia_fg hK (lv' := [some (.inr (.inr 417)), none, some (.inl x2)]) ⟨rfl, rfl, trivial⟩ ?_
          exact tj_M_broken_71 hK hg hret ih hk86 x2 x1 hm
        · replace hm := ia_ifn hm c
          show K 54 [some (.inr (.inr 417)), some (.inl x1), some (.inl x2)] [.inl x1] h
          obtain ⟨c5, hm⟩ := ia_gd_some hm
          refine ia_go hK ck_M_broken_54 ⟨gk_12 hg pk_417, gr_12_13 hg pk_417, ga_i100 hg (ka_12_13 pk_417) c5, ?_⟩
          show K 65 [some (.inr (.inr 417)), some (.inl x1), some (.inl x2)] [.inl (ia_i h 422 ((72 + x2).toNatClampNeg)), .inl x2, .inr (.inr 417), .inl x1] h
          obtain ⟨v6, hv6, hm⟩ := ia_bnd hm
          have ev6 := t_M_isApart (d + 0) hg hv6
          refine ia_cV hK mk_M_isApart lk_12_278 dc_M_broken_65 417 [.inl x2, .inl (ia_i h 422 ((72 + x2).toNatClampNeg))] [.inl x1] rfl rfl (Nat.le_of_ble_eq_true rfl) (by decide) rfl (gk_12 hg pk_417) ev6 ⟨rfl, rfl⟩ ?_
          show K 68 [some (.inr (.inr 417)), some (.inl x1), some (.inl x2)] [.inl v6, .inl x1] h
          refine ia_go hK ck_M_broken_68 ⟨fun c => ?_, fun c => ?_⟩
          · replace hm := ia_ifn hm c
            show K 77 [some (.inr (.inr 417)), some (.inl x1), some (.inl x2)] [.inl x1] h
            refine ia_go hK ck_M_broken_77 ?_
            show K 78 [some (.inr (.inr 417)), some (.inl x1), some (.inl x2)] [.inl 0, .inl x1] h
            refine ia_fg hK (lv' := [some (.inr (.inr 417)), none, some (.inl x2)]) ⟨rfl, rfl, trivial⟩ ?_
            exact tj_M_broken_78 hK hg hret ih hk86 x2 x1 0 hm
          · replace hm := ia_ifp hm c
            show K 71 [some (.inr (.inr 417)), some (.inl x1), some (.inl x2)] [.inl x1] h
            refine ia_fg hK (lv' := [some (.inr (.inr 417)), none, some (.inl x2)]) ⟨rfl, rfl, trivial⟩ ?_
            exact tj_M_broken_71 hK hg hret ih hk86 x2 x1 hm
def f_M_broken (h : ia_H) : Option Int32 := l_M_broken_4 h (fun x1 => some x1) fu_ 0 0
theorem t_M_broken {w : ia_O0} (d : Nat) {h : ia_H} (hg : gd_ w h) {r : Int32} (hm : f_M_broken h = some r) : ia_Ev (d + 4) mm_M_broken [.inr (.inr 417)] h (some (.inl r)) h := by
  refine ia_Ev_intro ok_M_broken (Nat.le_refl _) (Nat.le_refl _) (Nat.le_of_ble_eq_true rfl) (fun K hK hret => ?_)
  show K 0 [some (.inr (.inr 417)), none, none] [] h
  unfold f_M_broken at hm
  refine ia_go hK ck_M_broken_0 ?_
  show K 4 [some (.inr (.inr 417)), some (.inl 0), some (.inl 0)] [] h
  refine tl_M_broken_4 hK hg hret ?_ fu_ 0 0 hm
  · intro x1 hm
    refine ia_go hK ck_M_broken_86 ?_
    show K 87 [none, some (.inl x1), none] [.inl x1] h
    obtain rfl := Option.some.inj hm
    exact hret 87 _ dc_M_broken_87
def mm_M_partOf : ia_M := (⟨"IceStreetModel", "partOf", "(I)J"⟩, prog_14_method_74_code, 9, (some .long), 12, false)
theorem ok_M_partOf : ia_mok mm_M_partOf := ⟨by decide +kernel, by decide +kernel, by decide +kernel, by decide +kernel⟩
theorem mk_M_partOf : ia_mkn mm_M_partOf 1 1 := ⟨ia_tb_in (List.mem_of_getElem? (i := 2011) (by decide +kernel)) rfl, ia_tb_in (List.mem_of_getElem? (i := 146) (by decide +kernel)) rfl, by decide +kernel, by decide +kernel, ⟨ia_tb_in (List.mem_of_getElem? (i := 2010) (by decide +kernel)) rfl, ia_tb_in (List.mem_of_getElem? (i := 105) (by decide +kernel)) rfl⟩⟩
theorem ck_M_partOf_0 : ia_cks 12 9 false prog_14_method_74_code 0 [(.lconst 1, 0, 0, 0, 0), (.iload_n 1, 0, 0, 0, 0), (.lshl, 0, 0, 0, 0), (.lstore_n 2, 0, 0, 0, 0), (.lconst 0, 0, 0, 0, 0), (.lstore 4, 0, 0, 0, 0)] = true := by decide +kernel
theorem ck_M_partOf_7 : ia_cks 12 9 false prog_14_method_74_code 7 [(.lload_n 2, 0, 0, 0, 0), (.lload 4, 0, 0, 0, 0), (.lcmp, 0, 0, 0, 0), (.ifCond .eq 79, 0, 0, 0, 0)] = true := by decide +kernel
theorem ck_M_partOf_14 : ia_cks 12 9 false prog_14_method_74_code 14 [(.lload_n 2, 0, 0, 0, 0), (.lstore 4, 0, 0, 0, 0), (.iconst 0, 0, 0, 0, 0), (.istore 6, 0, 0, 0, 0)] = true := by decide +kernel
theorem ck_M_partOf_20 : ia_cks 12 9 false prog_14_method_74_code 20 [(.iload 6, 0, 0, 0, 0), (.aload_n 0, 0, 0, 0, 0)] = true := by decide +kernel
theorem ck_M_partOf_26 : ia_cks 12 9 false prog_14_method_74_code 26 [(.if_icmp .ge 61, 0, 0, 0, 0)] = true := by decide +kernel
theorem ck_M_partOf_29 : ia_cks 12 9 false prog_14_method_74_code 29 [(.iconst 0, 0, 0, 0, 0), (.istore 7, 0, 0, 0, 0)] = true := by decide +kernel
theorem ck_M_partOf_32 : ia_cks 12 9 false prog_14_method_74_code 32 [(.iload 7, 0, 0, 0, 0), (.iconst 4, 0, 0, 0, 0), (.if_icmp .ge 46, 0, 0, 0, 0)] = true := by decide +kernel
theorem ck_M_partOf_38 : ia_cks 12 9 false prog_14_method_74_code 38 [(.aload_n 0, 0, 0, 0, 0), (.aload_n 0, 0, 0, 0, 0), (.getfield 201, 12, 14, 0, 0), (.iload 6, 0, 0, 0, 0), (.iload 7, 0, 0, 0, 0)] = true := by decide +kernel
theorem ck_M_partOf_50 : ia_cks 12 9 false prog_14_method_74_code 50 [(.istore 8, 0, 0, 0, 0), (.iload 8, 0, 0, 0, 0), (.ifCond .lt 21, 0, 0, 0, 0)] = true := by decide +kernel
theorem ck_M_partOf_75 : ia_cks 12 9 false prog_14_method_74_code 75 [(.iinc 7 1, 0, 0, 0, 0), (.goto (-46), 0, 0, 0, 0)] = true := by decide +kernel
theorem ck_M_partOf_57 : ia_cks 12 9 false prog_14_method_74_code 57 [(.lload_n 2, 0, 0, 0, 0), (.iload 6, 0, 0, 0, 0), (.lshr, 0, 0, 0, 0), (.lconst 1, 0, 0, 0, 0), (.land, 0, 0, 0, 0), (.lconst 1, 0, 0, 0, 0), (.lcmp, 0, 0, 0, 0), (.ifCond .ne 10, 0, 0, 0, 0)] = true := by decide +kernel
theorem ck_M_partOf_68 : ia_cks 12 9 false prog_14_method_74_code 68 [(.lload_n 2, 0, 0, 0, 0), (.lconst 1, 0, 0, 0, 0), (.iload 8, 0, 0, 0, 0), (.lshl, 0, 0, 0, 0), (.lor, 0, 0, 0, 0), (.lstore_n 2, 0, 0, 0, 0), (.iinc 7 1, 0, 0, 0, 0), (.goto (-46), 0, 0, 0, 0)] = true := by decide +kernel
theorem ck_M_partOf_81 : ia_cks 12 9 false prog_14_method_74_code 81 [(.iinc 6 1, 0, 0, 0, 0), (.goto (-64), 0, 0, 0, 0)] = true := by decide +kernel
theorem ck_M_partOf_87 : ia_cks 12 9 false prog_14_method_74_code 87 [(.goto (-80), 0, 0, 0, 0)] = true := by decide +kernel
theorem ck_M_partOf_90 : ia_cks 12 9 false prog_14_method_74_code 90 [(.lload_n 2, 0, 0, 0, 0)] = true := by decide +kernel
theorem dc_M_partOf_23 : decode prog_14_method_74_code 23 = .ok (.invokevirtual 234, 3) := by decide +kernel
theorem dc_M_partOf_47 : decode prog_14_method_74_code 47 = .ok (.invokevirtual 216, 3) := by decide +kernel
theorem dc_M_partOf_91 : decode prog_14_method_74_code 91 = .ok (.lreturn, 1) := by decide +kernel
def l_M_partOf_32 (x1 : Int32) (h : ia_H) (k81 : Int64 → Int64 → Int32 → Option Int64) (n : Nat) (y2 : Int64) (y4 : Int64) (x6 : Int32) (x7 : Int32) : Option Int64 := match n with
  | 0 => none
  | n + 1 => if 4 ≤ x7 then (k81 y2 y4 x6) else ((f_M_near (ia_i h 417 14) x6 x7 h).bind fun v2 => (if v2 < 0 then (l_M_partOf_32 x1 h k81 n y2 y4 x6 (x7 + 1)) else (if (lg_cmp ((y2 >>> (x6.toInt64 &&& 63)) &&& 1) 1) = 0 then (l_M_partOf_32 x1 h k81 n (y2 ||| (1 <<< (v2.toInt64 &&& 63))) y4 x6 (x7 + 1)) else (l_M_partOf_32 x1 h k81 n y2 y4 x6 (x7 + 1)))))
theorem tl_M_partOf_32 {w : ia_O0} {d N1 W1 : Nat} {K : ia_K} (hK : ia_isK (d + 3) mm_M_partOf N1 W1 K) {x1 : Int32} {h : ia_H} (hg : gd_ w h) {r : Int64} (hret : ∀ (pc : Nat) (lv : ia_L), ia_ret mm_M_partOf pc (some (.inr (.inl r))) → K pc lv ((some (.inr (.inl r))) : Option ia_V).toList h) {k81 : Int64 → Int64 → Int32 → Option Int64} (hk81 : ∀ (y2 : Int64) (y4 : Int64) (x6 : Int32), k81 y2 y4 x6 = some r → K 81 [some (.inr (.inr 417)), none, some (.inr (.inl y2)), none, some (.inr (.inl y4)), none, some (.inl x6), none, none] [] h) : ∀ (n : Nat) (y2 : Int64) (y4 : Int64) (x6 : Int32) (x7 : Int32), l_M_partOf_32 x1 h k81 n y2 y4 x6 x7 = some r → K 32 [some (.inr (.inr 417)), none, some (.inr (.inl y2)), none, some (.inr (.inl y4)), none, some (.inl x6), some (.inl x7), none] [] h := by
  intro n
  induction n with
  | zero =>
    intro y2 y4 x6 x7 hm
    cases (show (none : Option Int64) = some _ from hm)
  | succ n ih =>
    intro y2 y4 x6 x7 hm
    rw [l_M_partOf_32] at hm
    refine ia_go hK ck_M_partOf_32 ⟨fun c => ?_, fun c => ?_⟩
    · replace hm := ia_ifp hm c
      show K 81 [some (.inr (.inr 417)), none, some (.inr (.inl y2)), none, some (.inr (.inl y4)), none, some (.inl x6), some (.inl x7), none] [] h
      refine ia_fg hK (lv' := [some (.inr (.inr 417)), none, some (.inr (.inl y2)), none, some (.inr (.inl y4)), none, some (.inl x6), none, none]) ⟨rfl, rfl, rfl, rfl, trivial⟩ ?_
      exact hk81 y2 y4 x6 hm
    · replace hm := ia_ifn hm c
      show K 38 [some (.inr (.inr 417)), none, some (.inr (.inl y2)), none, some (.inr (.inl y4)), none, some (.inl x6), some (.inl x7), none] [] h
      refine ia_go hK ck_M_partOf_38 ⟨gk_12 hg pk_417, ?_⟩
      show K 47 [some (.inr (.inr 417)), none, some (.inr (.inl y2)), none, some (.inr (.inl y4)), none, some (.inl x6), some (.inl x7), none] [.inl x7, .inl x6, .inl (ia_i h 417 14), .inr (.inr 417)] h
      obtain ⟨v2, hv2, hm⟩ := ia_bnd hm
      have ev2 := t_M_near (d + 0) hg hv2
      refine ia_cV hK mk_M_near lk_12_216 dc_M_partOf_47 417 [.inl (ia_i h 417 14), .inl x6, .inl x7] [] rfl rfl (Nat.le_of_ble_eq_true rfl) (by decide) rfl (gk_12 hg pk_417) ev2 ⟨rfl, rfl⟩ ?_
      show K 50 [some (.inr (.inr 417)), none, some (.inr (.inl y2)), none, some (.inr (.inl y4)), none, some (.inl x6), some (.inl x7), none] [.inl v2] h
      refine ia_go hK ck_M_partOf_50 ⟨fun c => ?_, fun c => ?_⟩
      · replace hm := ia_ifp hm c
        show K 75 [some (.inr (.inr 417)), none, some (.inr (.inl y2)), none, some (.inr (.inl y4)), none, some (.inl x6), some (.inl x7), some (.inl v2)] [] h
        refine ia_go hK ck_M_partOf_75 ?_
        show K 32 [some (.inr (.inr 417)), none, some (.inr (.inl y2)), none, some (.inr (.inl y4)), none, some (.inl x6), some (.inl (x7 + 1)), some (.inl v2)] [] h
        refine ia_fg hK (lv' := [some (.inr (.inr 417)), none, some (.inr (.inl y2)), none, some (.inr (.inl y4)), none, some (.inl x6), some (.inl (x7 + 1)), none]) ⟨rfl, rfl, rfl, rfl, rfl, trivial⟩ ?_
        exact ih y2 y4 x6 (x7 + 1) hm
      · replace hm := ia_ifn hm c
        show K 57 [some (.inr (.inr 417)), none, some (.inr (.inl y2)), none, some (.inr (.inl y4)), none, some (.inl x6), some (.inl x7), some (.inl v2)] [] h
        refine ia_go hK ck_M_partOf_57 ⟨fun c => ?_, fun c => ?_⟩
        · replace hm := ia_ifn hm c
          show K 75 [some (.inr (.inr 417)), none, some (.inr (.inl y2)), none, some (.inr (.inl y4)), none, some (.inl x6), some (.inl x7), some (.inl v2)] [] h
          refine ia_go hK ck_M_partOf_75 ?_
          show K 32 [some (.inr (.inr 417)), none, some (.inr (.inl y2)), none, some (.inr (.inl y4)), none, some (.inl x6), some (.inl (x7 + 1)), some (.inl v2)] [] h
          refine ia_fg hK (lv' := [some (.inr (.inr 417)), none, some (.inr (.inl y2)), none, some (.inr (.inl y4)), none, some (.inl x6), some (.inl (x7 + 1)), none]) ⟨rfl, rfl, rfl, rfl, rfl, trivial⟩ ?_
          exact ih y2 y4 x6 (x7 + 1) hm
        · replace hm := ia_ifp hm c
          show K 68 [some (.inr (.inr 417)), none, some (.inr (.inl y2)), none, some (.inr (.inl y4)), none, some (.inl x6), some (.inl x7), some (.inl v2)] [] h
          refine ia_go hK ck_M_partOf_68 ?_
          show K 32 [some (.inr (.inr 417)), none, some (.inr (.inl (y2 ||| (1 <<< (v2.toInt64 &&& 63))))), none, some (.inr (.inl y4)), none, some (.inl x6), some (.inl (x7 + 1)), some (.inl v2)] [] h
          refine ia_fg hK (lv' := [some (.inr (.inr 417)), none, some (.inr (.inl (y2 ||| (1 <<< (v2.toInt64 &&& 63))))), none, some (.inr (.inl y4)), none, some (.inl x6), some (.inl (x7 + 1)), none]) ⟨rfl, rfl, rfl, rfl, rfl, trivial⟩ ?_
          exact ih (y2 ||| (1 <<< (v2.toInt64 &&& 63))) y4 x6 (x7 + 1) hm
def l_M_partOf_20 (x1 : Int32) (h : ia_H) (k87 : Int64 → Int64 → Option Int64) (n : Nat) (y2 : Int64) (y4 : Int64) (x6 : Int32) : Option Int64 := match n with
  | 0 => none
  | n + 1 => (f_M_cells h).bind fun v1 => (if v1 ≤ x6 then (k87 y2 y4) else (l_M_partOf_32 x1 h (fun y2 y4 x6 => l_M_partOf_20 x1 h k87 n y2 y4 (x6 + 1)) fu_ y2 y4 x6 0))
theorem tl_M_partOf_20 {w : ia_O0} {d N1 W1 : Nat} {K : ia_K} (hK : ia_isK (d + 3) mm_M_partOf N1 W1 K) {x1 : Int32} {h : ia_H} (hg : gd_ w h) {r : Int64} (hret : ∀ (pc : Nat) (lv : ia_L), ia_ret mm_M_partOf pc (some (.inr (.inl r))) → K pc lv ((some (.inr (.inl r))) : Option ia_V).toList h) {k87 : Int64 → Int64 → Option Int64} (hk87 : ∀ (y2 : Int64) (y4 : Int64), k87 y2 y4 = some r → K 87 [some (.inr (.inr 417)), none, some (.inr (.inl y2)), none, some (.inr (.inl y4)), none, none, none, none] [] h) : ∀ (n : Nat) (y2 : Int64) (y4 : Int64) (x6 : Int32), l_M_partOf_20 x1 h k87 n y2 y4 x6 = some r → K 20 [some (.inr (.inr 417)), none, some (.inr (.inl y2)), none, some (.inr (.inl y4)), none, some (.inl x6), none, none] [] h := by
  intro n
  induction n with
  | zero =>
    intro y2 y4 x6 hm
    cases (show (none : Option Int64) = some _ from hm)
  | succ n ih =>
    intro y2 y4 x6 hm
    rw [l_M_partOf_20] at hm
    refine ia_go hK ck_M_partOf_20 ?_
    show K 23 [some (.inr (.inr 417)), none, some (.inr (.inl y2)), none, some (.inr (.inl y4)), none, some (.inl x6), none, none] [.inr (.inr 417), .inl x6] h
    obtain ⟨v1, hv1, hm⟩ := ia_bnd hm
    have ev1 := t_M_cells (d + 2) hg hv1
    refine ia_cV hK mk_M_cells lk_12_234 dc_M_partOf_23 417 [] [.inl x6] rfl rfl (Nat.le_of_ble_eq_true rfl) (by decide) rfl (gk_12 hg pk_417) ev1 ⟨rfl, rfl⟩ ?_
    show K 26 [some (.inr (.inr 417)), none, some (.inr (.inl y2)), none, some (.inr (.inl y4)), none, some (.inl x6), none, none] [.inl v1, .inl x6] h
    refine ia_go hK ck_M_partOf_26 ⟨fun c => ?_, fun c => ?_⟩
    · replace hm := ia_ifp hm c
      show K 87 [some (.inr (.inr 417)), none, some (.inr (.inl y2)), none, some (.inr (.inl y4)), none, some (.inl x6), none, none] [] h
      refine ia_fg hK (lv' := [some (.inr (.inr 417)), none, some (.inr (.inl y2)), none, some (.inr (.inl y4)), none, none, none, none]) ⟨rfl, rfl, rfl, trivial⟩ ?_
      exact hk87 y2 y4 hm
    · replace hm := ia_ifn hm c
      show K 29 [some (.inr (.inr 417)), none, some (.inr (.inl y2)), none, some (.inr (.inl y4)), none, some (.inl x6), none, none] [] h
      refine ia_go hK ck_M_partOf_29 ?_
      show K 32 [some (.inr (.inr 417)), none, some (.inr (.inl y2)), none, some (.inr (.inl y4)), none, some (.inl x6), some (.inl 0), none] [] h
      refine tl_M_partOf_32 hK hg hret ?_ fu_ y2 y4 x6 0 hm
      · intro y2 y4 x6 hm
        refine ia_go hK ck_M_partOf_81 ?_
        show K 20 [some (.inr (.inr 417)), none, some (.inr (.inl y2)), none, some (.inr (.inl y4)), none, some (.inl (x6 + 1)), none, none] [] h
        exact ih y2 y4 (x6 + 1) hm
def l_M_partOf_7 (x1 : Int32) (h : ia_H) (k90 : Int64 → Option Int64) (n : Nat) (y2 : Int64) (y4 : Int64) : Option Int64 := match n with
  | 0 => none
  | n + 1 => if (lg_cmp y2 y4) = 0 then (k90 y2) else (l_M_partOf_20 x1 h (fun y2 y4 => l_M_partOf_7 x1 h k90 n y2 y4) fu_ y2 y2 0)
theorem tl_M_partOf_7 {w : ia_O0} {d N1 W1 : Nat} {K : ia_K} (hK : ia_isK (d + 3) mm_M_partOf N1 W1 K) {x1 : Int32} {h : ia_H} (hg : gd_ w h) {r : Int64} (hret : ∀ (pc : Nat) (lv : ia_L), ia_ret mm_M_partOf pc (some (.inr (.inl r))) → K pc lv ((some (.inr (.inl r))) : Option ia_V).toList h) {k90 : Int64 → Option Int64} (hk90 : ∀ (y2 : Int64), k90 y2 = some r → K 90 [none, none, some (.inr (.inl y2)), none, none, none, none, none, none] [] h) : ∀ (n : Nat) (y2 : Int64) (y4 : Int64), l_M_partOf_7 x1 h k90 n y2 y4 = some r → K 7 [some (.inr (.inr 417)), none, some (.inr (.inl y2)), none, some (.inr (.inl y4)), none, none, none, none] [] h := by
  intro n
  induction n with
  | zero =>
    intro y2 y4 hm
    cases (show (none : Option Int64) = some _ from hm)
  | succ n ih =>
    intro y2 y4 hm
    rw [l_M_partOf_7] at hm
    refine ia_go hK ck_M_partOf_7 ⟨fun c => ?_, fun c => ?_⟩
    · replace hm := ia_ifp hm c
      show K 90 [some (.inr (.inr 417)), none, some (.inr (.inl y2)), none, some (.inr (.inl y4)), none, none, none, none] [] h
      refine ia_fg hK (lv' := [none, none, some (.inr (.inl y2)), none, none, none, none, none, none]) ⟨rfl, trivial⟩ ?_
      exact hk90 y2 hm
    · replace hm := ia_ifn hm c
      show K 14 [some (.inr (.inr 417)), none, some (.inr (.inl y2)), none, some (.inr (.inl y4)), none, none, none, none] [] h
      refine ia_go hK ck_M_partOf_14 ?_
      show K 20 [some (.inr (.inr 417)), none, some (.inr (.inl y2)), none, some (.inr (.inl y2)), none, some (.inl 0), none, none] [] h
      refine tl_M_partOf_20 hK hg hret ?_ fu_ y2 y2 0 hm
      · intro y2 y4 hm
        refine ia_go hK ck_M_partOf_87 ?_
        show K 7 [some (.inr (.inr 417)), none, some (.inr (.inl y2)), none, some (.inr (.inl y4)), none, none, none, none] [] h
        exact ih y2 y4 hm
def f_M_partOf (x1 : Int32) (h : ia_H) : Option Int64 := l_M_partOf_7 x1 h (fun y2 => some y2) fu_ (1 <<< (x1.toInt64 &&& 63)) 0
theorem t_M_partOf {w : ia_O0} (d : Nat) {x1 : Int32} {h : ia_H} (hg : gd_ w h) {r : Int64} (hm : f_M_partOf x1 h = some r) : ia_Ev (d + 3) mm_M_partOf [.inr (.inr 417), .inl x1] h (some (.inr (.inl r))) h := by
  refine ia_Ev_intro ok_M_partOf (Nat.le_refl _) (Nat.le_refl _) (Nat.le_of_ble_eq_true rfl) (fun K hK hret => ?_)
  show K 0 [some (.inr (.inr 417)), some (.inl x1), none, none, none, none, none, none, none] [] h
  unfold f_M_partOf at hm
  refine ia_go hK ck_M_partOf_0 ?_
  show K 7 [some (.inr (.inr 417)), some (.inl x1), some (.inr (.inl (1 <<< (x1.toInt64 &&& 63)))), none, some (.inr (.inl 0)), none, none, none, none] [] h
  refine ia_fg hK (lv' := [some (.inr (.inr 417)), none, some (.inr (.inl (1 <<< (x1.toInt64 &&& 63)))), none, some (.inr (.inl 0)), none, none, none, none]) ⟨rfl, rfl, rfl, trivial⟩ ?_
  refine tl_M_partOf_7 hK hg hret ?_ fu_ (1 <<< (x1.toInt64 &&& 63)) 0 hm
  · intro y2 hm
    refine ia_go hK ck_M_partOf_90 ?_
    show K 91 [none, none, some (.inr (.inl y2)), none, none, none, none, none, none] [.inr (.inl y2)] h
    obtain rfl := Option.some.inj hm
    exact hret 91 _ dc_M_partOf_91
def mm_M_parts : ia_M := (⟨"IceStreetModel", "parts", "()I"⟩, prog_14_method_75_code, 5, (some .int), 12, false)
theorem ok_M_parts : ia_mok mm_M_parts := ⟨by decide +kernel, by decide +kernel, by decide +kernel, by decide +kernel⟩
theorem mk_M_parts : ia_mkn mm_M_parts 1 0 := ⟨ia_tb_in (List.mem_of_getElem? (i := 2007) (by decide +kernel)) rfl, ia_tb_in (List.mem_of_getElem? (i := 146) (by decide +kernel)) rfl, by decide +kernel, by decide +kernel, ⟨ia_tb_in (List.mem_of_getElem? (i := 2006) (by decide +kernel)) rfl, ia_tb_in (List.mem_of_getElem? (i := 104) (by decide +kernel)) rfl⟩⟩
theorem ck_M_parts_0 : ia_cks 12 5 false prog_14_method_75_code 0 [(.lconst 0, 0, 0, 0, 0), (.lstore_n 1, 0, 0, 0, 0), (.iconst 0, 0, 0, 0, 0), (.istore_n 3, 0, 0, 0, 0), (.iconst 0, 0, 0, 0, 0), (.istore 4, 0, 0, 0, 0)] = true := by decide +kernel
theorem ck_M_parts_7 : ia_cks 12 5 false prog_14_method_75_code 7 [(.iload 4, 0, 0, 0, 0), (.aload_n 0, 0, 0, 0, 0)] = true := by decide +kernel
theorem ck_M_parts_13 : ia_cks 12 5 false prog_14_method_75_code 13 [(.if_icmp .ge 35, 0, 0, 0, 0)] = true := by decide +kernel
theorem ck_M_parts_16 : ia_cks 12 5 false prog_14_method_75_code 16 [(.lload_n 1, 0, 0, 0, 0), (.iload 4, 0, 0, 0, 0), (.lshr, 0, 0, 0, 0), (.lconst 1, 0, 0, 0, 0), (.land, 0, 0, 0, 0), (.lconst 1, 0, 0, 0, 0), (.lcmp, 0, 0, 0, 0), (.ifCond .ne 6, 0, 0, 0, 0)] = true := by decide +kernel
theorem ck_M_parts_30 : ia_cks 12 5 false prog_14_method_75_code 30 [(.iinc 3 1, 0, 0, 0, 0), (.lload_n 1, 0, 0, 0, 0), (.aload_n 0, 0, 0, 0, 0), (.iload 4, 0, 0, 0, 0)] = true := by decide +kernel
theorem ck_M_parts_40 : ia_cks 12 5 false prog_14_method_75_code 40 [(.lor, 0, 0, 0, 0), (.lstore_n 1, 0, 0, 0, 0), (.iinc 4 1, 0, 0, 0, 0), (.goto (-38), 0, 0, 0, 0)] = true := by decide +kernel
theorem ck_M_parts_27 : ia_cks 12 5 false prog_14_method_75_code 27 [(.goto 15, 0, 0, 0, 0)] = true := by decide +kernel
theorem ck_M_parts_42 : ia_cks 12 5 false prog_14_method_75_code 42 [(.iinc 4 1, 0, 0, 0, 0), (.goto (-38), 0, 0, 0, 0)] = true := by decide +kernel
theorem ck_M_parts_48 : ia_cks 12 5 false prog_14_method_75_code 48 [(.iload_n 3, 0, 0, 0, 0)] = true := by decide +kernel
theorem dc_M_parts_10 : decode prog_14_method_75_code 10 = .ok (.invokevirtual 234, 3) := by decide +kernel
theorem dc_M_parts_37 : decode prog_14_method_75_code 37 = .ok (.invokevirtual 305, 3) := by decide +kernel
theorem dc_M_parts_49 : decode prog_14_method_75_code 49 = .ok (.ireturn, 1) := by decide +kernel
def l_M_parts_7 (h : ia_H) (k48 : Int32 → Option Int32) (n : Nat) (y1 : Int64) (x3 : Int32) (x4 : Int32) : Option Int32 := match n with
  | 0 => none
  | n + 1 => (f_M_cells h).bind fun v1 => (if v1 ≤ x4 then (k48 x3) else (if (lg_cmp ((y1 >>> (x4.toInt64 &&& 63)) &&& 1) 1) = 0 then (l_M_parts_7 h k48 n y1 x3 (x4 + 1)) else ((f_M_partOf x4 h).bind fun v2 => (l_M_parts_7 h k48 n (y1 ||| v2) (x3 + 1) (x4 + 1)))))
theorem tl_M_parts_7 {w : ia_O0} {d N1 W1 : Nat} {K : ia_K} (hK : ia_isK (d + 4) mm_M_parts N1 W1 K) {h : ia_H} (hg : gd_ w h) {r : Int32} (hret : ∀ (pc : Nat) (lv : ia_L), ia_ret mm_M_parts pc (some (.inl r)) → K pc lv ((some (.inl r)) : Option ia_V).toList h) {k48 : Int32 → Option Int32} (hk48 : ∀ (x3 : Int32), k48 x3 = some r → K 48 [none, none, none, some (.inl x3), none] [] h) : ∀ (n : Nat) (y1 : Int64) (x3 : Int32) (x4 : Int32), l_M_parts_7 h k48 n y1 x3 x4 = some r → K 7 [some (.inr (.inr 417)), some (.inr (.inl y1)), none, some (.inl x3), some (.inl x4)] [] h := by
  intro n
  induction n with
  | zero =>
    intro y1 x3 x4 hm
    cases (show (none : Option Int32) = some _ from hm)
  | succ n ih =>
    intro y1 x3 x4 hm
    rw [l_M_parts_7] at hm
    refine ia_go hK ck_M_parts_7 ?_
    show K 10 [some (.inr (.inr 417)), some (.inr (.inl y1)), none, some (.inl x3), some (.inl x4)] [.inr (.inr 417), .inl x4] h
    obtain ⟨v1, hv1, hm⟩ := ia_bnd hm
    have ev1 := t_M_cells (d + 3) hg hv1
    refine ia_cV hK mk_M_cells lk_12_234 dc_M_parts_10 417 [] [.inl x4] rfl rfl (Nat.le_of_ble_eq_true rfl) (by decide) rfl (gk_12 hg pk_417) ev1 ⟨rfl, rfl⟩ ?_
    show K 13 [some (.inr (.inr 417)), some (.inr (.inl y1)), none, some (.inl x3), some (.inl x4)] [.inl v1, .inl x4] h
    refine ia_go hK ck_M_parts_13 ⟨fun c => ?_, fun c => ?_⟩
    · replace hm := ia_ifp hm c
      show K 48 [some (.inr (.inr 417)), some (.inr (.inl y1)), none, some (.inl x3), some (.inl x4)] [] h
      refine ia_fg hK (lv' := [none, none, none, some (.inl x3), none]) ⟨rfl, trivial⟩ ?_
      exact hk48 x3 hm
    · replace hm := ia_ifn hm c
      show K 16 [some (.inr (.inr 417)), some (.inr (.inl y1)), none, some (.inl x3), some (.inl x4)] [] h
      refine ia_go hK ck_M_parts_16 ⟨fun c => ?_, fun c => ?_⟩
      · replace hm := ia_ifn hm c
        show K 30 [some (.inr (.inr 417)), some (.inr (.inl y1)), none, some (.inl x3), some (.inl x4)] [] h
        refine ia_go hK ck_M_parts_30 ?_
        show K 37 [some (.inr (.inr 417)), some (.inr (.inl y1)), none, some (.inl (x3 + 1)), some (.inl x4)] [.inl x4, .inr (.inr 417), .inr (.inl y1)] h
        obtain ⟨v2, hv2, hm⟩ := ia_bnd hm
        have ev2 := t_M_partOf (d + 0) hg hv2
        refine ia_cV hK mk_M_partOf lk_12_305 dc_M_parts_37 417 [.inl x4] [.inr (.inl y1)] rfl rfl (Nat.le_of_ble_eq_true rfl) (by decide) rfl (gk_12 hg pk_417) ev2 ⟨rfl, rfl⟩ ?_
        show K 40 [some (.inr (.inr 417)), some (.inr (.inl y1)), none, some (.inl (x3 + 1)), some (.inl x4)] [.inr (.inl v2), .inr (.inl y1)] h
        refine ia_go hK ck_M_parts_40 ?_
        show K 7 [some (.inr (.inr 417)), some (.inr (.inl (y1 ||| v2))), none, some (.inl (x3 + 1)), some (.inl (x4 + 1))] [] h
        exact ih (y1 ||| v2) (x3 + 1) (x4 + 1) hm
      · replace hm := ia_ifp hm c
        show K 27 [some (.inr (.inr 417)), some (.inr (.inl y1)), none, some (.inl x3), some (.inl x4)] [] h
        refine ia_go hK ck_M_parts_27 ?_
        show K 42 [some (.inr (.inr 417)), some (.inr (.inl y1)), none, some (.inl x3), some (.inl x4)] [] h
        refine ia_go hK ck_M_parts_42 ?_
        show K 7 [some (.inr (.inr 417)), some (.inr (.inl y1)), none, some (.inl x3), some (.inl (x4 + 1))] [] h
        exact ih y1 x3 (x4 + 1) hm
def f_M_parts (h : ia_H) : Option Int32 := l_M_parts_7 h (fun x3 => some x3) fu_ 0 0 0
theorem t_M_parts {w : ia_O0} (d : Nat) {h : ia_H} (hg : gd_ w h) {r : Int32} (hm : f_M_parts h = some r) : ia_Ev (d + 4) mm_M_parts [.inr (.inr 417)] h (some (.inl r)) h := by
  refine ia_Ev_intro ok_M_parts (Nat.le_refl _) (Nat.le_refl _) (Nat.le_of_ble_eq_true rfl) (fun K hK hret => ?_)
  show K 0 [some (.inr (.inr 417)), none, none, none, none] [] h
  unfold f_M_parts at hm
  refine ia_go hK ck_M_parts_0 ?_
  show K 7 [some (.inr (.inr 417)), some (.inr (.inl 0)), none, some (.inl 0), some (.inl 0)] [] h
  refine tl_M_parts_7 hK hg hret ?_ fu_ 0 0 0 hm
  · intro x3 hm
    refine ia_go hK ck_M_parts_48 ?_
    show K 49 [none, none, none, some (.inl x3), none] [.inl x3] h
    obtain rfl := Option.some.inj hm
    exact hret 49 _ dc_M_parts_49
def mm_M_state : ia_M := (⟨"IceStreetModel", "state", "(IIIII)I"⟩, prog_14_method_76_code, 6, (some .int), 12, false)
theorem ok_M_state : ia_mok mm_M_state := ⟨by decide +kernel, by decide +kernel, by decide +kernel, by decide +kernel⟩
theorem mk_M_state : ia_mkn mm_M_state 1 5 := ⟨ia_tb_in (List.mem_of_getElem? (i := 1991) (by decide +kernel)) rfl, ia_tb_in (List.mem_of_getElem? (i := 146) (by decide +kernel)) rfl, by decide +kernel, by decide +kernel, ⟨ia_tb_in (List.mem_of_getElem? (i := 1989) (by decide +kernel)) rfl, ia_tb_in (List.mem_of_getElem? (i := 1990) (by decide +kernel)) rfl⟩⟩
theorem ck_M_state_0 : ia_cks 12 6 false prog_14_method_76_code 0 [(.aload_n 0, 0, 0, 0, 0), (.iload_n 1, 0, 0, 0, 0), (.iload_n 2, 0, 0, 0, 0), (.iload_n 3, 0, 0, 0, 0), (.iload 4, 0, 0, 0, 0)] = true := by decide +kernel
theorem ck_M_state_9 : ia_cks 12 6 false prog_14_method_76_code 9 [(.ifCond .ne 6, 0, 0, 0, 0)] = true := by decide +kernel
theorem ck_M_state_15 : ia_cks 12 6 false prog_14_method_76_code 15 [(.iload 5, 0, 0, 0, 0), (.tableswitch 66 0 4 #[35, 43, 51, 56, 61], 0, 0, 0, 0)] = true := by decide +kernel
theorem ck_M_state_52 : ia_cks 12 6 false prog_14_method_76_code 52 [(.aload_n 0, 0, 0, 0, 0), (.getfield 23, 12, 13, 3, 5), (.bipush 78, 0, 0, 0, 0), (.iaload, 0, 0, 0, 0)] = true := by decide +kernel
theorem ck_M_state_60 : ia_cks 12 6 false prog_14_method_76_code 60 [(.aload_n 0, 0, 0, 0, 0), (.getfield 23, 12, 13, 3, 5), (.bipush 79, 0, 0, 0, 0), (.iaload, 0, 0, 0, 0)] = true := by decide +kernel
theorem ck_M_state_68 : ia_cks 12 6 false prog_14_method_76_code 68 [(.aload_n 0, 0, 0, 0, 0)] = true := by decide +kernel
theorem ck_M_state_73 : ia_cks 12 6 false prog_14_method_76_code 73 [(.aload_n 0, 0, 0, 0, 0)] = true := by decide +kernel
theorem ck_M_state_78 : ia_cks 12 6 false prog_14_method_76_code 78 [(.aload_n 0, 0, 0, 0, 0)] = true := by decide +kernel
theorem ck_M_state_83 : ia_cks 12 6 false prog_14_method_76_code 83 [(.iload 5, 0, 0, 0, 0), (.bipush 10, 0, 0, 0, 0), (.bipush 9, 0, 0, 0, 0), (.aload_n 0, 0, 0, 0, 0), (.getfield 7, 12, 0, 3, 1), (.aload_n 0, 0, 0, 0, 0), (.getfield 201, 12, 14, 0, 0), (.iconst 4, 0, 0, 0, 0), (.iadd, 0, 0, 0, 0), (.iaload, 0, 0, 0, 0), (.iadd, 0, 0, 0, 0)] = true := by decide +kernel
theorem ck_M_state_104 : ia_cks 12 6 false prog_14_method_76_code 104 [(.ifCond .eq 19, 0, 0, 0, 0)] = true := by decide +kernel
theorem ck_M_state_123 : ia_cks 12 6 false prog_14_method_76_code 123 [(.bipush (-100), 0, 0, 0, 0)] = true := by decide +kernel
theorem ck_M_state_107 : ia_cks 12 6 false prog_14_method_76_code 107 [(.aload_n 0, 0, 0, 0, 0), (.getfield 23, 12, 13, 3, 5), (.bipush 72, 0, 0, 0, 0), (.iload 5, 0, 0, 0, 0), (.iadd, 0, 0, 0, 0), (.bipush 10, 0, 0, 0, 0), (.isub, 0, 0, 0, 0), (.iaload, 0, 0, 0, 0), (.goto 5, 0, 0, 0, 0)] = true := by decide +kernel
theorem ck_M_state_12 : ia_cks 12 6 false prog_14_method_76_code 12 [(.bipush (-100), 0, 0, 0, 0)] = true := by decide +kernel
theorem dc_M_state_6 : decode prog_14_method_76_code 6 = .ok (.invokevirtual 309, 3) := by decide +kernel
theorem dc_M_state_59 : decode prog_14_method_76_code 59 = .ok (.ireturn, 1) := by decide +kernel
theorem dc_M_state_67 : decode prog_14_method_76_code 67 = .ok (.ireturn, 1) := by decide +kernel
theorem dc_M_state_69 : decode prog_14_method_76_code 69 = .ok (.invokevirtual 312, 3) := by decide +kernel
theorem dc_M_state_72 : decode prog_14_method_76_code 72 = .ok (.ireturn, 1) := by decide +kernel
theorem dc_M_state_74 : decode prog_14_method_76_code 74 = .ok (.invokevirtual 315, 3) := by decide +kernel
theorem dc_M_state_77 : decode prog_14_method_76_code 77 = .ok (.ireturn, 1) := by decide +kernel
theorem dc_M_state_79 : decode prog_14_method_76_code 79 = .ok (.invokevirtual 318, 3) := by decide +kernel
theorem dc_M_state_82 : decode prog_14_method_76_code 82 = .ok (.ireturn, 1) := by decide +kernel
theorem dc_M_state_101 : decode prog_14_method_76_code 101 = .ok (.invokestatic 116, 3) := by decide +kernel
theorem dc_M_state_125 : decode prog_14_method_76_code 125 = .ok (.ireturn, 1) := by decide +kernel
theorem dc_M_state_14 : decode prog_14_method_76_code 14 = .ok (.ireturn, 1) := by decide +kernel
def f_M_state (x1 : Int32) (x2 : Int32) (x3 : Int32) (x4 : Int32) (x5 : Int32) (h : ia_H) : Option (Int32 × ia_H) := (f_M_isState x1 x2 x3 x4 h).bind fun v1 => (if v1.1 = 0 then (some ((-100), v1.2)) else (if x5 = 0 then (some (ia_i v1.2 422 78, v1.2)) else if x5 = 1 then (some (ia_i v1.2 422 79, v1.2)) else if x5 = 2 then ((f_M_lost v1.2).bind fun v4 => (some (v4, v1.2))) else if x5 = 3 then ((f_M_broken v1.2).bind fun v6 => (some (v6, v1.2))) else if x5 = 4 then ((f_M_parts v1.2).bind fun v8 => (some (v8, v1.2))) else (ia_gd (ia_ib ((ia_i v1.2 417 14) + 4) 6528) ((f_M_isIn x5 10 (9 + (ia_i v1.2 418 (((ia_i v1.2 417 14) + 4).toNatClampNeg))) v1.2).bind fun v11 => (if v11 = 0 then (some ((-100), v1.2)) else (ia_gd (ia_ib ((72 + x5) - 10) 1120) (some (ia_i v1.2 422 (((72 + x5) - 10).toNatClampNeg), v1.2))))))))
theorem g_M_state {w : ia_O0} {x1 : Int32} {x2 : Int32} {x3 : Int32} {x4 : Int32} {x5 : Int32} {h : ia_H} (hg : gd_ w h) {q : (Int32 × ia_H)} (hm : f_M_state x1 x2 x3 x4 x5 h = some q) : gd_ w q.2 := by
  obtain ⟨r, h1⟩ := q
  unfold f_M_state at hm
  obtain ⟨v1, hv1, hm⟩ := ia_bnd hm
  have gv1 := g_M_isState hg hv1
  by_cases c : v1.1 = 0
  · replace hm := ia_ifp hm c
    obtain ⟨rfl, rfl⟩ := Prod.mk.inj (Option.some.inj hm)
    exact gv1
  · replace hm := ia_ifn hm c
    by_cases c2 : x5 = 0
    · replace hm := ia_ifp hm c2
      obtain ⟨rfl, rfl⟩ := Prod.mk.inj (Option.some.inj hm)
      exact gv1
    · replace hm := ia_ifn hm c2
      by_cases c3 : x5 = 1
      · replace hm := ia_ifp hm c3
        obtain ⟨rfl, rfl⟩ := Prod.mk.inj (Option.some.inj hm)
        exact gv1
      · replace hm := ia_ifn hm c3
        by_cases c5 : x5 = 2
        · replace hm := ia_ifp hm c5
          obtain ⟨v4, hv4, hm⟩ := ia_bnd hm
          obtain ⟨rfl, rfl⟩ := Prod.mk.inj (Option.some.inj hm)
          exact gv1
        · replace hm := ia_ifn hm c5
          by_cases c7 : x5 = 3
          · replace hm := ia_ifp hm c7
            obtain ⟨v6, hv6, hm⟩ := ia_bnd hm
            obtain ⟨rfl, rfl⟩ := Prod.mk.inj (Option.some.inj hm)
            exact gv1
          · replace hm := ia_ifn hm c7
            by_cases c9 : x5 = 4
            · replace hm := ia_ifp hm c9
              obtain ⟨v8, hv8, hm⟩ := ia_bnd hm
              obtain ⟨rfl, rfl⟩ := Prod.mk.inj (Option.some.inj hm)
              exact gv1
            · replace hm := ia_ifn hm c9
              obtain ⟨c10, hm⟩ := ia_gd_some hm
              obtain ⟨v11, hv11, hm⟩ := ia_bnd hm
              by_cases c : v11 = 0
              · replace hm := ia_ifp hm c
                obtain ⟨rfl, rfl⟩ := Prod.mk.inj (Option.some.inj hm)
                exact gv1
              · replace hm := ia_ifn hm c
                obtain ⟨c12, hm⟩ := ia_gd_some hm
                obtain ⟨rfl, rfl⟩ := Prod.mk.inj (Option.some.inj hm)
                exact gv1
theorem t_M_state {w : ia_O0} (d : Nat) {x1 : Int32} {x2 : Int32} {x3 : Int32} {x4 : Int32} {x5 : Int32} {h : ia_H} (hg : gd_ w h) {q : (Int32 × ia_H)} (hm : f_M_state x1 x2 x3 x4 x5 h = some q) : ia_Ev (d + 11) mm_M_state [.inr (.inr 417), .inl x1, .inl x2, .inl x3, .inl x4, .inl x5] h (some (.inl q.1)) q.2 := by
  have gq := g_M_state hg hm
  refine ia_Ev_intro ok_M_state (gd_le hg gq).1 (gd_le hg gq).2 (Nat.le_of_ble_eq_true rfl) (fun K hK hret => ?_)
  obtain ⟨r, h1⟩ := q
  show K 0 [some (.inr (.inr 417)), some (.inl x1), some (.inl x2), some (.inl x3), some (.inl x4), some (.inl x5)] [] h
  unfold f_M_state at hm
  refine ia_go hK ck_M_state_0 ?_
  show K 6 [some (.inr (.inr 417)), some (.inl x1), some (.inl x2), some (.inl x3), some (.inl x4), some (.inl x5)] [.inl x4, .inl x3, .inl x2, .inl x1, .inr (.inr 417)] h
  obtain ⟨v1, hv1, hm⟩ := ia_bnd hm
  have ev1 := t_M_isState (d + 0) hg hv1
  have gv1 := g_M_isState hg hv1
  refine ia_cV hK mk_M_isState lk_12_309 dc_M_state_6 417 [.inl x1, .inl x2, .inl x3, .inl x4] [] rfl rfl (Nat.le_of_ble_eq_true rfl) (by decide) rfl (gk_12 hg pk_417) ev1 (gd_nm hg gv1) ?_
  show K 9 [some (.inr (.inr 417)), some (.inl x1), some (.inl x2), some (.inl x3), some (.inl x4), some (.inl x5)] [.inl v1.1] v1.2
  refine ia_go hK ck_M_state_9 ⟨fun c => ?_, fun c => ?_⟩
  · replace hm := ia_ifn hm c
    show K 15 [some (.inr (.inr 417)), some (.inl x1), some (.inl x2), some (.inl x3), some (.inl x4), some (.inl x5)] [] v1.2
    refine ia_go hK ck_M_state_15 ?_
    show K (ia_tsw 17 66 0 4 #[35, 43, 51, 56, 61] x5) [some (.inr (.inr 417)), some (.inl x1), some (.inl x2), some (.inl x3), some (.inl x4), some (.inl x5)] [] v1.2
    by_cases c2 : x5 = 0
    · replace hm := ia_ifp hm c2
      rw [show ia_tsw 17 66 0 4 #[35, 43, 51, 56, 61] x5 = 52 from by rw [c2]; decide]
      refine ia_go hK ck_M_state_52 ⟨gk_12 gv1 pk_417, gr_12_13 gv1 pk_417, ga_i100 gv1 (ka_12_13 pk_417) (by decide), ?_⟩
      show K 59 [some (.inr (.inr 417)), some (.inl x1), some (.inl x2), some (.inl x3), some (.inl x4), some (.inl x5)] [.inl (ia_i v1.2 422 78)] v1.2
      obtain ⟨rfl, rfl⟩ := Prod.mk.inj (Option.some.inj hm)
      exact hret 59 _ dc_M_state_59
    · replace hm := ia_ifn hm c2
      by_cases c3 : x5 = 1
      · replace hm := ia_ifp hm c3
        rw [show ia_tsw 17 66 0 4 #[35, 43, 51, 56, 61] x5 = 60 from by rw [c3]; decide]
        refine ia_go hK ck_M_state_60 ⟨gk_12 gv1 pk_417, gr_12_13 gv1 pk_417, ga_i100 gv1 (ka_12_13 pk_417) (by decide), ?_⟩
        show K 67 [some (.inr (.inr 417)), some (.inl x1), some (.inl x2), some (.inl x3), some (.inl x4), some (.inl x5)] [.inl (ia_i v1.2 422 79)] v1.2
        obtain ⟨rfl, rfl⟩ := Prod.mk.inj (Option.some.inj hm)
        exact hret 67 _ dc_M_state_67
      · replace hm := ia_ifn hm c3
        by_cases c5 : x5 = 2
        · replace hm := ia_ifp hm c5
          rw [show ia_tsw 17 66 0 4 #[35, 43, 51, 56, 61] x5 = 68 from by rw [c5]; decide]
          refine ia_go hK ck_M_state_68 ?_
          show K 69 [some (.inr (.inr 417)), some (.inl x1), some (.inl x2), some (.inl x3), some (.inl x4), some (.inl x5)] [.inr (.inr 417)] v1.2
          obtain ⟨v4, hv4, hm⟩ := ia_bnd hm
          have ev4 := t_M_lost (d + 9) gv1 hv4
          refine ia_cV hK mk_M_lost lk_12_312 dc_M_state_69 417 [] [] rfl rfl (Nat.le_of_ble_eq_true rfl) (by decide) rfl (gk_12 gv1 pk_417) ev4 ⟨rfl, rfl⟩ ?_
          show K 72 [some (.inr (.inr 417)), some (.inl x1), some (.inl x2), some (.inl x3), some (.inl x4), some (.inl x5)] [.inl v4] v1.2
          obtain ⟨rfl, rfl⟩ := Prod.mk.inj (Option.some.inj hm)
          exact hret 72 _ dc_M_state_72
        · replace hm := ia_ifn hm c5
          by_cases c7 : x5 = 3
          · replace hm := ia_ifp hm c7
            rw [show ia_tsw 17 66 0 4 #[35, 43, 51, 56, 61] x5 = 73 from by rw [c7]; decide]
            refine ia_go hK ck_M_state_73 ?_
            show K 74 [some (.inr (.inr 417)), some (.inl x1), some (.inl x2), some (.inl x3), some (.inl x4), some (.inl x5)] [.inr (.inr 417)] v1.2
            obtain ⟨v6, hv6, hm⟩ := ia_bnd hm
            have ev6 := t_M_broken (d + 6) gv1 hv6
            refine ia_cV hK mk_M_broken lk_12_315 dc_M_state_74 417 [] [] rfl rfl (Nat.le_of_ble_eq_true rfl) (by decide) rfl (gk_12 gv1 pk_417) ev6 ⟨rfl, rfl⟩ ?_
            show K 77 [some (.inr (.inr 417)), some (.inl x1), some (.inl x2), some (.inl x3), some (.inl x4), some (.inl x5)] [.inl v6] v1.2
            obtain ⟨rfl, rfl⟩ := Prod.mk.inj (Option.some.inj hm)
            exact hret 77 _ dc_M_state_77
          · replace hm := ia_ifn hm c7
            by_cases c9 : x5 = 4
            · replace hm := ia_ifp hm c9
              rw [show ia_tsw 17 66 0 4 #[35, 43, 51, 56, 61] x5 = 78 from by rw [c9]; decide]
              refine ia_go hK ck_M_state_78 ?_
              show K 79 [some (.inr (.inr 417)), some (.inl x1), some (.inl x2), some (.inl x3), some (.inl x4), some (.inl x5)] [.inr (.inr 417)] v1.2
              obtain ⟨v8, hv8, hm⟩ := ia_bnd hm
              have ev8 := t_M_parts (d + 6) gv1 hv8
              refine ia_cV hK mk_M_parts lk_12_318 dc_M_state_79 417 [] [] rfl rfl (Nat.le_of_ble_eq_true rfl) (by decide) rfl (gk_12 gv1 pk_417) ev8 ⟨rfl, rfl⟩ ?_
              show K 82 [some (.inr (.inr 417)), some (.inl x1), some (.inl x2), some (.inl x3), some (.inl x4), some (.inl x5)] [.inl v8] v1.2
              obtain ⟨rfl, rfl⟩ := Prod.mk.inj (Option.some.inj hm)
              exact hret 82 _ dc_M_state_82
            · replace hm := ia_ifn hm c9
              rw [show ia_tsw 17 66 0 4 #[35, 43, 51, 56, 61] x5 = 83 from (ia_tsw_d (fun k h1 h2 => by
                  rcases (show k = 0 ∨ k = 1 ∨ k = 2 ∨ k = 3 ∨ k = 4 by omega) with rfl | rfl | rfl | rfl | rfl
                  · exact c2
                  · exact c3
                  · exact c5
                  · exact c7
                  · exact c9
                  )).trans (by decide)]
              obtain ⟨c10, hm⟩ := ia_gd_some hm
              refine ia_go hK ck_M_state_83 ⟨gk_12 gv1 pk_417, gr_12_0 gv1 pk_417, gk_12 gv1 pk_417, ga_i100 gv1 (ka_12_0 pk_417) c10, ?_⟩
              show K 101 [some (.inr (.inr 417)), some (.inl x1), some (.inl x2), some (.inl x3), some (.inl x4), some (.inl x5)] [.inl (9 + (ia_i v1.2 418 (((ia_i v1.2 417 14) + 4).toNatClampNeg))), .inl 10, .inl x5] v1.2
              obtain ⟨v11, hv11, hm⟩ := ia_bnd hm
              have ev11 := t_M_isIn (d + 10) gv1 hv11
              refine ia_cS hK mk_M_isIn lk_12_116 dc_M_state_101 [.inl x5, .inl 10, .inl (9 + (ia_i v1.2 418 (((ia_i v1.2 417 14) + 4).toNatClampNeg)))] [] rfl rfl (Nat.le_of_ble_eq_true rfl) ev11 ⟨rfl, rfl⟩ ?_
              show K 104 [some (.inr (.inr 417)), some (.inl x1), some (.inl x2), some (.inl x3), some (.inl x4), some (.inl x5)] [.inl v11] v1.2
              refine ia_go hK ck_M_state_104 ⟨fun c => ?_, fun c => ?_⟩
              · replace hm := ia_ifp hm c
                show K 123 [some (.inr (.inr 417)), some (.inl x1), some (.inl x2), some (.inl x3), some (.inl x4), some (.inl x5)] [] v1.2
                refine ia_go hK ck_M_state_123 ?_
                show K 125 [some (.inr (.inr 417)), some (.inl x1), some (.inl x2), some (.inl x3), some (.inl x4), some (.inl x5)] [.inl (-100)] v1.2
                obtain ⟨rfl, rfl⟩ := Prod.mk.inj (Option.some.inj hm)
                exact hret 125 _ dc_M_state_125
              · replace hm := ia_ifn hm c
                show K 107 [some (.inr (.inr 417)), some (.inl x1), some (.inl x2), some (.inl x3), some (.inl x4), some (.inl x5)] [] v1.2
                obtain ⟨c12, hm⟩ := ia_gd_some hm
                refine ia_go hK ck_M_state_107 ⟨gk_12 gv1 pk_417, gr_12_13 gv1 pk_417, ga_i100 gv1 (ka_12_13 pk_417) c12, ?_⟩
                show K 125 [some (.inr (.inr 417)), some (.inl x1), some (.inl x2), some (.inl x3), some (.inl x4), some (.inl x5)] [.inl (ia_i v1.2 422 (((72 + x5) - 10).toNatClampNeg))] v1.2
                obtain ⟨rfl, rfl⟩ := Prod.mk.inj (Option.some.inj hm)
                exact hret 125 _ dc_M_state_125
  · replace hm := ia_ifp hm c
    show K 12 [some (.inr (.inr 417)), some (.inl x1), some (.inl x2), some (.inl x3), some (.inl x4), some (.inl x5)] [] v1.2
    refine ia_go hK ck_M_state_12 ?_
    show K 14 [some (.inr (.inr 417)), some (.inl x1), some (.inl x2), some (.inl x3), some (.inl x4), some (.inl x5)] [.inl (-100)] v1.2
    obtain ⟨rfl, rfl⟩ := Prod.mk.inj (Option.some.inj hm)
    exact hret 14 _ dc_M_state_14
def mm_M_isIce : ia_M := (⟨"IceStreetModel", "isIce", "(IIIII)Z"⟩, prog_14_method_77_code, 6, (some .boolean), 12, false)
theorem ok_M_isIce : ia_mok mm_M_isIce := ⟨by decide +kernel, by decide +kernel, by decide +kernel, by decide +kernel⟩
theorem mk_M_isIce : ia_mkn mm_M_isIce 1 5 := ⟨ia_tb_in (List.mem_of_getElem? (i := 2019) (by decide +kernel)) rfl, ia_tb_in (List.mem_of_getElem? (i := 146) (by decide +kernel)) rfl, by decide +kernel, by decide +kernel, ⟨ia_tb_in (List.mem_of_getElem? (i := 2018) (by decide +kernel)) rfl, ia_tb_in (List.mem_of_getElem? (i := 106) (by decide +kernel)) rfl⟩⟩
theorem ck_M_isIce_0 : ia_cks 12 6 false prog_14_method_77_code 0 [(.aload_n 0, 0, 0, 0, 0), (.iload_n 1, 0, 0, 0, 0), (.iload_n 2, 0, 0, 0, 0), (.iload_n 3, 0, 0, 0, 0), (.iload 4, 0, 0, 0, 0)] = true := by decide +kernel
theorem ck_M_isIce_9 : ia_cks 12 6 false prog_14_method_77_code 9 [(.ifCond .eq 20, 0, 0, 0, 0)] = true := by decide +kernel
theorem ck_M_isIce_29 : ia_cks 12 6 false prog_14_method_77_code 29 [(.iconst 0, 0, 0, 0, 0)] = true := by decide +kernel
theorem ck_M_isIce_12 : ia_cks 12 6 false prog_14_method_77_code 12 [(.aload_n 0, 0, 0, 0, 0), (.aload_n 0, 0, 0, 0, 0), (.getfield 201, 12, 14, 0, 0), (.iload 5, 0, 0, 0, 0)] = true := by decide +kernel
theorem ck_M_isIce_22 : ia_cks 12 6 false prog_14_method_77_code 22 [(.ifCond .eq 7, 0, 0, 0, 0)] = true := by decide +kernel
theorem ck_M_isIce_25 : ia_cks 12 6 false prog_14_method_77_code 25 [(.iconst 1, 0, 0, 0, 0), (.goto 4, 0, 0, 0, 0)] = true := by decide +kernel
theorem dc_M_isIce_6 : decode prog_14_method_77_code 6 = .ok (.invokevirtual 309, 3) := by decide +kernel
theorem dc_M_isIce_30 : decode prog_14_method_77_code 30 = .ok (.ireturn, 1) := by decide +kernel
theorem dc_M_isIce_19 : decode prog_14_method_77_code 19 = .ok (.invokevirtual 192, 3) := by decide +kernel
def f_M_isIce (x1 : Int32) (x2 : Int32) (x3 : Int32) (x4 : Int32) (x5 : Int32) (h : ia_H) : Option (Int32 × ia_H) := (f_M_isState x1 x2 x3 x4 h).bind fun v1 => (if v1.1 = 0 then (some (0, v1.2)) else ((f_M_isCell (ia_i v1.2 417 14) x5 v1.2).bind fun v2 => (if v2 = 0 then (some (0, v1.2)) else (some (1, v1.2)))))
theorem g_M_isIce {w : ia_O0} {x1 : Int32} {x2 : Int32} {x3 : Int32} {x4 : Int32} {x5 : Int32} {h : ia_H} (hg : gd_ w h) {q : (Int32 × ia_H)} (hm : f_M_isIce x1 x2 x3 x4 x5 h = some q) : gd_ w q.2 := by
  obtain ⟨r, h1⟩ := q
  unfold f_M_isIce at hm
  obtain ⟨v1, hv1, hm⟩ := ia_bnd hm
  have gv1 := g_M_isState hg hv1
  by_cases c : v1.1 = 0
  · replace hm := ia_ifp hm c
    obtain ⟨rfl, rfl⟩ := Prod.mk.inj (Option.some.inj hm)
    exact gv1
  · replace hm := ia_ifn hm c
    obtain ⟨v2, hv2, hm⟩ := ia_bnd hm
    by_cases c : v2 = 0
    · replace hm := ia_ifp hm c
      obtain ⟨rfl, rfl⟩ := Prod.mk.inj (Option.some.inj hm)
      exact gv1
    · replace hm := ia_ifn hm c
      obtain ⟨rfl, rfl⟩ := Prod.mk.inj (Option.some.inj hm)
      exact gv1
theorem t_M_isIce {w : ia_O0} (d : Nat) {x1 : Int32} {x2 : Int32} {x3 : Int32} {x4 : Int32} {x5 : Int32} {h : ia_H} (hg : gd_ w h) {q : (Int32 × ia_H)} (hm : f_M_isIce x1 x2 x3 x4 x5 h = some q) : ia_Ev (d + 11) mm_M_isIce [.inr (.inr 417), .inl x1, .inl x2, .inl x3, .inl x4, .inl x5] h (some (.inl q.1)) q.2 := by
  have gq := g_M_isIce hg hm
  refine ia_Ev_intro ok_M_isIce (gd_le hg gq).1 (gd_le hg gq).2 (Nat.le_of_ble_eq_true rfl) (fun K hK hret => ?_)
  obtain ⟨r, h1⟩ := q
  show K 0 [some (.inr (.inr 417)), some (.inl x1), some (.inl x2), some (.inl x3), some (.inl x4), some (.inl x5)] [] h
  unfold f_M_isIce at hm
  refine ia_go hK ck_M_isIce_0 ?_
  show K 6 [some (.inr (.inr 417)), some (.inl x1), some (.inl x2), some (.inl x3), some (.inl x4), some (.inl x5)] [.inl x4, .inl x3, .inl x2, .inl x1, .inr (.inr 417)] h
  obtain ⟨v1, hv1, hm⟩ := ia_bnd hm
  have ev1 := t_M_isState (d + 0) hg hv1
  have gv1 := g_M_isState hg hv1
  refine ia_cV hK mk_M_isState lk_12_309 dc_M_isIce_6 417 [.inl x1, .inl x2, .inl x3, .inl x4] [] rfl rfl (Nat.le_of_ble_eq_true rfl) (by decide) rfl (gk_12 hg pk_417) ev1 (gd_nm hg gv1) ?_
  show K 9 [some (.inr (.inr 417)), some (.inl x1), some (.inl x2), some (.inl x3), some (.inl x4), some (.inl x5)] [.inl v1.1] v1.2
  refine ia_go hK ck_M_isIce_9 ⟨fun c => ?_, fun c => ?_⟩
  · replace hm := ia_ifp hm c
    show K 29 [some (.inr (.inr 417)), some (.inl x1), some (.inl x2), some (.inl x3), some (.inl x4), some (.inl x5)] [] v1.2
    refine ia_go hK ck_M_isIce_29 ?_
    show K 30 [some (.inr (.inr 417)), some (.inl x1), some (.inl x2), some (.inl x3), some (.inl x4), some (.inl x5)] [.inl 0] v1.2
    obtain ⟨rfl, rfl⟩ := Prod.mk.inj (Option.some.inj hm)
    exact hret 30 _ ⟨Or.inl rfl, dc_M_isIce_30⟩
  · replace hm := ia_ifn hm c
    show K 12 [some (.inr (.inr 417)), some (.inl x1), some (.inl x2), some (.inl x3), some (.inl x4), some (.inl x5)] [] v1.2
    refine ia_go hK ck_M_isIce_12 ⟨gk_12 gv1 pk_417, ?_⟩
    show K 19 [some (.inr (.inr 417)), some (.inl x1), some (.inl x2), some (.inl x3), some (.inl x4), some (.inl x5)] [.inl x5, .inl (ia_i v1.2 417 14), .inr (.inr 417)] v1.2
    obtain ⟨v2, hv2, hm⟩ := ia_bnd hm
    have ev2 := t_M_isCell (d + 9) gv1 hv2
    refine ia_cV hK mk_M_isCell lk_12_192 dc_M_isIce_19 417 [.inl (ia_i v1.2 417 14), .inl x5] [] rfl rfl (Nat.le_of_ble_eq_true rfl) (by decide) rfl (gk_12 gv1 pk_417) ev2 ⟨rfl, rfl⟩ ?_
    show K 22 [some (.inr (.inr 417)), some (.inl x1), some (.inl x2), some (.inl x3), some (.inl x4), some (.inl x5)] [.inl v2] v1.2
    refine ia_go hK ck_M_isIce_22 ⟨fun c => ?_, fun c => ?_⟩
    · replace hm := ia_ifp hm c
      show K 29 [some (.inr (.inr 417)), some (.inl x1), some (.inl x2), some (.inl x3), some (.inl x4), some (.inl x5)] [] v1.2
      refine ia_go hK ck_M_isIce_29 ?_
      show K 30 [some (.inr (.inr 417)), some (.inl x1), some (.inl x2), some (.inl x3), some (.inl x4), some (.inl x5)] [.inl 0] v1.2
      obtain ⟨rfl, rfl⟩ := Prod.mk.inj (Option.some.inj hm)
      exact hret 30 _ ⟨Or.inl rfl, dc_M_isIce_30⟩
    · replace hm := ia_ifn hm c
      show K 25 [some (.inr (.inr 417)), some (.inl x1), some (.inl x2), some (.inl x3), some (.inl x4), some (.inl x5)] [] v1.2
      refine ia_go hK ck_M_isIce_25 ?_
      show K 30 [some (.inr (.inr 417)), some (.inl x1), some (.inl x2), some (.inl x3), some (.inl x4), some (.inl x5)] [.inl 1] v1.2
      obtain ⟨rfl, rfl⟩ := Prod.mk.inj (Option.some.inj hm)
      exact hret 30 _ ⟨Or.inr rfl, dc_M_isIce_30⟩
def mm_M_ice : ia_M := (⟨"IceStreetModel", "ice", "(IIIIII)I"⟩, prog_14_method_78_code, 7, (some .int), 12, false)
theorem ok_M_ice : ia_mok mm_M_ice := ⟨by decide +kernel, by decide +kernel, by decide +kernel, by decide +kernel⟩
theorem mk_M_ice : ia_mkn mm_M_ice 1 6 := ⟨ia_tb_in (List.mem_of_getElem? (i := 2015) (by decide +kernel)) rfl, ia_tb_in (List.mem_of_getElem? (i := 146) (by decide +kernel)) rfl, by decide +kernel, by decide +kernel, ⟨ia_tb_in (List.mem_of_getElem? (i := 2013) (by decide +kernel)) rfl, ia_tb_in (List.mem_of_getElem? (i := 2014) (by decide +kernel)) rfl⟩⟩
theorem ck_M_ice_0 : ia_cks 12 7 false prog_14_method_78_code 0 [(.iload 6, 0, 0, 0, 0), (.iconst 0, 0, 0, 0, 0), (.iconst 3, 0, 0, 0, 0)] = true := by decide +kernel
theorem ck_M_ice_7 : ia_cks 12 7 false prog_14_method_78_code 7 [(.ifCond .eq 17, 0, 0, 0, 0)] = true := by decide +kernel
theorem ck_M_ice_24 : ia_cks 12 7 false prog_14_method_78_code 24 [(.iconst (-1), 0, 0, 0, 0)] = true := by decide +kernel
theorem ck_M_ice_10 : ia_cks 12 7 false prog_14_method_78_code 10 [(.aload_n 0, 0, 0, 0, 0), (.iload_n 1, 0, 0, 0, 0), (.iload_n 2, 0, 0, 0, 0), (.iload_n 3, 0, 0, 0, 0), (.iload 4, 0, 0, 0, 0), (.iload 5, 0, 0, 0, 0)] = true := by decide +kernel
theorem ck_M_ice_21 : ia_cks 12 7 false prog_14_method_78_code 21 [(.ifCond .ne 5, 0, 0, 0, 0)] = true := by decide +kernel
theorem ck_M_ice_26 : ia_cks 12 7 false prog_14_method_78_code 26 [(.iload 6, 0, 0, 0, 0), (.ifCond .ne 13, 0, 0, 0, 0)] = true := by decide +kernel
theorem ck_M_ice_41 : ia_cks 12 7 false prog_14_method_78_code 41 [(.iload 6, 0, 0, 0, 0), (.iconst 1, 0, 0, 0, 0), (.if_icmp .ne 16, 0, 0, 0, 0)] = true := by decide +kernel
theorem ck_M_ice_60 : ia_cks 12 7 false prog_14_method_78_code 60 [(.iload 6, 0, 0, 0, 0), (.iconst 2, 0, 0, 0, 0), (.if_icmp .ne 12, 0, 0, 0, 0)] = true := by decide +kernel
theorem ck_M_ice_75 : ia_cks 12 7 false prog_14_method_78_code 75 [(.aload_n 0, 0, 0, 0, 0), (.iload 5, 0, 0, 0, 0), (.iconst (-1), 0, 0, 0, 0)] = true := by decide +kernel
theorem ck_M_ice_66 : ia_cks 12 7 false prog_14_method_78_code 66 [(.aload_n 0, 0, 0, 0, 0), (.iload 5, 0, 0, 0, 0)] = true := by decide +kernel
theorem ck_M_ice_72 : ia_cks 12 7 false prog_14_method_78_code 72 [(.goto 10, 0, 0, 0, 0)] = true := by decide +kernel
theorem ck_M_ice_47 : ia_cks 12 7 false prog_14_method_78_code 47 [(.aload_n 0, 0, 0, 0, 0), (.getfield 23, 12, 13, 3, 5), (.bipush 36, 0, 0, 0, 0), (.iload 5, 0, 0, 0, 0), (.iadd, 0, 0, 0, 0), (.iaload, 0, 0, 0, 0), (.goto 25, 0, 0, 0, 0)] = true := by decide +kernel
theorem ck_M_ice_31 : ia_cks 12 7 false prog_14_method_78_code 31 [(.aload_n 0, 0, 0, 0, 0), (.getfield 23, 12, 13, 3, 5), (.iload 5, 0, 0, 0, 0), (.iaload, 0, 0, 0, 0), (.goto 44, 0, 0, 0, 0)] = true := by decide +kernel
theorem dc_M_ice_4 : decode prog_14_method_78_code 4 = .ok (.invokestatic 116, 3) := by decide +kernel
theorem dc_M_ice_25 : decode prog_14_method_78_code 25 = .ok (.ireturn, 1) := by decide +kernel
theorem dc_M_ice_18 : decode prog_14_method_78_code 18 = .ok (.invokevirtual 321, 3) := by decide +kernel
theorem dc_M_ice_79 : decode prog_14_method_78_code 79 = .ok (.invokevirtual 225, 3) := by decide +kernel
theorem dc_M_ice_82 : decode prog_14_method_78_code 82 = .ok (.ireturn, 1) := by decide +kernel
theorem dc_M_ice_69 : decode prog_14_method_78_code 69 = .ok (.invokevirtual 228, 3) := by decide +kernel
def f_M_ice (x1 : Int32) (x2 : Int32) (x3 : Int32) (x4 : Int32) (x5 : Int32) (x6 : Int32) (h : ia_H) : Option (Int32 × ia_H) := (f_M_isIn x6 0 3 h).bind fun v1 => (if v1 = 0 then (some ((-1), h)) else ((f_M_isIce x1 x2 x3 x4 x5 h).bind fun v2 => (if v2.1 = 0 then (some ((-1), v2.2)) else (if x6 = 0 then (ia_gd (ia_ib x5 1120) (some (ia_i v2.2 422 ((x5).toNatClampNeg), v2.2))) else (if x6 = 1 then (ia_gd (ia_ib (36 + x5) 1120) (some (ia_i v2.2 422 ((36 + x5).toNatClampNeg), v2.2))) else (if x6 = 2 then ((f_M_bears x5 v2.2).bind fun v4 => (some (v4, v2.2))) else ((f_M_loadOf x5 (-1) v2.2).bind fun v3 => (some (v3, v2.2)))))))))
theorem g_M_ice {w : ia_O0} {x1 : Int32} {x2 : Int32} {x3 : Int32} {x4 : Int32} {x5 : Int32} {x6 : Int32} {h : ia_H} (hg : gd_ w h) {q : (Int32 × ia_H)} (hm : f_M_ice x1 x2 x3 x4 x5 x6 h = some q) : gd_ w q.2 := by
  obtain ⟨r, h1⟩ := q
  unfold f_M_ice at hm
  obtain ⟨v1, hv1, hm⟩ := ia_bnd hm
  by_cases c : v1 = 0
  · replace hm := ia_ifp hm c
    obtain ⟨rfl, rfl⟩ := Prod.mk.inj (Option.some.inj hm)
    exact hg
  · replace hm := ia_ifn hm c
    obtain ⟨v2, hv2, hm⟩ := ia_bnd hm
    have gv2 := g_M_isIce hg hv2
    by_cases c : v2.1 = 0
    · replace hm := ia_ifp hm c
      obtain ⟨rfl, rfl⟩ := Prod.mk.inj (Option.some.inj hm)
      exact gv2
    · replace hm := ia_ifn hm c
      by_cases c : x6 = 0
      · replace hm := ia_ifp hm c
        obtain ⟨c6, hm⟩ := ia_gd_some hm
        obtain ⟨rfl, rfl⟩ := Prod.mk.inj (Option.some.inj hm)
        exact gv2
      · replace hm := ia_ifn hm c
        by_cases c : x6 = 1
        · replace hm := ia_ifp hm c
          obtain ⟨c5, hm⟩ := ia_gd_some hm
          obtain ⟨rfl, rfl⟩ := Prod.mk.inj (Option.some.inj hm)
          exact gv2
        · replace hm := ia_ifn hm c
          by_cases c : x6 = 2
          · replace hm := ia_ifp hm c
            obtain ⟨v4, hv4, hm⟩ := ia_bnd hm
            obtain ⟨rfl, rfl⟩ := Prod.mk.inj (Option.some.inj hm)
            exact gv2
          · replace hm := ia_ifn hm c
            obtain ⟨v3, hv3, hm⟩ := ia_bnd hm
            obtain ⟨rfl, rfl⟩ := Prod.mk.inj (Option.some.inj hm)
            exact gv2
theorem t_M_ice {w : ia_O0} (d : Nat) {x1 : Int32} {x2 : Int32} {x3 : Int32} {x4 : Int32} {x5 : Int32} {x6 : Int32} {h : ia_H} (hg : gd_ w h) {q : (Int32 × ia_H)} (hm : f_M_ice x1 x2 x3 x4 x5 x6 h = some q) : ia_Ev (d + 12) mm_M_ice [.inr (.inr 417), .inl x1, .inl x2, .inl x3, .inl x4, .inl x5, .inl x6] h (some (.inl q.1)) q.2 := by
  have gq := g_M_ice hg hm
  refine ia_Ev_intro ok_M_ice (gd_le hg gq).1 (gd_le hg gq).2 (Nat.le_of_ble_eq_true rfl) (fun K hK hret => ?_)
  obtain ⟨r, h1⟩ := q
  show K 0 [some (.inr (.inr 417)), some (.inl x1), some (.inl x2), some (.inl x3), some (.inl x4), some (.inl x5), some (.inl x6)] [] h
  unfold f_M_ice at hm
  refine ia_go hK ck_M_ice_0 ?_
  show K 4 [some (.inr (.inr 417)), some (.inl x1), some (.inl x2), some (.inl x3), some (.inl x4), some (.inl x5), some (.inl x6)] [.inl 3, .inl 0, .inl x6] h
  obtain ⟨v1, hv1, hm⟩ := ia_bnd hm
  have ev1 := t_M_isIn (d + 11) hg hv1
  refine ia_cS hK mk_M_isIn lk_12_116 dc_M_ice_4 [.inl x6, .inl 0, .inl 3] [] rfl rfl (Nat.le_of_ble_eq_true rfl) ev1 ⟨rfl, rfl⟩ ?_
  show K 7 [some (.inr (.inr 417)), some (.inl x1), some (.inl x2), some (.inl x3), some (.inl x4), some (.inl x5), some (.inl x6)] [.inl v1] h
  refine ia_go hK ck_M_ice_7 ⟨fun c => ?_, fun c => ?_⟩
  · replace hm := ia_ifp hm c
    show K 24 [some (.inr (.inr 417)), some (.inl x1), some (.inl x2), some (.inl x3), some (.inl x4), some (.inl x5), some (.inl x6)] [] h
    refine ia_go hK ck_M_ice_24 ?_
    show K 25 [some (.inr (.inr 417)), some (.inl x1), some (.inl x2), some (.inl x3), some (.inl x4), some (.inl x5), some (.inl x6)] [.inl (-1)] h
    obtain ⟨rfl, rfl⟩ := Prod.mk.inj (Option.some.inj hm)
    exact hret 25 _ dc_M_ice_25
  · replace hm := ia_ifn hm c
    show K 10 [some (.inr (.inr 417)), some (.inl x1), some (.inl x2), some (.inl x3), some (.inl x4), some (.inl x5), some (.inl x6)] [] h
    refine ia_go hK ck_M_ice_10 ?_
    show K 18 [some (.inr (.inr 417)), some (.inl x1), some (.inl x2), some (.inl x3), some (.inl x4), some (.inl x5), some (.inl x6)] [.inl x5, .inl x4, .inl x3, .inl x2, .inl x1, .inr (.inr 417)] h
    obtain ⟨v2, hv2, hm⟩ := ia_bnd hm
    have ev2 := t_M_isIce (d + 0) hg hv2
    have gv2 := g_M_isIce hg hv2
    refine ia_cV hK mk_M_isIce lk_12_321 dc_M_ice_18 417 [.inl x1, .inl x2, .inl x3, .inl x4, .inl x5] [] rfl rfl (Nat.le_of_ble_eq_true rfl) (by decide) rfl (gk_12 hg pk_417) ev2 (gd_nm hg gv2) ?_
    show K 21 [some (.inr (.inr 417)), some (.inl x1), some (.inl x2), some (.inl x3), some (.inl x4), some (.inl x5), some (.inl x6)] [.inl v2.1] v2.2
    refine ia_go hK ck_M_ice_21 ⟨fun c => ?_, fun c => ?_⟩
    · replace hm := ia_ifn hm c
      show K 26 [some (.inr (.inr 417)), some (.inl x1), some (.inl x2), some (.inl x3), some (.inl x4), some (.inl x5), some (.inl x6)] [] v2.2
      refine ia_go hK ck_M_ice_26 ⟨fun c => ?_, fun c => ?_⟩
      · replace hm := ia_ifn hm c
        show K 41 [some (.inr (.inr 417)), some (.inl x1), some (.inl x2), some (.inl x3), some (.inl x4), some (.inl x5), some (.inl x6)] [] v2.2
        refine ia_go hK ck_M_ice_41 ⟨fun c => ?_, fun c => ?_⟩
        · replace hm := ia_ifn hm c
          show K 60 [some (.inr (.inr 417)), some (.inl x1), some (.inl x2), some (.inl x3), some (.inl x4), some (.inl x5), some (.inl x6)] [] v2.2
          refine ia_go hK ck_M_ice_60 ⟨fun c => ?_, fun c => ?_⟩
          · replace hm := ia_ifn hm c
            show K 75 [some (.inr (.inr 417)), some (.inl x1), some (.inl x2), some (.inl x3), some (.inl x4), some (.inl x5), some (.inl x6)] [] v2.2
            refine ia_go hK ck_M_ice_75 ?_
            show K 79 [some (.inr (.inr 417)), some (.inl x1), some (.inl x2), some (.inl x3), some (.inl x4), some (.inl x5), some (.inl x6)] [.inl (-1), .inl x5, .inr (.inr 417)] v2.2
            obtain ⟨v3, hv3, hm⟩ := ia_bnd hm
            have ev3 := t_M_loadOf (d + 8) gv2 hv3
            refine ia_cV hK mk_M_loadOf lk_12_225 dc_M_ice_79 417 [.inl x5, .inl (-1)] [] rfl rfl (Nat.le_of_ble_eq_true rfl) (by decide) rfl (gk_12 gv2 pk_417) ev3 ⟨rfl, rfl⟩ ?_
            show K 82 [some (.inr (.inr 417)), some (.inl x1), some (.inl x2), some (.inl x3), some (.inl x4), some (.inl x5), some (.inl x6)] [.inl v3] v2.2
            obtain ⟨rfl, rfl⟩ := Prod.mk.inj (Option.some.inj hm)
            exact hret 82 _ dc_M_ice_82
          · replace hm := ia_ifp hm c
            show K 66 [some (.inr (.inr 417)), some (.inl x1), some (.inl x2), some (.inl x3), some (.inl x4), some (.inl x5), some (.inl x6)] [] v2.2
            refine ia_go hK ck_M_ice_66 ?_
            show K 69 [some (.inr (.inr 417)), some (.inl x1), some (.inl x2), some (.inl x3), some (.inl x4), some (.inl x5), some (.inl x6)] [.inl x5, .inr (.inr 417)] v2.2
            obtain ⟨v4, hv4, hm⟩ := ia_bnd hm
            have ev4 := t_M_bears (d + 11) gv2 hv4
            refine ia_cV hK mk_M_bears lk_12_228 dc_M_ice_69 417 [.inl x5] [] rfl rfl (Nat.le_of_ble_eq_true rfl) (by decide) rfl (gk_12 gv2 pk_417) ev4 ⟨rfl, rfl⟩ ?_
            show K 72 [some (.inr (.inr 417)), some (.inl x1), some (.inl x2), some (.inl x3), some (.inl x4), some (.inl x5), some (.inl x6)] [.inl v4] v2.2
            refine ia_go hK ck_M_ice_72 ?_
            show K 82 [some (.inr (.inr 417)), some (.inl x1), some (.inl x2), some (.inl x3), some (.inl x4), some (.inl x5), some (.inl x6)] [.inl v4] v2.2
            obtain ⟨rfl, rfl⟩ := Prod.mk.inj (Option.some.inj hm)
            exact hret 82 _ dc_M_ice_82
        · replace hm := ia_ifp hm c
          show K 47 [some (.inr (.inr 417)), some (.inl x1), some (.inl x2), some (.inl x3), some (.inl x4), some (.inl x5), some (.inl x6)] [] v2.2
          obtain ⟨c5, hm⟩ := ia_gd_some hm
          refine ia_go hK ck_M_ice_47 ⟨gk_12 gv2 pk_417, gr_12_13 gv2 pk_417, ga_i100 gv2 (ka_12_13 pk_417) c5, ?_⟩
          show K 82 [some (.inr (.inr 417)), some (.inl x1), some (.inl x2), some (.inl x3), some (.inl x4), some (.inl x5), some (.inl x6)] [.inl (ia_i v2.2 422 ((36 + x5).toNatClampNeg))] v2.2
          obtain ⟨rfl, rfl⟩ := Prod.mk.inj (Option.some.inj hm)
          exact hret 82 _ dc_M_ice_82
      · replace hm := ia_ifp hm c
        show K 31 [some (.inr (.inr 417)), some (.inl x1), some (.inl x2), some (.inl x3), some (.inl x4), some (.inl x5), some (.inl x6)] [] v2.2
        obtain ⟨c6, hm⟩ := ia_gd_some hm
        refine ia_go hK ck_M_ice_31 ⟨gk_12 gv2 pk_417, gr_12_13 gv2 pk_417, ga_i100 gv2 (ka_12_13 pk_417) c6, ?_⟩
        show K 82 [some (.inr (.inr 417)), some (.inl x1), some (.inl x2), some (.inl x3), some (.inl x4), some (.inl x5), some (.inl x6)] [.inl (ia_i v2.2 422 ((x5).toNatClampNeg))] v2.2
        obtain ⟨rfl, rfl⟩ := Prod.mk.inj (Option.some.inj hm)
        exact hret 82 _ dc_M_ice_82
    · replace hm := ia_ifp hm c
      show K 24 [some (.inr (.inr 417)), some (.inl x1), some (.inl x2), some (.inl x3), some (.inl x4), some (.inl x5), some (.inl x6)] [] v2.2
      refine ia_go hK ck_M_ice_24 ?_
      show K 25 [some (.inr (.inr 417)), some (.inl x1), some (.inl x2), some (.inl x3), some (.inl x4), some (.inl x5), some (.inl x6)] [.inl (-1)] v2.2
      obtain ⟨rfl, rfl⟩ := Prod.mk.inj (Option.some.inj hm)
      exact hret 25 _ dc_M_ice_25
def mm_M_areWays : ia_M := (⟨"IceStreetModel", "areWays", "(IIIIII)Z"⟩, prog_14_method_79_code, 7, (some .boolean), 12, false)
theorem ok_M_areWays : ia_mok mm_M_areWays := ⟨by decide +kernel, by decide +kernel, by decide +kernel, by decide +kernel⟩
theorem mk_M_areWays : ia_mkn mm_M_areWays 1 6 := ⟨ia_tb_in (List.mem_of_getElem? (i := 2027) (by decide +kernel)) rfl, ia_tb_in (List.mem_of_getElem? (i := 146) (by decide +kernel)) rfl, by decide +kernel, by decide +kernel, ⟨ia_tb_in (List.mem_of_getElem? (i := 2026) (by decide +kernel)) rfl, ia_tb_in (List.mem_of_getElem? (i := 107) (by decide +kernel)) rfl⟩⟩
theorem ck_M_areWays_0 : ia_cks 12 7 false prog_14_method_79_code 0 [(.iload 5, 0, 0, 0, 0), (.iload 6, 0, 0, 0, 0), (.if_icmp .eq 45, 0, 0, 0, 0)] = true := by decide +kernel
theorem ck_M_areWays_49 : ia_cks 12 7 false prog_14_method_79_code 49 [(.iconst 0, 0, 0, 0, 0)] = true := by decide +kernel
theorem ck_M_areWays_7 : ia_cks 12 7 false prog_14_method_79_code 7 [(.aload_n 0, 0, 0, 0, 0), (.iload_n 1, 0, 0, 0, 0), (.iload_n 2, 0, 0, 0, 0), (.iload_n 3, 0, 0, 0, 0), (.iload 4, 0, 0, 0, 0)] = true := by decide +kernel
theorem ck_M_areWays_16 : ia_cks 12 7 false prog_14_method_79_code 16 [(.ifCond .eq 33, 0, 0, 0, 0)] = true := by decide +kernel
theorem ck_M_areWays_19 : ia_cks 12 7 false prog_14_method_79_code 19 [(.aload_n 0, 0, 0, 0, 0), (.aload_n 0, 0, 0, 0, 0), (.getfield 201, 12, 14, 0, 0), (.iload 5, 0, 0, 0, 0)] = true := by decide +kernel
theorem ck_M_areWays_29 : ia_cks 12 7 false prog_14_method_79_code 29 [(.ifCond .eq 20, 0, 0, 0, 0)] = true := by decide +kernel
theorem ck_M_areWays_32 : ia_cks 12 7 false prog_14_method_79_code 32 [(.aload_n 0, 0, 0, 0, 0), (.aload_n 0, 0, 0, 0, 0), (.getfield 201, 12, 14, 0, 0), (.iload 6, 0, 0, 0, 0)] = true := by decide +kernel
theorem ck_M_areWays_42 : ia_cks 12 7 false prog_14_method_79_code 42 [(.ifCond .eq 7, 0, 0, 0, 0)] = true := by decide +kernel
theorem ck_M_areWays_45 : ia_cks 12 7 false prog_14_method_79_code 45 [(.iconst 1, 0, 0, 0, 0), (.goto 4, 0, 0, 0, 0)] = true := by decide +kernel
theorem dc_M_areWays_50 : decode prog_14_method_79_code 50 = .ok (.ireturn, 1) := by decide +kernel
theorem dc_M_areWays_13 : decode prog_14_method_79_code 13 = .ok (.invokevirtual 309, 3) := by decide +kernel
theorem dc_M_areWays_26 : decode prog_14_method_79_code 26 = .ok (.invokevirtual 192, 3) := by decide +kernel
theorem dc_M_areWays_39 : decode prog_14_method_79_code 39 = .ok (.invokevirtual 192, 3) := by decide +kernel
def f_M_areWays (x1 : Int32) (x2 : Int32) (x3 : Int32) (x4 : Int32) (x5 : Int32) (x6 : Int32) (h : ia_H) : Option (Int32 × ia_H) := if x5 = x6 then (some (0, h)) else ((f_M_isState x1 x2 x3 x4 h).bind fun v1 => (if v1.1 = 0 then (some (0, v1.2)) else ((f_M_isCell (ia_i v1.2 417 14) x5 v1.2).bind fun v2 => (if v2 = 0 then (some (0, v1.2)) else ((f_M_isCell (ia_i v1.2 417 14) x6 v1.2).bind fun v3 => (if v3 = 0 then (some (0, v1.2)) else (some (1, v1.2))))))))
theorem g_M_areWays {w : ia_O0} {x1 : Int32} {x2 : Int32} {x3 : Int32} {x4 : Int32} {x5 : Int32} {x6 : Int32} {h : ia_H} (hg : gd_ w h) {q : (Int32 × ia_H)} (hm : f_M_areWays x1 x2 x3 x4 x5 x6 h = some q) : gd_ w q.2 := by
  obtain ⟨r, h1⟩ := q
  unfold f_M_areWays at hm
  by_cases c : x5 = x6
  · replace hm := ia_ifp hm c
    obtain ⟨rfl, rfl⟩ := Prod.mk.inj (Option.some.inj hm)
    exact hg
  · replace hm := ia_ifn hm c
    obtain ⟨v1, hv1, hm⟩ := ia_bnd hm
    have gv1 := g_M_isState hg hv1
    by_cases c : v1.1 = 0
    · replace hm := ia_ifp hm c
      obtain ⟨rfl, rfl⟩ := Prod.mk.inj (Option.some.inj hm)
      exact gv1
    · replace hm := ia_ifn hm c
      obtain ⟨v2, hv2, hm⟩ := ia_bnd hm
      by_cases c : v2 = 0
      · replace hm := ia_ifp hm c
        obtain ⟨rfl, rfl⟩ := Prod.mk.inj (Option.some.inj hm)
        exact gv1
      · replace hm := ia_ifn hm c
        obtain ⟨v3, hv3, hm⟩ := ia_bnd hm
        by_cases c : v3 = 0
        · replace hm := ia_ifp hm c
          obtain ⟨rfl, rfl⟩ := Prod.mk.inj (Option.some.inj hm)
          exact gv1
        · replace hm := ia_ifn hm c
          obtain ⟨rfl, rfl⟩ := Prod.mk.inj (Option.some.inj hm)
          exact gv1
theorem t_M_areWays {w : ia_O0} (d : Nat) {x1 : Int32} {x2 : Int32} {x3 : Int32} {x4 : Int32} {x5 : Int32} {x6 : Int32} {h : ia_H} (hg : gd_ w h) {q : (Int32 × ia_H)} (hm : f_M_areWays x1 x2 x3 x4 x5 x6 h = some q) : ia_Ev (d + 11) mm_M_areWays [.inr (.inr 417), .inl x1, .inl x2, .inl x3, .inl x4, .inl x5, .inl x6] h (some (.inl q.1)) q.2 := by
  have gq := g_M_areWays hg hm
  refine ia_Ev_intro ok_M_areWays (gd_le hg gq).1 (gd_le hg gq).2 (Nat.le_of_ble_eq_true rfl) (fun K hK hret => ?_)
  obtain ⟨r, h1⟩ := q
  show K 0 [some (.inr (.inr 417)), some (.inl x1), some (.inl x2), some (.inl x3), some (.inl x4), some (.inl x5), some (.inl x6)] [] h
  unfold f_M_areWays at hm
  refine ia_go hK ck_M_areWays_0 ⟨fun c => ?_, fun c => ?_⟩
  · replace hm := ia_ifp hm c
    show K 49 [some (.inr (.inr 417)), some (.inl x1), some (.inl x2), some (.inl x3), some (.inl x4), some (.inl x5), some (.inl x6)] [] h
    refine ia_go hK ck_M_areWays_49 ?_
    show K 50 [some (.inr (.inr 417)), some (.inl x1), some (.inl x2), some (.inl x3), some (.inl x4), some (.inl x5), some (.inl x6)] [.inl 0] h
    obtain ⟨rfl, rfl⟩ := Prod.mk.inj (Option.some.inj hm)
    exact hret 50 _ ⟨Or.inl rfl, dc_M_areWays_50⟩
  · replace hm := ia_ifn hm c
    show K 7 [some (.inr (.inr 417)), some (.inl x1), some (.inl x2), some (.inl x3), some (.inl x4), some (.inl x5), some (.inl x6)] [] h
    refine ia_go hK ck_M_areWays_7 ?_
    show K 13 [some (.inr (.inr 417)), some (.inl x1), some (.inl x2), some (.inl x3), some (.inl x4), some (.inl x5), some (.inl x6)] [.inl x4, .inl x3, .inl x2, .inl x1, .inr (.inr 417)] h
    obtain ⟨v1, hv1, hm⟩ := ia_bnd hm
    have ev1 := t_M_isState (d + 0) hg hv1
    have gv1 := g_M_isState hg hv1
    refine ia_cV hK mk_M_isState lk_12_309 dc_M_areWays_13 417 [.inl x1, .inl x2, .inl x3, .inl x4] [] rfl rfl (Nat.le_of_ble_eq_true rfl) (by decide) rfl (gk_12 hg pk_417) ev1 (gd_nm hg gv1) ?_
    show K 16 [some (.inr (.inr 417)), some (.inl x1), some (.inl x2), some (.inl x3), some (.inl x4), some (.inl x5), some (.inl x6)] [.inl v1.1] v1.2
    refine ia_go hK ck_M_areWays_16 ⟨fun c => ?_, fun c => ?_⟩
    · replace hm := ia_ifp hm c
      show K 49 [some (.inr (.inr 417)), some (.inl x1), some (.inl x2), some (.inl x3), some (.inl x4), some (.inl x5), some (.inl x6)] [] v1.2
      refine ia_go hK ck_M_areWays_49 ?_
      show K 50 [some (.inr (.inr 417)), some (.inl x1), some (.inl x2), some (.inl x3), some (.inl x4), some (.inl x5), some (.inl x6)] [.inl 0] v1.2
      obtain ⟨rfl, rfl⟩ := Prod.mk.inj (Option.some.inj hm)
      exact hret 50 _ ⟨Or.inl rfl, dc_M_areWays_50⟩
    · replace hm := ia_ifn hm c
      show K 19 [some (.inr (.inr 417)), some (.inl x1), some (.inl x2), some (.inl x3), some (.inl x4), some (.inl x5), some (.inl x6)] [] v1.2
      refine ia_go hK ck_M_areWays_19 ⟨gk_12 gv1 pk_417, ?_⟩
      show K 26 [some (.inr (.inr 417)), some (.inl x1), some (.inl x2), some (.inl x3), some (.inl x4), some (.inl x5), some (.inl x6)] [.inl x5, .inl (ia_i v1.2 417 14), .inr (.inr 417)] v1.2
      obtain ⟨v2, hv2, hm⟩ := ia_bnd hm
      have ev2 := t_M_isCell (d + 9) gv1 hv2
      refine ia_cV hK mk_M_isCell lk_12_192 dc_M_areWays_26 417 [.inl (ia_i v1.2 417 14), .inl x5] [] rfl rfl (Nat.le_of_ble_eq_true rfl) (by decide) rfl (gk_12 gv1 pk_417) ev2 ⟨rfl, rfl⟩ ?_
      show K 29 [some (.inr (.inr 417)), some (.inl x1), some (.inl x2), some (.inl x3), some (.inl x4), some (.inl x5), some (.inl x6)] [.inl v2] v1.2
      refine ia_go hK ck_M_areWays_29 ⟨fun c => ?_, fun c => ?_⟩
      · replace hm := ia_ifp hm c
        show K 49 [some (.inr (.inr 417)), some (.inl x1), some (.inl x2), some (.inl x3), some (.inl x4), some (.inl x5), some (.inl x6)] [] v1.2
        refine ia_go hK ck_M_areWays_49 ?_
        show K 50 [some (.inr (.inr 417)), some (.inl x1), some (.inl x2), some (.inl x3), some (.inl x4), some (.inl x5), some (.inl x6)] [.inl 0] v1.2
        obtain ⟨rfl, rfl⟩ := Prod.mk.inj (Option.some.inj hm)
        exact hret 50 _ ⟨Or.inl rfl, dc_M_areWays_50⟩
      · replace hm := ia_ifn hm c
        show K 32 [some (.inr (.inr 417)), some (.inl x1), some (.inl x2), some (.inl x3), some (.inl x4), some (.inl x5), some (.inl x6)] [] v1.2
        refine ia_go hK ck_M_areWays_32 ⟨gk_12 gv1 pk_417, ?_⟩
        show K 39 [some (.inr (.inr 417)), some (.inl x1), some (.inl x2), some (.inl x3), some (.inl x4), some (.inl x5), some (.inl x6)] [.inl x6, .inl (ia_i v1.2 417 14), .inr (.inr 417)] v1.2
        obtain ⟨v3, hv3, hm⟩ := ia_bnd hm
        have ev3 := t_M_isCell (d + 9) gv1 hv3
        refine ia_cV hK mk_M_isCell lk_12_192 dc_M_areWays_39 417 [.inl (ia_i v1.2 417 14), .inl x6] [] rfl rfl (Nat.le_of_ble_eq_true rfl) (by decide) rfl (gk_12 gv1 pk_417) ev3 ⟨rfl, rfl⟩ ?_
        show K 42 [some (.inr (.inr 417)), some (.inl x1), some (.inl x2), some (.inl x3), some (.inl x4), some (.inl x5), some (.inl x6)] [.inl v3] v1.2
        refine ia_go hK ck_M_areWays_42 ⟨fun c => ?_, fun c => ?_⟩
        · replace hm := ia_ifp hm c
          show K 49 [some (.inr (.inr 417)), some (.inl x1), some (.inl x2), some (.inl x3), some (.inl x4), some (.inl x5), some (.inl x6)] [] v1.2
          refine ia_go hK ck_M_areWays_49 ?_
          show K 50 [some (.inr (.inr 417)), some (.inl x1), some (.inl x2), some (.inl x3), some (.inl x4), some (.inl x5), some (.inl x6)] [.inl 0] v1.2
          obtain ⟨rfl, rfl⟩ := Prod.mk.inj (Option.some.inj hm)
          exact hret 50 _ ⟨Or.inl rfl, dc_M_areWays_50⟩
        · replace hm := ia_ifn hm c
          show K 45 [some (.inr (.inr 417)), some (.inl x1), some (.inl x2), some (.inl x3), some (.inl x4), some (.inl x5), some (.inl x6)] [] v1.2
          refine ia_go hK ck_M_areWays_45 ?_
          show K 50 [some (.inr (.inr 417)), some (.inl x1), some (.inl x2), some (.inl x3), some (.inl x4), some (.inl x5), some (.inl x6)] [.inl 1] v1.2
          obtain ⟨rfl, rfl⟩ := Prod.mk.inj (Option.some.inj hm)
          exact hret 50 _ ⟨Or.inr rfl, dc_M_areWays_50⟩
def mm_M_greatestLoad : ia_M := (⟨"IceStreetModel", "greatestLoad", "(III)I"⟩, prog_14_method_81_code, 7, (some .int), 12, false)
theorem ok_M_greatestLoad : ia_mok mm_M_greatestLoad := ⟨by decide +kernel, by decide +kernel, by decide +kernel, by decide +kernel⟩
theorem mk_M_greatestLoad : ia_mkn mm_M_greatestLoad 1 3 := ⟨ia_tb_in (List.mem_of_getElem? (i := 2031) (by decide +kernel)) rfl, ia_tb_in (List.mem_of_getElem? (i := 146) (by decide +kernel)) rfl, by decide +kernel, by decide +kernel, ⟨ia_tb_in (List.mem_of_getElem? (i := 2030) (by decide +kernel)) rfl, ia_tb_in (List.mem_of_getElem? (i := 108) (by decide +kernel)) rfl⟩⟩
theorem ck_M_greatestLoad_0 : ia_cks 12 7 false prog_14_method_81_code 0 [(.iconst (-1), 0, 0, 0, 0), (.istore 4, 0, 0, 0, 0), (.iload_n 3, 0, 0, 0, 0), (.iconst 1, 0, 0, 0, 0), (.iadd, 0, 0, 0, 0), (.istore 5, 0, 0, 0, 0), (.aload_n 0, 0, 0, 0, 0), (.iload_n 1, 0, 0, 0, 0), (.iload_n 2, 0, 0, 0, 0), (.iconst 1, 0, 0, 0, 0), (.iconst (-1), 0, 0, 0, 0)] = true := by decide +kernel
theorem ck_M_greatestLoad_16 : ia_cks 12 7 false prog_14_method_81_code 16 [(.ifCond .ne 5, 0, 0, 0, 0)] = true := by decide +kernel
theorem ck_M_greatestLoad_21 : ia_cks 12 7 false prog_14_method_81_code 21 [(.iconst 1, 0, 0, 0, 0), (.istore 4, 0, 0, 0, 0)] = true := by decide +kernel
theorem ck_M_greatestLoad_24 : ia_cks 12 7 false prog_14_method_81_code 24 [(.iload 5, 0, 0, 0, 0), (.iload 4, 0, 0, 0, 0), (.isub, 0, 0, 0, 0), (.iconst 1, 0, 0, 0, 0), (.if_icmp .le 38, 0, 0, 0, 0)] = true := by decide +kernel
theorem ck_M_greatestLoad_33 : ia_cks 12 7 false prog_14_method_81_code 33 [(.iload 4, 0, 0, 0, 0), (.iload 5, 0, 0, 0, 0), (.iadd, 0, 0, 0, 0), (.iconst 2, 0, 0, 0, 0), (.idiv, 0, 0, 0, 0), (.istore 6, 0, 0, 0, 0), (.aload_n 0, 0, 0, 0, 0), (.iload_n 1, 0, 0, 0, 0), (.iload_n 2, 0, 0, 0, 0), (.iload 6, 0, 0, 0, 0), (.iconst (-1), 0, 0, 0, 0)] = true := by decide +kernel
theorem ck_M_greatestLoad_51 : ia_cks 12 7 false prog_14_method_81_code 51 [(.ifCond .eq 10, 0, 0, 0, 0)] = true := by decide +kernel
theorem ck_M_greatestLoad_61 : ia_cks 12 7 false prog_14_method_81_code 61 [(.iload 6, 0, 0, 0, 0), (.istore 5, 0, 0, 0, 0), (.goto (-41), 0, 0, 0, 0)] = true := by decide +kernel
theorem ck_M_greatestLoad_54 : ia_cks 12 7 false prog_14_method_81_code 54 [(.iload 6, 0, 0, 0, 0), (.istore 4, 0, 0, 0, 0), (.goto 7, 0, 0, 0, 0)] = true := by decide +kernel
theorem ck_M_greatestLoad_65 : ia_cks 12 7 false prog_14_method_81_code 65 [(.goto (-41), 0, 0, 0, 0)] = true := by decide +kernel
theorem ck_M_greatestLoad_68 : ia_cks 12 7 false prog_14_method_81_code 68 [(.iload 4, 0, 0, 0, 0)] = true := by decide +kernel
theorem ck_M_greatestLoad_19 : ia_cks 12 7 false prog_14_method_81_code 19 [(.iconst (-1), 0, 0, 0, 0)] = true := by decide +kernel
theorem dc_M_greatestLoad_13 : decode prog_14_method_81_code 13 = .ok (.invokevirtual 269, 3) := by decide +kernel
theorem dc_M_greatestLoad_48 : decode prog_14_method_81_code 48 = .ok (.invokevirtual 269, 3) := by decide +kernel
theorem dc_M_greatestLoad_70 : decode prog_14_method_81_code 70 = .ok (.ireturn, 1) := by decide +kernel
theorem dc_M_greatestLoad_20 : decode prog_14_method_81_code 20 = .ok (.ireturn, 1) := by decide +kernel
def l_M_greatestLoad_24 (x1 : Int32) (x2 : Int32) (x3 : Int32) (k68 : Int32 → ia_H → Option (Int32 × ia_H)) (n : Nat) (x4 : Int32) (x5 : Int32) (h : ia_H) : Option (Int32 × ia_H) := match n with
  | 0 => none
  | n + 1 => if (x5 - x4) ≤ 1 then (k68 x4 h) else ((f_M_isWay x1 x2 ((x4 + x5) / 2) (-1) h).bind fun v2 => (if v2.1 = 0 then (l_M_greatestLoad_24 x1 x2 x3 k68 n x4 ((x4 + x5) / 2) v2.2) else (l_M_greatestLoad_24 x1 x2 x3 k68 n ((x4 + x5) / 2) x5 v2.2)))
theorem tl_M_greatestLoad_24 {w : ia_O0} {d N1 W1 : Nat} {K : ia_K} (hK : ia_isK (d + 7) mm_M_greatestLoad N1 W1 K) {x1 : Int32} {x2 : Int32} {x3 : Int32} {r : Int32} {h1 : ia_H} (hret : ∀ (pc : Nat) (lv : ia_L), ia_ret mm_M_greatestLoad pc (some (.inl r)) → K pc lv ((some (.inl r)) : Option ia_V).toList h1) {k68 : Int32 → ia_H → Option (Int32 × ia_H)} (hk68 : ∀ (x4 : Int32) (h : ia_H), gd_ w h → k68 x4 h = some (r, h1) → K 68 [none, none, none, none, some (.inl x4), none, none] [] h) : ∀ (n : Nat) (x4 : Int32) (x5 : Int32) (h : ia_H), gd_ w h → l_M_greatestLoad_24 x1 x2 x3 k68 n x4 x5 h = some (r, h1) → K 24 [some (.inr (.inr 417)), some (.inl x1), some (.inl x2), none, some (.inl x4), some (.inl x5), none] [] h := by
  intro n
  induction n with
  | zero =>
    intro x4 x5 h hg hm
    cases (show (none : Option (Int32 × ia_H)) = some _ from hm)
  | succ n ih =>
    intro x4 x5 h hg hm
    rw [l_M_greatestLoad_24] at hm
    refine ia_go hK ck_M_greatestLoad_24 ⟨fun c => ?_, fun c => ?_⟩
    · replace hm := ia_ifp hm c
      show K 68 [some (.inr (.inr 417)), some (.inl x1), some (.inl x2), none, some (.inl x4), some (.inl x5), none] [] h
      refine ia_fg hK (lv' := [none, none, none, none, some (.inl x4), none, none]) ⟨rfl, trivial⟩ ?_
      exact hk68 x4 h hg hm
    · replace hm := ia_ifn hm c
      show K 33 [some (.inr (.inr 417)), some (.inl x1), some (.inl x2), none, some (.inl x4), some (.inl x5), none] [] h
      refine ia_go hK ck_M_greatestLoad_33 ⟨(by decide), ?_⟩
      show K 48 [some (.inr (.inr 417)), some (.inl x1), some (.inl x2), none, some (.inl x4), some (.inl x5), some (.inl ((x4 + x5) / 2))] [.inl (-1), .inl ((x4 + x5) / 2), .inl x2, .inl x1, .inr (.inr 417)] h
      obtain ⟨v2, hv2, hm⟩ := ia_bnd hm
      have ev2 := t_M_isWay (d + 0) hg hv2
      have gv2 := g_M_isWay hg hv2
      refine ia_cV hK mk_M_isWay lk_12_269 dc_M_greatestLoad_48 417 [.inl x1, .inl x2, .inl ((x4 + x5) / 2), .inl (-1)] [] rfl rfl (Nat.le_of_ble_eq_true rfl) (by decide) rfl (gk_12 hg pk_417) ev2 (gd_nm hg gv2) ?_
      show K 51 [some (.inr (.inr 417)), some (.inl x1), some (.inl x2), none, some (.inl x4), some (.inl x5), some (.inl ((x4 + x5) / 2))] [.inl v2.1] v2.2
      refine ia_go hK ck_M_greatestLoad_51 ⟨fun c => ?_, fun c => ?_⟩
      · replace hm := ia_ifp hm c
        show K 61 [some (.inr (.inr 417)), some (.inl x1), some (.inl x2), none, some (.inl x4), some (.inl x5), some (.inl ((x4 + x5) / 2))] [] v2.2
        refine ia_go hK ck_M_greatestLoad_61 ?_
        show K 24 [some (.inr (.inr 417)), some (.inl x1), some (.inl x2), none, some (.inl x4), some (.inl ((x4 + x5) / 2)), some (.inl ((x4 + x5) / 2))] [] v2.2
        refine ia_fg hK (lv' := [some (.inr (.inr 417)), some (.inl x1), some (.inl x2), none, some (.inl x4), some (.inl ((x4 + x5) / 2)), none]) ⟨rfl, rfl, rfl, rfl, rfl, trivial⟩ ?_
        exact ih x4 ((x4 + x5) / 2) v2.2 gv2 hm
      · replace hm := ia_ifn hm c
        show K 54 [some (.inr (.inr 417)), some (.inl x1), some (.inl x2), none, some (.inl x4), some (.inl x5), some (.inl ((x4 + x5) / 2))] [] v2.2
        refine ia_go hK ck_M_greatestLoad_54 ?_
        show K 65 [some (.inr (.inr 417)), some (.inl x1), some (.inl x2), none, some (.inl ((x4 + x5) / 2)), some (.inl x5), some (.inl ((x4 + x5) / 2))] [] v2.2
        refine ia_go hK ck_M_greatestLoad_65 ?_
        show K 24 [some (.inr (.inr 417)), some (.inl x1), some (.inl x2), none, some (.inl ((x4 + x5) / 2)), some (.inl x5), some (.inl ((x4 + x5) / 2))] [] v2.2
        refine ia_fg hK (lv' := [some (.inr (.inr 417)), some (.inl x1), some (.inl x2), none, some (.inl ((x4 + x5) / 2)), some (.inl x5), none]) ⟨rfl, rfl, rfl, rfl, rfl, trivial⟩ ?_
        exact ih ((x4 + x5) / 2) x5 v2.2 gv2 hm
theorem gl_M_greatestLoad_24 {w : ia_O0} {x1 : Int32} {x2 : Int32} {x3 : Int32} {r : Int32} {h1 : ia_H} {k68 : Int32 → ia_H → Option (Int32 × ia_H)} (hk68 : ∀ (x4 : Int32) (h : ia_H), gd_ w h → k68 x4 h = some (r, h1) → gd_ w h1) : ∀ (n : Nat) (x4 : Int32) (x5 : Int32) (h : ia_H), gd_ w h → l_M_greatestLoad_24 x1 x2 x3 k68 n x4 x5 h = some (r, h1) → gd_ w h1 := by
  intro n
  induction n with
  | zero =>
    intro x4 x5 h hg hm
    cases (show (none : Option (Int32 × ia_H)) = some _ from hm)
  | succ n ih =>
    intro x4 x5 h hg hm
    rw [l_M_greatestLoad_24] at hm
    by_cases c : (x5 - x4) ≤ 1
    · replace hm := ia_ifp hm c
      exact hk68 x4 h hg hm
    · replace hm := ia_ifn hm c
      obtain ⟨v2, hv2, hm⟩ := ia_bnd hm
      have gv2 := g_M_isWay hg hv2
      by_cases c : v2.1 = 0
      · replace hm := ia_ifp hm c
        exact ih x4 ((x4 + x5) / 2) v2.2 gv2 hm
      · replace hm := ia_ifn hm c
        exact ih ((x4 + x5) / 2) x5 v2.2 gv2 hm
def f_M_greatestLoad (x1 : Int32) (x2 : Int32) (x3 : Int32) (h : ia_H) : Option (Int32 × ia_H) := (f_M_isWay x1 x2 1 (-1) h).bind fun v1 => (if v1.1 = 0 then (some ((-1), v1.2)) else (l_M_greatestLoad_24 x1 x2 x3 (fun x4 h => some (x4, h)) fu_ 1 (x3 + 1) v1.2))
theorem g_M_greatestLoad {w : ia_O0} {x1 : Int32} {x2 : Int32} {x3 : Int32} {h : ia_H} (hg : gd_ w h) {q : (Int32 × ia_H)} (hm : f_M_greatestLoad x1 x2 x3 h = some q) : gd_ w q.2 := by
  obtain ⟨r, h1⟩ := q
  unfold f_M_greatestLoad at hm
  obtain ⟨v1, hv1, hm⟩ := ia_bnd hm
  have gv1 := g_M_isWay hg hv1
  by_cases c : v1.1 = 0
  · replace hm := ia_ifp hm c
    obtain ⟨rfl, rfl⟩ := Prod.mk.inj (Option.some.inj hm)
    exact gv1
  · replace hm := ia_ifn hm c
    refine gl_M_greatestLoad_24 ?_ fu_ 1 (x3 + 1) v1.2 gv1 hm
    · intro x4 h hg hm
      obtain ⟨rfl, rfl⟩ := Prod.mk.inj (Option.some.inj hm)
      exact hg
theorem t_M_greatestLoad {w : ia_O0} (d : Nat) {x1 : Int32} {x2 : Int32} {x3 : Int32} {h : ia_H} (hg : gd_ w h) {q : (Int32 × ia_H)} (hm : f_M_greatestLoad x1 x2 x3 h = some q) : ia_Ev (d + 7) mm_M_greatestLoad [.inr (.inr 417), .inl x1, .inl x2, .inl x3] h (some (.inl q.1)) q.2 := by
  have gq := g_M_greatestLoad hg hm
  refine ia_Ev_intro ok_M_greatestLoad (gd_le hg gq).1 (gd_le hg gq).2 (Nat.le_of_ble_eq_true rfl) (fun K hK hret => ?_)
  obtain ⟨r, h1⟩ := q
  show K 0 [some (.inr (.inr 417)), some (.inl x1), some (.inl x2), some (.inl x3), none, none, none] [] h
  unfold f_M_greatestLoad at hm
  refine ia_go hK ck_M_greatestLoad_0 ?_
  show K 13 [some (.inr (.inr 417)), some (.inl x1), some (.inl x2), some (.inl x3), some (.inl (-1)), some (.inl (x3 + 1)), none] [.inl (-1), .inl 1, .inl x2, .inl x1, .inr (.inr 417)] h
  obtain ⟨v1, hv1, hm⟩ := ia_bnd hm
  have ev1 := t_M_isWay (d + 0) hg hv1
  have gv1 := g_M_isWay hg hv1
  refine ia_cV hK mk_M_isWay lk_12_269 dc_M_greatestLoad_13 417 [.inl x1, .inl x2, .inl 1, .inl (-1)] [] rfl rfl (Nat.le_of_ble_eq_true rfl) (by decide) rfl (gk_12 hg pk_417) ev1 (gd_nm hg gv1) ?_
  show K 16 [some (.inr (.inr 417)), some (.inl x1), some (.inl x2), some (.inl x3), some (.inl (-1)), some (.inl (x3 + 1)), none] [.inl v1.1] v1.2
  refine ia_go hK ck_M_greatestLoad_16 ⟨fun c => ?_, fun c => ?_⟩
  · replace hm := ia_ifn hm c
    show K 21 [some (.inr (.inr 417)), some (.inl x1), some (.inl x2), some (.inl x3), some (.inl (-1)), some (.inl (x3 + 1)), none] [] v1.2
    refine ia_go hK ck_M_greatestLoad_21 ?_
    show K 24 [some (.inr (.inr 417)), some (.inl x1), some (.inl x2), some (.inl x3), some (.inl 1), some (.inl (x3 + 1)), none] [] v1.2
    refine ia_fg hK (lv' := [some (.inr (.inr 417)), some (.inl x1), some (.inl x2), none, some (.inl 1), some (.inl (x3 + 1)), none]) ⟨rfl, rfl, rfl, rfl, rfl, trivial⟩ ?_
    refine tl_M_greatestLoad_24 hK hret ?_ fu_ 1 (x3 + 1) v1.2 gv1 hm
    · intro x4 h hg hm
      refine ia_go hK ck_M_greatestLoad_68 ?_
      show K 70 [none, none, none, none, some (.inl x4), none, none] [.inl x4] h
      obtain ⟨rfl, rfl⟩ := Prod.mk.inj (Option.some.inj hm)
      exact hret 70 _ dc_M_greatestLoad_70
  · replace hm := ia_ifp hm c
    show K 19 [some (.inr (.inr 417)), some (.inl x1), some (.inl x2), some (.inl x3), some (.inl (-1)), some (.inl (x3 + 1)), none] [] v1.2
    refine ia_go hK ck_M_greatestLoad_19 ?_
    show K 20 [some (.inr (.inr 417)), some (.inl x1), some (.inl x2), some (.inl x3), some (.inl (-1)), some (.inl (x3 + 1)), none] [.inl (-1)] v1.2
    obtain ⟨rfl, rfl⟩ := Prod.mk.inj (Option.some.inj hm)
    exact hret 20 _ dc_M_greatestLoad_20
def mm_M_most : ia_M := (⟨"IceStreetModel", "most", "(IIIIII)I"⟩, prog_14_method_82_code, 7, (some .int), 12, false)
theorem ok_M_most : ia_mok mm_M_most := ⟨by decide +kernel, by decide +kernel, by decide +kernel, by decide +kernel⟩
theorem mk_M_most : ia_mkn mm_M_most 1 6 := ⟨ia_tb_in (List.mem_of_getElem? (i := 2023) (by decide +kernel)) rfl, ia_tb_in (List.mem_of_getElem? (i := 146) (by decide +kernel)) rfl, by decide +kernel, by decide +kernel, ⟨ia_tb_in (List.mem_of_getElem? (i := 2021) (by decide +kernel)) rfl, ia_tb_in (List.mem_of_getElem? (i := 2022) (by decide +kernel)) rfl⟩⟩
theorem ck_M_most_0 : ia_cks 12 7 false prog_14_method_82_code 0 [(.aload_n 0, 0, 0, 0, 0), (.iload_n 1, 0, 0, 0, 0), (.iload_n 2, 0, 0, 0, 0), (.iload_n 3, 0, 0, 0, 0), (.iload 4, 0, 0, 0, 0), (.iload 5, 0, 0, 0, 0), (.iload 6, 0, 0, 0, 0)] = true := by decide +kernel
theorem ck_M_most_13 : ia_cks 12 7 false prog_14_method_82_code 13 [(.ifCond .eq 17, 0, 0, 0, 0)] = true := by decide +kernel
theorem ck_M_most_30 : ia_cks 12 7 false prog_14_method_82_code 30 [(.iconst (-1), 0, 0, 0, 0)] = true := by decide +kernel
theorem ck_M_most_16 : ia_cks 12 7 false prog_14_method_82_code 16 [(.aload_n 0, 0, 0, 0, 0), (.iload 5, 0, 0, 0, 0), (.iload 6, 0, 0, 0, 0), (.sipush 999, 0, 0, 0, 0)] = true := by decide +kernel
theorem ck_M_most_27 : ia_cks 12 7 false prog_14_method_82_code 27 [(.goto 4, 0, 0, 0, 0)] = true := by decide +kernel
theorem dc_M_most_10 : decode prog_14_method_82_code 10 = .ok (.invokevirtual 325, 3) := by decide +kernel
theorem dc_M_most_31 : decode prog_14_method_82_code 31 = .ok (.ireturn, 1) := by decide +kernel
theorem dc_M_most_24 : decode prog_14_method_82_code 24 = .ok (.invokevirtual 329, 3) := by decide +kernel
def f_M_most (x1 : Int32) (x2 : Int32) (x3 : Int32) (x4 : Int32) (x5 : Int32) (x6 : Int32) (h : ia_H) : Option (Int32 × ia_H) := (f_M_areWays x1 x2 x3 x4 x5 x6 h).bind fun v1 => (if v1.1 = 0 then (some ((-1), v1.2)) else ((f_M_greatestLoad x5 x6 999 v1.2).bind fun v2 => (some (v2.1, v2.2))))
theorem g_M_most {w : ia_O0} {x1 : Int32} {x2 : Int32} {x3 : Int32} {x4 : Int32} {x5 : Int32} {x6 : Int32} {h : ia_H} (hg : gd_ w h) {q : (Int32 × ia_H)} (hm : f_M_most x1 x2 x3 x4 x5 x6 h = some q) : gd_ w q.2 := by
  obtain ⟨r, h1⟩ := q
  unfold f_M_most at hm
  obtain ⟨v1, hv1, hm⟩ := ia_bnd hm
  have gv1 := g_M_areWays hg hv1
  by_cases c : v1.1 = 0
  · replace hm := ia_ifp hm c
    obtain ⟨rfl, rfl⟩ := Prod.mk.inj (Option.some.inj hm)
    exact gv1
  · replace hm := ia_ifn hm c
    obtain ⟨v2, hv2, hm⟩ := ia_bnd hm
    have gv2 := g_M_greatestLoad gv1 hv2
    obtain ⟨rfl, rfl⟩ := Prod.mk.inj (Option.some.inj hm)
    exact gv2
theorem t_M_most {w : ia_O0} (d : Nat) {x1 : Int32} {x2 : Int32} {x3 : Int32} {x4 : Int32} {x5 : Int32} {x6 : Int32} {h : ia_H} (hg : gd_ w h) {q : (Int32 × ia_H)} (hm : f_M_most x1 x2 x3 x4 x5 x6 h = some q) : ia_Ev (d + 12) mm_M_most [.inr (.inr 417), .inl x1, .inl x2, .inl x3, .inl x4, .inl x5, .inl x6] h (some (.inl q.1)) q.2 := by
  have gq := g_M_most hg hm
  refine ia_Ev_intro ok_M_most (gd_le hg gq).1 (gd_le hg gq).2 (Nat.le_of_ble_eq_true rfl) (fun K hK hret => ?_)
  obtain ⟨r, h1⟩ := q
  show K 0 [some (.inr (.inr 417)), some (.inl x1), some (.inl x2), some (.inl x3), some (.inl x4), some (.inl x5), some (.inl x6)] [] h
  unfold f_M_most at hm
  refine ia_go hK ck_M_most_0 ?_
  show K 10 [some (.inr (.inr 417)), some (.inl x1), some (.inl x2), some (.inl x3), some (.inl x4), some (.inl x5), some (.inl x6)] [.inl x6, .inl x5, .inl x4, .inl x3, .inl x2, .inl x1, .inr (.inr 417)] h
  obtain ⟨v1, hv1, hm⟩ := ia_bnd hm
  have ev1 := t_M_areWays (d + 0) hg hv1
  have gv1 := g_M_areWays hg hv1
  refine ia_cV hK mk_M_areWays lk_12_325 dc_M_most_10 417 [.inl x1, .inl x2, .inl x3, .inl x4, .inl x5, .inl x6] [] rfl rfl (Nat.le_of_ble_eq_true rfl) (by decide) rfl (gk_12 hg pk_417) ev1 (gd_nm hg gv1) ?_
  show K 13 [some (.inr (.inr 417)), some (.inl x1), some (.inl x2), some (.inl x3), some (.inl x4), some (.inl x5), some (.inl x6)] [.inl v1.1] v1.2
  refine ia_go hK ck_M_most_13 ⟨fun c => ?_, fun c => ?_⟩
  · replace hm := ia_ifp hm c
    show K 30 [some (.inr (.inr 417)), some (.inl x1), some (.inl x2), some (.inl x3), some (.inl x4), some (.inl x5), some (.inl x6)] [] v1.2
    refine ia_go hK ck_M_most_30 ?_
    show K 31 [some (.inr (.inr 417)), some (.inl x1), some (.inl x2), some (.inl x3), some (.inl x4), some (.inl x5), some (.inl x6)] [.inl (-1)] v1.2
    obtain ⟨rfl, rfl⟩ := Prod.mk.inj (Option.some.inj hm)
    exact hret 31 _ dc_M_most_31
  · replace hm := ia_ifn hm c
    show K 16 [some (.inr (.inr 417)), some (.inl x1), some (.inl x2), some (.inl x3), some (.inl x4), some (.inl x5), some (.inl x6)] [] v1.2
    refine ia_go hK ck_M_most_16 ?_
    show K 24 [some (.inr (.inr 417)), some (.inl x1), some (.inl x2), some (.inl x3), some (.inl x4), some (.inl x5), some (.inl x6)] [.inl 999, .inl x6, .inl x5, .inr (.inr 417)] v1.2
    obtain ⟨v2, hv2, hm⟩ := ia_bnd hm
    have ev2 := t_M_greatestLoad (d + 4) gv1 hv2
    have gv2 := g_M_greatestLoad gv1 hv2
    refine ia_cV hK mk_M_greatestLoad lk_12_329 dc_M_most_24 417 [.inl x5, .inl x6, .inl 999] [] rfl rfl (Nat.le_of_ble_eq_true rfl) (by decide) rfl (gk_12 gv1 pk_417) ev2 (gd_nm gv1 gv2) ?_
    show K 27 [some (.inr (.inr 417)), some (.inl x1), some (.inl x2), some (.inl x3), some (.inl x4), some (.inl x5), some (.inl x6)] [.inl v2.1] v2.2
    refine ia_go hK ck_M_most_27 ?_
    show K 31 [some (.inr (.inr 417)), some (.inl x1), some (.inl x2), some (.inl x3), some (.inl x4), some (.inl x5), some (.inl x6)] [.inl v2.1] v2.2
    obtain ⟨rfl, rfl⟩ := Prod.mk.inj (Option.some.inj hm)
    exact hret 31 _ dc_M_most_31
def mm_M_isLoad : ia_M := (⟨"IceStreetModel", "isLoad", "(I)Z"⟩, prog_14_method_80_code, 1, (some .boolean), 12, false)
theorem ok_M_isLoad : ia_mok mm_M_isLoad := ⟨by decide +kernel, by decide +kernel, by decide +kernel, by decide +kernel⟩
theorem mk_M_isLoad : ia_mkn mm_M_isLoad 0 1 := ⟨ia_tb_in (List.mem_of_getElem? (i := 2038) (by decide +kernel)) rfl, ia_tb_in (List.mem_of_getElem? (i := 146) (by decide +kernel)) rfl, by decide +kernel, by decide +kernel, ia_tb_in (List.mem_of_getElem? (i := 2037) (by decide +kernel)) rfl⟩
theorem ck_M_isLoad_0 : ia_cks 12 1 false prog_14_method_80_code 0 [(.iload_n 0, 0, 0, 0, 0), (.iconst 1, 0, 0, 0, 0), (.sipush 999, 0, 0, 0, 0)] = true := by decide +kernel
theorem dc_M_isLoad_5 : decode prog_14_method_80_code 5 = .ok (.invokestatic 116, 3) := by decide +kernel
theorem dc_M_isLoad_8 : decode prog_14_method_80_code 8 = .ok (.ireturn, 1) := by decide +kernel
def f_M_isLoad (x0 : Int32) (h : ia_H) : Option Int32 := (f_M_isIn x0 1 999 h).bind fun v1 => (ia_gd (ia_z1 v1) (some v1))
theorem t_M_isLoad {w : ia_O0} (d : Nat) {x0 : Int32} {h : ia_H} (hg : gd_ w h) {r : Int32} (hm : f_M_isLoad x0 h = some r) : ia_Ev (d + 1) mm_M_isLoad [.inl x0] h (some (.inl r)) h := by
  refine ia_Ev_intro ok_M_isLoad (Nat.le_refl _) (Nat.le_refl _) (Nat.le_of_ble_eq_true rfl) (fun K hK hret => ?_)
  show K 0 [some (.inl x0)] [] h
  unfold f_M_isLoad at hm
  refine ia_go hK ck_M_isLoad_0 ?_
  show K 5 [some (.inl x0)] [.inl 999, .inl 1, .inl x0] h
  obtain ⟨v1, hv1, hm⟩ := ia_bnd hm
  have ev1 := t_M_isIn (d + 0) hg hv1
  refine ia_cS hK mk_M_isIn lk_12_116 dc_M_isLoad_5 [.inl x0, .inl 1, .inl 999] [] rfl rfl (Nat.le_of_ble_eq_true rfl) ev1 ⟨rfl, rfl⟩ ?_
  show K 8 [some (.inl x0)] [.inl v1] h
  obtain ⟨c2, hm⟩ := ia_gd_some hm
  obtain rfl := Option.some.inj hm
  exact hret 8 _ ⟨ia_z1_spec c2, dc_M_isLoad_8⟩
def mm_M_isOn : ia_M := (⟨"IceStreetModel", "isOn", "(II)Z"⟩, prog_14_method_84_code, 5, (some .boolean), 12, false)
theorem ok_M_isOn : ia_mok mm_M_isOn := ⟨by decide +kernel, by decide +kernel, by decide +kernel, by decide +kernel⟩
theorem mk_M_isOn : ia_mkn mm_M_isOn 1 2 := ⟨ia_tb_in (List.mem_of_getElem? (i := 2047) (by decide +kernel)) rfl, ia_tb_in (List.mem_of_getElem? (i := 146) (by decide +kernel)) rfl, by decide +kernel, by decide +kernel, ⟨ia_tb_in (List.mem_of_getElem? (i := 2046) (by decide +kernel)) rfl, ia_tb_in (List.mem_of_getElem? (i := 110) (by decide +kernel)) rfl⟩⟩
theorem ck_M_isOn_0 : ia_cks 12 5 false prog_14_method_84_code 0 [(.iconst 0, 0, 0, 0, 0), (.istore_n 3, 0, 0, 0, 0), (.iconst 0, 0, 0, 0, 0), (.istore 4, 0, 0, 0, 0)] = true := by decide +kernel
theorem ck_M_isOn_5 : ia_cks 12 5 false prog_14_method_84_code 5 [(.iload 4, 0, 0, 0, 0), (.iload_n 2, 0, 0, 0, 0), (.if_icmp .ge 30, 0, 0, 0, 0)] = true := by decide +kernel
theorem ck_M_isOn_11 : ia_cks 12 5 false prog_14_method_84_code 11 [(.iload_n 3, 0, 0, 0, 0), (.ifCond .ne 14, 0, 0, 0, 0)] = true := by decide +kernel
theorem ck_M_isOn_26 : ia_cks 12 5 false prog_14_method_84_code 26 [(.iconst 1, 0, 0, 0, 0), (.goto 4, 0, 0, 0, 0)] = true := by decide +kernel
theorem ck_M_isOn_31 : ia_cks 12 5 false prog_14_method_84_code 31 [(.istore_n 3, 0, 0, 0, 0), (.iinc 4 1, 0, 0, 0, 0), (.goto (-30), 0, 0, 0, 0)] = true := by decide +kernel
theorem ck_M_isOn_15 : ia_cks 12 5 false prog_14_method_84_code 15 [(.aload_n 0, 0, 0, 0, 0), (.getfield 48, 12, 28, 3, 11), (.iload 4, 0, 0, 0, 0), (.iaload, 0, 0, 0, 0), (.iload_n 1, 0, 0, 0, 0), (.if_icmp .ne 7, 0, 0, 0, 0)] = true := by decide +kernel
theorem ck_M_isOn_30 : ia_cks 12 5 false prog_14_method_84_code 30 [(.iconst 0, 0, 0, 0, 0), (.istore_n 3, 0, 0, 0, 0), (.iinc 4 1, 0, 0, 0, 0), (.goto (-30), 0, 0, 0, 0)] = true := by decide +kernel
theorem ck_M_isOn_38 : ia_cks 12 5 false prog_14_method_84_code 38 [(.iload_n 3, 0, 0, 0, 0)] = true := by decide +kernel
theorem dc_M_isOn_39 : decode prog_14_method_84_code 39 = .ok (.ireturn, 1) := by decide +kernel
def l_M_isOn_5 (x1 : Int32) (x2 : Int32) (h : ia_H) (k38 : Int32 → Option Int32) (n : Nat) (x3 : Int32) (x4 : Int32) : Option Int32 := match n with
  | 0 => none
  | n + 1 => if x2 ≤ x4 then (k38 x3) else (if x3 = 0 then (ia_gd (ia_ib x4 9) (if (ia_i h 428 ((x4).toNatClampNeg)) = x1 then (l_M_isOn_5 x1 x2 h k38 n 1 (x4 + 1)) else (l_M_isOn_5 x1 x2 h k38 n 0 (x4 + 1)))) else (l_M_isOn_5 x1 x2 h k38 n 1 (x4 + 1)))
theorem tl_M_isOn_5 {w : ia_O0} {d N1 W1 : Nat} {K : ia_K} (hK : ia_isK (d + 0) mm_M_isOn N1 W1 K) {x1 : Int32} {x2 : Int32} {h : ia_H} (hg : gd_ w h) {r : Int32} (hret : ∀ (pc : Nat) (lv : ia_L), ia_ret mm_M_isOn pc (some (.inl r)) → K pc lv ((some (.inl r)) : Option ia_V).toList h) {k38 : Int32 → Option Int32} (hk38 : ∀ (x3 : Int32), k38 x3 = some r → K 38 [none, none, none, some (.inl x3), none] [] h) : ∀ (n : Nat) (x3 : Int32) (x4 : Int32), l_M_isOn_5 x1 x2 h k38 n x3 x4 = some r → K 5 [some (.inr (.inr 417)), some (.inl x1), some (.inl x2), some (.inl x3), some (.inl x4)] [] h := by
  intro n
  induction n with
  | zero =>
    intro x3 x4 hm
    cases (show (none : Option Int32) = some _ from hm)
  | succ n ih =>
    intro x3 x4 hm
    rw [l_M_isOn_5] at hm
    refine ia_go hK ck_M_isOn_5 ⟨fun c => ?_, fun c => ?_⟩
    · replace hm := ia_ifp hm c
      show K 38 [some (.inr (.inr 417)), some (.inl x1), some (.inl x2), some (.inl x3), some (.inl x4)] [] h
      refine ia_fg hK (lv' := [none, none, none, some (.inl x3), none]) ⟨rfl, trivial⟩ ?_
      exact hk38 x3 hm
    · replace hm := ia_ifn hm c
      show K 11 [some (.inr (.inr 417)), some (.inl x1), some (.inl x2), some (.inl x3), some (.inl x4)] [] h
      refine ia_go hK ck_M_isOn_11 ⟨fun c => ?_, fun c => ?_⟩
      · replace hm := ia_ifn hm c
        show K 26 [some (.inr (.inr 417)), some (.inl x1), some (.inl x2), some (.inl x3), some (.inl x4)] [] h
        refine ia_go hK ck_M_isOn_26 ?_
        show K 31 [some (.inr (.inr 417)), some (.inl x1), some (.inl x2), some (.inl x3), some (.inl x4)] [.inl 1] h
        refine ia_go hK ck_M_isOn_31 ?_
        show K 5 [some (.inr (.inr 417)), some (.inl x1), some (.inl x2), some (.inl 1), some (.inl (x4 + 1))] [] h
        exact ih 1 (x4 + 1) hm
      · replace hm := ia_ifp hm c
        show K 15 [some (.inr (.inr 417)), some (.inl x1), some (.inl x2), some (.inl x3), some (.inl x4)] [] h
        obtain ⟨c1, hm⟩ := ia_gd_some hm
        refine ia_go hK ck_M_isOn_15 ⟨gk_12 hg pk_417, gr_12_28 hg pk_417, ga_i100 hg (ka_12_28 pk_417) c1, fun c => ?_, fun c => ?_⟩
        · replace hm := ia_ifn hm c
          show K 30 [some (.inr (.inr 417)), some (.inl x1), some (.inl x2), some (.inl x3), some (.inl x4)] [] h
          refine ia_go hK ck_M_isOn_30 ?_
          show K 5 [some (.inr (.inr 417)), some (.inl x1), some (.inl x2), some (.inl 0), some (.inl (x4 + 1))] [] h
          exact ih 0 (x4 + 1) hm
        · replace hm := ia_ifp hm c
          show K 26 [some (.inr (.inr 417)), some (.inl x1), some (.inl x2), some (.inl x3), some (.inl x4)] [] h
          refine ia_go hK ck_M_isOn_26 ?_
          show K 31 [some (.inr (.inr 417)), some (.inl x1), some (.inl x2), some (.inl x3), some (.inl x4)] [.inl 1] h
          refine ia_go hK ck_M_isOn_31 ?_
          show K 5 [some (.inr (.inr 417)), some (.inl x1), some (.inl x2), some (.inl 1), some (.inl (x4 + 1))] [] h
          exact ih 1 (x4 + 1) hm
def f_M_isOn (x1 : Int32) (x2 : Int32) (h : ia_H) : Option Int32 := l_M_isOn_5 x1 x2 h (fun x3 => ia_gd (ia_z1 x3) (some x3)) fu_ 0 0
theorem t_M_isOn {w : ia_O0} (d : Nat) {x1 : Int32} {x2 : Int32} {h : ia_H} (hg : gd_ w h) {r : Int32} (hm : f_M_isOn x1 x2 h = some r) : ia_Ev (d + 0) mm_M_isOn [.inr (.inr 417), .inl x1, .inl x2] h (some (.inl r)) h := by
  refine ia_Ev_intro ok_M_isOn (Nat.le_refl _) (Nat.le_refl _) (Nat.le_of_ble_eq_true rfl) (fun K hK hret => ?_)
  show K 0 [some (.inr (.inr 417)), some (.inl x1), some (.inl x2), none, none] [] h
  unfold f_M_isOn at hm
  refine ia_go hK ck_M_isOn_0 ?_
  show K 5 [some (.inr (.inr 417)), some (.inl x1), some (.inl x2), some (.inl 0), some (.inl 0)] [] h
  refine tl_M_isOn_5 hK hg hret ?_ fu_ 0 0 hm
  · intro x3 hm
    refine ia_go hK ck_M_isOn_38 ?_
    show K 39 [none, none, none, some (.inl x3), none] [.inl x3] h
    obtain ⟨c2, hm⟩ := ia_gd_some hm
    obtain rfl := Option.some.inj hm
    exact hret 39 _ ⟨ia_z1_spec c2, dc_M_isOn_39⟩
def mm_M_luckOf : ia_M := (⟨"IceStreetModel", "luckOf", "(I)J"⟩, prog_14_method_83_code, 5, (some .long), 12, false)
theorem ok_M_luckOf : ia_mok mm_M_luckOf := ⟨by decide +kernel, by decide +kernel, by decide +kernel, by decide +kernel⟩
theorem mk_M_luckOf : ia_mkn mm_M_luckOf 1 1 := ⟨ia_tb_in (List.mem_of_getElem? (i := 2055) (by decide +kernel)) rfl, ia_tb_in (List.mem_of_getElem? (i := 146) (by decide +kernel)) rfl, by decide +kernel, by decide +kernel, ⟨ia_tb_in (List.mem_of_getElem? (i := 2054) (by decide +kernel)) rfl, ia_tb_in (List.mem_of_getElem? (i := 112) (by decide +kernel)) rfl⟩⟩
theorem ck_M_luckOf_0 : ia_cks 12 5 false prog_14_method_83_code 0 [(.lconst 1, 0, 0, 0, 0), (.lstore_n 2, 0, 0, 0, 0), (.iconst 1, 0, 0, 0, 0), (.istore 4, 0, 0, 0, 0)] = true := by decide +kernel
theorem ck_M_luckOf_5 : ia_cks 12 5 false prog_14_method_83_code 5 [(.iload 4, 0, 0, 0, 0), (.bipush 8, 0, 0, 0, 0), (.if_icmp .ge 48, 0, 0, 0, 0)] = true := by decide +kernel
theorem ck_M_luckOf_12 : ia_cks 12 5 false prog_14_method_83_code 12 [(.lload_n 2, 0, 0, 0, 0), (.iload 4, 0, 0, 0, 0), (.iload_n 1, 0, 0, 0, 0), (.if_icmp .ge 30, 0, 0, 0, 0)] = true := by decide +kernel
theorem ck_M_luckOf_49 : ia_cks 12 5 false prog_14_method_83_code 49 [(.lmul, 0, 0, 0, 0), (.lstore_n 2, 0, 0, 0, 0), (.iinc 4 1, 0, 0, 0, 0), (.goto (-49), 0, 0, 0, 0)] = true := by decide +kernel
theorem ck_M_luckOf_19 : ia_cks 12 5 false prog_14_method_83_code 19 [(.bipush 10, 0, 0, 0, 0), (.aload_n 0, 0, 0, 0, 0), (.getfield 7, 12, 0, 3, 1), (.aload_n 0, 0, 0, 0, 0), (.getfield 201, 12, 14, 0, 0), (.bipush 80, 0, 0, 0, 0), (.iadd, 0, 0, 0, 0), (.aload_n 0, 0, 0, 0, 0), (.getfield 48, 12, 28, 3, 11), (.iload 4, 0, 0, 0, 0), (.iaload, 0, 0, 0, 0), (.iadd, 0, 0, 0, 0), (.iaload, 0, 0, 0, 0), (.isub, 0, 0, 0, 0), (.i2l, 0, 0, 0, 0), (.goto 6, 0, 0, 0, 0)] = true := by decide +kernel
theorem ck_M_luckOf_57 : ia_cks 12 5 false prog_14_method_83_code 57 [(.lload_n 2, 0, 0, 0, 0)] = true := by decide +kernel
theorem dc_M_luckOf_46 : decode prog_14_method_83_code 46 = .ok (.ldc2_w 332, 3) := by decide +kernel
theorem dc_M_luckOf_58 : decode prog_14_method_83_code 58 = .ok (.lreturn, 1) := by decide +kernel
def j_M_luckOf_49 (x1 : Int32) (h : ia_H) (kr : Int64 → Int32 → Option Int64) (k57 : Int64 → Option Int64) (x4 : Int32) (z0 : Int64) (z1 : Int64) : Option Int64 := kr (z0 * z1) (x4 + 1)
theorem tj_M_luckOf_49 {w : ia_O0} {d N1 W1 : Nat} {K : ia_K} (hK : ia_isK (d + 0) mm_M_luckOf N1 W1 K) {x1 : Int32} {h : ia_H} (hg : gd_ w h) {r : Int64} (hret : ∀ (pc : Nat) (lv : ia_L), ia_ret mm_M_luckOf pc (some (.inr (.inl r))) → K pc lv ((some (.inr (.inl r))) : Option ia_V).toList h) {kr : Int64 → Int32 → Option Int64} {k57 : Int64 → Option Int64} (hkr : ∀ (y2 : Int64) (x4 : Int32), kr y2 x4 = some r → K 5 [some (.inr (.inr 417)), some (.inl x1), some (.inr (.inl y2)), none, some (.inl x4)] [] h) (hk57 : ∀ (y2 : Int64), k57 y2 = some r → K 57 [none, none, some (.inr (.inl y2)), none, none] [] h) : ∀ (x4 : Int32) (z0 : Int64) (z1 : Int64), j_M_luckOf_49 x1 h kr k57 x4 z0 z1 = some r → K 49 [some (.inr (.inr 417)), some (.inl x1), none, none, some (.inl x4)] [.inr (.inl z1), .inr (.inl z0)] h := by
  intro x4 z0 z1 hm
  unfold j_M_luckOf_49 at hm
  refine ia_go hK ck_M_luckOf_49 ?_
  show K 5 [some (.inr (.inr 417)), some (.inl x1), some (.inr (.inl (z0 * z1))), none, some (.inl (x4 + 1))] [] h
  exact hkr (z0 * z1) (x4 + 1) hm
def l_M_luckOf_5 (x1 : Int32) (h : ia_H) (k57 : Int64 → Option Int64) (n : Nat) (y2 : Int64) (x4 : Int32) : Option Int64 := match n with
  | 0 => none
  | n + 1 => if 8 ≤ x4 then (k57 y2) else (if x1 ≤ x4 then (j_M_luckOf_49 x1 h (l_M_luckOf_5 x1 h k57 n) k57 x4 y2 10) else (ia_gd (ia_ib x4 9) (ia_gd (ia_ib (((ia_i h 417 14) + 80) + (ia_i h 428 ((x4).toNatClampNeg))) 6528) (j_M_luckOf_49 x1 h (l_M_luckOf_5 x1 h k57 n) k57 x4 y2 ((10 - (ia_i h 418 ((((ia_i h 417 14) + 80) + (ia_i h 428 ((x4).toNatClampNeg))).toNatClampNeg))).toInt64)))))
theorem tl_M_luckOf_5 {w : ia_O0} {d N1 W1 : Nat} {K : ia_K} (hK : ia_isK (d + 0) mm_M_luckOf N1 W1 K) {x1 : Int32} {h : ia_H} (hg : gd_ w h) {r : Int64} (hret : ∀ (pc : Nat) (lv : ia_L), ia_ret mm_M_luckOf pc (some (.inr (.inl r))) → K pc lv ((some (.inr (.inl r))) : Option ia_V).toList h) {k57 : Int64 → Option Int64} (hk57 : ∀ (y2 : Int64), k57 y2 = some r → K 57 [none, none, some (.inr (.inl y2)), none, none] [] h) : ∀ (n : Nat) (y2 : Int64) (x4 : Int32), l_M_luckOf_5 x1 h k57 n y2 x4 = some r → K 5 [some (.inr (.inr 417)), some (.inl x1), some (.inr (.inl y2)), none, some (.inl x4)] [] h := by
  intro n
  induction n with
  | zero =>
    intro y2 x4 hm
    cases (show (none : Option Int64) = some _ from hm)
  | succ n ih =>
    intro y2 x4 hm
    rw [l_M_luckOf_5] at hm
    refine ia_go hK ck_M_luckOf_5 ⟨fun c => ?_, fun c => ?_⟩
    · replace hm := ia_ifp hm c
      show K 57 [some (.inr (.inr 417)), some (.inl x1), some (.inr (.inl y2)), none, some (.inl x4)] [] h
      refine ia_fg hK (lv' := [none, none, some (.inr (.inl y2)), none, none]) ⟨rfl, trivial⟩ ?_
      exact hk57 y2 hm
    · replace hm := ia_ifn hm c
      show K 12 [some (.inr (.inr 417)), some (.inl x1), some (.inr (.inl y2)), none, some (.inl x4)] [] h
      refine ia_go hK ck_M_luckOf_12 ⟨fun c => ?_, fun c => ?_⟩
      · replace hm := ia_ifp hm c
        show K 46 [some (.inr (.inr 417)), some (.inl x1), some (.inr (.inl y2)), none, some (.inl x4)] [.inr (.inl y2)] h
        refine ia_ldc2 hK (v := 10) (ia_tb_in (List.mem_of_getElem? (i := 2056) (by decide +kernel)) rfl) dc_M_luckOf_46 ?_
        show K 49 [some (.inr (.inr 417)), some (.inl x1), some (.inr (.inl y2)), none, some (.inl x4)] [.inr (.inl 10), .inr (.inl y2)] h
        refine ia_fg hK (lv' := [some (.inr (.inr 417)), some (.inl x1), none, none, some (.inl x4)]) ⟨rfl, rfl, rfl, trivial⟩ ?_
        exact tj_M_luckOf_49 hK hg hret ih hk57 x4 y2 10 hm
      · replace hm := ia_ifn hm c
        show K 19 [some (.inr (.inr 417)), some (.inl x1), some (.inr (.inl y2)), none, some (.inl x4)] [.inr (.inl y2)] h
        obtain ⟨c1, hm⟩ := ia_gd_some hm
        obtain ⟨c2, hm⟩ := ia_gd_some hm
        refine ia_go hK ck_M_luckOf_19 ⟨gk_12 hg pk_417, gr_12_0 hg pk_417, gk_12 hg pk_417, gk_12 hg pk_417, gr_12_28 hg pk_417, ga_i100 hg (ka_12_28 pk_417) c1, ga_i100 hg (ka_12_0 pk_417) c2, ?_⟩
        show K 49 [some (.inr (.inr 417)), some (.inl x1), some (.inr (.inl y2)), none, some (.inl x4)] [.inr (.inl ((10 - (ia_i h 418 ((((ia_i h 417 14) + 80) + (ia_i h 428 ((x4).toNatClampNeg))).toNatClampNeg))).toInt64)), .inr (.inl y2)] h
        refine ia_fg hK (lv' := [some (.inr (.inr 417)), some (.inl x1), none, none, some (.inl x4)]) ⟨rfl, rfl, rfl, trivial⟩ ?_
        exact tj_M_luckOf_49 hK hg hret ih hk57 x4 y2 ((10 - (ia_i h 418 ((((ia_i h 417 14) + 80) + (ia_i h 428 ((x4).toNatClampNeg))).toNatClampNeg))).toInt64) hm
def f_M_luckOf (x1 : Int32) (h : ia_H) : Option Int64 := l_M_luckOf_5 x1 h (fun y2 => some y2) fu_ 1 1
theorem t_M_luckOf {w : ia_O0} (d : Nat) {x1 : Int32} {h : ia_H} (hg : gd_ w h) {r : Int64} (hm : f_M_luckOf x1 h = some r) : ia_Ev (d + 0) mm_M_luckOf [.inr (.inr 417), .inl x1] h (some (.inr (.inl r))) h := by
  refine ia_Ev_intro ok_M_luckOf (Nat.le_refl _) (Nat.le_refl _) (Nat.le_of_ble_eq_true rfl) (fun K hK hret => ?_)
  show K 0 [some (.inr (.inr 417)), some (.inl x1), none, none, none] [] h
  unfold f_M_luckOf at hm
  refine ia_go hK ck_M_luckOf_0 ?_
  show K 5 [some (.inr (.inr 417)), some (.inl x1), some (.inr (.inl 1)), none, some (.inl 1)] [] h
  refine tl_M_luckOf_5 hK hg hret ?_ fu_ 1 1 hm
  · intro y2 hm
    refine ia_go hK ck_M_luckOf_57 ?_
    show K 58 [none, none, some (.inr (.inl y2)), none, none] [.inr (.inl y2)] h
    obtain rfl := Option.some.inj hm
    exact hret 58 _ dc_M_luckOf_58
