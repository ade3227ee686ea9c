def mm_M_bitsOfPath : ia_M := (⟨"IceStreetModel", "bitsOfPath", "()J"⟩, prog_14_method_103_code, 4, (some .long), 12, false)
theorem ok_M_bitsOfPath : ia_mok mm_M_bitsOfPath := ⟨by decide +kernel, by decide +kernel, by decide +kernel, by decide +kernel⟩
theorem mk_M_bitsOfPath : ia_mkn mm_M_bitsOfPath 1 0 := ⟨ia_tb_in (List.mem_of_getElem? (i := 2128) (by decide +kernel)) rfl, ia_tb_in (List.mem_of_getElem? (i := 146) (by decide +kernel)) rfl, by decide +kernel, by decide +kernel, ⟨ia_tb_in (List.mem_of_getElem? (i := 2127) (by decide +kernel)) rfl, ia_tb_in (List.mem_of_getElem? (i := 121) (by decide +kernel)) rfl⟩⟩
theorem ck_M_bitsOfPath_0 : ia_cks 12 4 false prog_14_method_103_code 0 [(.lconst 0, 0, 0, 0, 0), (.lstore_n 1, 0, 0, 0, 0), (.iconst 0, 0, 0, 0, 0), (.istore_n 3, 0, 0, 0, 0)] = true := by decide +kernel
theorem ck_M_bitsOfPath_4 : ia_cks 12 4 false prog_14_method_103_code 4 [(.iload_n 3, 0, 0, 0, 0), (.aload_n 0, 0, 0, 0, 0), (.getfield 266, 12, 27, 0, 0), (.if_icmp .ge 20, 0, 0, 0, 0)] = true := by decide +kernel
theorem ck_M_bitsOfPath_12 : ia_cks 12 4 false prog_14_method_103_code 12 [(.lload_n 1, 0, 0, 0, 0), (.lconst 1, 0, 0, 0, 0), (.aload_n 0, 0, 0, 0, 0), (.getfield 45, 12, 26, 3, 10), (.iload_n 3, 0, 0, 0, 0), (.iaload, 0, 0, 0, 0), (.lshl, 0, 0, 0, 0), (.lor, 0, 0, 0, 0), (.lstore_n 1, 0, 0, 0, 0), (.iinc 3 1, 0, 0, 0, 0), (.goto (-22), 0, 0, 0, 0)] = true := by decide +kernel
theorem ck_M_bitsOfPath_29 : ia_cks 12 4 false prog_14_method_103_code 29 [(.lload_n 1, 0, 0, 0, 0)] = true := by decide +kernel
theorem dc_M_bitsOfPath_30 : decode prog_14_method_103_code 30 = .ok (.lreturn, 1) := by decide +kernel
def l_M_bitsOfPath_4 (h : ia_H) (k29 : Int64 → Option Int64) (n : Nat) (y1 : Int64) (x3 : Int32) : Option Int64 := match n with
  | 0 => none
  | n + 1 => if (ia_i h 417 27) ≤ x3 then (k29 y1) else (ia_gd (ia_ib x3 36) (l_M_bitsOfPath_4 h k29 n (y1 ||| (1 <<< ((ia_i h 427 ((x3).toNatClampNeg)).toInt64 &&& 63))) (x3 + 1)))
theorem tl_M_bitsOfPath_4 {w : ia_O0} {d N1 W1 : Nat} {K : ia_K} (hK : ia_isK (d + 0) mm_M_bitsOfPath N1 W1 K) {h : ia_H} (hg : gd_ w h) {r : Int64} (hret : ∀ (pc : Nat) (lv : ia_L), ia_ret mm_M_bitsOfPath pc (some (.inr (.inl r))) → K pc lv ((some (.inr (.inl r))) : Option ia_V).toList h) {k29 : Int64 → Option Int64} (hk29 : ∀ (y1 : Int64), k29 y1 = some r → K 29 [none, some (.inr (.inl y1)), none, none] [] h) : ∀ (n : Nat) (y1 : Int64) (x3 : Int32), l_M_bitsOfPath_4 h k29 n y1 x3 = some r → K 4 [some (.inr (.inr 417)), some (.inr (.inl y1)), none, some (.inl x3)] [] h := by
  intro n
  induction n with
  | zero =>
    intro y1 x3 hm
    cases (show (none : Option Int64) = some _ from hm)
  | succ n ih =>
    intro y1 x3 hm
    rw [l_M_bitsOfPath_4] at hm
    refine ia_go hK ck_M_bitsOfPath_4 ⟨gk_12 hg pk_417, fun c => ?_, fun c => ?_⟩
    · replace hm := ia_ifp hm c
      show K 29 [some (.inr (.inr 417)), some (.inr (.inl y1)), none, some (.inl x3)] [] h
      refine ia_fg hK (lv' := [none, some (.inr (.inl y1)), none, none]) ⟨rfl, trivial⟩ ?_
      exact hk29 y1 hm
    · replace hm := ia_ifn hm c
      show K 12 [some (.inr (.inr 417)), some (.inr (.inl y1)), none, some (.inl x3)] [] h
      obtain ⟨c1, hm⟩ := ia_gd_some hm
      refine ia_go hK ck_M_bitsOfPath_12 ⟨gk_12 hg pk_417, gr_12_26 hg pk_417, ga_i100 hg (ka_12_26 pk_417) c1, ?_⟩
      show K 4 [some (.inr (.inr 417)), some (.inr (.inl (y1 ||| (1 <<< ((ia_i h 427 ((x3).toNatClampNeg)).toInt64 &&& 63))))), none, some (.inl (x3 + 1))] [] h
      exact ih (y1 ||| (1 <<< ((ia_i h 427 ((x3).toNatClampNeg)).toInt64 &&& 63))) (x3 + 1) hm
def f_M_bitsOfPath (h : ia_H) : Option Int64 := l_M_bitsOfPath_4 h (fun y1 => some y1) fu_ 0 0
theorem t_M_bitsOfPath {w : ia_O0} (d : Nat) {h : ia_H} (hg : gd_ w h) {r : Int64} (hm : f_M_bitsOfPath h = some r) : ia_Ev (d + 0) mm_M_bitsOfPath [.inr (.inr 417)] h (some (.inr (.inl r))) h := by
  refine ia_Ev_intro ok_M_bitsOfPath (Nat.le_refl _) (Nat.le_refl _) (Nat.le_of_ble_eq_true rfl) (fun K hK hret => ?_)
  show K 0 [some (.inr (.inr 417)), none, none, none] [] h
  unfold f_M_bitsOfPath at hm
  refine ia_go hK ck_M_bitsOfPath_0 ?_
  show K 4 [some (.inr (.inr 417)), some (.inr (.inl 0)), none, some (.inl 0)] [] h
  refine tl_M_bitsOfPath_4 hK hg hret ?_ fu_ 0 0 hm
  · intro y1 hm
    refine ia_go hK ck_M_bitsOfPath_29 ?_
    show K 30 [none, some (.inr (.inl y1)), none, none] [.inr (.inl y1)] h
    obtain rfl := Option.some.inj hm
    exact hret 30 _ dc_M_bitsOfPath_30
def mm_M_branches : ia_M := (⟨"IceStreetModel", "branches", "(IIIIIIII)J"⟩, prog_14_method_104_code, 10, (some .long), 12, false)
theorem ok_M_branches : ia_mok mm_M_branches := ⟨by decide +kernel, by decide +kernel, by decide +kernel, by decide +kernel⟩
theorem mk_M_branches : ia_mkn mm_M_branches 1 8 := ⟨ia_tb_in (List.mem_of_getElem? (i := 2124) (by decide +kernel)) rfl, ia_tb_in (List.mem_of_getElem? (i := 146) (by decide +kernel)) rfl, by decide +kernel, by decide +kernel, ⟨ia_tb_in (List.mem_of_getElem? (i := 2122) (by decide +kernel)) rfl, ia_tb_in (List.mem_of_getElem? (i := 2123) (by decide +kernel)) rfl⟩⟩
theorem ck_M_branches_0 : ia_cks 12 10 false prog_14_method_104_code 0 [(.iload 5, 0, 0, 0, 0)] = true := by decide +kernel
theorem ck_M_branches_5 : ia_cks 12 10 false prog_14_method_104_code 5 [(.ifCond .eq 30, 0, 0, 0, 0)] = true := by decide +kernel
theorem ck_M_branches_8 : ia_cks 12 10 false prog_14_method_104_code 8 [(.iload 8, 0, 0, 0, 0), (.iconst 0, 0, 0, 0, 0), (.bipush 30, 0, 0, 0, 0)] = true := by decide +kernel
theorem ck_M_branches_16 : ia_cks 12 10 false prog_14_method_104_code 16 [(.ifCond .eq 19, 0, 0, 0, 0)] = true := by decide +kernel
theorem ck_M_branches_19 : ia_cks 12 10 false prog_14_method_104_code 19 [(.aload_n 0, 0, 0, 0, 0), (.iload_n 1, 0, 0, 0, 0), (.iload_n 2, 0, 0, 0, 0), (.iload_n 3, 0, 0, 0, 0), (.iload 4, 0, 0, 0, 0), (.iload 6, 0, 0, 0, 0), (.iload 7, 0, 0, 0, 0)] = true := by decide +kernel
theorem ck_M_branches_32 : ia_cks 12 10 false prog_14_method_104_code 32 [(.ifCond .ne 7, 0, 0, 0, 0)] = true := by decide +kernel
theorem ck_M_branches_39 : ia_cks 12 10 false prog_14_method_104_code 39 [(.iconst 0, 0, 0, 0, 0), (.istore 9, 0, 0, 0, 0)] = true := by decide +kernel
theorem ck_M_branches_42 : ia_cks 12 10 false prog_14_method_104_code 42 [(.iload 9, 0, 0, 0, 0), (.iload 8, 0, 0, 0, 0), (.if_icmp .ge 13, 0, 0, 0, 0)] = true := by decide +kernel
theorem ck_M_branches_49 : ia_cks 12 10 false prog_14_method_104_code 49 [(.aload_n 0, 0, 0, 0, 0)] = true := by decide +kernel
theorem ck_M_branches_53 : ia_cks 12 10 false prog_14_method_104_code 53 [(.iinc 9 1, 0, 0, 0, 0), (.goto (-14), 0, 0, 0, 0)] = true := by decide +kernel
theorem ck_M_branches_59 : ia_cks 12 10 false prog_14_method_104_code 59 [(.aload_n 0, 0, 0, 0, 0), (.iload 6, 0, 0, 0, 0), (.iload 7, 0, 0, 0, 0), (.iload 5, 0, 0, 0, 0)] = true := by decide +kernel
theorem ck_M_branches_69 : ia_cks 12 10 false prog_14_method_104_code 69 [(.ifCond .eq 10, 0, 0, 0, 0)] = true := by decide +kernel
theorem ck_M_branches_72 : ia_cks 12 10 false prog_14_method_104_code 72 [(.aload_n 0, 0, 0, 0, 0)] = true := by decide +kernel
theorem ck_M_branches_76 : ia_cks 12 10 false prog_14_method_104_code 76 [(.goto 6, 0, 0, 0, 0)] = true := by decide +kernel
theorem dc_M_branches_2 : decode prog_14_method_104_code 2 = .ok (.invokestatic 349, 3) := by decide +kernel
theorem dc_M_branches_35 : decode prog_14_method_104_code 35 = .ok (.ldc2_w 334, 3) := by decide +kernel
theorem dc_M_branches_38 : decode prog_14_method_104_code 38 = .ok (.lreturn, 1) := by decide +kernel
theorem dc_M_branches_13 : decode prog_14_method_104_code 13 = .ok (.invokestatic 116, 3) := by decide +kernel
theorem dc_M_branches_29 : decode prog_14_method_104_code 29 = .ok (.invokevirtual 325, 3) := by decide +kernel
theorem dc_M_branches_50 : decode prog_14_method_104_code 50 = .ok (.invokevirtual 290, 3) := by decide +kernel
theorem dc_M_branches_66 : decode prog_14_method_104_code 66 = .ok (.invokevirtual 287, 3) := by decide +kernel
theorem dc_M_branches_79 : decode prog_14_method_104_code 79 = .ok (.ldc2_w 334, 3) := by decide +kernel
theorem dc_M_branches_82 : decode prog_14_method_104_code 82 = .ok (.lreturn, 1) := by decide +kernel
theorem dc_M_branches_73 : decode prog_14_method_104_code 73 = .ok (.invokevirtual 381, 3) := by decide +kernel
def l_M_branches_42 (x1 : Int32) (x2 : Int32) (x3 : Int32) (x4 : Int32) (x5 : Int32) (x6 : Int32) (x7 : Int32) (x8 : Int32) (k59 : ia_H → Option (Int64 × ia_H)) (n : Nat) (x9 : Int32) (h : ia_H) : Option (Int64 × ia_H) := match n with
  | 0 => none
  | n + 1 => if x8 ≤ x9 then (k59 h) else ((f_M_aDay h).bind fun v4 => (l_M_branches_42 x1 x2 x3 x4 x5 x6 x7 x8 k59 n (x9 + 1) v4))
theorem tl_M_branches_42 {w : ia_O0} {d N1 W1 : Nat} {K : ia_K} (hK : ia_isK (d + 12) mm_M_branches N1 W1 K) {x1 : Int32} {x2 : Int32} {x3 : Int32} {x4 : Int32} {x5 : Int32} {x6 : Int32} {x7 : Int32} {x8 : Int32} {r : Int64} {h1 : ia_H} (hret : ∀ (pc : Nat) (lv : ia_L), ia_ret mm_M_branches pc (some (.inr (.inl r))) → K pc lv ((some (.inr (.inl r))) : Option ia_V).toList h1) {k59 : ia_H → Option (Int64 × ia_H)} (hk59 : ∀ (h : ia_H), gd_ w h → k59 h = some (r, h1) → K 59 [some (.inr (.inr 417)), none, none, none, none, some (.inl x5), some (.inl x6), some (.inl x7), none, none] [] h) : ∀ (n : Nat) (x9 : Int32) (h : ia_H), gd_ w h → l_M_branches_42 x1 x2 x3 x4 x5 x6 x7 x8 k59 n x9 h = some (r, h1) → K 42 [some (.inr (.inr 417)), none, none, none, none, some (.inl x5), some (.inl x6), some (.inl x7), some (.inl x8), some (.inl x9)] [] h := by
  intro n
  induction n with
  | zero =>
    intro x9 h hg hm
    cases (show (none : Option (Int64 × ia_H)) = some _ from hm)
  | succ n ih =>
    intro x9 h hg hm
    rw [l_M_branches_42] at hm
    refine ia_go hK ck_M_branches_42 ⟨fun c => ?_, fun c => ?_⟩
    · replace hm := ia_ifp hm c
      show K 59 [some (.inr (.inr 417)), none, none, none, none, some (.inl x5), some (.inl x6), some (.inl x7), some (.inl x8), some (.inl x9)] [] h
      refine ia_fg hK (lv' := [some (.inr (.inr 417)), none, none, none, none, some (.inl x5), some (.inl x6), some (.inl x7), none, none]) ⟨rfl, rfl, rfl, rfl, trivial⟩ ?_
      exact hk59 h hg hm
    · replace hm := ia_ifn hm c
      show K 49 [some (.inr (.inr 417)), none, none, none, none, some (.inl x5), some (.inl x6), some (.inl x7), some (.inl x8), some (.inl x9)] [] h
      refine ia_go hK ck_M_branches_49 ?_
      show K 50 [some (.inr (.inr 417)), none, none, none, none, some (.inl x5), some (.inl x6), some (.inl x7), some (.inl x8), some (.inl x9)] [.inr (.inr 417)] h
      obtain ⟨v4, hv4, hm⟩ := ia_bnd hm
      have ev4 := t_M_aDay (d + 4) hg hv4
      have gv4 := g_M_aDay hg hv4
      refine ia_cV hK mk_M_aDay lk_12_290 dc_M_branches_50 417 [] [] rfl rfl (Nat.le_of_ble_eq_true rfl) (by decide) rfl (gk_12 hg pk_417) ev4 (gd_nm hg gv4) ?_
      show K 53 [some (.inr (.inr 417)), none, none, none, none, some (.inl x5), some (.inl x6), some (.inl x7), some (.inl x8), some (.inl x9)] [] v4
      refine ia_go hK ck_M_branches_53 ?_
      show K 42 [some (.inr (.inr 417)), none, none, none, none, some (.inl x5), some (.inl x6), some (.inl x7), some (.inl x8), some (.inl (x9 + 1))] [] v4
      exact ih (x9 + 1) v4 gv4 hm
theorem gl_M_branches_42 {w : ia_O0} {x1 : Int32} {x2 : Int32} {x3 : Int32} {x4 : Int32} {x5 : Int32} {x6 : Int32} {x7 : Int32} {x8 : Int32} {r : Int64} {h1 : ia_H} {k59 : ia_H → Option (Int64 × ia_H)} (hk59 : ∀ (h : ia_H), gd_ w h → k59 h = some (r, h1) → gd_ w h1) : ∀ (n : Nat) (x9 : Int32) (h : ia_H), gd_ w h → l_M_branches_42 x1 x2 x3 x4 x5 x6 x7 x8 k59 n x9 h = some (r, h1) → gd_ w h1 := by
  intro n
  induction n with
  | zero =>
    intro x9 h hg hm
    cases (show (none : Option (Int64 × ia_H)) = some _ from hm)
  | succ n ih =>
    intro x9 h hg hm
    rw [l_M_branches_42] at hm
    by_cases c : x8 ≤ x9
    · replace hm := ia_ifp hm c
      exact hk59 h hg hm
    · replace hm := ia_ifn hm c
      obtain ⟨v4, hv4, hm⟩ := ia_bnd hm
      have gv4 := g_M_aDay hg hv4
      exact ih (x9 + 1) v4 gv4 hm
def f_M_branches (x1 : Int32) (x2 : Int32) (x3 : Int32) (x4 : Int32) (x5 : Int32) (x6 : Int32) (x7 : Int32) (x8 : Int32) (h : ia_H) : Option (Int64 × ia_H) := (f_M_isLoad x5 h).bind fun v1 => (if v1 = 0 then (some ((-1), h)) else ((f_M_isIn x8 0 30 h).bind fun v2 => (if v2 = 0 then (some ((-1), h)) else ((f_M_areWays x1 x2 x3 x4 x6 x7 h).bind fun v3 => (if v3.1 = 0 then (some ((-1), v3.2)) else (l_M_branches_42 x1 x2 x3 x4 x5 x6 x7 x8 (fun h => (f_M_shortWay x6 x7 x5 h).bind fun v5 => (if v5.1 = 0 then (some ((-1), v5.2)) else ((f_M_bitsOfPath v5.2).bind fun v6 => (some (v6, v5.2))))) fu_ 0 v3.2))))))
theorem g_M_branches {w : ia_O0} {x1 : Int32} {x2 : Int32} {x3 : Int32} {x4 : Int32} {x5 : Int32} {x6 : Int32} {x7 : Int32} {x8 : Int32} {h : ia_H} (hg : gd_ w h) {q : (Int64 × ia_H)} (hm : f_M_branches x1 x2 x3 x4 x5 x6 x7 x8 h = some q) : gd_ w q.2 := by
  obtain ⟨r, h1⟩ := q
  unfold f_M_branches at hm
  obtain ⟨v1, hv1, hm⟩ := ia_bnd hm
  by_cases c : v1 = 0
  · replace hm := ia_ifp hm c
    obtain ⟨rfl, rfl⟩ := Prod.mk.inj (Option.some.inj hm)
    exact hg
  · replace hm := ia_ifn hm c
    obtain ⟨v2, hv2, hm⟩ := ia_bnd hm
    by_cases c : v2 = 0
    · replace hm := ia_ifp hm c
      obtain ⟨rfl, rfl⟩ := Prod.mk.inj (Option.some.inj hm)
      exact hg
    · replace hm := ia_ifn hm c
      obtain ⟨v3, hv3, hm⟩ := ia_bnd hm
      have gv3 := g_M_areWays hg hv3
      by_cases c : v3.1 = 0
      · replace hm := ia_ifp hm c
        obtain ⟨rfl, rfl⟩ := Prod.mk.inj (Option.some.inj hm)
        exact gv3
      · replace hm := ia_ifn hm c
        refine gl_M_branches_42 ?_ fu_ 0 v3.2 gv3 hm
        · intro h hg hm
          obtain ⟨v5, hv5, hm⟩ := ia_bnd hm
          have gv5 := g_M_shortWay hg hv5
          by_cases c : v5.1 = 0
          · replace hm := ia_ifp hm c
            obtain ⟨rfl, rfl⟩ := Prod.mk.inj (Option.some.inj hm)
            exact gv5
          · replace hm := ia_ifn hm c
            obtain ⟨v6, hv6, hm⟩ := ia_bnd hm
            obtain ⟨rfl, rfl⟩ := Prod.mk.inj (Option.some.inj hm)
            exact gv5
theorem t_M_branches {w : ia_O0} (d : Nat) {x1 : Int32} {x2 : Int32} {x3 : Int32} {x4 : Int32} {x5 : Int32} {x6 : Int32} {x7 : Int32} {x8 : Int32} {h : ia_H} (hg : gd_ w h) {q : (Int64 × ia_H)} (hm : f_M_branches x1 x2 x3 x4 x5 x6 x7 x8 h = some q) : ia_Ev (d + 12) mm_M_branches [.inr (.inr 417), .inl x1, .inl x2, .inl x3, .inl x4, .inl x5, .inl x6, .inl x7, .inl x8] h (some (.inr (.inl q.1))) q.2 := by
  have gq := g_M_branches hg hm
  refine ia_Ev_intro ok_M_branches (gd_le hg gq).1 (gd_le hg gq).2 (Nat.le_of_ble_eq_true rfl) (fun K hK hret => ?_)
  obtain ⟨r, h1⟩ := q
  show K 0 [some (.inr (.inr 417)), some (.inl x1), some (.inl x2), some (.inl x3), some (.inl x4), some (.inl x5), some (.inl x6), some (.inl x7), some (.inl x8), none] [] h
  unfold f_M_branches at hm
  refine ia_go hK ck_M_branches_0 ?_
  show K 2 [some (.inr (.inr 417)), some (.inl x1), some (.inl x2), some (.inl x3), some (.inl x4), some (.inl x5), some (.inl x6), some (.inl x7), some (.inl x8), none] [.inl x5] h
  obtain ⟨v1, hv1, hm⟩ := ia_bnd hm
  have ev1 := t_M_isLoad (d + 10) hg hv1
  refine ia_cS hK mk_M_isLoad lk_12_349 dc_M_branches_2 [.inl x5] [] rfl rfl (Nat.le_of_ble_eq_true rfl) ev1 ⟨rfl, rfl⟩ ?_
  show K 5 [some (.inr (.inr 417)), some (.inl x1), some (.inl x2), some (.inl x3), some (.inl x4), some (.inl x5), some (.inl x6), some (.inl x7), some (.inl x8), none] [.inl v1] h
  refine ia_go hK ck_M_branches_5 ⟨fun c => ?_, fun c => ?_⟩
  · replace hm := ia_ifp hm c
    show K 35 [some (.inr (.inr 417)), some (.inl x1), some (.inl x2), some (.inl x3), some (.inl x4), some (.inl x5), some (.inl x6), some (.inl x7), some (.inl x8), none] [] h
    refine ia_ldc2 hK (v := (-1)) (ia_tb_in (List.mem_of_getElem? (i := 2043) (by decide +kernel)) rfl) dc_M_branches_35 ?_
    show K 38 [some (.inr (.inr 417)), some (.inl x1), some (.inl x2), some (.inl x3), some (.inl x4), some (.inl x5), some (.inl x6), some (.inl x7), some (.inl x8), none] [.inr (.inl (-1))] h
    obtain ⟨rfl, rfl⟩ := Prod.mk.inj (Option.some.inj hm)
    exact hret 38 _ dc_M_branches_38
  · replace hm := ia_ifn hm c
    show K 8 [some (.inr (.inr 417)), some (.inl x1), some (.inl x2), some (.inl x3), some (.inl x4), some (.inl x5), some (.inl x6), some (.inl x7), some (.inl x8), none] [] h
    refine ia_go hK ck_M_branches_8 ?_
    show K 13 [some (.inr (.inr 417)), some (.inl x1), some (.inl x2), some (.inl x3), some (.inl x4), some (.inl x5), some (.inl x6), some (.inl x7), some (.inl x8), none] [.inl 30, .inl 0, .inl x8] h
    obtain ⟨v2, hv2, hm⟩ := ia_bnd hm
    have ev2 := t_M_isIn (d + 11) hg hv2
    refine ia_cS hK mk_M_isIn lk_12_116 dc_M_branches_13 [.inl x8, .inl 0, .inl 30] [] rfl rfl (Nat.le_of_ble_eq_true rfl) ev2 ⟨rfl, rfl⟩ ?_
    show K 16 [some (.inr (.inr 417)), some (.inl x1), some (.inl x2), some (.inl x3), some (.inl x4), some (.inl x5), some (.inl x6), some (.inl x7), some (.inl x8), none] [.inl v2] h
    refine ia_go hK ck_M_branches_16 ⟨fun c => ?_, fun c => ?_⟩
    · replace hm := ia_ifp hm c
      show K 35 [some (.inr (.inr 417)), some (.inl x1), some (.inl x2), some (.inl x3), some (.inl x4), some (.inl x5), some (.inl x6), some (.inl x7), some (.inl x8), none] [] h
      refine ia_ldc2 hK (v := (-1)) (ia_tb_in (List.mem_of_getElem? (i := 2043) (by decide +kernel)) rfl) dc_M_branches_35 ?_
      show K 38 [some (.inr (.inr 417)), some (.inl x1), some (.inl x2), some (.inl x3), some (.inl x4), some (.inl x5), some (.inl x6), some (.inl x7), some (.inl x8), none] [.inr (.inl (-1))] h
      obtain ⟨rfl, rfl⟩ := Prod.mk.inj (Option.some.inj hm)
      exact hret 38 _ dc_M_branches_38
    · replace hm := ia_ifn hm c
      show K 19 [some (.inr (.inr 417)), some (.inl x1), some (.inl x2), some (.inl x3), some (.inl x4), some (.inl x5), some (.inl x6), some (.inl x7), some (.inl x8), none] [] h
      refine ia_go hK ck_M_branches_19 ?_
      show K 29 [some (.inr (.inr 417)), some (.inl x1), some (.inl x2), some (.inl x3), some (.inl x4), some (.inl x5), some (.inl x6), some (.inl x7), some (.inl x8), none] [.inl x7, .inl x6, .inl x4, .inl x3, .inl x2, .inl x1, .inr (.inr 417)] h
      obtain ⟨v3, hv3, hm⟩ := ia_bnd hm
      have ev3 := t_M_areWays (d + 0) hg hv3
      have gv3 := g_M_areWays hg hv3
      refine ia_cV hK mk_M_areWays lk_12_325 dc_M_branches_29 417 [.inl x1, .inl x2, .inl x3, .inl x4, .inl x6, .inl x7] [] rfl rfl (Nat.le_of_ble_eq_true rfl) (by decide) rfl (gk_12 hg pk_417) ev3 (gd_nm hg gv3) ?_
      show K 32 [some (.inr (.inr 417)), some (.inl x1), some (.inl x2), some (.inl x3), some (.inl x4), some (.inl x5), some (.inl x6), some (.inl x7), some (.inl x8), none] [.inl v3.1] v3.2
      refine ia_go hK ck_M_branches_32 ⟨fun c => ?_, fun c => ?_⟩
      · replace hm := ia_ifn hm c
        show K 39 [some (.inr (.inr 417)), some (.inl x1), some (.inl x2), some (.inl x3), some (.inl x4), some (.inl x5), some (.inl x6), some (.inl x7), some (.inl x8), none] [] v3.2
        refine ia_go hK ck_M_branches_39 ?_
        show K 42 [some (.inr (.inr 417)), some (.inl x1), some (.inl x2), some (.inl x3), some (.inl x4), some (.inl x5), some (.inl x6), some (.inl x7), some (.inl x8), some (.inl 0)] [] v3.2
        refine ia_fg hK (lv' := [some (.inr (.inr 417)), none, none, none, none, some (.inl x5), some (.inl x6), some (.inl x7), some (.inl x8), some (.inl 0)]) ⟨rfl, rfl, rfl, rfl, rfl, rfl, trivial⟩ ?_
        refine tl_M_branches_42 hK hret ?_ fu_ 0 v3.2 gv3 hm
        · intro h hg hm
          refine ia_go hK ck_M_branches_59 ?_
          show K 66 [some (.inr (.inr 417)), none, none, none, none, some (.inl x5), some (.inl x6), some (.inl x7), none, none] [.inl x5, .inl x7, .inl x6, .inr (.inr 417)] h
          obtain ⟨v5, hv5, hm⟩ := ia_bnd hm
          have ev5 := t_M_shortWay (d + 4) hg hv5
          have gv5 := g_M_shortWay hg hv5
          refine ia_cV hK mk_M_shortWay lk_12_287 dc_M_branches_66 417 [.inl x6, .inl x7, .inl x5] [] rfl rfl (Nat.le_of_ble_eq_true rfl) (by decide) rfl (gk_12 hg pk_417) ev5 (gd_nm hg gv5) ?_
          show K 69 [some (.inr (.inr 417)), none, none, none, none, some (.inl x5), some (.inl x6), some (.inl x7), none, none] [.inl v5.1] v5.2
          refine ia_go hK ck_M_branches_69 ⟨fun c => ?_, fun c => ?_⟩
          · replace hm := ia_ifp hm c
            show K 79 [some (.inr (.inr 417)), none, none, none, none, some (.inl x5), some (.inl x6), some (.inl x7), none, none] [] v5.2
            refine ia_ldc2 hK (v := (-1)) (ia_tb_in (List.mem_of_getElem? (i := 2043) (by decide +kernel)) rfl) dc_M_branches_79 ?_
            show K 82 [some (.inr (.inr 417)), none, none, none, none, some (.inl x5), some (.inl x6), some (.inl x7), none, none] [.inr (.inl (-1))] v5.2
            obtain ⟨rfl, rfl⟩ := Prod.mk.inj (Option.some.inj hm)
            exact hret 82 _ dc_M_branches_82
          · replace hm := ia_ifn hm c
            show K 72 [some (.inr (.inr 417)), none, none, none, none, some (.inl x5), some (.inl x6), some (.inl x7), none, none] [] v5.2
            refine ia_go hK ck_M_branches_72 ?_
            show K 73 [some (.inr (.inr 417)), none, none, none, none, some (.inl x5), some (.inl x6), some (.inl x7), none, none] [.inr (.inr 417)] v5.2
            obtain ⟨v6, hv6, hm⟩ := ia_bnd hm
            have ev6 := t_M_bitsOfPath (d + 11) gv5 hv6
            refine ia_cV hK mk_M_bitsOfPath lk_12_381 dc_M_branches_73 417 [] [] rfl rfl (Nat.le_of_ble_eq_true rfl) (by decide) rfl (gk_12 gv5 pk_417) ev6 ⟨rfl, rfl⟩ ?_
            show K 76 [some (.inr (.inr 417)), none, none, none, none, some (.inl x5), some (.inl x6), some (.inl x7), none, none] [.inr (.inl v6)] v5.2
            refine ia_go hK ck_M_branches_76 ?_
            show K 82 [some (.inr (.inr 417)), none, none, none, none, some (.inl x5), some (.inl x6), some (.inl x7), none, none] [.inr (.inl v6)] v5.2
            obtain ⟨rfl, rfl⟩ := Prod.mk.inj (Option.some.inj hm)
            exact hret 82 _ dc_M_branches_82
      · replace hm := ia_ifp hm c
        show K 35 [some (.inr (.inr 417)), some (.inl x1), some (.inl x2), some (.inl x3), some (.inl x4), some (.inl x5), some (.inl x6), some (.inl x7), some (.inl x8), none] [] v3.2
        refine ia_ldc2 hK (v := (-1)) (ia_tb_in (List.mem_of_getElem? (i := 2043) (by decide +kernel)) rfl) dc_M_branches_35 ?_
        show K 38 [some (.inr (.inr 417)), some (.inl x1), some (.inl x2), some (.inl x3), some (.inl x4), some (.inl x5), some (.inl x6), some (.inl x7), some (.inl x8), none] [.inr (.inl (-1))] v3.2
        obtain ⟨rfl, rfl⟩ := Prod.mk.inj (Option.some.inj hm)
        exact hret 38 _ dc_M_branches_38
def mm_M_old : ia_M := (⟨"IceStreetModel", "old", "(IIIIIIIJ)I"⟩, prog_14_method_105_code, 11, (some .int), 12, false)
theorem ok_M_old : ia_mok mm_M_old := ⟨by decide +kernel, by decide +kernel, by decide +kernel, by decide +kernel⟩
theorem mk_M_old : ia_mkn mm_M_old 1 8 := ⟨ia_tb_in (List.mem_of_getElem? (i := 2132) (by decide +kernel)) rfl, ia_tb_in (List.mem_of_getElem? (i := 146) (by decide +kernel)) rfl, by decide +kernel, by decide +kernel, ⟨ia_tb_in (List.mem_of_getElem? (i := 2130) (by decide +kernel)) rfl, ia_tb_in (List.mem_of_getElem? (i := 2131) (by decide +kernel)) rfl⟩⟩
theorem ck_M_old_0 : ia_cks 12 11 false prog_14_method_105_code 0 [(.iload 5, 0, 0, 0, 0)] = true := by decide +kernel
theorem ck_M_old_5 : ia_cks 12 11 false prog_14_method_105_code 5 [(.ifCond .eq 19, 0, 0, 0, 0)] = true := by decide +kernel
theorem ck_M_old_24 : ia_cks 12 11 false prog_14_method_105_code 24 [(.iconst (-1), 0, 0, 0, 0)] = true := by decide +kernel
theorem ck_M_old_8 : ia_cks 12 11 false prog_14_method_105_code 8 [(.aload_n 0, 0, 0, 0, 0), (.iload_n 1, 0, 0, 0, 0), (.iload_n 2, 0, 0, 0, 0), (.iload_n 3, 0, 0, 0, 0), (.iload 4, 0, 0, 0, 0), (.iload 6, 0, 0, 0, 0), (.iload 7, 0, 0, 0, 0)] = true := by decide +kernel
theorem ck_M_old_21 : ia_cks 12 11 false prog_14_method_105_code 21 [(.ifCond .ne 5, 0, 0, 0, 0)] = true := by decide +kernel
theorem ck_M_old_26 : ia_cks 12 11 false prog_14_method_105_code 26 [(.iconst 0, 0, 0, 0, 0), (.istore 10, 0, 0, 0, 0)] = true := by decide +kernel
theorem ck_M_old_29 : ia_cks 12 11 false prog_14_method_105_code 29 [(.iload 10, 0, 0, 0, 0), (.bipush 30, 0, 0, 0, 0), (.if_icmp .gt 39, 0, 0, 0, 0)] = true := by decide +kernel
theorem ck_M_old_36 : ia_cks 12 11 false prog_14_method_105_code 36 [(.aload_n 0, 0, 0, 0, 0), (.iload 6, 0, 0, 0, 0), (.iload 7, 0, 0, 0, 0), (.iload 5, 0, 0, 0, 0)] = true := by decide +kernel
theorem ck_M_old_46 : ia_cks 12 11 false prog_14_method_105_code 46 [(.ifCond .eq 16, 0, 0, 0, 0)] = true := by decide +kernel
theorem ck_M_old_62 : ia_cks 12 11 false prog_14_method_105_code 62 [(.aload_n 0, 0, 0, 0, 0)] = true := by decide +kernel
theorem ck_M_old_66 : ia_cks 12 11 false prog_14_method_105_code 66 [(.iinc 10 1, 0, 0, 0, 0), (.goto (-40), 0, 0, 0, 0)] = true := by decide +kernel
theorem ck_M_old_49 : ia_cks 12 11 false prog_14_method_105_code 49 [(.aload_n 0, 0, 0, 0, 0)] = true := by decide +kernel
theorem ck_M_old_53 : ia_cks 12 11 false prog_14_method_105_code 53 [(.lload 8, 0, 0, 0, 0), (.lcmp, 0, 0, 0, 0), (.ifCond .ne 6, 0, 0, 0, 0)] = true := by decide +kernel
theorem ck_M_old_59 : ia_cks 12 11 false prog_14_method_105_code 59 [(.iload 10, 0, 0, 0, 0)] = true := by decide +kernel
theorem ck_M_old_72 : ia_cks 12 11 false prog_14_method_105_code 72 [(.iconst (-1), 0, 0, 0, 0)] = true := by decide +kernel
theorem dc_M_old_2 : decode prog_14_method_105_code 2 = .ok (.invokestatic 349, 3) := by decide +kernel
theorem dc_M_old_25 : decode prog_14_method_105_code 25 = .ok (.ireturn, 1) := by decide +kernel
theorem dc_M_old_18 : decode prog_14_method_105_code 18 = .ok (.invokevirtual 325, 3) := by decide +kernel
theorem dc_M_old_43 : decode prog_14_method_105_code 43 = .ok (.invokevirtual 287, 3) := by decide +kernel
theorem dc_M_old_63 : decode prog_14_method_105_code 63 = .ok (.invokevirtual 290, 3) := by decide +kernel
theorem dc_M_old_50 : decode prog_14_method_105_code 50 = .ok (.invokevirtual 381, 3) := by decide +kernel
theorem dc_M_old_61 : decode prog_14_method_105_code 61 = .ok (.ireturn, 1) := by decide +kernel
theorem dc_M_old_73 : decode prog_14_method_105_code 73 = .ok (.ireturn, 1) := by decide +kernel
def j_M_old_62 (x1 : Int32) (x2 : Int32) (x3 : Int32) (x4 : Int32) (x5 : Int32) (x6 : Int32) (x7 : Int32) (y8 : Int64) (kr : Int32 → ia_H → Option (Int32 × ia_H)) (k59 : Int32 → ia_H → Option (Int32 × ia_H)) (k72 : ia_H → Option (Int32 × ia_H)) (x10 : Int32) (h : ia_H) : Option (Int32 × ia_H) := (f_M_aDay h).bind fun v4 => (kr (x10 + 1) v4)
theorem tj_M_old_62 {w : ia_O0} {d N1 W1 : Nat} {K : ia_K} (hK : ia_isK (d + 12) mm_M_old N1 W1 K) {x1 : Int32} {x2 : Int32} {x3 : Int32} {x4 : Int32} {x5 : Int32} {x6 : Int32} {x7 : Int32} {y8 : Int64} {r : Int32} {h1 : ia_H} (hret : ∀ (pc : Nat) (lv : ia_L), ia_ret mm_M_old pc (some (.inl r)) → K pc lv ((some (.inl r)) : Option ia_V).toList h1) {kr : Int32 → ia_H → Option (Int32 × ia_H)} {k59 : Int32 → ia_H → Option (Int32 × ia_H)} {k72 : ia_H → Option (Int32 × ia_H)} (hkr : ∀ (x10 : Int32) (h : ia_H), gd_ w h → kr x10 h = some (r, h1) → K 29 [some (.inr (.inr 417)), none, none, none, none, some (.inl x5), some (.inl x6), some (.inl x7), some (.inr (.inl y8)), none, some (.inl x10)] [] h) (hk59 : ∀ (x10 : Int32) (h : ia_H), gd_ w h → k59 x10 h = some (r, h1) → K 59 [none, none, none, none, none, none, none, none, none, none, some (.inl x10)] [] h) (hk72 : ∀ (h : ia_H), gd_ w h → k72 h = some (r, h1) → K 72 [none, none, none, none, none, none, none, none, none, none, none] [] h) : ∀ (x10 : Int32) (h : ia_H), gd_ w h → j_M_old_62 x1 x2 x3 x4 x5 x6 x7 y8 kr k59 k72 x10 h = some (r, h1) → K 62 [some (.inr (.inr 417)), none, none, none, none, some (.inl x5), some (.inl x6), some (.inl x7), some (.inr (.inl y8)), none, some (.inl x10)] [] h := by
  intro x10 h hg hm
  unfold j_M_old_62 at hm
  refine ia_go hK ck_M_old_62 ?_
  show K 63 [some (.inr (.inr 417)), none, none, none, none, some (.inl x5), some (.inl x6), some (.inl x7), some (.inr (.inl y8)), none, some (.inl x10)] [.inr (.inr 417)] h
  obtain ⟨v4, hv4, hm⟩ := ia_bnd hm
  have ev4 := t_M_aDay (d + 4) hg hv4
  have gv4 := g_M_aDay hg hv4
  refine ia_cV hK mk_M_aDay lk_12_290 dc_M_old_63 417 [] [] rfl rfl (Nat.le_of_ble_eq_true rfl) (by decide) rfl (gk_12 hg pk_417) ev4 (gd_nm hg gv4) ?_
  show K 66 [some (.inr (.inr 417)), none, none, none, none, some (.inl x5), some (.inl x6), some (.inl x7), some (.inr (.inl y8)), none, some (.inl x10)] [] v4
  refine ia_go hK ck_M_old_66 ?_
  show K 29 [some (.inr (.inr 417)), none, none, none, none, some (.inl x5), some (.inl x6), some (.inl x7), some (.inr (.inl y8)), none, some (.inl (x10 + 1))] [] v4
  exact hkr (x10 + 1) v4 gv4 hm
theorem gj_M_old_62 {w : ia_O0} {x1 : Int32} {x2 : Int32} {x3 : Int32} {x4 : Int32} {x5 : Int32} {x6 : Int32} {x7 : Int32} {y8 : Int64} {r : Int32} {h1 : ia_H} {kr : Int32 → ia_H → Option (Int32 × ia_H)} {k59 : Int32 → ia_H → Option (Int32 × ia_H)} {k72 : ia_H → Option (Int32 × ia_H)} (hkr : ∀ (x10 : Int32) (h : ia_H), gd_ w h → kr x10 h = some (r, h1) → gd_ w h1) (hk59 : ∀ (x10 : Int32) (h : ia_H), gd_ w h → k59 x10 h = some (r, h1) → gd_ w h1) (hk72 : ∀ (h : ia_H), gd_ w h → k72 h = some (r, h1) → gd_ w h1) : ∀ (x10 : Int32) (h : ia_H), gd_ w h → j_M_old_62 x1 x2 x3 x4 x5 x6 x7 y8 kr k59 k72 x10 h = some (r, h1) → gd_ w h1 := by
  intro x10 h hg hm
  unfold j_M_old_62 at hm
  obtain ⟨v4, hv4, hm⟩ := ia_bnd hm
  have gv4 := g_M_aDay hg hv4
  exact hkr (x10 + 1) v4 gv4 hm
def l_M_old_29 (x1 : Int32) (x2 : Int32) (x3 : Int32) (x4 : Int32) (x5 : Int32) (x6 : Int32) (x7 : Int32) (y8 : Int64) (k59 : Int32 → ia_H → Option (Int32 × ia_H)) (k72 : ia_H → Option (Int32 × ia_H)) (n : Nat) (x10 : Int32) (h : ia_H) : Option (Int32 × ia_H) := match n with
  | 0 => none
  | n + 1 => if 30 < x10 then (k72 h) else ((f_M_shortWay x6 x7 x5 h).bind fun v3 => (if v3.1 = 0 then (j_M_old_62 x1 x2 x3 x4 x5 x6 x7 y8 (l_M_old_29 x1 x2 x3 x4 x5 x6 x7 y8 k59 k72 n) k59 k72 x10 v3.2) else ((f_M_bitsOfPath v3.2).bind fun v5 => (if (lg_cmp v5 y8) = 0 then (k59 x10 v3.2) else (j_M_old_62 x1 x2 x3 x4 x5 x6 x7 y8 (l_M_old_29 x1 x2 x3 x4 x5 x6 x7 y8 k59 k72 n) k59 k72 x10 v3.2)))))
theorem tl_M_old_29 {w : ia_O0} {d N1 W1 : Nat} {K : ia_K} (hK : ia_isK (d + 12) mm_M_old N1 W1 K) {x1 : Int32} {x2 : Int32} {x3 : Int32} {x4 : Int32} {x5 : Int32} {x6 : Int32} {x7 : Int32} {y8 : Int64} {r : Int32} {h1 : ia_H} (hret : ∀ (pc : Nat) (lv : ia_L), ia_ret mm_M_old pc (some (.inl r)) → K pc lv ((some (.inl r)) : Option ia_V).toList h1) {k59 : Int32 → ia_H → Option (Int32 × ia_H)} {k72 : ia_H → Option (Int32 × ia_H)} (hk59 : ∀ (x10 : Int32) (h : ia_H), gd_ w h → k59 x10 h = some (r, h1) → K 59 [none, none, none, none, none, none, none, none, none, none, some (.inl x10)] [] h) (hk72 : ∀ (h : ia_H), gd_ w h → k72 h = some (r, h1) → K 72 [none, none, none, none, none, none, none, none, none, none, none] [] h) : ∀ (n : Nat) (x10 : Int32) (h : ia_H), gd_ w h → l_M_old_29 x1 x2 x3 x4 x5 x6 x7 y8 k59 k72 n x10 h = some (r, h1) → K 29 [some (.inr (.inr 417)), none, none, none, none, some (.inl x5), some (.inl x6), some (.inl x7), some (.inr (.inl y8)), none, some (.inl x10)] [] h := by
  intro n
  induction n with
  | zero =>
    intro x10 h hg hm
    cases (show (none : Option (Int32 × ia_H)) = some _ from hm)
  | succ n ih =>
    intro x10 h hg hm
    rw [l_M_old_29] at hm
    refine ia_go hK ck_M_old_29 ⟨fun c => ?_, fun c => ?_⟩
    · replace hm := ia_ifp hm c
      show K 72 [some (.inr (.inr 417)), none, none, none, none, some (.inl x5), some (.inl x6), some (.inl x7), some (.inr (.inl y8)), none, some (.inl x10)] [] h
      refine ia_fg hK (lv' := [none, none, none, none, none, none, none, none, none, none, none]) trivial ?_
      exact hk72 h hg hm
    · replace hm := ia_ifn hm c
      show K 36 [some (.inr (.inr 417)), none, none, none, none, some (.inl x5), some (.inl x6), some (.inl x7), some (.inr (.inl y8)), none, some (.inl x10)] [] h
      refine ia_go hK ck_M_old_36 ?_
      show K 43 [some (.inr (.inr 417)), none, none, none, none, some (.inl x5), some (.inl x6), some (.inl x7), some (.inr (.inl y8)), none, some (.inl x10)] [.inl x5, .inl x7, .inl x6, .inr (.inr 417)] h
      obtain ⟨v3, hv3, hm⟩ := ia_bnd hm
      have ev3 := t_M_shortWay (d + 4) hg hv3
      have gv3 := g_M_shortWay hg hv3
      refine ia_cV hK mk_M_shortWay lk_12_287 dc_M_old_43 417 [.inl x6, .inl x7, .inl x5] [] rfl rfl (Nat.le_of_ble_eq_true rfl) (by decide) rfl (gk_12 hg pk_417) ev3 (gd_nm hg gv3) ?_
      show K 46 [some (.inr (.inr 417)), none, none, none, none, some (.inl x5), some (.inl x6), some (.inl x7), some (.inr (.inl y8)), none, some (.inl x10)] [.inl v3.1] v3.2
      refine ia_go hK ck_M_old_46 ⟨fun c => ?_, fun c => ?_⟩
      · replace hm := ia_ifp hm c
        show K 62 [some (.inr (.inr 417)), none, none, none, none, some (.inl x5), some (.inl x6), some (.inl x7), some (.inr (.inl y8)), none, some (.inl x10)] [] v3.2
        exact tj_M_old_62 hK hret ih hk59 hk72 x10 v3.2 gv3 hm
      · replace hm := ia_ifn hm c
        show K 49 [some (.inr (.inr 417)), none, none, none, none, some (.inl x5), some (.inl x6), some (.inl x7), some (.inr (.inl y8)), none, some (.inl x10)] [] v3.2
        refine ia_go hK ck_M_old_49 ?_
        show K 50 [some (.inr (.inr 417)), none, none, none, none, some (.inl x5), some (.inl x6), some (.inl x7), some (.inr (.inl y8)), none, some (.inl x10)] [.inr (.inr 417)] v3.2
        obtain ⟨v5, hv5, hm⟩ := ia_bnd hm
        have ev5 := t_M_bitsOfPath (d + 11) gv3 hv5
        refine ia_cV hK mk_M_bitsOfPath lk_12_381 dc_M_old_50 417 [] [] rfl rfl (Nat.le_of_ble_eq_true rfl) (by decide) rfl (gk_12 gv3 pk_417) ev5 ⟨rfl, rfl⟩ ?_
        show K 53 [some (.inr (.inr 417)), none, none, none, none, some (.inl x5), some (.inl x6), some (.inl x7), some (.inr (.inl y8)), none, some (.inl x10)] [.inr (.inl v5)] v3.2
        refine ia_go hK ck_M_old_53 ⟨fun c => ?_, fun c => ?_⟩
        · replace hm := ia_ifn hm c
          show K 62 [some (.inr (.inr 417)), none, none, none, none, some (.inl x5), some (.inl x6), some (.inl x7), some (.inr (.inl y8)), none, some (.inl x10)] [] v3.2
          exact tj_M_old_62 hK hret ih hk59 hk72 x10 v3.2 gv3 hm
        · replace hm := ia_ifp hm c
          show K 59 [some (.inr (.inr 417)), none, none, none, none, some (.inl x5), some (.inl x6), some (.inl x7), some (.inr (.inl y8)), none, some (.inl x10)] [] v3.2
          refine ia_fg hK (lv' := [none, none, none, none, none, none, none, none, none, none, some (.inl x10)]) ⟨rfl, trivial⟩ ?_
          exact hk59 x10 v3.2 gv3 hm
theorem gl_M_old_29 {w : ia_O0} {x1 : Int32} {x2 : Int32} {x3 : Int32} {x4 : Int32} {x5 : Int32} {x6 : Int32} {x7 : Int32} {y8 : Int64} {r : Int32} {h1 : ia_H} {k59 : Int32 → ia_H → Option (Int32 × ia_H)} {k72 : ia_H → Option (Int32 × ia_H)} (hk59 : ∀ (x10 : Int32) (h : ia_H), gd_ w h → k59 x10 h = some (r, h1) → gd_ w h1) (hk72 : ∀ (h : ia_H), gd_ w h → k72 h = some (r, h1) → gd_ w h1) : ∀ (n : Nat) (x10 : Int32) (h : ia_H), gd_ w h → l_M_old_29 x1 x2 x3 x4 x5 x6 x7 y8 k59 k72 n x10 h = some (r, h1) → gd_ w h1 := by
  intro n
  induction n with
  | zero =>
    intro x10 h hg hm
    cases (show (none : Option (Int32 × ia_H)) = some _ from hm)
  | succ n ih =>
    intro x10 h hg hm
    rw [l_M_old_29] at hm
    by_cases c : 30 < x10
    · replace hm := ia_ifp hm c
      exact hk72 h hg hm
    · replace hm := ia_ifn hm c
      obtain ⟨v3, hv3, hm⟩ := ia_bnd hm
      have gv3 := g_M_shortWay hg hv3
      by_cases c : v3.1 = 0
      · replace hm := ia_ifp hm c
        exact gj_M_old_62 ih hk59 hk72 x10 v3.2 gv3 hm
      · replace hm := ia_ifn hm c
        obtain ⟨v5, hv5, hm⟩ := ia_bnd hm
        by_cases c : (lg_cmp v5 y8) = 0
        · replace hm := ia_ifp hm c
          exact hk59 x10 v3.2 gv3 hm
        · replace hm := ia_ifn hm c
          exact gj_M_old_62 ih hk59 hk72 x10 v3.2 gv3 hm
def f_M_old (x1 : Int32) (x2 : Int32) (x3 : Int32) (x4 : Int32) (x5 : Int32) (x6 : Int32) (x7 : Int32) (y8 : Int64) (h : ia_H) : Option (Int32 × ia_H) := (f_M_isLoad x5 h).bind fun v1 => (if v1 = 0 then (some ((-1), h)) else ((f_M_areWays x1 x2 x3 x4 x6 x7 h).bind fun v2 => (if v2.1 = 0 then (some ((-1), v2.2)) else (l_M_old_29 x1 x2 x3 x4 x5 x6 x7 y8 (fun x10 h => some (x10, h)) (fun h => some ((-1), h)) fu_ 0 v2.2))))
theorem g_M_old {w : ia_O0} {x1 : Int32} {x2 : Int32} {x3 : Int32} {x4 : Int32} {x5 : Int32} {x6 : Int32} {x7 : Int32} {y8 : Int64} {h : ia_H} (hg : gd_ w h) {q : (Int32 × ia_H)} (hm : f_M_old x1 x2 x3 x4 x5 x6 x7 y8 h = some q) : gd_ w q.2 := by
  obtain ⟨r, h1⟩ := q
  unfold f_M_old at hm
  obtain ⟨v1, hv1, hm⟩ := ia_bnd hm
  by_cases c : v1 = 0
  · replace hm := ia_ifp hm c
    obtain ⟨rfl, rfl⟩ := Prod.mk.inj (Option.some.inj hm)
    exact hg
  · replace hm := ia_ifn hm c
    obtain ⟨v2, hv2, hm⟩ := ia_bnd hm
    have gv2 := g_M_areWays hg hv2
    by_cases c : v2.1 = 0
    · replace hm := ia_ifp hm c
      obtain ⟨rfl, rfl⟩ := Prod.mk.inj (Option.some.inj hm)
      exact gv2
    · replace hm := ia_ifn hm c
      refine gl_M_old_29 ?_ ?_ fu_ 0 v2.2 gv2 hm
      · intro x10 h hg hm
        obtain ⟨rfl, rfl⟩ := Prod.mk.inj (Option.some.inj hm)
        exact hg
      · intro h hg hm
        obtain ⟨rfl, rfl⟩ := Prod.mk.inj (Option.some.inj hm)
        exact hg
theorem t_M_old {w : ia_O0} (d : Nat) {x1 : Int32} {x2 : Int32} {x3 : Int32} {x4 : Int32} {x5 : Int32} {x6 : Int32} {x7 : Int32} {y8 : Int64} {h : ia_H} (hg : gd_ w h) {q : (Int32 × ia_H)} (hm : f_M_old x1 x2 x3 x4 x5 x6 x7 y8 h = some q) : ia_Ev (d + 12) mm_M_old [.inr (.inr 417), .inl x1, .inl x2, .inl x3, .inl x4, .inl x5, .inl x6, .inl x7, .inr (.inl y8)] h (some (.inl q.1)) q.2 := by
  have gq := g_M_old hg hm
  refine ia_Ev_intro ok_M_old (gd_le hg gq).1 (gd_le hg gq).2 (Nat.le_of_ble_eq_true rfl) (fun K hK hret => ?_)
  obtain ⟨r, h1⟩ := q
  show K 0 [some (.inr (.inr 417)), some (.inl x1), some (.inl x2), some (.inl x3), some (.inl x4), some (.inl x5), some (.inl x6), some (.inl x7), some (.inr (.inl y8)), none, none] [] h
  unfold f_M_old at hm
  refine ia_go hK ck_M_old_0 ?_
  show K 2 [some (.inr (.inr 417)), some (.inl x1), some (.inl x2), some (.inl x3), some (.inl x4), some (.inl x5), some (.inl x6), some (.inl x7), some (.inr (.inl y8)), none, none] [.inl x5] h
  obtain ⟨v1, hv1, hm⟩ := ia_bnd hm
  have ev1 := t_M_isLoad (d + 10) hg hv1
  refine ia_cS hK mk_M_isLoad lk_12_349 dc_M_old_2 [.inl x5] [] rfl rfl (Nat.le_of_ble_eq_true rfl) ev1 ⟨rfl, rfl⟩ ?_
  show K 5 [some (.inr (.inr 417)), some (.inl x1), some (.inl x2), some (.inl x3), some (.inl x4), some (.inl x5), some (.inl x6), some (.inl x7), some (.inr (.inl y8)), none, none] [.inl v1] h
  refine ia_go hK ck_M_old_5 ⟨fun c => ?_, fun c => ?_⟩
  · replace hm := ia_ifp hm c
    show K 24 [some (.inr (.inr 417)), some (.inl x1), some (.inl x2), some (.inl x3), some (.inl x4), some (.inl x5), some (.inl x6), some (.inl x7), some (.inr (.inl y8)), none, none] [] h
    refine ia_go hK ck_M_old_24 ?_
    show K 25 [some (.inr (.inr 417)), some (.inl x1), some (.inl x2), some (.inl x3), some (.inl x4), some (.inl x5), some (.inl x6), some (.inl x7), some (.inr (.inl y8)), none, none] [.inl (-1)] h
    obtain ⟨rfl, rfl⟩ := Prod.mk.inj (Option.some.inj hm)
    exact hret 25 _ dc_M_old_25
  · replace hm := ia_ifn hm c
    show K 8 [some (.inr (.inr 417)), some (.inl x1), some (.inl x2), some (.inl x3), some (.inl x4), some (.inl x5), some (.inl x6), some (.inl x7), some (.inr (.inl y8)), none, none] [] h
    refine ia_go hK ck_M_old_8 ?_
    show K 18 [some (.inr (.inr 417)), some (.inl x1), some (.inl x2), some (.inl x3), some (.inl x4), some (.inl x5), some (.inl x6), some (.inl x7), some (.inr (.inl y8)), none, none] [.inl x7, .inl x6, .inl x4, .inl x3, .inl x2, .inl x1, .inr (.inr 417)] h
    obtain ⟨v2, hv2, hm⟩ := ia_bnd hm
    have ev2 := t_M_areWays (d + 0) hg hv2
    have gv2 := g_M_areWays hg hv2
    refine ia_cV hK mk_M_areWays lk_12_325 dc_M_old_18 417 [.inl x1, .inl x2, .inl x3, .inl x4, .inl x6, .inl x7] [] rfl rfl (Nat.le_of_ble_eq_true rfl) (by decide) rfl (gk_12 hg pk_417) ev2 (gd_nm hg gv2) ?_
    show K 21 [some (.inr (.inr 417)), some (.inl x1), some (.inl x2), some (.inl x3), some (.inl x4), some (.inl x5), some (.inl x6), some (.inl x7), some (.inr (.inl y8)), none, none] [.inl v2.1] v2.2
    refine ia_go hK ck_M_old_21 ⟨fun c => ?_, fun c => ?_⟩
    · replace hm := ia_ifn hm c
      show K 26 [some (.inr (.inr 417)), some (.inl x1), some (.inl x2), some (.inl x3), some (.inl x4), some (.inl x5), some (.inl x6), some (.inl x7), some (.inr (.inl y8)), none, none] [] v2.2
      refine ia_go hK ck_M_old_26 ?_
      show K 29 [some (.inr (.inr 417)), some (.inl x1), some (.inl x2), some (.inl x3), some (.inl x4), some (.inl x5), some (.inl x6), some (.inl x7), some (.inr (.inl y8)), none, some (.inl 0)] [] v2.2
      refine ia_fg hK (lv' := [some (.inr (.inr 417)), none, none, none, none, some (.inl x5), some (.inl x6), some (.inl x7), some (.inr (.inl y8)), none, some (.inl 0)]) ⟨rfl, rfl, rfl, rfl, rfl, rfl, trivial⟩ ?_
      refine tl_M_old_29 hK hret ?_ ?_ fu_ 0 v2.2 gv2 hm
      · intro x10 h hg hm
        refine ia_go hK ck_M_old_59 ?_
        show K 61 [none, none, none, none, none, none, none, none, none, none, some (.inl x10)] [.inl x10] h
        obtain ⟨rfl, rfl⟩ := Prod.mk.inj (Option.some.inj hm)
        exact hret 61 _ dc_M_old_61
      · intro h hg hm
        refine ia_go hK ck_M_old_72 ?_
        show K 73 [none, none, none, none, none, none, none, none, none, none, none] [.inl (-1)] h
        obtain ⟨rfl, rfl⟩ := Prod.mk.inj (Option.some.inj hm)
        exact hret 73 _ dc_M_old_73
    · replace hm := ia_ifp hm c
      show K 24 [some (.inr (.inr 417)), some (.inl x1), some (.inl x2), some (.inl x3), some (.inl x4), some (.inl x5), some (.inl x6), some (.inl x7), some (.inr (.inl y8)), none, none] [] v2.2
      refine ia_go hK ck_M_old_24 ?_
      show K 25 [some (.inr (.inr 417)), some (.inl x1), some (.inl x2), some (.inl x3), some (.inl x4), some (.inl x5), some (.inl x6), some (.inl x7), some (.inr (.inl y8)), none, none] [.inl (-1)] v2.2
      obtain ⟨rfl, rfl⟩ := Prod.mk.inj (Option.some.inj hm)
      exact hret 25 _ dc_M_old_25
def mm_M_firstDay : ia_M := (⟨"IceStreetModel", "firstDay", "(IIIZ)I"⟩, prog_14_method_106_code, 6, (some .int), 12, false)
theorem ok_M_firstDay : ia_mok mm_M_firstDay := ⟨by decide +kernel, by decide +kernel, by decide +kernel, by decide +kernel⟩
theorem mk_M_firstDay : ia_mkn mm_M_firstDay 1 4 := ⟨ia_tb_in (List.mem_of_getElem? (i := 2140) (by decide +kernel)) rfl, ia_tb_in (List.mem_of_getElem? (i := 146) (by decide +kernel)) rfl, by decide +kernel, by decide +kernel, ⟨ia_tb_in (List.mem_of_getElem? (i := 2139) (by decide +kernel)) rfl, ia_tb_in (List.mem_of_getElem? (i := 122) (by decide +kernel)) rfl⟩⟩
theorem ck_M_firstDay_0 : ia_cks 12 6 false prog_14_method_106_code 0 [(.iconst 0, 0, 0, 0, 0), (.istore 5, 0, 0, 0, 0)] = true := by decide +kernel
theorem ck_M_firstDay_3 : ia_cks 12 6 false prog_14_method_106_code 3 [(.iload 5, 0, 0, 0, 0), (.bipush 60, 0, 0, 0, 0), (.if_icmp .gt 29, 0, 0, 0, 0)] = true := by decide +kernel
theorem ck_M_firstDay_10 : ia_cks 12 6 false prog_14_method_106_code 10 [(.aload_n 0, 0, 0, 0, 0), (.iload_n 1, 0, 0, 0, 0), (.iload_n 2, 0, 0, 0, 0), (.iload_n 3, 0, 0, 0, 0), (.iconst (-1), 0, 0, 0, 0)] = true := by decide +kernel
theorem ck_M_firstDay_18 : ia_cks 12 6 false prog_14_method_106_code 18 [(.iload 4, 0, 0, 0, 0), (.if_icmp .ne 6, 0, 0, 0, 0)] = true := by decide +kernel
theorem ck_M_firstDay_26 : ia_cks 12 6 false prog_14_method_106_code 26 [(.aload_n 0, 0, 0, 0, 0)] = true := by decide +kernel
theorem ck_M_firstDay_30 : ia_cks 12 6 false prog_14_method_106_code 30 [(.iinc 5 1, 0, 0, 0, 0), (.goto (-30), 0, 0, 0, 0)] = true := by decide +kernel
theorem ck_M_firstDay_23 : ia_cks 12 6 false prog_14_method_106_code 23 [(.iload 5, 0, 0, 0, 0)] = true := by decide +kernel
theorem ck_M_firstDay_36 : ia_cks 12 6 false prog_14_method_106_code 36 [(.iconst (-1), 0, 0, 0, 0)] = true := by decide +kernel
theorem dc_M_firstDay_15 : decode prog_14_method_106_code 15 = .ok (.invokevirtual 269, 3) := by decide +kernel
theorem dc_M_firstDay_27 : decode prog_14_method_106_code 27 = .ok (.invokevirtual 290, 3) := by decide +kernel
theorem dc_M_firstDay_25 : decode prog_14_method_106_code 25 = .ok (.ireturn, 1) := by decide +kernel
theorem dc_M_firstDay_37 : decode prog_14_method_106_code 37 = .ok (.ireturn, 1) := by decide +kernel
def l_M_firstDay_3 (x1 : Int32) (x2 : Int32) (x3 : Int32) (x4 : Int32) (k23 : Int32 → ia_H → Option (Int32 × ia_H)) (k36 : ia_H → Option (Int32 × ia_H)) (n : Nat) (x5 : Int32) (h : ia_H) : Option (Int32 × ia_H) := match n with
  | 0 => none
  | n + 1 => if 60 < x5 then (k36 h) else ((f_M_isWay x1 x2 x3 (-1) h).bind fun v1 => (if v1.1 = x4 then (k23 x5 v1.2) else ((f_M_aDay v1.2).bind fun v2 => (l_M_firstDay_3 x1 x2 x3 x4 k23 k36 n (x5 + 1) v2))))
theorem tl_M_firstDay_3 {w : ia_O0} {d N1 W1 : Nat} {K : ia_K} (hK : ia_isK (d + 8) mm_M_firstDay N1 W1 K) {x1 : Int32} {x2 : Int32} {x3 : Int32} {x4 : Int32} {r : Int32} {h1 : ia_H} (hret : ∀ (pc : Nat) (lv : ia_L), ia_ret mm_M_firstDay pc (some (.inl r)) → K pc lv ((some (.inl r)) : Option ia_V).toList h1) {k23 : Int32 → ia_H → Option (Int32 × ia_H)} {k36 : ia_H → Option (Int32 × ia_H)} (hk23 : ∀ (x5 : Int32) (h : ia_H), gd_ w h → k23 x5 h = some (r, h1) → K 23 [none, none, none, none, none, some (.inl x5)] [] h) (hk36 : ∀ (h : ia_H), gd_ w h → k36 h = some (r, h1) → K 36 [none, none, none, none, none, none] [] h) : ∀ (n : Nat) (x5 : Int32) (h : ia_H), gd_ w h → l_M_firstDay_3 x1 x2 x3 x4 k23 k36 n x5 h = some (r, h1) → K 3 [some (.inr (.inr 417)), some (.inl x1), some (.inl x2), some (.inl x3), some (.inl x4), some (.inl x5)] [] h := by
  intro n
  induction n with
  | zero =>
    intro x5 h hg hm
    cases (show (none : Option (Int32 × ia_H)) = some _ from hm)
  | succ n ih =>
    intro x5 h hg hm
    rw [l_M_firstDay_3] at hm
    refine ia_go hK ck_M_firstDay_3 ⟨fun c => ?_, fun c => ?_⟩
    · replace hm := ia_ifp hm c
      show K 36 [some (.inr (.inr 417)), some (.inl x1), some (.inl x2), some (.inl x3), some (.inl x4), some (.inl x5)] [] h
      refine ia_fg hK (lv' := [none, none, none, none, none, none]) trivial ?_
      exact hk36 h hg hm
    · replace hm := ia_ifn hm c
      show K 10 [some (.inr (.inr 417)), some (.inl x1), some (.inl x2), some (.inl x3), some (.inl x4), some (.inl x5)] [] h
      refine ia_go hK ck_M_firstDay_10 ?_
      show K 15 [some (.inr (.inr 417)), some (.inl x1), some (.inl x2), some (.inl x3), some (.inl x4), some (.inl x5)] [.inl (-1), .inl x3, .inl x2, .inl x1, .inr (.inr 417)] h
      obtain ⟨v1, hv1, hm⟩ := ia_bnd hm
      have ev1 := t_M_isWay (d + 1) hg hv1
      have gv1 := g_M_isWay hg hv1
      refine ia_cV hK mk_M_isWay lk_12_269 dc_M_firstDay_15 417 [.inl x1, .inl x2, .inl x3, .inl (-1)] [] rfl rfl (Nat.le_of_ble_eq_true rfl) (by decide) rfl (gk_12 hg pk_417) ev1 (gd_nm hg gv1) ?_
      show K 18 [some (.inr (.inr 417)), some (.inl x1), some (.inl x2), some (.inl x3), some (.inl x4), some (.inl x5)] [.inl v1.1] v1.2
      refine ia_go hK ck_M_firstDay_18 ⟨fun c => ?_, fun c => ?_⟩
      · replace hm := ia_ifn hm c
        show K 26 [some (.inr (.inr 417)), some (.inl x1), some (.inl x2), some (.inl x3), some (.inl x4), some (.inl x5)] [] v1.2
        refine ia_go hK ck_M_firstDay_26 ?_
        show K 27 [some (.inr (.inr 417)), some (.inl x1), some (.inl x2), some (.inl x3), some (.inl x4), some (.inl x5)] [.inr (.inr 417)] v1.2
        obtain ⟨v2, hv2, hm⟩ := ia_bnd hm
        have ev2 := t_M_aDay (d + 0) gv1 hv2
        have gv2 := g_M_aDay gv1 hv2
        refine ia_cV hK mk_M_aDay lk_12_290 dc_M_firstDay_27 417 [] [] rfl rfl (Nat.le_of_ble_eq_true rfl) (by decide) rfl (gk_12 gv1 pk_417) ev2 (gd_nm gv1 gv2) ?_
        show K 30 [some (.inr (.inr 417)), some (.inl x1), some (.inl x2), some (.inl x3), some (.inl x4), some (.inl x5)] [] v2
        refine ia_go hK ck_M_firstDay_30 ?_
        show K 3 [some (.inr (.inr 417)), some (.inl x1), some (.inl x2), some (.inl x3), some (.inl x4), some (.inl (x5 + 1))] [] v2
        exact ih (x5 + 1) v2 gv2 hm
      · replace hm := ia_ifp hm c
        show K 23 [some (.inr (.inr 417)), some (.inl x1), some (.inl x2), some (.inl x3), some (.inl x4), some (.inl x5)] [] v1.2
        refine ia_fg hK (lv' := [none, none, none, none, none, some (.inl x5)]) ⟨rfl, trivial⟩ ?_
        exact hk23 x5 v1.2 gv1 hm
theorem gl_M_firstDay_3 {w : ia_O0} {x1 : Int32} {x2 : Int32} {x3 : Int32} {x4 : Int32} {r : Int32} {h1 : ia_H} {k23 : Int32 → ia_H → Option (Int32 × ia_H)} {k36 : ia_H → Option (Int32 × ia_H)} (hk23 : ∀ (x5 : Int32) (h : ia_H), gd_ w h → k23 x5 h = some (r, h1) → gd_ w h1) (hk36 : ∀ (h : ia_H), gd_ w h → k36 h = some (r, h1) → gd_ w h1) : ∀ (n : Nat) (x5 : Int32) (h : ia_H), gd_ w h → l_M_firstDay_3 x1 x2 x3 x4 k23 k36 n x5 h = some (r, h1) → gd_ w h1 := by
  intro n
  induction n with
  | zero =>
    intro x5 h hg hm
    cases (show (none : Option (Int32 × ia_H)) = some _ from hm)
  | succ n ih =>
    intro x5 h hg hm
    rw [l_M_firstDay_3] at hm
    by_cases c : 60 < x5
    · replace hm := ia_ifp hm c
      exact hk36 h hg hm
    · replace hm := ia_ifn hm c
      obtain ⟨v1, hv1, hm⟩ := ia_bnd hm
      have gv1 := g_M_isWay hg hv1
      by_cases c : v1.1 = x4
      · replace hm := ia_ifp hm c
        exact hk23 x5 v1.2 gv1 hm
      · replace hm := ia_ifn hm c
        obtain ⟨v2, hv2, hm⟩ := ia_bnd hm
        have gv2 := g_M_aDay gv1 hv2
        exact ih (x5 + 1) v2 gv2 hm
def f_M_firstDay (x1 : Int32) (x2 : Int32) (x3 : Int32) (x4 : Int32) (h : ia_H) : Option (Int32 × ia_H) := l_M_firstDay_3 x1 x2 x3 x4 (fun x5 h => some (x5, h)) (fun h => some ((-1), h)) fu_ 0 h
theorem g_M_firstDay {w : ia_O0} {x1 : Int32} {x2 : Int32} {x3 : Int32} {x4 : Int32} {h : ia_H} (hg : gd_ w h) {q : (Int32 × ia_H)} (hm : f_M_firstDay x1 x2 x3 x4 h = some q) : gd_ w q.2 := by
  obtain ⟨r, h1⟩ := q
  unfold f_M_firstDay at hm
  refine gl_M_firstDay_3 ?_ ?_ fu_ 0 h hg hm
  · intro x5 h hg hm
    obtain ⟨rfl, rfl⟩ := Prod.mk.inj (Option.some.inj hm)
    exact hg
  · intro h hg hm
    obtain ⟨rfl, rfl⟩ := Prod.mk.inj (Option.some.inj hm)
    exact hg
theorem t_M_firstDay {w : ia_O0} (d : Nat) {x1 : Int32} {x2 : Int32} {x3 : Int32} {x4 : Int32} {h : ia_H} (hg : gd_ w h) {q : (Int32 × ia_H)} (hm : f_M_firstDay x1 x2 x3 x4 h = some q) : ia_Ev (d + 8) mm_M_firstDay [.inr (.inr 417), .inl x1, .inl x2, .inl x3, .inl x4] h (some (.inl q.1)) q.2 := by
  have gq := g_M_firstDay hg hm
  refine ia_Ev_intro ok_M_firstDay (gd_le hg gq).1 (gd_le hg gq).2 (Nat.le_of_ble_eq_true rfl) (fun K hK hret => ?_)
  obtain ⟨r, h1⟩ := q
  show K 0 [some (.inr (.inr 417)), some (.inl x1), some (.inl x2), some (.inl x3), some (.inl x4), none] [] h
  unfold f_M_firstDay at hm
  refine ia_go hK ck_M_firstDay_0 ?_
  show K 3 [some (.inr (.inr 417)), some (.inl x1), some (.inl x2), some (.inl x3), some (.inl x4), some (.inl 0)] [] h
  refine tl_M_firstDay_3 hK hret ?_ ?_ fu_ 0 h hg hm
  · intro x5 h hg hm
    refine ia_go hK ck_M_firstDay_23 ?_
    show K 25 [none, none, none, none, none, some (.inl x5)] [.inl x5] h
    obtain ⟨rfl, rfl⟩ := Prod.mk.inj (Option.some.inj hm)
    exact hret 25 _ dc_M_firstDay_25
  · intro h hg hm
    refine ia_go hK ck_M_firstDay_36 ?_
    show K 37 [none, none, none, none, none, none] [.inl (-1)] h
    obtain ⟨rfl, rfl⟩ := Prod.mk.inj (Option.some.inj hm)
    exact hret 37 _ dc_M_firstDay_37
def mm_M_thaw : ia_M := (⟨"IceStreetModel", "thaw", "(IIIIIII)I"⟩, prog_14_method_107_code, 8, (some .int), 12, false)
theorem ok_M_thaw : ia_mok mm_M_thaw := ⟨by decide +kernel, by decide +kernel, by decide +kernel, by decide +kernel⟩
theorem mk_M_thaw : ia_mkn mm_M_thaw 1 7 := ⟨ia_tb_in (List.mem_of_getElem? (i := 2136) (by decide +kernel)) rfl, ia_tb_in (List.mem_of_getElem? (i := 146) (by decide +kernel)) rfl, by decide +kernel, by decide +kernel, ⟨ia_tb_in (List.mem_of_getElem? (i := 2134) (by decide +kernel)) rfl, ia_tb_in (List.mem_of_getElem? (i := 2135) (by decide +kernel)) rfl⟩⟩
theorem ck_M_thaw_0 : ia_cks 12 8 false prog_14_method_107_code 0 [(.iload 5, 0, 0, 0, 0)] = true := by decide +kernel
theorem ck_M_thaw_5 : ia_cks 12 8 false prog_14_method_107_code 5 [(.ifCond .eq 33, 0, 0, 0, 0)] = true := by decide +kernel
theorem ck_M_thaw_38 : ia_cks 12 8 false prog_14_method_107_code 38 [(.iconst (-1), 0, 0, 0, 0)] = true := by decide +kernel
theorem ck_M_thaw_8 : ia_cks 12 8 false prog_14_method_107_code 8 [(.aload_n 0, 0, 0, 0, 0), (.iload_n 1, 0, 0, 0, 0), (.iload_n 2, 0, 0, 0, 0), (.iload_n 3, 0, 0, 0, 0), (.iload 4, 0, 0, 0, 0), (.iload 6, 0, 0, 0, 0), (.iload 7, 0, 0, 0, 0)] = true := by decide +kernel
theorem ck_M_thaw_21 : ia_cks 12 8 false prog_14_method_107_code 21 [(.ifCond .eq 17, 0, 0, 0, 0)] = true := by decide +kernel
theorem ck_M_thaw_24 : ia_cks 12 8 false prog_14_method_107_code 24 [(.aload_n 0, 0, 0, 0, 0), (.iload 6, 0, 0, 0, 0), (.iload 7, 0, 0, 0, 0), (.iload 5, 0, 0, 0, 0), (.iconst 0, 0, 0, 0, 0)] = true := by decide +kernel
theorem ck_M_thaw_35 : ia_cks 12 8 false prog_14_method_107_code 35 [(.goto 4, 0, 0, 0, 0)] = true := by decide +kernel
theorem dc_M_thaw_2 : decode prog_14_method_107_code 2 = .ok (.invokestatic 349, 3) := by decide +kernel
theorem dc_M_thaw_39 : decode prog_14_method_107_code 39 = .ok (.ireturn, 1) := by decide +kernel
theorem dc_M_thaw_18 : decode prog_14_method_107_code 18 = .ok (.invokevirtual 325, 3) := by decide +kernel
theorem dc_M_thaw_32 : decode prog_14_method_107_code 32 = .ok (.invokevirtual 385, 3) := by decide +kernel
def f_M_thaw (x1 : Int32) (x2 : Int32) (x3 : Int32) (x4 : Int32) (x5 : Int32) (x6 : Int32) (x7 : Int32) (h : ia_H) : Option (Int32 × ia_H) := (f_M_isLoad x5 h).bind fun v1 => (if v1 = 0 then (some ((-1), h)) else ((f_M_areWays x1 x2 x3 x4 x6 x7 h).bind fun v2 => (if v2.1 = 0 then (some ((-1), v2.2)) else ((f_M_firstDay x6 x7 x5 0 v2.2).bind fun v3 => (some (v3.1, v3.2))))))
theorem g_M_thaw {w : ia_O0} {x1 : Int32} {x2 : Int32} {x3 : Int32} {x4 : Int32} {x5 : Int32} {x6 : Int32} {x7 : Int32} {h : ia_H} (hg : gd_ w h) {q : (Int32 × ia_H)} (hm : f_M_thaw x1 x2 x3 x4 x5 x6 x7 h = some q) : gd_ w q.2 := by
  obtain ⟨r, h1⟩ := q
  unfold f_M_thaw at hm
  obtain ⟨v1, hv1, hm⟩ := ia_bnd hm
  by_cases c : v1 = 0
  · replace hm := ia_ifp hm c
    obtain ⟨rfl, rfl⟩ := Prod.mk.inj (Option.some.inj hm)
    exact hg
  · replace hm := ia_ifn hm c
    obtain ⟨v2, hv2, hm⟩ := ia_bnd hm
    have gv2 := g_M_areWays hg hv2
    by_cases c : v2.1 = 0
    · replace hm := ia_ifp hm c
      obtain ⟨rfl, rfl⟩ := Prod.mk.inj (Option.some.inj hm)
      exact gv2
    · replace hm := ia_ifn hm c
      obtain ⟨v3, hv3, hm⟩ := ia_bnd hm
      have gv3 := g_M_firstDay gv2 hv3
      obtain ⟨rfl, rfl⟩ := Prod.mk.inj (Option.some.inj hm)
      exact gv3
theorem t_M_thaw {w : ia_O0} (d : Nat) {x1 : Int32} {x2 : Int32} {x3 : Int32} {x4 : Int32} {x5 : Int32} {x6 : Int32} {x7 : Int32} {h : ia_H} (hg : gd_ w h) {q : (Int32 × ia_H)} (hm : f_M_thaw x1 x2 x3 x4 x5 x6 x7 h = some q) : ia_Ev (d + 12) mm_M_thaw [.inr (.inr 417), .inl x1, .inl x2, .inl x3, .inl x4, .inl x5, .inl x6, .inl x7] h (some (.inl q.1)) q.2 := by
  have gq := g_M_thaw hg hm
  refine ia_Ev_intro ok_M_thaw (gd_le hg gq).1 (gd_le hg gq).2 (Nat.le_of_ble_eq_true rfl) (fun K hK hret => ?_)
  obtain ⟨r, h1⟩ := q
  show K 0 [some (.inr (.inr 417)), some (.inl x1), some (.inl x2), some (.inl x3), some (.inl x4), some (.inl x5), some (.inl x6), some (.inl x7)] [] h
  unfold f_M_thaw at hm
  refine ia_go hK ck_M_thaw_0 ?_
  show K 2 [some (.inr (.inr 417)), some (.inl x1), some (.inl x2), some (.inl x3), some (.inl x4), some (.inl x5), some (.inl x6), some (.inl x7)] [.inl x5] h
  obtain ⟨v1, hv1, hm⟩ := ia_bnd hm
  have ev1 := t_M_isLoad (d + 10) hg hv1
  refine ia_cS hK mk_M_isLoad lk_12_349 dc_M_thaw_2 [.inl x5] [] rfl rfl (Nat.le_of_ble_eq_true rfl) ev1 ⟨rfl, rfl⟩ ?_
  show K 5 [some (.inr (.inr 417)), some (.inl x1), some (.inl x2), some (.inl x3), some (.inl x4), some (.inl x5), some (.inl x6), some (.inl x7)] [.inl v1] h
  refine ia_go hK ck_M_thaw_5 ⟨fun c => ?_, fun c => ?_⟩
  · replace hm := ia_ifp hm c
    show K 38 [some (.inr (.inr 417)), some (.inl x1), some (.inl x2), some (.inl x3), some (.inl x4), some (.inl x5), some (.inl x6), some (.inl x7)] [] h
    refine ia_go hK ck_M_thaw_38 ?_
    show K 39 [some (.inr (.inr 417)), some (.inl x1), some (.inl x2), some (.inl x3), some (.inl x4), some (.inl x5), some (.inl x6), some (.inl x7)] [.inl (-1)] h
    obtain ⟨rfl, rfl⟩ := Prod.mk.inj (Option.some.inj hm)
    exact hret 39 _ dc_M_thaw_39
  · replace hm := ia_ifn hm c
    show K 8 [some (.inr (.inr 417)), some (.inl x1), some (.inl x2), some (.inl x3), some (.inl x4), some (.inl x5), some (.inl x6), some (.inl x7)] [] h
    refine ia_go hK ck_M_thaw_8 ?_
    show K 18 [some (.inr (.inr 417)), some (.inl x1), some (.inl x2), some (.inl x3), some (.inl x4), some (.inl x5), some (.inl x6), some (.inl x7)] [.inl x7, .inl x6, .inl x4, .inl x3, .inl x2, .inl x1, .inr (.inr 417)] h
    obtain ⟨v2, hv2, hm⟩ := ia_bnd hm
    have ev2 := t_M_areWays (d + 0) hg hv2
    have gv2 := g_M_areWays hg hv2
    refine ia_cV hK mk_M_areWays lk_12_325 dc_M_thaw_18 417 [.inl x1, .inl x2, .inl x3, .inl x4, .inl x6, .inl x7] [] rfl rfl (Nat.le_of_ble_eq_true rfl) (by decide) rfl (gk_12 hg pk_417) ev2 (gd_nm hg gv2) ?_
    show K 21 [some (.inr (.inr 417)), some (.inl x1), some (.inl x2), some (.inl x3), some (.inl x4), some (.inl x5), some (.inl x6), some (.inl x7)] [.inl v2.1] v2.2
    refine ia_go hK ck_M_thaw_21 ⟨fun c => ?_, fun c => ?_⟩
    · replace hm := ia_ifp hm c
      show K 38 [some (.inr (.inr 417)), some (.inl x1), some (.inl x2), some (.inl x3), some (.inl x4), some (.inl x5), some (.inl x6), some (.inl x7)] [] v2.2
      refine ia_go hK ck_M_thaw_38 ?_
      show K 39 [some (.inr (.inr 417)), some (.inl x1), some (.inl x2), some (.inl x3), some (.inl x4), some (.inl x5), some (.inl x6), some (.inl x7)] [.inl (-1)] v2.2
      obtain ⟨rfl, rfl⟩ := Prod.mk.inj (Option.some.inj hm)
      exact hret 39 _ dc_M_thaw_39
    · replace hm := ia_ifn hm c
      show K 24 [some (.inr (.inr 417)), some (.inl x1), some (.inl x2), some (.inl x3), some (.inl x4), some (.inl x5), some (.inl x6), some (.inl x7)] [] v2.2
      refine ia_go hK ck_M_thaw_24 ?_
      show K 32 [some (.inr (.inr 417)), some (.inl x1), some (.inl x2), some (.inl x3), some (.inl x4), some (.inl x5), some (.inl x6), some (.inl x7)] [.inl 0, .inl x5, .inl x7, .inl x6, .inr (.inr 417)] v2.2
      obtain ⟨v3, hv3, hm⟩ := ia_bnd hm
      have ev3 := t_M_firstDay (d + 3) gv2 hv3
      have gv3 := g_M_firstDay gv2 hv3
      refine ia_cV hK mk_M_firstDay lk_12_385 dc_M_thaw_32 417 [.inl x6, .inl x7, .inl x5, .inl 0] [] rfl rfl (Nat.le_of_ble_eq_true rfl) (by decide) rfl (gk_12 gv2 pk_417) ev3 (gd_nm gv2 gv3) ?_
      show K 35 [some (.inr (.inr 417)), some (.inl x1), some (.inl x2), some (.inl x3), some (.inl x4), some (.inl x5), some (.inl x6), some (.inl x7)] [.inl v3.1] v3.2
      refine ia_go hK ck_M_thaw_35 ?_
      show K 39 [some (.inr (.inr 417)), some (.inl x1), some (.inl x2), some (.inl x3), some (.inl x4), some (.inl x5), some (.inl x6), some (.inl x7)] [.inl v3.1] v3.2
      obtain ⟨rfl, rfl⟩ := Prod.mk.inj (Option.some.inj hm)
      exact hret 39 _ dc_M_thaw_39
def mm_M_gulls : ia_M := (⟨"IceStreetModel", "gulls", "(IIII)I"⟩, prog_14_method_108_code, 7, (some .int), 12, false)
theorem ok_M_gulls : ia_mok mm_M_gulls := ⟨by decide +kernel, by decide +kernel, by decide +kernel, by decide +kernel⟩
theorem mk_M_gulls : ia_mkn mm_M_gulls 1 4 := ⟨ia_tb_in (List.mem_of_getElem? (i := 2144) (by decide +kernel)) rfl, ia_tb_in (List.mem_of_getElem? (i := 146) (by decide +kernel)) rfl, by decide +kernel, by decide +kernel, ⟨ia_tb_in (List.mem_of_getElem? (i := 2142) (by decide +kernel)) rfl, ia_tb_in (List.mem_of_getElem? (i := 2143) (by decide +kernel)) rfl⟩⟩
theorem ck_M_gulls_0 : ia_cks 12 7 false prog_14_method_108_code 0 [(.aload_n 0, 0, 0, 0, 0), (.iload_n 1, 0, 0, 0, 0), (.iload_n 2, 0, 0, 0, 0), (.iload_n 3, 0, 0, 0, 0), (.iload 4, 0, 0, 0, 0)] = true := by decide +kernel
theorem ck_M_gulls_9 : ia_cks 12 7 false prog_14_method_108_code 9 [(.ifCond .ne 5, 0, 0, 0, 0)] = true := by decide +kernel
theorem ck_M_gulls_14 : ia_cks 12 7 false prog_14_method_108_code 14 [(.aload_n 0, 0, 0, 0, 0), (.iconst 0, 0, 0, 0, 0), (.iconst 1, 0, 0, 0, 0)] = true := by decide +kernel
theorem ck_M_gulls_20 : ia_cks 12 7 false prog_14_method_108_code 20 [(.iconst 1, 0, 0, 0, 0), (.istore 5, 0, 0, 0, 0)] = true := by decide +kernel
theorem ck_M_gulls_23 : ia_cks 12 7 false prog_14_method_108_code 23 [(.iload 5, 0, 0, 0, 0), (.bipush 60, 0, 0, 0, 0), (.if_icmp .gt 57, 0, 0, 0, 0)] = true := by decide +kernel
theorem ck_M_gulls_30 : ia_cks 12 7 false prog_14_method_108_code 30 [(.aload_n 0, 0, 0, 0, 0)] = true := by decide +kernel
theorem ck_M_gulls_34 : ia_cks 12 7 false prog_14_method_108_code 34 [(.iconst 0, 0, 0, 0, 0), (.istore 6, 0, 0, 0, 0)] = true := by decide +kernel
theorem ck_M_gulls_37 : ia_cks 12 7 false prog_14_method_108_code 37 [(.iload 6, 0, 0, 0, 0), (.aload_n 0, 0, 0, 0, 0)] = true := by decide +kernel
theorem ck_M_gulls_43 : ia_cks 12 7 false prog_14_method_108_code 43 [(.if_icmp .ge 35, 0, 0, 0, 0)] = true := by decide +kernel
theorem ck_M_gulls_46 : ia_cks 12 7 false prog_14_method_108_code 46 [(.aload_n 0, 0, 0, 0, 0), (.getfield 23, 12, 13, 3, 5), (.iload 6, 0, 0, 0, 0), (.iaload, 0, 0, 0, 0), (.ifCond .ne 19, 0, 0, 0, 0)] = true := by decide +kernel
theorem ck_M_gulls_72 : ia_cks 12 7 false prog_14_method_108_code 72 [(.iinc 6 1, 0, 0, 0, 0), (.goto (-38), 0, 0, 0, 0)] = true := by decide +kernel
theorem ck_M_gulls_56 : ia_cks 12 7 false prog_14_method_108_code 56 [(.aload_n 0, 0, 0, 0, 0), (.getfield 23, 12, 13, 3, 5), (.bipush 80, 0, 0, 0, 0), (.iload 6, 0, 0, 0, 0), (.iadd, 0, 0, 0, 0), (.iaload, 0, 0, 0, 0), (.ifCond .le 6, 0, 0, 0, 0)] = true := by decide +kernel
theorem ck_M_gulls_78 : ia_cks 12 7 false prog_14_method_108_code 78 [(.iinc 5 1, 0, 0, 0, 0), (.goto (-58), 0, 0, 0, 0)] = true := by decide +kernel
theorem ck_M_gulls_69 : ia_cks 12 7 false prog_14_method_108_code 69 [(.iload 6, 0, 0, 0, 0)] = true := by decide +kernel
theorem ck_M_gulls_84 : ia_cks 12 7 false prog_14_method_108_code 84 [(.iconst (-1), 0, 0, 0, 0)] = true := by decide +kernel
theorem ck_M_gulls_12 : ia_cks 12 7 false prog_14_method_108_code 12 [(.iconst (-1), 0, 0, 0, 0)] = true := by decide +kernel
theorem dc_M_gulls_6 : decode prog_14_method_108_code 6 = .ok (.invokevirtual 309, 3) := by decide +kernel
theorem dc_M_gulls_17 : decode prog_14_method_108_code 17 = .ok (.invokevirtual 365, 3) := by decide +kernel
theorem dc_M_gulls_31 : decode prog_14_method_108_code 31 = .ok (.invokevirtual 290, 3) := by decide +kernel
theorem dc_M_gulls_40 : decode prog_14_method_108_code 40 = .ok (.invokevirtual 234, 3) := by decide +kernel
theorem dc_M_gulls_71 : decode prog_14_method_108_code 71 = .ok (.ireturn, 1) := by decide +kernel
theorem dc_M_gulls_85 : decode prog_14_method_108_code 85 = .ok (.ireturn, 1) := by decide +kernel
theorem dc_M_gulls_13 : decode prog_14_method_108_code 13 = .ok (.ireturn, 1) := by decide +kernel
def l_M_gulls_37 (x1 : Int32) (x2 : Int32) (x3 : Int32) (x4 : Int32) (k69 : Int32 → ia_H → Option (Int32 × ia_H)) (k78 : Int32 → ia_H → Option (Int32 × ia_H)) (n : Nat) (x5 : Int32) (x6 : Int32) (h : ia_H) : Option (Int32 × ia_H) := match n with
  | 0 => none
  | n + 1 => (f_M_cells h).bind fun v4 => (if v4 ≤ x6 then (k78 x5 h) else (ia_gd (ia_ib x6 1120) (if (ia_i h 422 ((x6).toNatClampNeg)) = 0 then (ia_gd (ia_ib (80 + x6) 1120) (if (ia_i h 422 ((80 + x6).toNatClampNeg)) ≤ 0 then (l_M_gulls_37 x1 x2 x3 x4 k69 k78 n x5 (x6 + 1) h) else (k69 x6 h))) else (l_M_gulls_37 x1 x2 x3 x4 k69 k78 n x5 (x6 + 1) h))))
theorem tl_M_gulls_37 {w : ia_O0} {d N1 W1 : Nat} {K : ia_K} (hK : ia_isK (d + 11) mm_M_gulls N1 W1 K) {x1 : Int32} {x2 : Int32} {x3 : Int32} {x4 : Int32} {r : Int32} {h1 : ia_H} (hret : ∀ (pc : Nat) (lv : ia_L), ia_ret mm_M_gulls pc (some (.inl r)) → K pc lv ((some (.inl r)) : Option ia_V).toList h1) {k69 : Int32 → ia_H → Option (Int32 × ia_H)} {k78 : Int32 → ia_H → Option (Int32 × ia_H)} (hk69 : ∀ (x6 : Int32) (h : ia_H), gd_ w h → k69 x6 h = some (r, h1) → K 69 [none, none, none, none, none, none, some (.inl x6)] [] h) (hk78 : ∀ (x5 : Int32) (h : ia_H), gd_ w h → k78 x5 h = some (r, h1) → K 78 [some (.inr (.inr 417)), none, none, none, none, some (.inl x5), none] [] h) : ∀ (n : Nat) (x5 : Int32) (x6 : Int32) (h : ia_H), gd_ w h → l_M_gulls_37 x1 x2 x3 x4 k69 k78 n x5 x6 h = some (r, h1) → K 37 [some (.inr (.inr 417)), none, none, none, none, some (.inl x5), some (.inl x6)] [] h := by
  intro n
  induction n with
  | zero =>
    intro x5 x6 h hg hm
    cases (show (none : Option (Int32 × ia_H)) = some _ from hm)
  | succ n ih =>
    intro x5 x6 h hg hm
    rw [l_M_gulls_37] at hm
    refine ia_go hK ck_M_gulls_37 ?_
    show K 40 [some (.inr (.inr 417)), none, none, none, none, some (.inl x5), some (.inl x6)] [.inr (.inr 417), .inl x6] h
    obtain ⟨v4, hv4, hm⟩ := ia_bnd hm
    have ev4 := t_M_cells (d + 10) hg hv4
    refine ia_cV hK mk_M_cells lk_12_234 dc_M_gulls_40 417 [] [.inl x6] rfl rfl (Nat.le_of_ble_eq_true rfl) (by decide) rfl (gk_12 hg pk_417) ev4 ⟨rfl, rfl⟩ ?_
    show K 43 [some (.inr (.inr 417)), none, none, none, none, some (.inl x5), some (.inl x6)] [.inl v4, .inl x6] h
    refine ia_go hK ck_M_gulls_43 ⟨fun c => ?_, fun c => ?_⟩
    · replace hm := ia_ifp hm c
      show K 78 [some (.inr (.inr 417)), none, none, none, none, some (.inl x5), some (.inl x6)] [] h
      refine ia_fg hK (lv' := [some (.inr (.inr 417)), none, none, none, none, some (.inl x5), none]) ⟨rfl, rfl, trivial⟩ ?_
      exact hk78 x5 h hg hm
    · replace hm := ia_ifn hm c
      show K 46 [some (.inr (.inr 417)), none, none, none, none, some (.inl x5), some (.inl x6)] [] h
      obtain ⟨c5, hm⟩ := ia_gd_some hm
      refine ia_go hK ck_M_gulls_46 ⟨gk_12 hg pk_417, gr_12_13 hg pk_417, ga_i100 hg (ka_12_13 pk_417) c5, fun c => ?_, fun c => ?_⟩
      · replace hm := ia_ifn hm c
        show K 72 [some (.inr (.inr 417)), none, none, none, none, some (.inl x5), some (.inl x6)] [] h
        refine ia_go hK ck_M_gulls_72 ?_
        show K 37 [some (.inr (.inr 417)), none, none, none, none, some (.inl x5), some (.inl (x6 + 1))] [] h
        exact ih x5 (x6 + 1) h hg hm
      · replace hm := ia_ifp hm c
        show K 56 [some (.inr (.inr 417)), none, none, none, none, some (.inl x5), some (.inl x6)] [] h
        obtain ⟨c6, hm⟩ := ia_gd_some hm
        refine ia_go hK ck_M_gulls_56 ⟨gk_12 hg pk_417, gr_12_13 hg pk_417, ga_i100 hg (ka_12_13 pk_417) c6, fun c => ?_, fun c => ?_⟩
        · replace hm := ia_ifp hm c
          show K 72 [some (.inr (.inr 417)), none, none, none, none, some (.inl x5), some (.inl x6)] [] h
          refine ia_go hK ck_M_gulls_72 ?_
          show K 37 [some (.inr (.inr 417)), none, none, none, none, some (.inl x5), some (.inl (x6 + 1))] [] h
          exact ih x5 (x6 + 1) h hg hm
        · replace hm := ia_ifn hm c
          show K 69 [some (.inr (.inr 417)), none, none, none, none, some (.inl x5), some (.inl x6)] [] h
          refine ia_fg hK (lv' := [none, none, none, none, none, none, some (.inl x6)]) ⟨rfl, trivial⟩ ?_
          exact hk69 x6 h hg hm
theorem gl_M_gulls_37 {w : ia_O0} {x1 : Int32} {x2 : Int32} {x3 : Int32} {x4 : Int32} {r : Int32} {h1 : ia_H} {k69 : Int32 → ia_H → Option (Int32 × ia_H)} {k78 : Int32 → ia_H → Option (Int32 × ia_H)} (hk69 : ∀ (x6 : Int32) (h : ia_H), gd_ w h → k69 x6 h = some (r, h1) → gd_ w h1) (hk78 : ∀ (x5 : Int32) (h : ia_H), gd_ w h → k78 x5 h = some (r, h1) → gd_ w h1) : ∀ (n : Nat) (x5 : Int32) (x6 : Int32) (h : ia_H), gd_ w h → l_M_gulls_37 x1 x2 x3 x4 k69 k78 n x5 x6 h = some (r, h1) → gd_ w h1 := by
  intro n
  induction n with
  | zero =>
    intro x5 x6 h hg hm
    cases (show (none : Option (Int32 × ia_H)) = some _ from hm)
  | succ n ih =>
    intro x5 x6 h hg hm
    rw [l_M_gulls_37] at hm
    obtain ⟨v4, hv4, hm⟩ := ia_bnd hm
    by_cases c : v4 ≤ x6
    · replace hm := ia_ifp hm c
      exact hk78 x5 h hg hm
    · replace hm := ia_ifn hm c
      obtain ⟨c5, hm⟩ := ia_gd_some hm
      by_cases c : (ia_i h 422 ((x6).toNatClampNeg)) = 0
      · replace hm := ia_ifp hm c
        obtain ⟨c6, hm⟩ := ia_gd_some hm
        by_cases c : (ia_i h 422 ((80 + x6).toNatClampNeg)) ≤ 0
        · replace hm := ia_ifp hm c
          exact ih x5 (x6 + 1) h hg hm
        · replace hm := ia_ifn hm c
          exact hk69 x6 h hg hm
      · replace hm := ia_ifn hm c
        exact ih x5 (x6 + 1) h hg hm
def l_M_gulls_23 (x1 : Int32) (x2 : Int32) (x3 : Int32) (x4 : Int32) (k69 : Int32 → ia_H → Option (Int32 × ia_H)) (k84 : ia_H → Option (Int32 × ia_H)) (n : Nat) (x5 : Int32) (h : ia_H) : Option (Int32 × ia_H) := match n with
  | 0 => none
  | n + 1 => if 60 < x5 then (k84 h) else ((f_M_aDay h).bind fun v3 => (l_M_gulls_37 x1 x2 x3 x4 k69 (fun x5 h => l_M_gulls_23 x1 x2 x3 x4 k69 k84 n (x5 + 1) h) fu_ x5 0 v3))
theorem tl_M_gulls_23 {w : ia_O0} {d N1 W1 : Nat} {K : ia_K} (hK : ia_isK (d + 11) mm_M_gulls N1 W1 K) {x1 : Int32} {x2 : Int32} {x3 : Int32} {x4 : Int32} {r : Int32} {h1 : ia_H} (hret : ∀ (pc : Nat) (lv : ia_L), ia_ret mm_M_gulls pc (some (.inl r)) → K pc lv ((some (.inl r)) : Option ia_V).toList h1) {k69 : Int32 → ia_H → Option (Int32 × ia_H)} {k84 : ia_H → Option (Int32 × ia_H)} (hk69 : ∀ (x6 : Int32) (h : ia_H), gd_ w h → k69 x6 h = some (r, h1) → K 69 [none, none, none, none, none, none, some (.inl x6)] [] h) (hk84 : ∀ (h : ia_H), gd_ w h → k84 h = some (r, h1) → K 84 [none, none, none, none, none, none, none] [] h) : ∀ (n : Nat) (x5 : Int32) (h : ia_H), gd_ w h → l_M_gulls_23 x1 x2 x3 x4 k69 k84 n x5 h = some (r, h1) → K 23 [some (.inr (.inr 417)), none, none, none, none, some (.inl x5), none] [] h := by
  intro n
  induction n with
  | zero =>
    intro x5 h hg hm
    cases (show (none : Option (Int32 × ia_H)) = some _ from hm)
  | succ n ih =>
    intro x5 h hg hm
    rw [l_M_gulls_23] at hm
    refine ia_go hK ck_M_gulls_23 ⟨fun c => ?_, fun c => ?_⟩
    · replace hm := ia_ifp hm c
      show K 84 [some (.inr (.inr 417)), none, none, none, none, some (.inl x5), none] [] h
      refine ia_fg hK (lv' := [none, none, none, none, none, none, none]) trivial ?_
      exact hk84 h hg hm
    · replace hm := ia_ifn hm c
      show K 30 [some (.inr (.inr 417)), none, none, none, none, some (.inl x5), none] [] h
      refine ia_go hK ck_M_gulls_30 ?_
      show K 31 [some (.inr (.inr 417)), none, none, none, none, some (.inl x5), none] [.inr (.inr 417)] h
      obtain ⟨v3, hv3, hm⟩ := ia_bnd hm
      have ev3 := t_M_aDay (d + 3) hg hv3
      have gv3 := g_M_aDay hg hv3
      refine ia_cV hK mk_M_aDay lk_12_290 dc_M_gulls_31 417 [] [] rfl rfl (Nat.le_of_ble_eq_true rfl) (by decide) rfl (gk_12 hg pk_417) ev3 (gd_nm hg gv3) ?_
      show K 34 [some (.inr (.inr 417)), none, none, none, none, some (.inl x5), none] [] v3
      refine ia_go hK ck_M_gulls_34 ?_
      show K 37 [some (.inr (.inr 417)), none, none, none, none, some (.inl x5), some (.inl 0)] [] v3
      refine tl_M_gulls_37 hK hret ?_ ?_ fu_ x5 0 v3 gv3 hm
      · exact hk69
      · intro x5 h hg hm
        refine ia_go hK ck_M_gulls_78 ?_
        show K 23 [some (.inr (.inr 417)), none, none, none, none, some (.inl (x5 + 1)), none] [] h
        exact ih (x5 + 1) h hg hm
theorem gl_M_gulls_23 {w : ia_O0} {x1 : Int32} {x2 : Int32} {x3 : Int32} {x4 : Int32} {r : Int32} {h1 : ia_H} {k69 : Int32 → ia_H → Option (Int32 × ia_H)} {k84 : ia_H → Option (Int32 × ia_H)} (hk69 : ∀ (x6 : Int32) (h : ia_H), gd_ w h → k69 x6 h = some (r, h1) → gd_ w h1) (hk84 : ∀ (h : ia_H), gd_ w h → k84 h = some (r, h1) → gd_ w h1) : ∀ (n : Nat) (x5 : Int32) (h : ia_H), gd_ w h → l_M_gulls_23 x1 x2 x3 x4 k69 k84 n x5 h = some (r, h1) → gd_ w h1 := by
  intro n
  induction n with
  | zero =>
    intro x5 h hg hm
    cases (show (none : Option (Int32 × ia_H)) = some _ from hm)
  | succ n ih =>
    intro x5 h hg hm
    rw [l_M_gulls_23] at hm
    by_cases c : 60 < x5
    · replace hm := ia_ifp hm c
      exact hk84 h hg hm
    · replace hm := ia_ifn hm c
      obtain ⟨v3, hv3, hm⟩ := ia_bnd hm
      have gv3 := g_M_aDay hg hv3
      refine gl_M_gulls_37 ?_ ?_ fu_ x5 0 v3 gv3 hm
      · exact hk69
      · intro x5 h hg hm
        exact ih (x5 + 1) h hg hm
def f_M_gulls (x1 : Int32) (x2 : Int32) (x3 : Int32) (x4 : Int32) (h : ia_H) : Option (Int32 × ia_H) := (f_M_isState x1 x2 x3 x4 h).bind fun v1 => (if v1.1 = 0 then (some ((-1), v1.2)) else ((f_M_copies 0 1 v1.2).bind fun v2 => (l_M_gulls_23 x1 x2 x3 x4 (fun x6 h => some (x6, h)) (fun h => some ((-1), h)) fu_ 1 v2)))
theorem g_M_gulls {w : ia_O0} {x1 : Int32} {x2 : Int32} {x3 : Int32} {x4 : Int32} {h : ia_H} (hg : gd_ w h) {q : (Int32 × ia_H)} (hm : f_M_gulls x1 x2 x3 x4 h = some q) : gd_ w q.2 := by
  obtain ⟨r, h1⟩ := q
  unfold f_M_gulls at hm
  obtain ⟨v1, hv1, hm⟩ := ia_bnd hm
  have gv1 := g_M_isState hg hv1
  by_cases c : v1.1 = 0
  · replace hm := ia_ifp hm c
    obtain ⟨rfl, rfl⟩ := Prod.mk.inj (Option.some.inj hm)
    exact gv1
  · replace hm := ia_ifn hm c
    obtain ⟨v2, hv2, hm⟩ := ia_bnd hm
    have gv2 := g_M_copies gv1 hv2
    refine gl_M_gulls_23 ?_ ?_ fu_ 1 v2 gv2 hm
    · intro x6 h hg hm
      obtain ⟨rfl, rfl⟩ := Prod.mk.inj (Option.some.inj hm)
      exact hg
    · intro h hg hm
      obtain ⟨rfl, rfl⟩ := Prod.mk.inj (Option.some.inj hm)
      exact hg
theorem t_M_gulls {w : ia_O0} (d : Nat) {x1 : Int32} {x2 : Int32} {x3 : Int32} {x4 : Int32} {h : ia_H} (hg : gd_ w h) {q : (Int32 × ia_H)} (hm : f_M_gulls x1 x2 x3 x4 h = some q) : ia_Ev (d + 11) mm_M_gulls [.inr (.inr 417), .inl x1, .inl x2, .inl x3, .inl x4] h (some (.inl q.1)) q.2 := by
  have gq := g_M_gulls hg hm
  refine ia_Ev_intro ok_M_gulls (gd_le hg gq).1 (gd_le hg gq).2 (Nat.le_of_ble_eq_true rfl) (fun K hK hret => ?_)
  obtain ⟨r, h1⟩ := q
  show K 0 [some (.inr (.inr 417)), some (.inl x1), some (.inl x2), some (.inl x3), some (.inl x4), none, none] [] h
  unfold f_M_gulls at hm
  refine ia_go hK ck_M_gulls_0 ?_
  show K 6 [some (.inr (.inr 417)), some (.inl x1), some (.inl x2), some (.inl x3), some (.inl x4), none, none] [.inl x4, .inl x3, .inl x2, .inl x1, .inr (.inr 417)] h
  obtain ⟨v1, hv1, hm⟩ := ia_bnd hm
  have ev1 := t_M_isState (d + 0) hg hv1
  have gv1 := g_M_isState hg hv1
  refine ia_cV hK mk_M_isState lk_12_309 dc_M_gulls_6 417 [.inl x1, .inl x2, .inl x3, .inl x4] [] rfl rfl (Nat.le_of_ble_eq_true rfl) (by decide) rfl (gk_12 hg pk_417) ev1 (gd_nm hg gv1) ?_
  show K 9 [some (.inr (.inr 417)), some (.inl x1), some (.inl x2), some (.inl x3), some (.inl x4), none, none] [.inl v1.1] v1.2
  refine ia_go hK ck_M_gulls_9 ⟨fun c => ?_, fun c => ?_⟩
  · replace hm := ia_ifn hm c
    show K 14 [some (.inr (.inr 417)), some (.inl x1), some (.inl x2), some (.inl x3), some (.inl x4), none, none] [] v1.2
    refine ia_go hK ck_M_gulls_14 ?_
    show K 17 [some (.inr (.inr 417)), some (.inl x1), some (.inl x2), some (.inl x3), some (.inl x4), none, none] [.inl 1, .inl 0, .inr (.inr 417)] v1.2
    obtain ⟨v2, hv2, hm⟩ := ia_bnd hm
    have ev2 := t_M_copies (d + 10) gv1 hv2
    have gv2 := g_M_copies gv1 hv2
    refine ia_cV hK mk_M_copies lk_12_365 dc_M_gulls_17 417 [.inl 0, .inl 1] [] rfl rfl (Nat.le_of_ble_eq_true rfl) (by decide) rfl (gk_12 gv1 pk_417) ev2 (gd_nm gv1 gv2) ?_
    show K 20 [some (.inr (.inr 417)), some (.inl x1), some (.inl x2), some (.inl x3), some (.inl x4), none, none] [] v2
    refine ia_go hK ck_M_gulls_20 ?_
    show K 23 [some (.inr (.inr 417)), some (.inl x1), some (.inl x2), some (.inl x3), some (.inl x4), some (.inl 1), none] [] v2
    refine ia_fg hK (lv' := [some (.inr (.inr 417)), none, none, none, none, some (.inl 1), none]) ⟨rfl, rfl, trivial⟩ ?_
    refine tl_M_gulls_23 hK hret ?_ ?_ fu_ 1 v2 gv2 hm
    · intro x6 h hg hm
      refine ia_go hK ck_M_gulls_69 ?_
      show K 71 [none, none, none, none, none, none, some (.inl x6)] [.inl x6] h
      obtain ⟨rfl, rfl⟩ := Prod.mk.inj (Option.some.inj hm)
      exact hret 71 _ dc_M_gulls_71
    · intro h hg hm
      refine ia_go hK ck_M_gulls_84 ?_
      show K 85 [none, none, none, none, none, none, none] [.inl (-1)] h
      obtain ⟨rfl, rfl⟩ := Prod.mk.inj (Option.some.inj hm)
      exact hret 85 _ dc_M_gulls_85
  · replace hm := ia_ifp hm c
    show K 12 [some (.inr (.inr 417)), some (.inl x1), some (.inl x2), some (.inl x3), some (.inl x4), none, none] [] v1.2
    refine ia_go hK ck_M_gulls_12 ?_
    show K 13 [some (.inr (.inr 417)), some (.inl x1), some (.inl x2), some (.inl x3), some (.inl x4), none, none] [.inl (-1)] v1.2
    obtain ⟨rfl, rfl⟩ := Prod.mk.inj (Option.some.inj hm)
    exact hret 13 _ dc_M_gulls_13
def mm_M_isCut : ia_M := (⟨"IceStreetModel", "isCut", "(IIIIII)Z"⟩, prog_14_method_109_code, 8, (some .boolean), 12, false)
theorem ok_M_isCut : ia_mok mm_M_isCut := ⟨by decide +kernel, by decide +kernel, by decide +kernel, by decide +kernel⟩
theorem mk_M_isCut : ia_mkn mm_M_isCut 1 6 := ⟨ia_tb_in (List.mem_of_getElem? (i := 2152) (by decide +kernel)) rfl, ia_tb_in (List.mem_of_getElem? (i := 146) (by decide +kernel)) rfl, by decide +kernel, by decide +kernel, ⟨ia_tb_in (List.mem_of_getElem? (i := 2151) (by decide +kernel)) rfl, ia_tb_in (List.mem_of_getElem? (i := 123) (by decide +kernel)) rfl⟩⟩
theorem ck_M_isCut_0 : ia_cks 12 8 false prog_14_method_109_code 0 [(.aload_n 0, 0, 0, 0, 0), (.getfield 36, 12, 21, 3, 7), (.iload 4, 0, 0, 0, 0), (.iload 4, 0, 0, 0, 0), (.iload_n 1, 0, 0, 0, 0), (.if_icmp .eq 13, 0, 0, 0, 0)] = true := by decide +kernel
theorem ck_M_isCut_22 : ia_cks 12 8 false prog_14_method_109_code 22 [(.iconst 0, 0, 0, 0, 0)] = true := by decide +kernel
theorem ck_M_isCut_23 : ia_cks 12 8 false prog_14_method_109_code 23 [(.bastore, 101, 0, 0, 0), (.aload_n 0, 0, 0, 0, 0), (.getfield 36, 12, 21, 3, 7), (.iload 5, 0, 0, 0, 0), (.iload 5, 0, 0, 0, 0), (.iload_n 1, 0, 0, 0, 0), (.if_icmp .eq 13, 0, 0, 0, 0)] = true := by decide +kernel
theorem ck_M_isCut_46 : ia_cks 12 8 false prog_14_method_109_code 46 [(.iconst 0, 0, 0, 0, 0)] = true := by decide +kernel
theorem ck_M_isCut_47 : ia_cks 12 8 false prog_14_method_109_code 47 [(.bastore, 101, 0, 0, 0), (.aload_n 0, 0, 0, 0, 0), (.getfield 36, 12, 21, 3, 7), (.iload 6, 0, 0, 0, 0), (.iload 6, 0, 0, 0, 0), (.iload_n 1, 0, 0, 0, 0), (.if_icmp .eq 13, 0, 0, 0, 0)] = true := by decide +kernel
theorem ck_M_isCut_70 : ia_cks 12 8 false prog_14_method_109_code 70 [(.iconst 0, 0, 0, 0, 0)] = true := by decide +kernel
theorem ck_M_isCut_71 : ia_cks 12 8 false prog_14_method_109_code 71 [(.bastore, 101, 0, 0, 0), (.aload_n 0, 0, 0, 0, 0), (.iload_n 1, 0, 0, 0, 0), (.iload_n 2, 0, 0, 0, 0), (.iload_n 3, 0, 0, 0, 0), (.iconst (-1), 0, 0, 0, 0)] = true := by decide +kernel
theorem ck_M_isCut_80 : ia_cks 12 8 false prog_14_method_109_code 80 [(.ifCond .ne 7, 0, 0, 0, 0)] = true := by decide +kernel
theorem ck_M_isCut_87 : ia_cks 12 8 false prog_14_method_109_code 87 [(.iconst 0, 0, 0, 0, 0)] = true := by decide +kernel
theorem ck_M_isCut_88 : ia_cks 12 8 false prog_14_method_109_code 88 [(.istore 7, 0, 0, 0, 0), (.aload_n 0, 0, 0, 0, 0), (.getfield 36, 12, 21, 3, 7), (.iload 4, 0, 0, 0, 0), (.iconst 0, 0, 0, 0, 0), (.bastore, 101, 0, 0, 0), (.aload_n 0, 0, 0, 0, 0), (.getfield 36, 12, 21, 3, 7), (.iload 5, 0, 0, 0, 0), (.iconst 0, 0, 0, 0, 0), (.bastore, 101, 0, 0, 0), (.aload_n 0, 0, 0, 0, 0), (.getfield 36, 12, 21, 3, 7), (.iload 6, 0, 0, 0, 0), (.iconst 0, 0, 0, 0, 0), (.bastore, 101, 0, 0, 0), (.iload 7, 0, 0, 0, 0)] = true := by decide +kernel
theorem ck_M_isCut_83 : ia_cks 12 8 false prog_14_method_109_code 83 [(.iconst 1, 0, 0, 0, 0), (.goto 4, 0, 0, 0, 0)] = true := by decide +kernel
theorem ck_M_isCut_60 : ia_cks 12 8 false prog_14_method_109_code 60 [(.iload 6, 0, 0, 0, 0), (.iload_n 2, 0, 0, 0, 0), (.if_icmp .eq 7, 0, 0, 0, 0)] = true := by decide +kernel
theorem ck_M_isCut_66 : ia_cks 12 8 false prog_14_method_109_code 66 [(.iconst 1, 0, 0, 0, 0), (.goto 4, 0, 0, 0, 0)] = true := by decide +kernel
theorem ck_M_isCut_36 : ia_cks 12 8 false prog_14_method_109_code 36 [(.iload 5, 0, 0, 0, 0), (.iload_n 2, 0, 0, 0, 0), (.if_icmp .eq 7, 0, 0, 0, 0)] = true := by decide +kernel
theorem ck_M_isCut_42 : ia_cks 12 8 false prog_14_method_109_code 42 [(.iconst 1, 0, 0, 0, 0), (.goto 4, 0, 0, 0, 0)] = true := by decide +kernel
theorem ck_M_isCut_12 : ia_cks 12 8 false prog_14_method_109_code 12 [(.iload 4, 0, 0, 0, 0), (.iload_n 2, 0, 0, 0, 0), (.if_icmp .eq 7, 0, 0, 0, 0)] = true := by decide +kernel
theorem ck_M_isCut_18 : ia_cks 12 8 false prog_14_method_109_code 18 [(.iconst 1, 0, 0, 0, 0), (.goto 4, 0, 0, 0, 0)] = true := by decide +kernel
theorem dc_M_isCut_77 : decode prog_14_method_109_code 77 = .ok (.invokevirtual 269, 3) := by decide +kernel
theorem dc_M_isCut_116 : decode prog_14_method_109_code 116 = .ok (.ireturn, 1) := by decide +kernel
def j_M_isCut_88 (x1 : Int32) (x2 : Int32) (x3 : Int32) (x4 : Int32) (x5 : Int32) (x6 : Int32) (s0 : Int32) (h : ia_H) : Option (Int32 × ia_H) := ia_gd (ia_ib x4 36) (ia_gd (ia_ib x5 36) (ia_gd (ia_ib x6 36) (ia_gd (ia_z1 s0) (some (s0, ia_wI (ia_wI (ia_wI h 424 ((x4).toNatClampNeg) (vp_nar .boolean 0)) 424 ((x5).toNatClampNeg) (vp_nar .boolean 0)) 424 ((x6).toNatClampNeg) (vp_nar .boolean 0))))))
theorem tj_M_isCut_88 {w : ia_O0} {d N1 W1 : Nat} {K : ia_K} (hK : ia_isK (d + 7) mm_M_isCut N1 W1 K) {x1 : Int32} {x2 : Int32} {x3 : Int32} {x4 : Int32} {x5 : Int32} {x6 : Int32} {r : Int32} {h1 : ia_H} (hret : ∀ (pc : Nat) (lv : ia_L), ia_ret mm_M_isCut pc (some (.inl r)) → K pc lv ((some (.inl r)) : Option ia_V).toList h1) : ∀ (s0 : Int32) (h : ia_H), gd_ w h → j_M_isCut_88 x1 x2 x3 x4 x5 x6 s0 h = some (r, h1) → K 88 [some (.inr (.inr 417)), none, none, none, some (.inl x4), some (.inl x5), some (.inl x6), none] [.inl s0] h := by
  intro s0 h hg hm
  unfold j_M_isCut_88 at hm
  obtain ⟨c5, hm⟩ := ia_gd_some hm
  obtain ⟨c6, hm⟩ := ia_gd_some hm
  obtain ⟨c7, hm⟩ := ia_gd_some hm
  refine ia_go hK ck_M_isCut_88 ⟨gk_12 hg pk_417, gr_12_21 hg pk_417, ga_s101 hg (ka_12_21 pk_417) c5, gk_12 (gd_wI hg (kx_101 (ka_12_21 pk_417))) pk_417, gr_12_21 (gd_wI hg (kx_101 (ka_12_21 pk_417))) pk_417, ga_s101 (gd_wI hg (kx_101 (ka_12_21 pk_417))) (ka_12_21 pk_417) c6, gk_12 (gd_wI (gd_wI hg (kx_101 (ka_12_21 pk_417))) (kx_101 (ka_12_21 pk_417))) pk_417, gr_12_21 (gd_wI (gd_wI hg (kx_101 (ka_12_21 pk_417))) (kx_101 (ka_12_21 pk_417))) pk_417, ga_s101 (gd_wI (gd_wI hg (kx_101 (ka_12_21 pk_417))) (kx_101 (ka_12_21 pk_417))) (ka_12_21 pk_417) c7, ?_⟩
  show K 116 [some (.inr (.inr 417)), none, none, none, some (.inl x4), some (.inl x5), some (.inl x6), some (.inl s0)] [.inl s0] (ia_wI (ia_wI (ia_wI h 424 ((x4).toNatClampNeg) (vp_nar .boolean 0)) 424 ((x5).toNatClampNeg) (vp_nar .boolean 0)) 424 ((x6).toNatClampNeg) (vp_nar .boolean 0))
  obtain ⟨c8, hm⟩ := ia_gd_some hm
  obtain ⟨rfl, rfl⟩ := Prod.mk.inj (Option.some.inj hm)
  exact hret 116 _ ⟨ia_z1_spec c8, dc_M_isCut_116⟩
theorem gj_M_isCut_88 {w : ia_O0} {x1 : Int32} {x2 : Int32} {x3 : Int32} {x4 : Int32} {x5 : Int32} {x6 : Int32} {r : Int32} {h1 : ia_H} : ∀ (s0 : Int32) (h : ia_H), gd_ w h → j_M_isCut_88 x1 x2 x3 x4 x5 x6 s0 h = some (r, h1) → gd_ w h1 := by
  intro s0 h hg hm
  unfold j_M_isCut_88 at hm
  obtain ⟨c5, hm⟩ := ia_gd_some hm
  obtain ⟨c6, hm⟩ := ia_gd_some hm
  obtain ⟨c7, hm⟩ := ia_gd_some hm
  obtain ⟨c8, hm⟩ := ia_gd_some hm
  obtain ⟨rfl, rfl⟩ := Prod.mk.inj (Option.some.inj hm)
  exact (gd_wI (gd_wI (gd_wI hg (kx_101 (ka_12_21 pk_417))) (kx_101 (ka_12_21 pk_417))) (kx_101 (ka_12_21 pk_417)))
def j_M_isCut_71 (x1 : Int32) (x2 : Int32) (x3 : Int32) (x4 : Int32) (x5 : Int32) (x6 : Int32) (b0 : Nat) (s1 : Int32) (s2 : Int32) (h : ia_H) : Option (Int32 × ia_H) := ia_gd (ia_ib s1 36) ((f_M_isWay x1 x2 x3 (-1) (ia_wI h b0 ((s1).toNatClampNeg) (vp_nar .boolean s2))).bind fun v4 => (if v4.1 = 0 then (j_M_isCut_88 x1 x2 x3 x4 x5 x6 1 v4.2) else (j_M_isCut_88 x1 x2 x3 x4 x5 x6 0 v4.2)))
theorem tj_M_isCut_71 {w : ia_O0} {d N1 W1 : Nat} {K : ia_K} (hK : ia_isK (d + 7) mm_M_isCut N1 W1 K) {x1 : Int32} {x2 : Int32} {x3 : Int32} {x4 : Int32} {x5 : Int32} {x6 : Int32} {r : Int32} {h1 : ia_H} (hret : ∀ (pc : Nat) (lv : ia_L), ia_ret mm_M_isCut pc (some (.inl r)) → K pc lv ((some (.inl r)) : Option ia_V).toList h1) : ∀ (b0 : Nat) (s1 : Int32) (s2 : Int32) (h : ia_H), gd_ w h → kd_D b0 = (101, 36) → j_M_isCut_71 x1 x2 x3 x4 x5 x6 b0 s1 s2 h = some (r, h1) → K 71 [some (.inr (.inr 417)), some (.inl x1), some (.inl x2), some (.inl x3), some (.inl x4), some (.inl x5), some (.inl x6), none] [.inl s2, .inl s1, .inr (.inr b0)] h := by
  intro b0 s1 s2 h hg q_b0 hm
  unfold j_M_isCut_71 at hm
  obtain ⟨c3, hm⟩ := ia_gd_some hm
  refine ia_go hK ck_M_isCut_71 ⟨ga_s101 hg q_b0 c3, ?_⟩
  show K 77 [some (.inr (.inr 417)), some (.inl x1), some (.inl x2), some (.inl x3), some (.inl x4), some (.inl x5), some (.inl x6), none] [.inl (-1), .inl x3, .inl x2, .inl x1, .inr (.inr 417)] (ia_wI h b0 ((s1).toNatClampNeg) (vp_nar .boolean s2))
  obtain ⟨v4, hv4, hm⟩ := ia_bnd hm
  have ev4 := t_M_isWay (d + 0) (gd_wI hg (kx_101 q_b0)) hv4
  have gv4 := g_M_isWay (gd_wI hg (kx_101 q_b0)) hv4
  refine ia_cV hK mk_M_isWay lk_12_269 dc_M_isCut_77 417 [.inl x1, .inl x2, .inl x3, .inl (-1)] [] rfl rfl (Nat.le_of_ble_eq_true rfl) (by decide) rfl (gk_12 (gd_wI hg (kx_101 q_b0)) pk_417) ev4 (gd_nm (gd_wI hg (kx_101 q_b0)) gv4) ?_
  show K 80 [some (.inr (.inr 417)), some (.inl x1), some (.inl x2), some (.inl x3), some (.inl x4), some (.inl x5), some (.inl x6), none] [.inl v4.1] v4.2
  refine ia_go hK ck_M_isCut_80 ⟨fun c => ?_, fun c => ?_⟩
  · replace hm := ia_ifn hm c
    show K 87 [some (.inr (.inr 417)), some (.inl x1), some (.inl x2), some (.inl x3), some (.inl x4), some (.inl x5), some (.inl x6), none] [] v4.2
    refine ia_go hK ck_M_isCut_87 ?_
    show K 88 [some (.inr (.inr 417)), some (.inl x1), some (.inl x2), some (.inl x3), some (.inl x4), some (.inl x5), some (.inl x6), none] [.inl 0] v4.2
    refine ia_fg hK (lv' := [some (.inr (.inr 417)), none, none, none, some (.inl x4), some (.inl x5), some (.inl x6), none]) ⟨rfl, rfl, rfl, rfl, trivial⟩ ?_
    exact tj_M_isCut_88 hK hret 0 v4.2 gv4 hm
  · replace hm := ia_ifp hm c
    show K 83 [some (.inr (.inr 417)), some (.inl x1), some (.inl x2), some (.inl x3), some (.inl x4), some (.inl x5), some (.inl x6), none] [] v4.2
    refine ia_go hK ck_M_isCut_83 ?_
    show K 88 [some (.inr (.inr 417)), some (.inl x1), some (.inl x2), some (.inl x3), some (.inl x4), some (.inl x5), some (.inl x6), none] [.inl 1] v4.2
    refine ia_fg hK (lv' := [some (.inr (.inr 417)), none, none, none, some (.inl x4), some (.inl x5), some (.inl x6), none]) ⟨rfl, rfl, rfl, rfl, trivial⟩ ?_
    exact tj_M_isCut_88 hK hret 1 v4.2 gv4 hm
theorem gj_M_isCut_71 {w : ia_O0} {x1 : Int32} {x2 : Int32} {x3 : Int32} {x4 : Int32} {x5 : Int32} {x6 : Int32} {r : Int32} {h1 : ia_H} : ∀ (b0 : Nat) (s1 : Int32) (s2 : Int32) (h : ia_H), gd_ w h → kd_D b0 = (101, 36) → j_M_isCut_71 x1 x2 x3 x4 x5 x6 b0 s1 s2 h = some (r, h1) → gd_ w h1 := by
  intro b0 s1 s2 h hg q_b0 hm
  unfold j_M_isCut_71 at hm
  obtain ⟨c3, hm⟩ := ia_gd_some hm
  obtain ⟨v4, hv4, hm⟩ := ia_bnd hm
  have gv4 := g_M_isWay (gd_wI hg (kx_101 q_b0)) hv4
  by_cases c : v4.1 = 0
  · replace hm := ia_ifp hm c
    exact gj_M_isCut_88 1 v4.2 gv4 hm
  · replace hm := ia_ifn hm c
    exact gj_M_isCut_88 0 v4.2 gv4 hm
def j_M_isCut_47 (x1 : Int32) (x2 : Int32) (x3 : Int32) (x4 : Int32) (x5 : Int32) (x6 : Int32) (b0 : Nat) (s1 : Int32) (s2 : Int32) (h : ia_H) : Option (Int32 × ia_H) := ia_gd (ia_ib s1 36) (if x6 = x1 then (j_M_isCut_71 x1 x2 x3 x4 x5 x6 424 x6 0 (ia_wI h b0 ((s1).toNatClampNeg) (vp_nar .boolean s2))) else (if x6 = x2 then (j_M_isCut_71 x1 x2 x3 x4 x5 x6 424 x6 0 (ia_wI h b0 ((s1).toNatClampNeg) (vp_nar .boolean s2))) else (j_M_isCut_71 x1 x2 x3 x4 x5 x6 424 x6 1 (ia_wI h b0 ((s1).toNatClampNeg) (vp_nar .boolean s2)))))
theorem tj_M_isCut_47 {w : ia_O0} {d N1 W1 : Nat} {K : ia_K} (hK : ia_isK (d + 7) mm_M_isCut N1 W1 K) {x1 : Int32} {x2 : Int32} {x3 : Int32} {x4 : Int32} {x5 : Int32} {x6 : Int32} {r : Int32} {h1 : ia_H} (hret : ∀ (pc : Nat) (lv : ia_L), ia_ret mm_M_isCut pc (some (.inl r)) → K pc lv ((some (.inl r)) : Option ia_V).toList h1) : ∀ (b0 : Nat) (s1 : Int32) (s2 : Int32) (h : ia_H), gd_ w h → kd_D b0 = (101, 36) → j_M_isCut_47 x1 x2 x3 x4 x5 x6 b0 s1 s2 h = some (r, h1) → K 47 [some (.inr (.inr 417)), some (.inl x1), some (.inl x2), some (.inl x3), some (.inl x4), some (.inl x5), some (.inl x6), none] [.inl s2, .inl s1, .inr (.inr b0)] h := by
  intro b0 s1 s2 h hg q_b0 hm
  unfold j_M_isCut_47 at hm
  obtain ⟨c2, hm⟩ := ia_gd_some hm
  refine ia_go hK ck_M_isCut_47 ⟨ga_s101 hg q_b0 c2, gk_12 (gd_wI hg (kx_101 q_b0)) pk_417, gr_12_21 (gd_wI hg (kx_101 q_b0)) pk_417, fun c => ?_, fun c => ?_⟩
  · replace hm := ia_ifp hm c
    show K 70 [some (.inr (.inr 417)), some (.inl x1), some (.inl x2), some (.inl x3), some (.inl x4), some (.inl x5), some (.inl x6), none] [.inl x6, .inr (.inr 424)] (ia_wI h b0 ((s1).toNatClampNeg) (vp_nar .boolean s2))
    refine ia_go hK ck_M_isCut_70 ?_
    show K 71 [some (.inr (.inr 417)), some (.inl x1), some (.inl x2), some (.inl x3), some (.inl x4), some (.inl x5), some (.inl x6), none] [.inl 0, .inl x6, .inr (.inr 424)] (ia_wI h b0 ((s1).toNatClampNeg) (vp_nar .boolean s2))
    exact tj_M_isCut_71 hK hret 424 x6 0 (ia_wI h b0 ((s1).toNatClampNeg) (vp_nar .boolean s2)) (gd_wI hg (kx_101 q_b0)) (ka_12_21 pk_417) hm
  · replace hm := ia_ifn hm c
    show K 60 [some (.inr (.inr 417)), some (.inl x1), some (.inl x2), some (.inl x3), some (.inl x4), some (.inl x5), some (.inl x6), none] [.inl x6, .inr (.inr 424)] (ia_wI h b0 ((s1).toNatClampNeg) (vp_nar .boolean s2))
    refine ia_go hK ck_M_isCut_60 ⟨fun c => ?_, fun c => ?_⟩
    · replace hm := ia_ifp hm c
      show K 70 [some (.inr (.inr 417)), some (.inl x1), some (.inl x2), some (.inl x3), some (.inl x4), some (.inl x5), some (.inl x6), none] [.inl x6, .inr (.inr 424)] (ia_wI h b0 ((s1).toNatClampNeg) (vp_nar .boolean s2))
      refine ia_go hK ck_M_isCut_70 ?_
      show K 71 [some (.inr (.inr 417)), some (.inl x1), some (.inl x2), some (.inl x3), some (.inl x4), some (.inl x5), some (.inl x6), none] [.inl 0, .inl x6, .inr (.inr 424)] (ia_wI h b0 ((s1).toNatClampNeg) (vp_nar .boolean s2))
      exact tj_M_isCut_71 hK hret 424 x6 0 (ia_wI h b0 ((s1).toNatClampNeg) (vp_nar .boolean s2)) (gd_wI hg (kx_101 q_b0)) (ka_12_21 pk_417) hm
    · replace hm := ia_ifn hm c
      show K 66 [some (.inr (.inr 417)), some (.inl x1), some (.inl x2), some (.inl x3), some (.inl x4), some (.inl x5), some (.inl x6), none] [.inl x6, .inr (.inr 424)] (ia_wI h b0 ((s1).toNatClampNeg) (vp_nar .boolean s2))
      refine ia_go hK ck_M_isCut_66 ?_
      show K 71 [some (.inr (.inr 417)), some (.inl x1), some (.inl x2), some (.inl x3), some (.inl x4), some (.inl x5), some (.inl x6), none] [.inl 1, .inl x6, .inr (.inr 424)] (ia_wI h b0 ((s1).toNatClampNeg) (vp_nar .boolean s2))
      exact tj_M_isCut_71 hK hret 424 x6 1 (ia_wI h b0 ((s1).toNatClampNeg) (vp_nar .boolean s2)) (gd_wI hg (kx_101 q_b0)) (ka_12_21 pk_417) hm
theorem gj_M_isCut_47 {w : ia_O0} {x1 : Int32} {x2 : Int32} {x3 : Int32} {x4 : Int32} {x5 : Int32} {x6 : Int32} {r : Int32} {h1 : ia_H} : ∀ (b0 : Nat) (s1 : Int32) (s2 : Int32) (h : ia_H), gd_ w h → kd_D b0 = (101, 36) → j_M_isCut_47 x1 x2 x3 x4 x5 x6 b0 s1 s2 h = some (r, h1) → gd_ w h1 := by
  intro b0 s1 s2 h hg q_b0 hm
  unfold j_M_isCut_47 at hm
  obtain ⟨c2, hm⟩ := ia_gd_some hm
  by_cases c : x6 = x1
  · replace hm := ia_ifp hm c
    exact gj_M_isCut_71 424 x6 0 (ia_wI h b0 ((s1).toNatClampNeg) (vp_nar .boolean s2)) (gd_wI hg (kx_101 q_b0)) (ka_12_21 pk_417) hm
  · replace hm := ia_ifn hm c
    by_cases c : x6 = x2
    · replace hm := ia_ifp hm c
      exact gj_M_isCut_71 424 x6 0 (ia_wI h b0 ((s1).toNatClampNeg) (vp_nar .boolean s2)) (gd_wI hg (kx_101 q_b0)) (ka_12_21 pk_417) hm
    · replace hm := ia_ifn hm c
      exact gj_M_isCut_71 424 x6 1 (ia_wI h b0 ((s1).toNatClampNeg) (vp_nar .boolean s2)) (gd_wI hg (kx_101 q_b0)) (ka_12_21 pk_417) hm
def j_M_isCut_23 (x1 : Int32) (x2 : Int32) (x3 : Int32) (x4 : Int32) (x5 : Int32) (x6 : Int32) (b0 : Nat) (s1 : Int32) (s2 : Int32) (h : ia_H) : Option (Int32 × ia_H) := ia_gd (ia_ib s1 36) (if x5 = x1 then (j_M_isCut_47 x1 x2 x3 x4 x5 x6 424 x5 0 (ia_wI h b0 ((s1).toNatClampNeg) (vp_nar .boolean s2))) else (if x5 = x2 then (j_M_isCut_47 x1 x2 x3 x4 x5 x6 424 x5 0 (ia_wI h b0 ((s1).toNatClampNeg) (vp_nar .boolean s2))) else (j_M_isCut_47 x1 x2 x3 x4 x5 x6 424 x5 1 (ia_wI h b0 ((s1).toNatClampNeg) (vp_nar .boolean s2)))))
theorem tj_M_isCut_23 {w : ia_O0} {d N1 W1 : Nat} {K : ia_K} (hK : ia_isK (d + 7) mm_M_isCut N1 W1 K) {x1 : Int32} {x2 : Int32} {x3 : Int32} {x4 : Int32} {x5 : Int32} {x6 : Int32} {r : Int32} {h1 : ia_H} (hret : ∀ (pc : Nat) (lv : ia_L), ia_ret mm_M_isCut pc (some (.inl r)) → K pc lv ((some (.inl r)) : Option ia_V).toList h1) : ∀ (b0 : Nat) (s1 : Int32) (s2 : Int32) (h : ia_H), gd_ w h → kd_D b0 = (101, 36) → j_M_isCut_23 x1 x2 x3 x4 x5 x6 b0 s1 s2 h = some (r, h1) → K 23 [some (.inr (.inr 417)), some (.inl x1), some (.inl x2), some (.inl x3), some (.inl x4), some (.inl x5), some (.inl x6), none] [.inl s2, .inl s1, .inr (.inr b0)] h := by
  intro b0 s1 s2 h hg q_b0 hm
  unfold j_M_isCut_23 at hm
  obtain ⟨c1, hm⟩ := ia_gd_some hm
  refine ia_go hK ck_M_isCut_23 ⟨ga_s101 hg q_b0 c1, gk_12 (gd_wI hg (kx_101 q_b0)) pk_417, gr_12_21 (gd_wI hg (kx_101 q_b0)) pk_417, fun c => ?_, fun c => ?_⟩
  · replace hm := ia_ifp hm c
    show K 46 [some (.inr (.inr 417)), some (.inl x1), some (.inl x2), some (.inl x3), some (.inl x4), some (.inl x5), some (.inl x6), none] [.inl x5, .inr (.inr 424)] (ia_wI h b0 ((s1).toNatClampNeg) (vp_nar .boolean s2))
    refine ia_go hK ck_M_isCut_46 ?_
    show K 47 [some (.inr (.inr 417)), some (.inl x1), some (.inl x2), some (.inl x3), some (.inl x4), some (.inl x5), some (.inl x6), none] [.inl 0, .inl x5, .inr (.inr 424)] (ia_wI h b0 ((s1).toNatClampNeg) (vp_nar .boolean s2))
    exact tj_M_isCut_47 hK hret 424 x5 0 (ia_wI h b0 ((s1).toNatClampNeg) (vp_nar .boolean s2)) (gd_wI hg (kx_101 q_b0)) (ka_12_21 pk_417) hm
  · replace hm := ia_ifn hm c
    show K 36 [some (.inr (.inr 417)), some (.inl x1), some (.inl x2), some (.inl x3), some (.inl x4), some (.inl x5), some (.inl x6), none] [.inl x5, .inr (.inr 424)] (ia_wI h b0 ((s1).toNatClampNeg) (vp_nar .boolean s2))
    refine ia_go hK ck_M_isCut_36 ⟨fun c => ?_, fun c => ?_⟩
    · replace hm := ia_ifp hm c
      show K 46 [some (.inr (.inr 417)), some (.inl x1), some (.inl x2), some (.inl x3), some (.inl x4), some (.inl x5), some (.inl x6), none] [.inl x5, .inr (.inr 424)] (ia_wI h b0 ((s1).toNatClampNeg) (vp_nar .boolean s2))
      refine ia_go hK ck_M_isCut_46 ?_
      show K 47 [some (.inr (.inr 417)), some (.inl x1), some (.inl x2), some (.inl x3), some (.inl x4), some (.inl x5), some (.inl x6), none] [.inl 0, .inl x5, .inr (.inr 424)] (ia_wI h b0 ((s1).toNatClampNeg) (vp_nar .boolean s2))
      exact tj_M_isCut_47 hK hret 424 x5 0 (ia_wI h b0 ((s1).toNatClampNeg) (vp_nar .boolean s2)) (gd_wI hg (kx_101 q_b0)) (ka_12_21 pk_417) hm
    · replace hm := ia_ifn hm c
      show K 42 [some (.inr (.inr 417)), some (.inl x1), some (.inl x2), some (.inl x3), some (.inl x4), some (.inl x5), some (.inl x6), none] [.inl x5, .inr (.inr 424)] (ia_wI h b0 ((s1).toNatClampNeg) (vp_nar .boolean s2))
      refine ia_go hK ck_M_isCut_42 ?_
      show K 47 [some (.inr (.inr 417)), some (.inl x1), some (.inl x2), some (.inl x3), some (.inl x4), some (.inl x5), some (.inl x6), none] [.inl 1, .inl x5, .inr (.inr 424)] (ia_wI h b0 ((s1).toNatClampNeg) (vp_nar .boolean s2))
      exact tj_M_isCut_47 hK hret 424 x5 1 (ia_wI h b0 ((s1).toNatClampNeg) (vp_nar .boolean s2)) (gd_wI hg (kx_101 q_b0)) (ka_12_21 pk_417) hm
theorem gj_M_isCut_23 {w : ia_O0} {x1 : Int32} {x2 : Int32} {x3 : Int32} {x4 : Int32} {x5 : Int32} {x6 : Int32} {r : Int32} {h1 : ia_H} : ∀ (b0 : Nat) (s1 : Int32) (s2 : Int32) (h : ia_H), gd_ w h → kd_D b0 = (101, 36) → j_M_isCut_23 x1 x2 x3 x4 x5 x6 b0 s1 s2 h = some (r, h1) → gd_ w h1 := by
  intro b0 s1 s2 h hg q_b0 hm
  unfold j_M_isCut_23 at hm
  obtain ⟨c1, hm⟩ := ia_gd_some hm
  by_cases c : x5 = x1
  · replace hm := ia_ifp hm c
    exact gj_M_isCut_47 424 x5 0 (ia_wI h b0 ((s1).toNatClampNeg) (vp_nar .boolean s2)) (gd_wI hg (kx_101 q_b0)) (ka_12_21 pk_417) hm
  · replace hm := ia_ifn hm c
    by_cases c : x5 = x2
    · replace hm := ia_ifp hm c
      exact gj_M_isCut_47 424 x5 0 (ia_wI h b0 ((s1).toNatClampNeg) (vp_nar .boolean s2)) (gd_wI hg (kx_101 q_b0)) (ka_12_21 pk_417) hm
    · replace hm := ia_ifn hm c
      exact gj_M_isCut_47 424 x5 1 (ia_wI h b0 ((s1).toNatClampNeg) (vp_nar .boolean s2)) (gd_wI hg (kx_101 q_b0)) (ka_12_21 pk_417) hm
def f_M_isCut (x1 : Int32) (x2 : Int32) (x3 : Int32) (x4 : Int32) (x5 : Int32) (x6 : Int32) (h : ia_H) : Option (Int32 × ia_H) := if x4 = x1 then (j_M_isCut_23 x1 x2 x3 x4 x5 x6 424 x4 0 h) else (if x4 = x2 then (j_M_isCut_23 x1 x2 x3 x4 x5 x6 424 x4 0 h) else (j_M_isCut_23 x1 x2 x3 x4 x5 x6 424 x4 1 h))
theorem g_M_isCut {w : ia_O0} {x1 : Int32} {x2 : Int32} {x3 : Int32} {x4 : Int32} {x5 : Int32} {x6 : Int32} {h : ia_H} (hg : gd_ w h) {q : (Int32 × ia_H)} (hm : f_M_isCut x1 x2 x3 x4 x5 x6 h = some q) : gd_ w q.2 := by
  obtain ⟨r, h1⟩ := q
  unfold f_M_isCut at hm
  by_cases c : x4 = x1
  · replace hm := ia_ifp hm c
    exact gj_M_isCut_23 424 x4 0 h hg (ka_12_21 pk_417) hm
  · replace hm := ia_ifn hm c
    by_cases c : x4 = x2
    · replace hm := ia_ifp hm c
      exact gj_M_isCut_23 424 x4 0 h hg (ka_12_21 pk_417) hm
    · replace hm := ia_ifn hm c
      exact gj_M_isCut_23 424 x4 1 h hg (ka_12_21 pk_417) hm
theorem t_M_isCut {w : ia_O0} (d : Nat) {x1 : Int32} {x2 : Int32} {x3 : Int32} {x4 : Int32} {x5 : Int32} {x6 : Int32} {h : ia_H} (hg : gd_ w h) {q : (Int32 × ia_H)} (hm : f_M_isCut x1 x2 x3 x4 x5 x6 h = some q) : ia_Ev (d + 7) mm_M_isCut [.inr (.inr 417), .inl x1, .inl x2, .inl x3, .inl x4, .inl x5, .inl x6] h (some (.inl q.1)) q.2 := by
  have gq := g_M_isCut hg hm
  refine ia_Ev_intro ok_M_isCut (gd_le hg gq).1 (gd_le hg gq).2 (Nat.le_of_ble_eq_true rfl) (fun K hK hret => ?_)
  obtain ⟨r, h1⟩ := q
  show K 0 [some (.inr (.inr 417)), some (.inl x1), some (.inl x2), some (.inl x3), some (.inl x4), some (.inl x5), some (.inl x6), none] [] h
  unfold f_M_isCut at hm
  refine ia_go hK ck_M_isCut_0 ⟨gk_12 hg pk_417, gr_12_21 hg pk_417, fun c => ?_, fun c => ?_⟩
  · replace hm := ia_ifp hm c
    show K 22 [some (.inr (.inr 417)), some (.inl x1), some (.inl x2), some (.inl x3), some (.inl x4), some (.inl x5), some (.inl x6), none] [.inl x4, .inr (.inr 424)] h
    refine ia_go hK ck_M_isCut_22 ?_
    show K 23 [some (.inr (.inr 417)), some (.inl x1), some (.inl x2), some (.inl x3), some (.inl x4), some (.inl x5), some (.inl x6), none] [.inl 0, .inl x4, .inr (.inr 424)] h
    exact tj_M_isCut_23 hK hret 424 x4 0 h hg (ka_12_21 pk_417) hm
  · replace hm := ia_ifn hm c
    show K 12 [some (.inr (.inr 417)), some (.inl x1), some (.inl x2), some (.inl x3), some (.inl x4), some (.inl x5), some (.inl x6), none] [.inl x4, .inr (.inr 424)] h
    refine ia_go hK ck_M_isCut_12 ⟨fun c => ?_, fun c => ?_⟩
    · replace hm := ia_ifp hm c
      show K 22 [some (.inr (.inr 417)), some (.inl x1), some (.inl x2), some (.inl x3), some (.inl x4), some (.inl x5), some (.inl x6), none] [.inl x4, .inr (.inr 424)] h
      refine ia_go hK ck_M_isCut_22 ?_
      show K 23 [some (.inr (.inr 417)), some (.inl x1), some (.inl x2), some (.inl x3), some (.inl x4), some (.inl x5), some (.inl x6), none] [.inl 0, .inl x4, .inr (.inr 424)] h
      exact tj_M_isCut_23 hK hret 424 x4 0 h hg (ka_12_21 pk_417) hm
    · replace hm := ia_ifn hm c
      show K 18 [some (.inr (.inr 417)), some (.inl x1), some (.inl x2), some (.inl x3), some (.inl x4), some (.inl x5), some (.inl x6), none] [.inl x4, .inr (.inr 424)] h
      refine ia_go hK ck_M_isCut_18 ?_
      show K 23 [some (.inr (.inr 417)), some (.inl x1), some (.inl x2), some (.inl x3), some (.inl x4), some (.inl x5), some (.inl x6), none] [.inl 1, .inl x4, .inr (.inr 424)] h
      exact tj_M_isCut_23 hK hret 424 x4 1 h hg (ka_12_21 pk_417) hm
def mm_M_sawn : ia_M := (⟨"IceStreetModel", "sawn", "(IIIIIII)I"⟩, prog_14_method_110_code, 13, (some .int), 12, false)
theorem ok_M_sawn : ia_mok mm_M_sawn := ⟨by decide +kernel, by decide +kernel, by decide +kernel, by decide +kernel⟩
theorem mk_M_sawn : ia_mkn mm_M_sawn 1 7 := ⟨ia_tb_in (List.mem_of_getElem? (i := 2148) (by decide +kernel)) rfl, ia_tb_in (List.mem_of_getElem? (i := 146) (by decide +kernel)) rfl, by decide +kernel, by decide +kernel, ⟨ia_tb_in (List.mem_of_getElem? (i := 2146) (by decide +kernel)) rfl, ia_tb_in (List.mem_of_getElem? (i := 2147) (by decide +kernel)) rfl⟩⟩
theorem ck_M_sawn_0 : ia_cks 12 13 false prog_14_method_110_code 0 [(.iload 5, 0, 0, 0, 0)] = true := by decide +kernel
theorem ck_M_sawn_5 : ia_cks 12 13 false prog_14_method_110_code 5 [(.ifCond .eq 19, 0, 0, 0, 0)] = true := by decide +kernel
theorem ck_M_sawn_24 : ia_cks 12 13 false prog_14_method_110_code 24 [(.iconst (-1), 0, 0, 0, 0)] = true := by decide +kernel
theorem ck_M_sawn_8 : ia_cks 12 13 false prog_14_method_110_code 8 [(.aload_n 0, 0, 0, 0, 0), (.iload_n 1, 0, 0, 0, 0), (.iload_n 2, 0, 0, 0, 0), (.iload_n 3, 0, 0, 0, 0), (.iload 4, 0, 0, 0, 0), (.iload 6, 0, 0, 0, 0), (.iload 7, 0, 0, 0, 0)] = true := by decide +kernel
theorem ck_M_sawn_21 : ia_cks 12 13 false prog_14_method_110_code 21 [(.ifCond .ne 5, 0, 0, 0, 0)] = true := by decide +kernel
theorem ck_M_sawn_26 : ia_cks 12 13 false prog_14_method_110_code 26 [(.aload_n 0, 0, 0, 0, 0), (.iload 6, 0, 0, 0, 0), (.iload 7, 0, 0, 0, 0), (.iload 5, 0, 0, 0, 0), (.iconst (-1), 0, 0, 0, 0)] = true := by decide +kernel
theorem ck_M_sawn_37 : ia_cks 12 13 false prog_14_method_110_code 37 [(.ifCond .ne 5, 0, 0, 0, 0)] = true := by decide +kernel
theorem ck_M_sawn_42 : ia_cks 12 13 false prog_14_method_110_code 42 [(.aload_n 0, 0, 0, 0, 0), (.iload 6, 0, 0, 0, 0), (.iload 7, 0, 0, 0, 0)] = true := by decide +kernel
theorem ck_M_sawn_50 : ia_cks 12 13 false prog_14_method_110_code 50 [(.iconst 1, 0, 0, 0, 0), (.if_icmp .ne 16, 0, 0, 0, 0)] = true := by decide +kernel
theorem ck_M_sawn_67 : ia_cks 12 13 false prog_14_method_110_code 67 [(.iconst 4, 0, 0, 0, 0), (.istore 8, 0, 0, 0, 0), (.iconst 0, 0, 0, 0, 0), (.istore 9, 0, 0, 0, 0)] = true := by decide +kernel
theorem ck_M_sawn_73 : ia_cks 12 13 false prog_14_method_110_code 73 [(.iload 9, 0, 0, 0, 0), (.aload_n 0, 0, 0, 0, 0)] = true := by decide +kernel
theorem ck_M_sawn_79 : ia_cks 12 13 false prog_14_method_110_code 79 [(.if_icmp .ge 115, 0, 0, 0, 0)] = true := by decide +kernel
theorem ck_M_sawn_82 : ia_cks 12 13 false prog_14_method_110_code 82 [(.iload 9, 0, 0, 0, 0), (.istore 10, 0, 0, 0, 0)] = true := by decide +kernel
theorem ck_M_sawn_86 : ia_cks 12 13 false prog_14_method_110_code 86 [(.iload 10, 0, 0, 0, 0), (.aload_n 0, 0, 0, 0, 0)] = true := by decide +kernel
theorem ck_M_sawn_92 : ia_cks 12 13 false prog_14_method_110_code 92 [(.if_icmp .ge 96, 0, 0, 0, 0)] = true := by decide +kernel
theorem ck_M_sawn_95 : ia_cks 12 13 false prog_14_method_110_code 95 [(.iload 10, 0, 0, 0, 0), (.istore 11, 0, 0, 0, 0)] = true := by decide +kernel
theorem ck_M_sawn_99 : ia_cks 12 13 false prog_14_method_110_code 99 [(.iload 11, 0, 0, 0, 0), (.aload_n 0, 0, 0, 0, 0)] = true := by decide +kernel
theorem ck_M_sawn_105 : ia_cks 12 13 false prog_14_method_110_code 105 [(.if_icmp .ge 77, 0, 0, 0, 0)] = true := by decide +kernel
theorem ck_M_sawn_108 : ia_cks 12 13 false prog_14_method_110_code 108 [(.iload 8, 0, 0, 0, 0), (.iconst 1, 0, 0, 0, 0), (.if_icmp .le 71, 0, 0, 0, 0)] = true := by decide +kernel
theorem ck_M_sawn_114 : ia_cks 12 13 false prog_14_method_110_code 114 [(.iload 9, 0, 0, 0, 0), (.iload 11, 0, 0, 0, 0), (.if_icmp .ne 7, 0, 0, 0, 0)] = true := by decide +kernel
theorem ck_M_sawn_125 : ia_cks 12 13 false prog_14_method_110_code 125 [(.iload 9, 0, 0, 0, 0), (.iload 10, 0, 0, 0, 0), (.if_icmp .eq 10, 0, 0, 0, 0)] = true := by decide +kernel
theorem ck_M_sawn_139 : ia_cks 12 13 false prog_14_method_110_code 139 [(.iconst 2, 0, 0, 0, 0), (.goto 4, 0, 0, 0, 0)] = true := by decide +kernel
theorem ck_M_sawn_144 : ia_cks 12 13 false prog_14_method_110_code 144 [(.istore 12, 0, 0, 0, 0), (.iload 12, 0, 0, 0, 0), (.iload 8, 0, 0, 0, 0), (.if_icmp .ge 26, 0, 0, 0, 0)] = true := by decide +kernel
theorem ck_M_sawn_176 : ia_cks 12 13 false prog_14_method_110_code 176 [(.iinc 11 1, 0, 0, 0, 0), (.goto (-80), 0, 0, 0, 0)] = true := by decide +kernel
theorem ck_M_sawn_153 : ia_cks 12 13 false prog_14_method_110_code 153 [(.aload_n 0, 0, 0, 0, 0), (.iload 6, 0, 0, 0, 0), (.iload 7, 0, 0, 0, 0), (.iload 5, 0, 0, 0, 0), (.iload 9, 0, 0, 0, 0), (.iload 10, 0, 0, 0, 0), (.iload 11, 0, 0, 0, 0)] = true := by decide +kernel
theorem ck_M_sawn_169 : ia_cks 12 13 false prog_14_method_110_code 169 [(.ifCond .eq 7, 0, 0, 0, 0)] = true := by decide +kernel
theorem ck_M_sawn_172 : ia_cks 12 13 false prog_14_method_110_code 172 [(.iload 12, 0, 0, 0, 0), (.istore 8, 0, 0, 0, 0), (.iinc 11 1, 0, 0, 0, 0), (.goto (-80), 0, 0, 0, 0)] = true := by decide +kernel
theorem ck_M_sawn_132 : ia_cks 12 13 false prog_14_method_110_code 132 [(.iload 10, 0, 0, 0, 0), (.iload 11, 0, 0, 0, 0), (.if_icmp .ne 7, 0, 0, 0, 0)] = true := by decide +kernel
theorem ck_M_sawn_143 : ia_cks 12 13 false prog_14_method_110_code 143 [(.iconst 3, 0, 0, 0, 0)] = true := by decide +kernel
theorem ck_M_sawn_121 : ia_cks 12 13 false prog_14_method_110_code 121 [(.iconst 1, 0, 0, 0, 0), (.goto 22, 0, 0, 0, 0)] = true := by decide +kernel
theorem ck_M_sawn_182 : ia_cks 12 13 false prog_14_method_110_code 182 [(.iinc 10 1, 0, 0, 0, 0), (.goto (-99), 0, 0, 0, 0)] = true := by decide +kernel
theorem ck_M_sawn_188 : ia_cks 12 13 false prog_14_method_110_code 188 [(.iinc 9 1, 0, 0, 0, 0), (.goto (-118), 0, 0, 0, 0)] = true := by decide +kernel
theorem ck_M_sawn_194 : ia_cks 12 13 false prog_14_method_110_code 194 [(.iload 8, 0, 0, 0, 0)] = true := by decide +kernel
theorem ck_M_sawn_54 : ia_cks 12 13 false prog_14_method_110_code 54 [(.aload_n 0, 0, 0, 0, 0), (.iload 6, 0, 0, 0, 0), (.iload 7, 0, 0, 0, 0)] = true := by decide +kernel
theorem ck_M_sawn_62 : ia_cks 12 13 false prog_14_method_110_code 62 [(.ifCond .ne 5, 0, 0, 0, 0)] = true := by decide +kernel
theorem ck_M_sawn_65 : ia_cks 12 13 false prog_14_method_110_code 65 [(.iconst (-1), 0, 0, 0, 0)] = true := by decide +kernel
theorem ck_M_sawn_40 : ia_cks 12 13 false prog_14_method_110_code 40 [(.iconst 0, 0, 0, 0, 0)] = true := by decide +kernel
theorem dc_M_sawn_2 : decode prog_14_method_110_code 2 = .ok (.invokestatic 349, 3) := by decide +kernel
theorem dc_M_sawn_25 : decode prog_14_method_110_code 25 = .ok (.ireturn, 1) := by decide +kernel
theorem dc_M_sawn_18 : decode prog_14_method_110_code 18 = .ok (.invokevirtual 325, 3) := by decide +kernel
theorem dc_M_sawn_34 : decode prog_14_method_110_code 34 = .ok (.invokevirtual 269, 3) := by decide +kernel
theorem dc_M_sawn_47 : decode prog_14_method_110_code 47 = .ok (.invokevirtual 275, 3) := by decide +kernel
theorem dc_M_sawn_76 : decode prog_14_method_110_code 76 = .ok (.invokevirtual 234, 3) := by decide +kernel
theorem dc_M_sawn_89 : decode prog_14_method_110_code 89 = .ok (.invokevirtual 234, 3) := by decide +kernel
theorem dc_M_sawn_102 : decode prog_14_method_110_code 102 = .ok (.invokevirtual 234, 3) := by decide +kernel
theorem dc_M_sawn_166 : decode prog_14_method_110_code 166 = .ok (.invokevirtual 389, 3) := by decide +kernel
theorem dc_M_sawn_196 : decode prog_14_method_110_code 196 = .ok (.ireturn, 1) := by decide +kernel
theorem dc_M_sawn_59 : decode prog_14_method_110_code 59 = .ok (.invokevirtual 259, 3) := by decide +kernel
theorem dc_M_sawn_66 : decode prog_14_method_110_code 66 = .ok (.ireturn, 1) := by decide +kernel
theorem dc_M_sawn_41 : decode prog_14_method_110_code 41 = .ok (.ireturn, 1) := by decide +kernel
def j_M_sawn_144 (x1 : Int32) (x2 : Int32) (x3 : Int32) (x4 : Int32) (x5 : Int32) (x6 : Int32) (x7 : Int32) (kr : Int32 → Int32 → Int32 → Int32 → ia_H → Option (Int32 × ia_H)) (k182 : Int32 → Int32 → Int32 → ia_H → Option (Int32 × ia_H)) (x8 : Int32) (x9 : Int32) (x10 : Int32) (x11 : Int32) (s0 : Int32) (h : ia_H) : Option (Int32 × ia_H) := if x8 ≤ s0 then (kr x8 x9 x10 (x11 + 1) h) else ((f_M_isCut x6 x7 x5 x9 x10 x11 h).bind fun v8 => (if v8.1 = 0 then (kr x8 x9 x10 (x11 + 1) v8.2) else (kr s0 x9 x10 (x11 + 1) v8.2)))
theorem tj_M_sawn_144 {w : ia_O0} {d N1 W1 : Nat} {K : ia_K} (hK : ia_isK (d + 12) mm_M_sawn N1 W1 K) {x1 : Int32} {x2 : Int32} {x3 : Int32} {x4 : Int32} {x5 : Int32} {x6 : Int32} {x7 : Int32} {r : Int32} {h1 : ia_H} (hret : ∀ (pc : Nat) (lv : ia_L), ia_ret mm_M_sawn pc (some (.inl r)) → K pc lv ((some (.inl r)) : Option ia_V).toList h1) {kr : Int32 → Int32 → Int32 → Int32 → ia_H → Option (Int32 × ia_H)} {k182 : Int32 → Int32 → Int32 → ia_H → Option (Int32 × ia_H)} (hkr : ∀ (x8 : Int32) (x9 : Int32) (x10 : Int32) (x11 : Int32) (h : ia_H), gd_ w h → kr x8 x9 x10 x11 h = some (r, h1) → K 99 [some (.inr (.inr 417)), none, none, none, none, some (.inl x5), some (.inl x6), some (.inl x7), some (.inl x8), some (.inl x9), some (.inl x10), some (.inl x11), none] [] h) (hk182 : ∀ (x8 : Int32) (x9 : Int32) (x10 : Int32) (h : ia_H), gd_ w h → k182 x8 x9 x10 h = some (r, h1) → K 182 [some (.inr (.inr 417)), none, none, none, none, some (.inl x5), some (.inl x6), some (.inl x7), some (.inl x8), some (.inl x9), some (.inl x10), none, none] [] h) : ∀ (x8 : Int32) (x9 : Int32) (x10 : Int32) (x11 : Int32) (s0 : Int32) (h : ia_H), gd_ w h → j_M_sawn_144 x1 x2 x3 x4 x5 x6 x7 kr k182 x8 x9 x10 x11 s0 h = some (r, h1) → K 144 [some (.inr (.inr 417)), none, none, none, none, some (.inl x5), some (.inl x6), some (.inl x7), some (.inl x8), some (.inl x9), some (.inl x10), some (.inl x11), none] [.inl s0] h := by
  intro x8 x9 x10 x11 s0 h hg hm
  unfold j_M_sawn_144 at hm
  refine ia_go hK ck_M_sawn_144 ⟨fun c => ?_, fun c => ?_⟩
  · replace hm := ia_ifp hm c
    show K 176 [some (.inr (.inr 417)), none, none, none, none, some (.inl x5), some (.inl x6), some (.inl x7), some (.inl x8), some (.inl x9), some (.inl x10), some (.inl x11), some (.inl s0)] [] h
    refine ia_go hK ck_M_sawn_176 ?_
    show K 99 [some (.inr (.inr 417)), none, none, none, none, some (.inl x5), some (.inl x6), some (.inl x7), some (.inl x8), some (.inl x9), some (.inl x10), some (.inl (x11 + 1)), some (.inl s0)] [] h
    refine ia_fg hK (lv' := [some (.inr (.inr 417)), none, none, none, none, some (.inl x5), some (.inl x6), some (.inl x7), some (.inl x8), some (.inl x9), some (.inl x10), some (.inl (x11 + 1)), none]) ⟨rfl, rfl, rfl, rfl, rfl, rfl, rfl, rfl, trivial⟩ ?_
    exact hkr x8 x9 x10 (x11 + 1) h hg hm
  · replace hm := ia_ifn hm c
    show K 153 [some (.inr (.inr 417)), none, none, none, none, some (.inl x5), some (.inl x6), some (.inl x7), some (.inl x8), some (.inl x9), some (.inl x10), some (.inl x11), some (.inl s0)] [] h
    refine ia_go hK ck_M_sawn_153 ?_
    show K 166 [some (.inr (.inr 417)), none, none, none, none, some (.inl x5), some (.inl x6), some (.inl x7), some (.inl x8), some (.inl x9), some (.inl x10), some (.inl x11), some (.inl s0)] [.inl x11, .inl x10, .inl x9, .inl x5, .inl x7, .inl x6, .inr (.inr 417)] h
    obtain ⟨v8, hv8, hm⟩ := ia_bnd hm
    have ev8 := t_M_isCut (d + 4) hg hv8
    have gv8 := g_M_isCut hg hv8
    refine ia_cV hK mk_M_isCut lk_12_389 dc_M_sawn_166 417 [.inl x6, .inl x7, .inl x5, .inl x9, .inl x10, .inl x11] [] rfl rfl (Nat.le_of_ble_eq_true rfl) (by decide) rfl (gk_12 hg pk_417) ev8 (gd_nm hg gv8) ?_
    show K 169 [some (.inr (.inr 417)), none, none, none, none, some (.inl x5), some (.inl x6), some (.inl x7), some (.inl x8), some (.inl x9), some (.inl x10), some (.inl x11), some (.inl s0)] [.inl v8.1] v8.2
    refine ia_go hK ck_M_sawn_169 ⟨fun c => ?_, fun c => ?_⟩
    · replace hm := ia_ifp hm c
      show K 176 [some (.inr (.inr 417)), none, none, none, none, some (.inl x5), some (.inl x6), some (.inl x7), some (.inl x8), some (.inl x9), some (.inl x10), some (.inl x11), some (.inl s0)] [] v8.2
      refine ia_go hK ck_M_sawn_176 ?_
      show K 99 [some (.inr (.inr 417)), none, none, none, none, some (.inl x5), some (.inl x6), some (.inl x7), some (.inl x8), some (.inl x9), some (.inl x10), some (.inl (x11 + 1)), some (.inl s0)] [] v8.2
      refine ia_fg hK (lv' := [some (.inr (.inr 417)), none, none, none, none, some (.inl x5), some (.inl x6), some (.inl x7), some (.inl x8), some (.inl x9), some (.inl x10), some (.inl (x11 + 1)), none]) ⟨rfl, rfl, rfl, rfl, rfl, rfl, rfl, rfl, trivial⟩ ?_
      exact hkr x8 x9 x10 (x11 + 1) v8.2 gv8 hm
    · replace hm := ia_ifn hm c
      show K 172 [some (.inr (.inr 417)), none, none, none, none, some (.inl x5), some (.inl x6), some (.inl x7), some (.inl x8), some (.inl x9), some (.inl x10), some (.inl x11), some (.inl s0)] [] v8.2
      refine ia_go hK ck_M_sawn_172 ?_
      show K 99 [some (.inr (.inr 417)), none, none, none, none, some (.inl x5), some (.inl x6), some (.inl x7), some (.inl s0), some (.inl x9), some (.inl x10), some (.inl (x11 + 1)), some (.inl s0)] [] v8.2
      refine ia_fg hK (lv' := [some (.inr (.inr 417)), none, none, none, none, some (.inl x5), some (.inl x6), some (.inl x7), some (.inl s0), some (.inl x9), some (.inl x10), some (.inl (x11 + 1)), none]) ⟨rfl, rfl, rfl, rfl, rfl, rfl, rfl, rfl, trivial⟩ ?_
      exact hkr s0 x9 x10 (x11 + 1) v8.2 gv8 hm
theorem gj_M_sawn_144 {w : ia_O0} {x1 : Int32} {x2 : Int32} {x3 : Int32} {x4 : Int32} {x5 : Int32} {x6 : Int32} {x7 : Int32} {r : Int32} {h1 : ia_H} {kr : Int32 → Int32 → Int32 → Int32 → ia_H → Option (Int32 × ia_H)} {k182 : Int32 → Int32 → Int32 → ia_H → Option (Int32 × ia_H)} (hkr : ∀ (x8 : Int32) (x9 : Int32) (x10 : Int32) (x11 : Int32) (h : ia_H), gd_ w h → kr x8 x9 x10 x11 h = some (r, h1) → gd_ w h1) (hk182 : ∀ (x8 : Int32) (x9 : Int32) (x10 : Int32) (h : ia_H), gd_ w h → k182 x8 x9 x10 h = some (r, h1) → gd_ w h1) : ∀ (x8 : Int32) (x9 : Int32) (x10 : Int32) (x11 : Int32) (s0 : Int32) (h : ia_H), gd_ w h → j_M_sawn_144 x1 x2 x3 x4 x5 x6 x7 kr k182 x8 x9 x10 x11 s0 h = some (r, h1) → gd_ w h1 := by
  intro x8 x9 x10 x11 s0 h hg hm
  unfold j_M_sawn_144 at hm
  by_cases c : x8 ≤ s0
  · replace hm := ia_ifp hm c
    exact hkr x8 x9 x10 (x11 + 1) h hg hm
  · replace hm := ia_ifn hm c
    obtain ⟨v8, hv8, hm⟩ := ia_bnd hm
    have gv8 := g_M_isCut hg hv8
    by_cases c : v8.1 = 0
    · replace hm := ia_ifp hm c
      exact hkr x8 x9 x10 (x11 + 1) v8.2 gv8 hm
    · replace hm := ia_ifn hm c
      exact hkr s0 x9 x10 (x11 + 1) v8.2 gv8 hm
def l_M_sawn_99 (x1 : Int32) (x2 : Int32) (x3 : Int32) (x4 : Int32) (x5 : Int32) (x6 : Int32) (x7 : Int32) (k182 : Int32 → Int32 → Int32 → ia_H → Option (Int32 × ia_H)) (n : Nat) (x8 : Int32) (x9 : Int32) (x10 : Int32) (x11 : Int32) (h : ia_H) : Option (Int32 × ia_H) := match n with
  | 0 => none
  | n + 1 => (f_M_cells h).bind fun v7 => (if v7 ≤ x11 then (k182 x8 x9 x10 h) else (if x8 ≤ 1 then (k182 x8 x9 x10 h) else (if x9 = x11 then (j_M_sawn_144 x1 x2 x3 x4 x5 x6 x7 (l_M_sawn_99 x1 x2 x3 x4 x5 x6 x7 k182 n) k182 x8 x9 x10 x11 1 h) else (if x9 = x10 then (j_M_sawn_144 x1 x2 x3 x4 x5 x6 x7 (l_M_sawn_99 x1 x2 x3 x4 x5 x6 x7 k182 n) k182 x8 x9 x10 x11 2 h) else (if x10 = x11 then (j_M_sawn_144 x1 x2 x3 x4 x5 x6 x7 (l_M_sawn_99 x1 x2 x3 x4 x5 x6 x7 k182 n) k182 x8 x9 x10 x11 2 h) else (j_M_sawn_144 x1 x2 x3 x4 x5 x6 x7 (l_M_sawn_99 x1 x2 x3 x4 x5 x6 x7 k182 n) k182 x8 x9 x10 x11 3 h))))))
theorem tl_M_sawn_99 {w : ia_O0} {d N1 W1 : Nat} {K : ia_K} (hK : ia_isK (d + 12) mm_M_sawn N1 W1 K) {x1 : Int32} {x2 : Int32} {x3 : Int32} {x4 : Int32} {x5 : Int32} {x6 : Int32} {x7 : Int32} {r : Int32} {h1 : ia_H} (hret : ∀ (pc : Nat) (lv : ia_L), ia_ret mm_M_sawn pc (some (.inl r)) → K pc lv ((some (.inl r)) : Option ia_V).toList h1) {k182 : Int32 → Int32 → Int32 → ia_H → Option (Int32 × ia_H)} (hk182 : ∀ (x8 : Int32) (x9 : Int32) (x10 : Int32) (h : ia_H), gd_ w h → k182 x8 x9 x10 h = some (r, h1) → K 182 [some (.inr (.inr 417)), none, none, none, none, some (.inl x5), some (.inl x6), some (.inl x7), some (.inl x8), some (.inl x9), some (.inl x10), none, none] [] h) : ∀ (n : Nat) (x8 : Int32) (x9 : Int32) (x10 : Int32) (x11 : Int32) (h : ia_H), gd_ w h → l_M_sawn_99 x1 x2 x3 x4 x5 x6 x7 k182 n x8 x9 x10 x11 h = some (r, h1) → K 99 [some (.inr (.inr 417)), none, none, none, none, some (.inl x5), some (.inl x6), some (.inl x7), some (.inl x8), some (.inl x9), some (.inl x10), some (.inl x11), none] [] h := by
  intro n
  induction n with
  | zero =>
    intro x8 x9 x10 x11 h hg hm
    cases (show (none : Option (Int32 × ia_H)) = some _ from hm)
  | succ n ih =>
    intro x8 x9 x10 x11 h hg hm
    rw [l_M_sawn_99] at hm
    refine ia_go hK ck_M_sawn_99 ?_
    show K 102 [some (.inr (.inr 417)), none, none, none, none, some (.inl x5), some (.inl x6), some (.inl x7), some (.inl x8), some (.inl x9), some (.inl x10), some (.inl x11), none] [.inr (.inr 417), .inl x11] h
    obtain ⟨v7, hv7, hm⟩ := ia_bnd hm
    have ev7 := t_M_cells (d + 11) hg hv7
    refine ia_cV hK mk_M_cells lk_12_234 dc_M_sawn_102 417 [] [.inl x11] rfl rfl (Nat.le_of_ble_eq_true rfl) (by decide) rfl (gk_12 hg pk_417) ev7 ⟨rfl, rfl⟩ ?_
    show K 105 [some (.inr (.inr 417)), none, none, none, none, some (.inl x5), some (.inl x6), some (.inl x7), some (.inl x8), some (.inl x9), some (.inl x10), some (.inl x11), none] [.inl v7, .inl x11] h
    refine ia_go hK ck_M_sawn_105 ⟨fun c => ?_, fun c => ?_⟩
    · replace hm := ia_ifp hm c
      show K 182 [some (.inr (.inr 417)), none, none, none, none, some (.inl x5), some (.inl x6), some (.inl x7), some (.inl x8), some (.inl x9), some (.inl x10), some (.inl x11), none] [] h
      refine ia_fg hK (lv' := [some (.inr (.inr 417)), none, none, none, none, some (.inl x5), some (.inl x6), some (.inl x7), some (.inl x8), some (.inl x9), some (.inl x10), none, none]) ⟨rfl, rfl, rfl, rfl, rfl, rfl, rfl, trivial⟩ ?_
      exact hk182 x8 x9 x10 h hg hm
    · replace hm := ia_ifn hm c
      show K 108 [some (.inr (.inr 417)), none, none, none, none, some (.inl x5), some (.inl x6), some (.inl x7), some (.inl x8), some (.inl x9), some (.inl x10), some (.inl x11), none] [] h
      refine ia_go hK ck_M_sawn_108 ⟨fun c => ?_, fun c => ?_⟩
      · replace hm := ia_ifp hm c
        show K 182 [some (.inr (.inr 417)), none, none, none, none, some (.inl x5), some (.inl x6), some (.inl x7), some (.inl x8), some (.inl x9), some (.inl x10), some (.inl x11), none] [] h
        refine ia_fg hK (lv' := [some (.inr (.inr 417)), none, none, none, none, some (.inl x5), some (.inl x6), some (.inl x7), some (.inl x8), some (.inl x9), some (.inl x10), none, none]) ⟨rfl, rfl, rfl, rfl, rfl, rfl, rfl, trivial⟩ ?_
        exact hk182 x8 x9 x10 h hg hm
      · replace hm := ia_ifn hm c
        show K 114 [some (.inr (.inr 417)), none, none, none, none, some (.inl x5), some (.inl x6), some (.inl x7), some (.inl x8), some (.inl x9), some (.inl x10), some (.inl x11), none] [] h
        refine ia_go hK ck_M_sawn_114 ⟨fun c => ?_, fun c => ?_⟩
        · replace hm := ia_ifn hm c
          show K 125 [some (.inr (.inr 417)), none, none, none, none, some (.inl x5), some (.inl x6), some (.inl x7), some (.inl x8), some (.inl x9), some (.inl x10), some (.inl x11), none] [] h
          refine ia_go hK ck_M_sawn_125 ⟨fun c => ?_, fun c => ?_⟩
          · replace hm := ia_ifp hm c
            show K 139 [some (.inr (.inr 417)), none, none, none, none, some (.inl x5), some (.inl x6), some (.inl x7), some (.inl x8), some (.inl x9), some (.inl x10), some (.inl x11), none] [] h
            refine ia_go hK ck_M_sawn_139 ?_
            show K 144 [some (.inr (.inr 417)), none, none, none, none, some (.inl x5), some (.inl x6), some (.inl x7), some (.inl x8), some (.inl x9), some (.inl x10), some (.inl x11), none] [.inl 2] h
            exact tj_M_sawn_144 hK hret ih hk182 x8 x9 x10 x11 2 h hg hm
          · replace hm := ia_ifn hm c
            show K 132 [some (.inr (.inr 417)), none, none, none, none, some (.inl x5), some (.inl x6), some (.inl x7), some (.inl x8), some (.inl x9), some (.inl x10), some (.inl x11), none] [] h
            refine ia_go hK ck_M_sawn_132 ⟨fun c => ?_, fun c => ?_⟩
            · replace hm := ia_ifn hm c
              show K 143 [some (.inr (.inr 417)), none, none, none, none, some (.inl x5), some (.inl x6), some (.inl x7), some (.inl x8), some (.inl x9), some (.inl x10), some (.inl x11), none] [] h
              refine ia_go hK ck_M_sawn_143 ?_
              show K 144 [some (.inr (.inr 417)), none, none, none, none, some (.inl x5), some (.inl x6), some (.inl x7), some (.inl x8), some (.inl x9), some (.inl x10), some (.inl x11), none] [.inl 3] h
              exact tj_M_sawn_144 hK hret ih hk182 x8 x9 x10 x11 3 h hg hm
            · replace hm := ia_ifp hm c
              show K 139 [some (.inr (.inr 417)), none, none, none, none, some (.inl x5), some (.inl x6), some (.inl x7), some (.inl x8), some (.inl x9), some (.inl x10), some (.inl x11), none] [] h
              refine ia_go hK ck_M_sawn_139 ?_
              show K 144 [some (.inr (.inr 417)), none, none, none, none, some (.inl x5), some (.inl x6), some (.inl x7), some (.inl x8), some (.inl x9), some (.inl x10), some (.inl x11), none] [.inl 2] h
              exact tj_M_sawn_144 hK hret ih hk182 x8 x9 x10 x11 2 h hg hm
        · replace hm := ia_ifp hm c
          show K 121 [some (.inr (.inr 417)), none, none, none, none, some (.inl x5), some (.inl x6), some (.inl x7), some (.inl x8), some (.inl x9), some (.inl x10), some (.inl x11), none] [] h
          refine ia_go hK ck_M_sawn_121 ?_
          show K 144 [some (.inr (.inr 417)), none, none, none, none, some (.inl x5), some (.inl x6), some (.inl x7), some (.inl x8), some (.inl x9), some (.inl x10), some (.inl x11), none] [.inl 1] h
          exact tj_M_sawn_144 hK hret ih hk182 x8 x9 x10 x11 1 h hg hm
theorem gl_M_sawn_99 {w : ia_O0} {x1 : Int32} {x2 : Int32} {x3 : Int32} {x4 : Int32} {x5 : Int32} {x6 : Int32} {x7 : Int32} {r : Int32} {h1 : ia_H} {k182 : Int32 → Int32 → Int32 → ia_H → Option (Int32 × ia_H)} (hk182 : ∀ (x8 : Int32) (x9 : Int32) (x10 : Int32) (h : ia_H), gd_ w h → k182 x8 x9 x10 h = some (r, h1) → gd_ w h1) : ∀ (n : Nat) (x8 : Int32) (x9 : Int32) (x10 : Int32) (x11 : Int32) (h : ia_H), gd_ w h → l_M_sawn_99 x1 x2 x3 x4 x5 x6 x7 k182 n x8 x9 x10 x11 h = some (r, h1) → gd_ w h1 := by
  intro n
  induction n with
  | zero =>
    intro x8 x9 x10 x11 h hg hm
    cases (show (none : Option (Int32 × ia_H)) = some _ from hm)
  | succ n ih =>
    intro x8 x9 x10 x11 h hg hm
    rw [l_M_sawn_99] at hm
    obtain ⟨v7, hv7, hm⟩ := ia_bnd hm
    by_cases c : v7 ≤ x11
    · replace hm := ia_ifp hm c
      exact hk182 x8 x9 x10 h hg hm
    · replace hm := ia_ifn hm c
      by_cases c : x8 ≤ 1
      · replace hm := ia_ifp hm c
        exact hk182 x8 x9 x10 h hg hm
      · replace hm := ia_ifn hm c
        by_cases c : x9 = x11
        · replace hm := ia_ifp hm c
          exact gj_M_sawn_144 ih hk182 x8 x9 x10 x11 1 h hg hm
        · replace hm := ia_ifn hm c
          by_cases c : x9 = x10
          · replace hm := ia_ifp hm c
            exact gj_M_sawn_144 ih hk182 x8 x9 x10 x11 2 h hg hm
          · replace hm := ia_ifn hm c
            by_cases c : x10 = x11
            · replace hm := ia_ifp hm c
              exact gj_M_sawn_144 ih hk182 x8 x9 x10 x11 2 h hg hm
            · replace hm := ia_ifn hm c
              exact gj_M_sawn_144 ih hk182 x8 x9 x10 x11 3 h hg hm
def l_M_sawn_86 (x1 : Int32) (x2 : Int32) (x3 : Int32) (x4 : Int32) (x5 : Int32) (x6 : Int32) (x7 : Int32) (k188 : Int32 → Int32 → ia_H → Option (Int32 × ia_H)) (n : Nat) (x8 : Int32) (x9 : Int32) (x10 : Int32) (h : ia_H) : Option (Int32 × ia_H) := match n with
  | 0 => none
  | n + 1 => (f_M_cells h).bind fun v6 => (if v6 ≤ x10 then (k188 x8 x9 h) else (l_M_sawn_99 x1 x2 x3 x4 x5 x6 x7 (fun x8 x9 x10 h => l_M_sawn_86 x1 x2 x3 x4 x5 x6 x7 k188 n x8 x9 (x10 + 1) h) fu_ x8 x9 x10 x10 h))
theorem tl_M_sawn_86 {w : ia_O0} {d N1 W1 : Nat} {K : ia_K} (hK : ia_isK (d + 12) mm_M_sawn N1 W1 K) {x1 : Int32} {x2 : Int32} {x3 : Int32} {x4 : Int32} {x5 : Int32} {x6 : Int32} {x7 : Int32} {r : Int32} {h1 : ia_H} (hret : ∀ (pc : Nat) (lv : ia_L), ia_ret mm_M_sawn pc (some (.inl r)) → K pc lv ((some (.inl r)) : Option ia_V).toList h1) {k188 : Int32 → Int32 → ia_H → Option (Int32 × ia_H)} (hk188 : ∀ (x8 : Int32) (x9 : Int32) (h : ia_H), gd_ w h → k188 x8 x9 h = some (r, h1) → K 188 [some (.inr (.inr 417)), none, none, none, none, some (.inl x5), some (.inl x6), some (.inl x7), some (.inl x8), some (.inl x9), none, none, none] [] h) : ∀ (n : Nat) (x8 : Int32) (x9 : Int32) (x10 : Int32) (h : ia_H), gd_ w h → l_M_sawn_86 x1 x2 x3 x4 x5 x6 x7 k188 n x8 x9 x10 h = some (r, h1) → K 86 [some (.inr (.inr 417)), none, none, none, none, some (.inl x5), some (.inl x6), some (.inl x7), some (.inl x8), some (.inl x9), some (.inl x10), none, none] [] h := by
  intro n
  induction n with
  | zero =>
    intro x8 x9 x10 h hg hm
    cases (show (none : Option (Int32 × ia_H)) = some _ from hm)
  | succ n ih =>
    intro x8 x9 x10 h hg hm
    rw [l_M_sawn_86] at hm
    refine ia_go hK ck_M_sawn_86 ?_
    show K 89 [some (.inr (.inr 417)), none, none, none, none, some (.inl x5), some (.inl x6), some (.inl x7), some (.inl x8), some (.inl x9), some (.inl x10), none, none] [.inr (.inr 417), .inl x10] h
    obtain ⟨v6, hv6, hm⟩ := ia_bnd hm
    have ev6 := t_M_cells (d + 11) hg hv6
    refine ia_cV hK mk_M_cells lk_12_234 dc_M_sawn_89 417 [] [.inl x10] rfl rfl (Nat.le_of_ble_eq_true rfl) (by decide) rfl (gk_12 hg pk_417) ev6 ⟨rfl, rfl⟩ ?_
    show K 92 [some (.inr (.inr 417)), none, none, none, none, some (.inl x5), some (.inl x6), some (.inl x7), some (.inl x8), some (.inl x9), some (.inl x10), none, none] [.inl v6, .inl x10] h
    refine ia_go hK ck_M_sawn_92 ⟨fun c => ?_, fun c => ?_⟩
    · replace hm := ia_ifp hm c
      show K 188 [some (.inr (.inr 417)), none, none, none, none, some (.inl x5), some (.inl x6), some (.inl x7), some (.inl x8), some (.inl x9), some (.inl x10), none, none] [] h
      refine ia_fg hK (lv' := [some (.inr (.inr 417)), none, none, none, none, some (.inl x5), some (.inl x6), some (.inl x7), some (.inl x8), some (.inl x9), none, none, none]) ⟨rfl, rfl, rfl, rfl, rfl, rfl, trivial⟩ ?_
      exact hk188 x8 x9 h hg hm
    · replace hm := ia_ifn hm c
      show K 95 [some (.inr (.inr 417)), none, none, none, none, some (.inl x5), some (.inl x6), some (.inl x7), some (.inl x8), some (.inl x9), some (.inl x10), none, none] [] h
      refine ia_go hK ck_M_sawn_95 ?_
      show K 99 [some (.inr (.inr 417)), none, none, none, none, some (.inl x5), some (.inl x6), some (.inl x7), some (.inl x8), some (.inl x9), some (.inl x10), some (.inl x10), none] [] h
      refine tl_M_sawn_99 hK hret ?_ fu_ x8 x9 x10 x10 h hg hm
      · intro x8 x9 x10 h hg hm
        refine ia_go hK ck_M_sawn_182 ?_
        show K 86 [some (.inr (.inr 417)), none, none, none, none, some (.inl x5), some (.inl x6), some (.inl x7), some (.inl x8), some (.inl x9), some (.inl (x10 + 1)), none, none] [] h
        exact ih x8 x9 (x10 + 1) h hg hm
theorem gl_M_sawn_86 {w : ia_O0} {x1 : Int32} {x2 : Int32} {x3 : Int32} {x4 : Int32} {x5 : Int32} {x6 : Int32} {x7 : Int32} {r : Int32} {h1 : ia_H} {k188 : Int32 → Int32 → ia_H → Option (Int32 × ia_H)} (hk188 : ∀ (x8 : Int32) (x9 : Int32) (h : ia_H), gd_ w h → k188 x8 x9 h = some (r, h1) → gd_ w h1) : ∀ (n : Nat) (x8 : Int32) (x9 : Int32) (x10 : Int32) (h : ia_H), gd_ w h → l_M_sawn_86 x1 x2 x3 x4 x5 x6 x7 k188 n x8 x9 x10 h = some (r, h1) → gd_ w h1 := by
  intro n
  induction n with
  | zero =>
    intro x8 x9 x10 h hg hm
    cases (show (none : Option (Int32 × ia_H)) = some _ from hm)
  | succ n ih =>
    intro x8 x9 x10 h hg hm
    rw [l_M_sawn_86] at hm
    obtain ⟨v6, hv6, hm⟩ := ia_bnd hm
    by_cases c : v6 ≤ x10
    · replace hm := ia_ifp hm c
      exact hk188 x8 x9 h hg hm
    · replace hm := ia_ifn hm c
      refine gl_M_sawn_99 ?_ fu_ x8 x9 x10 x10 h hg hm
      · intro x8 x9 x10 h hg hm
        exact ih x8 x9 (x10 + 1) h hg hm
def l_M_sawn_73 (x1 : Int32) (x2 : Int32) (x3 : Int32) (x4 : Int32) (x5 : Int32) (x6 : Int32) (x7 : Int32) (k194 : Int32 → ia_H → Option (Int32 × ia_H)) (n : Nat) (x8 : Int32) (x9 : Int32) (h : ia_H) : Option (Int32 × ia_H) := match n with
  | 0 => none
  | n + 1 => (f_M_cells h).bind fun v5 => (if v5 ≤ x9 then (k194 x8 h) else (l_M_sawn_86 x1 x2 x3 x4 x5 x6 x7 (fun x8 x9 h => l_M_sawn_73 x1 x2 x3 x4 x5 x6 x7 k194 n x8 (x9 + 1) h) fu_ x8 x9 x9 h))
theorem tl_M_sawn_73 {w : ia_O0} {d N1 W1 : Nat} {K : ia_K} (hK : ia_isK (d + 12) mm_M_sawn N1 W1 K) {x1 : Int32} {x2 : Int32} {x3 : Int32} {x4 : Int32} {x5 : Int32} {x6 : Int32} {x7 : Int32} {r : Int32} {h1 : ia_H} (hret : ∀ (pc : Nat) (lv : ia_L), ia_ret mm_M_sawn pc (some (.inl r)) → K pc lv ((some (.inl r)) : Option ia_V).toList h1) {k194 : Int32 → ia_H → Option (Int32 × ia_H)} (hk194 : ∀ (x8 : Int32) (h : ia_H), gd_ w h → k194 x8 h = some (r, h1) → K 194 [none, none, none, none, none, none, none, none, some (.inl x8), none, none, none, none] [] h) : ∀ (n : Nat) (x8 : Int32) (x9 : Int32) (h : ia_H), gd_ w h → l_M_sawn_73 x1 x2 x3 x4 x5 x6 x7 k194 n x8 x9 h = some (r, h1) → K 73 [some (.inr (.inr 417)), none, none, none, none, some (.inl x5), some (.inl x6), some (.inl x7), some (.inl x8), some (.inl x9), none, none, none] [] h := by
  intro n
  induction n with
  | zero =>
    intro x8 x9 h hg hm
    cases (show (none : Option (Int32 × ia_H)) = some _ from hm)
  | succ n ih =>
    intro x8 x9 h hg hm
    rw [l_M_sawn_73] at hm
    refine ia_go hK ck_M_sawn_73 ?_
    show K 76 [some (.inr (.inr 417)), none, none, none, none, some (.inl x5), some (.inl x6), some (.inl x7), some (.inl x8), some (.inl x9), none, none, none] [.inr (.inr 417), .inl x9] h
    obtain ⟨v5, hv5, hm⟩ := ia_bnd hm
    have ev5 := t_M_cells (d + 11) hg hv5
    refine ia_cV hK mk_M_cells lk_12_234 dc_M_sawn_76 417 [] [.inl x9] rfl rfl (Nat.le_of_ble_eq_true rfl) (by decide) rfl (gk_12 hg pk_417) ev5 ⟨rfl, rfl⟩ ?_
    show K 79 [some (.inr (.inr 417)), none, none, none, none, some (.inl x5), some (.inl x6), some (.inl x7), some (.inl x8), some (.inl x9), none, none, none] [.inl v5, .inl x9] h
    refine ia_go hK ck_M_sawn_79 ⟨fun c => ?_, fun c => ?_⟩
    · replace hm := ia_ifp hm c
      show K 194 [some (.inr (.inr 417)), none, none, none, none, some (.inl x5), some (.inl x6), some (.inl x7), some (.inl x8), some (.inl x9), none, none, none] [] h
      refine ia_fg hK (lv' := [none, none, none, none, none, none, none, none, some (.inl x8), none, none, none, none]) ⟨rfl, trivial⟩ ?_
      exact hk194 x8 h hg hm
    · replace hm := ia_ifn hm c
      show K 82 [some (.inr (.inr 417)), none, none, none, none, some (.inl x5), some (.inl x6), some (.inl x7), some (.inl x8), some (.inl x9), none, none, none] [] h
      refine ia_go hK ck_M_sawn_82 ?_
      show K 86 [some (.inr (.inr 417)), none, none, none, none, some (.inl x5), some (.inl x6), some (.inl x7), some (.inl x8), some (.inl x9), some (.inl x9), none, none] [] h
      refine tl_M_sawn_86 hK hret ?_ fu_ x8 x9 x9 h hg hm
      · intro x8 x9 h hg hm
        refine ia_go hK ck_M_sawn_188 ?_
        show K 73 [some (.inr (.inr 417)), none, none, none, none, some (.inl x5), some (.inl x6), some (.inl x7), some (.inl x8), some (.inl (x9 + 1)), none, none, none] [] h
        exact ih x8 (x9 + 1) h hg hm
theorem gl_M_sawn_73 {w : ia_O0} {x1 : Int32} {x2 : Int32} {x3 : Int32} {x4 : Int32} {x5 : Int32} {x6 : Int32} {x7 : Int32} {r : Int32} {h1 : ia_H} {k194 : Int32 → ia_H → Option (Int32 × ia_H)} (hk194 : ∀ (x8 : Int32) (h : ia_H), gd_ w h → k194 x8 h = some (r, h1) → gd_ w h1) : ∀ (n : Nat) (x8 : Int32) (x9 : Int32) (h : ia_H), gd_ w h → l_M_sawn_73 x1 x2 x3 x4 x5 x6 x7 k194 n x8 x9 h = some (r, h1) → gd_ w h1 := by
  intro n
  induction n with
  | zero =>
    intro x8 x9 h hg hm
    cases (show (none : Option (Int32 × ia_H)) = some _ from hm)
  | succ n ih =>
    intro x8 x9 h hg hm
    rw [l_M_sawn_73] at hm
    obtain ⟨v5, hv5, hm⟩ := ia_bnd hm
    by_cases c : v5 ≤ x9
    · replace hm := ia_ifp hm c
      exact hk194 x8 h hg hm
    · replace hm := ia_ifn hm c
      refine gl_M_sawn_86 ?_ fu_ x8 x9 x9 h hg hm
      · intro x8 x9 h hg hm
        exact ih x8 (x9 + 1) h hg hm
def j_M_sawn_67 (x1 : Int32) (x2 : Int32) (x3 : Int32) (x4 : Int32) (x5 : Int32) (x6 : Int32) (x7 : Int32) (h : ia_H) : Option (Int32 × ia_H) := l_M_sawn_73 x1 x2 x3 x4 x5 x6 x7 (fun x8 h => some (x8, h)) fu_ 4 0 h
theorem tj_M_sawn_67 {w : ia_O0} {d N1 W1 : Nat} {K : ia_K} (hK : ia_isK (d + 12) mm_M_sawn N1 W1 K) {x1 : Int32} {x2 : Int32} {x3 : Int32} {x4 : Int32} {x5 : Int32} {x6 : Int32} {x7 : Int32} {r : Int32} {h1 : ia_H} (hret : ∀ (pc : Nat) (lv : ia_L), ia_ret mm_M_sawn pc (some (.inl r)) → K pc lv ((some (.inl r)) : Option ia_V).toList h1) : ∀ (h : ia_H), gd_ w h → j_M_sawn_67 x1 x2 x3 x4 x5 x6 x7 h = some (r, h1) → K 67 [some (.inr (.inr 417)), none, none, none, none, some (.inl x5), some (.inl x6), some (.inl x7), none, none, none, none, none] [] h := by
  intro h hg hm
  unfold j_M_sawn_67 at hm
  refine ia_go hK ck_M_sawn_67 ?_
  show K 73 [some (.inr (.inr 417)), none, none, none, none, some (.inl x5), some (.inl x6), some (.inl x7), some (.inl 4), some (.inl 0), none, none, none] [] h
  refine tl_M_sawn_73 hK hret ?_ fu_ 4 0 h hg hm
  · intro x8 h hg hm
    refine ia_go hK ck_M_sawn_194 ?_
    show K 196 [none, none, none, none, none, none, none, none, some (.inl x8), none, none, none, none] [.inl x8] h
    obtain ⟨rfl, rfl⟩ := Prod.mk.inj (Option.some.inj hm)
    exact hret 196 _ dc_M_sawn_196
theorem gj_M_sawn_67 {w : ia_O0} {x1 : Int32} {x2 : Int32} {x3 : Int32} {x4 : Int32} {x5 : Int32} {x6 : Int32} {x7 : Int32} {r : Int32} {h1 : ia_H} : ∀ (h : ia_H), gd_ w h → j_M_sawn_67 x1 x2 x3 x4 x5 x6 x7 h = some (r, h1) → gd_ w h1 := by
  intro h hg hm
  unfold j_M_sawn_67 at hm
  refine gl_M_sawn_73 ?_ fu_ 4 0 h hg hm
  · intro x8 h hg hm
    obtain ⟨rfl, rfl⟩ := Prod.mk.inj (Option.some.inj hm)
    exact hg
def f_M_sawn (x1 : Int32) (x2 : Int32) (x3 : Int32) (x4 : Int32) (x5 : Int32) (x6 : Int32) (x7 : Int32) (h : ia_H) : Option (Int32 × ia_H) := (f_M_isLoad x5 h).bind fun v1 => (if v1 = 0 then (some ((-1), h)) else ((f_M_areWays x1 x2 x3 x4 x6 x7 h).bind fun v2 => (if v2.1 = 0 then (some ((-1), v2.2)) else ((f_M_isWay x6 x7 x5 (-1) v2.2).bind fun v3 => (if v3.1 = 0 then (some (0, v3.2)) else ((f_M_steps x6 x7 v3.2).bind fun v4 => (if v4 = 1 then ((f_M_against x6 x7 v3.2).bind fun v9 => (if v9 = 0 then (some ((-1), v3.2)) else (j_M_sawn_67 x1 x2 x3 x4 x5 x6 x7 v3.2))) else (j_M_sawn_67 x1 x2 x3 x4 x5 x6 x7 v3.2))))))))
theorem g_M_sawn {w : ia_O0} {x1 : Int32} {x2 : Int32} {x3 : Int32} {x4 : Int32} {x5 : Int32} {x6 : Int32} {x7 : Int32} {h : ia_H} (hg : gd_ w h) {q : (Int32 × ia_H)} (hm : f_M_sawn x1 x2 x3 x4 x5 x6 x7 h = some q) : gd_ w q.2 := by
  obtain ⟨r, h1⟩ := q
  unfold f_M_sawn at hm
  obtain ⟨v1, hv1, hm⟩ := ia_bnd hm
  by_cases c : v1 = 0
  · replace hm := ia_ifp hm c
    obtain ⟨rfl, rfl⟩ := Prod.mk.inj (Option.some.inj hm)
    exact hg
  · replace hm := ia_ifn hm c
    obtain ⟨v2, hv2, hm⟩ := ia_bnd hm
    have gv2 := g_M_areWays hg hv2
    by_cases c : v2.1 = 0
    · replace hm := ia_ifp hm c
      obtain ⟨rfl, rfl⟩ := Prod.mk.inj (Option.some.inj hm)
      exact gv2
    · replace hm := ia_ifn hm c
      obtain ⟨v3, hv3, hm⟩ := ia_bnd hm
      have gv3 := g_M_isWay gv2 hv3
      by_cases c : v3.1 = 0
      · replace hm := ia_ifp hm c
        obtain ⟨rfl, rfl⟩ := Prod.mk.inj (Option.some.inj hm)
        exact gv3
      · replace hm := ia_ifn hm c
        obtain ⟨v4, hv4, hm⟩ := ia_bnd hm
        by_cases c : v4 = 1
        · replace hm := ia_ifp hm c
          obtain ⟨v9, hv9, hm⟩ := ia_bnd hm
          by_cases c : v9 = 0
          · replace hm := ia_ifp hm c
            obtain ⟨rfl, rfl⟩ := Prod.mk.inj (Option.some.inj hm)
            exact gv3
          · replace hm := ia_ifn hm c
            exact gj_M_sawn_67 v3.2 gv3 hm
        · replace hm := ia_ifn hm c
          exact gj_M_sawn_67 v3.2 gv3 hm
theorem t_M_sawn {w : ia_O0} (d : Nat) {x1 : Int32} {x2 : Int32} {x3 : Int32} {x4 : Int32} {x5 : Int32} {x6 : Int32} {x7 : Int32} {h : ia_H} (hg : gd_ w h) {q : (Int32 × ia_H)} (hm : f_M_sawn x1 x2 x3 x4 x5 x6 x7 h = some q) : ia_Ev (d + 12) mm_M_sawn [.inr (.inr 417), .inl x1, .inl x2, .inl x3, .inl x4, .inl x5, .inl x6, .inl x7] h (some (.inl q.1)) q.2 := by
  have gq := g_M_sawn hg hm
  refine ia_Ev_intro ok_M_sawn (gd_le hg gq).1 (gd_le hg gq).2 (Nat.le_of_ble_eq_true rfl) (fun K hK hret => ?_)
  obtain ⟨r, h1⟩ := q
  show K 0 [some (.inr (.inr 417)), some (.inl x1), some (.inl x2), some (.inl x3), some (.inl x4), some (.inl x5), some (.inl x6), some (.inl x7), none, none, none, none, none] [] h
  unfold f_M_sawn at hm
  refine ia_go hK ck_M_sawn_0 ?_
  show K 2 [some (.inr (.inr 417)), some (.inl x1), some (.inl x2), some (.inl x3), some (.inl x4), some (.inl x5), some (.inl x6), some (.inl x7), none, none, none, none, none] [.inl x5] h
  obtain ⟨v1, hv1, hm⟩ := ia_bnd hm
  have ev1 := t_M_isLoad (d + 10) hg hv1
  refine ia_cS hK mk_M_isLoad lk_12_349 dc_M_sawn_2 [.inl x5] [] rfl rfl (Nat.le_of_ble_eq_true rfl) ev1 ⟨rfl, rfl⟩ ?_
  show K 5 [some (.inr (.inr 417)), some (.inl x1), some (.inl x2), some (.inl x3), some (.inl x4), some (.inl x5), some (.inl x6), some (.inl x7), none, none, none, none, none] [.inl v1] h
  refine ia_go hK ck_M_sawn_5 ⟨fun c => ?_, fun c => ?_⟩
  · replace hm := ia_ifp hm c
    show K 24 [some (.inr (.inr 417)), some (.inl x1), some (.inl x2), some (.inl x3), some (.inl x4), some (.inl x5), some (.inl x6), some (.inl x7), none, none, none, none, none] [] h
    refine ia_go hK ck_M_sawn_24 ?_
    show K 25 [some (.inr (.inr 417)), some (.inl x1), some (.inl x2), some (.inl x3), some (.inl x4), some (.inl x5), some (.inl x6), some (.inl x7), none, none, none, none, none] [.inl (-1)] h
    obtain ⟨rfl, rfl⟩ := Prod.mk.inj (Option.some.inj hm)
    exact hret 25 _ dc_M_sawn_25
  · replace hm := ia_ifn hm c
    show K 8 [some (.inr (.inr 417)), some (.inl x1), some (.inl x2), some (.inl x3), some (.inl x4), some (.inl x5), some (.inl x6), some (.inl x7), none, none, none, none, none] [] h
    refine ia_go hK ck_M_sawn_8 ?_
    show K 18 [some (.inr (.inr 417)), some (.inl x1), some (.inl x2), some (.inl x3), some (.inl x4), some (.inl x5), some (.inl x6), some (.inl x7), none, none, none, none, none] [.inl x7, .inl x6, .inl x4, .inl x3, .inl x2, .inl x1, .inr (.inr 417)] h
    obtain ⟨v2, hv2, hm⟩ := ia_bnd hm
    have ev2 := t_M_areWays (d + 0) hg hv2
    have gv2 := g_M_areWays hg hv2
    refine ia_cV hK mk_M_areWays lk_12_325 dc_M_sawn_18 417 [.inl x1, .inl x2, .inl x3, .inl x4, .inl x6, .inl x7] [] rfl rfl (Nat.le_of_ble_eq_true rfl) (by decide) rfl (gk_12 hg pk_417) ev2 (gd_nm hg gv2) ?_
    show K 21 [some (.inr (.inr 417)), some (.inl x1), some (.inl x2), some (.inl x3), some (.inl x4), some (.inl x5), some (.inl x6), some (.inl x7), none, none, none, none, none] [.inl v2.1] v2.2
    refine ia_go hK ck_M_sawn_21 ⟨fun c => ?_, fun c => ?_⟩
    · replace hm := ia_ifn hm c
      show K 26 [some (.inr (.inr 417)), some (.inl x1), some (.inl x2), some (.inl x3), some (.inl x4), some (.inl x5), some (.inl x6), some (.inl x7), none, none, none, none, none] [] v2.2
      refine ia_go hK ck_M_sawn_26 ?_
      show K 34 [some (.inr (.inr 417)), some (.inl x1), some (.inl x2), some (.inl x3), some (.inl x4), some (.inl x5), some (.inl x6), some (.inl x7), none, none, none, none, none] [.inl (-1), .inl x5, .inl x7, .inl x6, .inr (.inr 417)] v2.2
      obtain ⟨v3, hv3, hm⟩ := ia_bnd hm
      have ev3 := t_M_isWay (d + 5) gv2 hv3
      have gv3 := g_M_isWay gv2 hv3
      refine ia_cV hK mk_M_isWay lk_12_269 dc_M_sawn_34 417 [.inl x6, .inl x7, .inl x5, .inl (-1)] [] rfl rfl (Nat.le_of_ble_eq_true rfl) (by decide) rfl (gk_12 gv2 pk_417) ev3 (gd_nm gv2 gv3) ?_
      show K 37 [some (.inr (.inr 417)), some (.inl x1), some (.inl x2), some (.inl x3), some (.inl x4), some (.inl x5), some (.inl x6), some (.inl x7), none, none, none, none, none] [.inl v3.1] v3.2
      refine ia_go hK ck_M_sawn_37 ⟨fun c => ?_, fun c => ?_⟩
      · replace hm := ia_ifn hm c
        show K 42 [some (.inr (.inr 417)), some (.inl x1), some (.inl x2), some (.inl x3), some (.inl x4), some (.inl x5), some (.inl x6), some (.inl x7), none, none, none, none, none] [] v3.2
        refine ia_go hK ck_M_sawn_42 ?_
        show K 47 [some (.inr (.inr 417)), some (.inl x1), some (.inl x2), some (.inl x3), some (.inl x4), some (.inl x5), some (.inl x6), some (.inl x7), none, none, none, none, none] [.inl x7, .inl x6, .inr (.inr 417)] v3.2
        obtain ⟨v4, hv4, hm⟩ := ia_bnd hm
        have ev4 := t_M_steps (d + 10) gv3 hv4
        refine ia_cV hK mk_M_steps lk_12_275 dc_M_sawn_47 417 [.inl x6, .inl x7] [] rfl rfl (Nat.le_of_ble_eq_true rfl) (by decide) rfl (gk_12 gv3 pk_417) ev4 ⟨rfl, rfl⟩ ?_
        show K 50 [some (.inr (.inr 417)), some (.inl x1), some (.inl x2), some (.inl x3), some (.inl x4), some (.inl x5), some (.inl x6), some (.inl x7), none, none, none, none, none] [.inl v4] v3.2
        refine ia_go hK ck_M_sawn_50 ⟨fun c => ?_, fun c => ?_⟩
        · replace hm := ia_ifn hm c
          show K 67 [some (.inr (.inr 417)), some (.inl x1), some (.inl x2), some (.inl x3), some (.inl x4), some (.inl x5), some (.inl x6), some (.inl x7), none, none, none, none, none] [] v3.2
          refine ia_fg hK (lv' := [some (.inr (.inr 417)), none, none, none, none, some (.inl x5), some (.inl x6), some (.inl x7), none, none, none, none, none]) ⟨rfl, rfl, rfl, rfl, trivial⟩ ?_
          exact tj_M_sawn_67 hK hret v3.2 gv3 hm
        · replace hm := ia_ifp hm c
          show K 54 [some (.inr (.inr 417)), some (.inl x1), some (.inl x2), some (.inl x3), some (.inl x4), some (.inl x5), some (.inl x6), some (.inl x7), none, none, none, none, none] [] v3.2
          refine ia_go hK ck_M_sawn_54 ?_
          show K 59 [some (.inr (.inr 417)), some (.inl x1), some (.inl x2), some (.inl x3), some (.inl x4), some (.inl x5), some (.inl x6), some (.inl x7), none, none, none, none, none] [.inl x7, .inl x6, .inr (.inr 417)] v3.2
          obtain ⟨v9, hv9, hm⟩ := ia_bnd hm
          have ev9 := t_M_against (d + 11) gv3 hv9
          refine ia_cV hK mk_M_against lk_12_259 dc_M_sawn_59 417 [.inl x6, .inl x7] [] rfl rfl (Nat.le_of_ble_eq_true rfl) (by decide) rfl (gk_12 gv3 pk_417) ev9 ⟨rfl, rfl⟩ ?_
          show K 62 [some (.inr (.inr 417)), some (.inl x1), some (.inl x2), some (.inl x3), some (.inl x4), some (.inl x5), some (.inl x6), some (.inl x7), none, none, none, none, none] [.inl v9] v3.2
          refine ia_go hK ck_M_sawn_62 ⟨fun c => ?_, fun c => ?_⟩
          · replace hm := ia_ifn hm c
            show K 67 [some (.inr (.inr 417)), some (.inl x1), some (.inl x2), some (.inl x3), some (.inl x4), some (.inl x5), some (.inl x6), some (.inl x7), none, none, none, none, none] [] v3.2
            refine ia_fg hK (lv' := [some (.inr (.inr 417)), none, none, none, none, some (.inl x5), some (.inl x6), some (.inl x7), none, none, none, none, none]) ⟨rfl, rfl, rfl, rfl, trivial⟩ ?_
            exact tj_M_sawn_67 hK hret v3.2 gv3 hm
          · replace hm := ia_ifp hm c
            show K 65 [some (.inr (.inr 417)), some (.inl x1), some (.inl x2), some (.inl x3), some (.inl x4), some (.inl x5), some (.inl x6), some (.inl x7), none, none, none, none, none] [] v3.2
            refine ia_go hK ck_M_sawn_65 ?_
            show K 66 [some (.inr (.inr 417)), some (.inl x1), some (.inl x2), some (.inl x3), some (.inl x4), some (.inl x5), some (.inl x6), some (.inl x7), none, none, none, none, none] [.inl (-1)] v3.2
            obtain ⟨rfl, rfl⟩ := Prod.mk.inj (Option.some.inj hm)
            exact hret 66 _ dc_M_sawn_66
      · replace hm := ia_ifp hm c
        show K 40 [some (.inr (.inr 417)), some (.inl x1), some (.inl x2), some (.inl x3), some (.inl x4), some (.inl x5), some (.inl x6), some (.inl x7), none, none, none, none, none] [] v3.2
        refine ia_go hK ck_M_sawn_40 ?_
        show K 41 [some (.inr (.inr 417)), some (.inl x1), some (.inl x2), some (.inl x3), some (.inl x4), some (.inl x5), some (.inl x6), some (.inl x7), none, none, none, none, none] [.inl 0] v3.2
        obtain ⟨rfl, rfl⟩ := Prod.mk.inj (Option.some.inj hm)
        exact hret 41 _ dc_M_sawn_41
    · replace hm := ia_ifp hm c
      show K 24 [some (.inr (.inr 417)), some (.inl x1), some (.inl x2), some (.inl x3), some (.inl x4), some (.inl x5), some (.inl x6), some (.inl x7), none, none, none, none, none] [] v2.2
      refine ia_go hK ck_M_sawn_24 ?_
      show K 25 [some (.inr (.inr 417)), some (.inl x1), some (.inl x2), some (.inl x3), some (.inl x4), some (.inl x5), some (.inl x6), some (.inl x7), none, none, none, none, none] [.inl (-1)] v2.2
      obtain ⟨rfl, rfl⟩ := Prod.mk.inj (Option.some.inj hm)
      exact hret 25 _ dc_M_sawn_25
def mm_M_needs : ia_M := (⟨"IceStreetModel", "needs", "(IIIIIII)J"⟩, prog_14_method_111_code, 11, (some .long), 12, false)
theorem ok_M_needs : ia_mok mm_M_needs := ⟨by decide +kernel, by decide +kernel, by decide +kernel, by decide +kernel⟩
theorem mk_M_needs : ia_mkn mm_M_needs 1 7 := ⟨ia_tb_in (List.mem_of_getElem? (i := 2156) (by decide +kernel)) rfl, ia_tb_in (List.mem_of_getElem? (i := 146) (by decide +kernel)) rfl, by decide +kernel, by decide +kernel, ⟨ia_tb_in (List.mem_of_getElem? (i := 2154) (by decide +kernel)) rfl, ia_tb_in (List.mem_of_getElem? (i := 2155) (by decide +kernel)) rfl⟩⟩
theorem ck_M_needs_0 : ia_cks 12 11 false prog_14_method_111_code 0 [(.iload 5, 0, 0, 0, 0)] = true := by decide +kernel
theorem ck_M_needs_5 : ia_cks 12 11 false prog_14_method_111_code 5 [(.ifCond .eq 33, 0, 0, 0, 0)] = true := by decide +kernel
theorem ck_M_needs_8 : ia_cks 12 11 false prog_14_method_111_code 8 [(.aload_n 0, 0, 0, 0, 0), (.iload_n 1, 0, 0, 0, 0), (.iload_n 2, 0, 0, 0, 0), (.iload_n 3, 0, 0, 0, 0), (.iload 4, 0, 0, 0, 0), (.iload 6, 0, 0, 0, 0), (.iload 7, 0, 0, 0, 0)] = true := by decide +kernel
theorem ck_M_needs_21 : ia_cks 12 11 false prog_14_method_111_code 21 [(.ifCond .eq 17, 0, 0, 0, 0)] = true := by decide +kernel
theorem ck_M_needs_24 : ia_cks 12 11 false prog_14_method_111_code 24 [(.aload_n 0, 0, 0, 0, 0), (.iload 6, 0, 0, 0, 0), (.iload 7, 0, 0, 0, 0), (.iload 5, 0, 0, 0, 0), (.iconst (-1), 0, 0, 0, 0)] = true := by decide +kernel
theorem ck_M_needs_35 : ia_cks 12 11 false prog_14_method_111_code 35 [(.ifCond .ne 7, 0, 0, 0, 0)] = true := by decide +kernel
theorem ck_M_needs_42 : ia_cks 12 11 false prog_14_method_111_code 42 [(.lconst 0, 0, 0, 0, 0), (.lstore 8, 0, 0, 0, 0), (.iconst 0, 0, 0, 0, 0), (.istore 10, 0, 0, 0, 0)] = true := by decide +kernel
theorem ck_M_needs_48 : ia_cks 12 11 false prog_14_method_111_code 48 [(.iload 10, 0, 0, 0, 0), (.aload_n 0, 0, 0, 0, 0)] = true := by decide +kernel
theorem ck_M_needs_54 : ia_cks 12 11 false prog_14_method_111_code 54 [(.if_icmp .ge 55, 0, 0, 0, 0)] = true := by decide +kernel
theorem ck_M_needs_57 : ia_cks 12 11 false prog_14_method_111_code 57 [(.lload 8, 0, 0, 0, 0), (.iload 10, 0, 0, 0, 0), (.iload 6, 0, 0, 0, 0), (.if_icmp .eq 36, 0, 0, 0, 0)] = true := by decide +kernel
theorem ck_M_needs_99 : ia_cks 12 11 false prog_14_method_111_code 99 [(.lconst 0, 0, 0, 0, 0)] = true := by decide +kernel
theorem ck_M_needs_100 : ia_cks 12 11 false prog_14_method_111_code 100 [(.lor, 0, 0, 0, 0), (.lstore 8, 0, 0, 0, 0), (.iinc 10 1, 0, 0, 0, 0), (.goto (-58), 0, 0, 0, 0)] = true := by decide +kernel
theorem ck_M_needs_66 : ia_cks 12 11 false prog_14_method_111_code 66 [(.iload 10, 0, 0, 0, 0), (.iload 7, 0, 0, 0, 0), (.if_icmp .eq 29, 0, 0, 0, 0)] = true := by decide +kernel
theorem ck_M_needs_73 : ia_cks 12 11 false prog_14_method_111_code 73 [(.aload_n 0, 0, 0, 0, 0), (.iload 6, 0, 0, 0, 0), (.iload 7, 0, 0, 0, 0), (.iload 5, 0, 0, 0, 0), (.iload 10, 0, 0, 0, 0), (.iload 10, 0, 0, 0, 0), (.iload 10, 0, 0, 0, 0)] = true := by decide +kernel
theorem ck_M_needs_89 : ia_cks 12 11 false prog_14_method_111_code 89 [(.ifCond .eq 10, 0, 0, 0, 0)] = true := by decide +kernel
theorem ck_M_needs_92 : ia_cks 12 11 false prog_14_method_111_code 92 [(.lconst 1, 0, 0, 0, 0), (.iload 10, 0, 0, 0, 0), (.lshl, 0, 0, 0, 0), (.goto 4, 0, 0, 0, 0)] = true := by decide +kernel
theorem ck_M_needs_109 : ia_cks 12 11 false prog_14_method_111_code 109 [(.lload 8, 0, 0, 0, 0)] = true := by decide +kernel
theorem dc_M_needs_2 : decode prog_14_method_111_code 2 = .ok (.invokestatic 349, 3) := by decide +kernel
theorem dc_M_needs_38 : decode prog_14_method_111_code 38 = .ok (.ldc2_w 334, 3) := by decide +kernel
theorem dc_M_needs_41 : decode prog_14_method_111_code 41 = .ok (.lreturn, 1) := by decide +kernel
theorem dc_M_needs_18 : decode prog_14_method_111_code 18 = .ok (.invokevirtual 325, 3) := by decide +kernel
theorem dc_M_needs_32 : decode prog_14_method_111_code 32 = .ok (.invokevirtual 269, 3) := by decide +kernel
theorem dc_M_needs_51 : decode prog_14_method_111_code 51 = .ok (.invokevirtual 234, 3) := by decide +kernel
theorem dc_M_needs_86 : decode prog_14_method_111_code 86 = .ok (.invokevirtual 389, 3) := by decide +kernel
theorem dc_M_needs_111 : decode prog_14_method_111_code 111 = .ok (.lreturn, 1) := by decide +kernel
def j_M_needs_100 (x1 : Int32) (x2 : Int32) (x3 : Int32) (x4 : Int32) (x5 : Int32) (x6 : Int32) (x7 : Int32) (kr : Int64 → Int32 → ia_H → Option (Int64 × ia_H)) (k109 : Int64 → ia_H → Option (Int64 × ia_H)) (x10 : Int32) (z0 : Int64) (z1 : Int64) (h : ia_H) : Option (Int64 × ia_H) := kr (z0 ||| z1) (x10 + 1) h
theorem tj_M_needs_100 {w : ia_O0} {d N1 W1 : Nat} {K : ia_K} (hK : ia_isK (d + 12) mm_M_needs N1 W1 K) {x1 : Int32} {x2 : Int32} {x3 : Int32} {x4 : Int32} {x5 : Int32} {x6 : Int32} {x7 : Int32} {r : Int64} {h1 : ia_H} (hret : ∀ (pc : Nat) (lv : ia_L), ia_ret mm_M_needs pc (some (.inr (.inl r))) → K pc lv ((some (.inr (.inl r))) : Option ia_V).toList h1) {kr : Int64 → Int32 → ia_H → Option (Int64 × ia_H)} {k109 : Int64 → ia_H → Option (Int64 × ia_H)} (hkr : ∀ (y8 : Int64) (x10 : Int32) (h : ia_H), gd_ w h → kr y8 x10 h = some (r, h1) → K 48 [some (.inr (.inr 417)), none, none, none, none, some (.inl x5), some (.inl x6), some (.inl x7), some (.inr (.inl y8)), none, some (.inl x10)] [] h) (hk109 : ∀ (y8 : Int64) (h : ia_H), gd_ w h → k109 y8 h = some (r, h1) → K 109 [none, none, none, none, none, none, none, none, some (.inr (.inl y8)), none, none] [] h) : ∀ (x10 : Int32) (z0 : Int64) (z1 : Int64) (h : ia_H), gd_ w h → j_M_needs_100 x1 x2 x3 x4 x5 x6 x7 kr k109 x10 z0 z1 h = some (r, h1) → K 100 [some (.inr (.inr 417)), none, none, none, none, some (.inl x5), some (.inl x6), some (.inl x7), none, none, some (.inl x10)] [.inr (.inl z1), .inr (.inl z0)] h := by
  intro x10 z0 z1 h hg hm
  unfold j_M_needs_100 at hm
  refine ia_go hK ck_M_needs_100 ?_
  show K 48 [some (.inr (.inr 417)), none, none, none, none, some (.inl x5), some (.inl x6), some (.inl x7), some (.inr (.inl (z0 ||| z1))), none, some (.inl (x10 + 1))] [] h
  exact hkr (z0 ||| z1) (x10 + 1) h hg hm
theorem gj_M_needs_100 {w : ia_O0} {x1 : Int32} {x2 : Int32} {x3 : Int32} {x4 : Int32} {x5 : Int32} {x6 : Int32} {x7 : Int32} {r : Int64} {h1 : ia_H} {kr : Int64 → Int32 → ia_H → Option (Int64 × ia_H)} {k109 : Int64 → ia_H → Option (Int64 × ia_H)} (hkr : ∀ (y8 : Int64) (x10 : Int32) (h : ia_H), gd_ w h → kr y8 x10 h = some (r, h1) → gd_ w h1) (hk109 : ∀ (y8 : Int64) (h : ia_H), gd_ w h → k109 y8 h = some (r, h1) → gd_ w h1) : ∀ (x10 : Int32) (z0 : Int64) (z1 : Int64) (h : ia_H), gd_ w h → j_M_needs_100 x1 x2 x3 x4 x5 x6 x7 kr k109 x10 z0 z1 h = some (r, h1) → gd_ w h1 := by
  intro x10 z0 z1 h hg hm
  unfold j_M_needs_100 at hm
  exact hkr (z0 ||| z1) (x10 + 1) h hg hm
def l_M_needs_48 (x1 : Int32) (x2 : Int32) (x3 : Int32) (x4 : Int32) (x5 : Int32) (x6 : Int32) (x7 : Int32) (k109 : Int64 → ia_H → Option (Int64 × ia_H)) (n : Nat) (y8 : Int64) (x10 : Int32) (h : ia_H) : Option (Int64 × ia_H) := match n with
  | 0 => none
  | n + 1 => (f_M_cells h).bind fun v4 => (if v4 ≤ x10 then (k109 y8 h) else (if x10 = x6 then (j_M_needs_100 x1 x2 x3 x4 x5 x6 x7 (l_M_needs_48 x1 x2 x3 x4 x5 x6 x7 k109 n) k109 x10 y8 0 h) else (if x10 = x7 then (j_M_needs_100 x1 x2 x3 x4 x5 x6 x7 (l_M_needs_48 x1 x2 x3 x4 x5 x6 x7 k109 n) k109 x10 y8 0 h) else ((f_M_isCut x6 x7 x5 x10 x10 x10 h).bind fun v5 => (if v5.1 = 0 then (j_M_needs_100 x1 x2 x3 x4 x5 x6 x7 (l_M_needs_48 x1 x2 x3 x4 x5 x6 x7 k109 n) k109 x10 y8 0 v5.2) else (j_M_needs_100 x1 x2 x3 x4 x5 x6 x7 (l_M_needs_48 x1 x2 x3 x4 x5 x6 x7 k109 n) k109 x10 y8 (1 <<< (x10.toInt64 &&& 63)) v5.2))))))
theorem tl_M_needs_48 {w : ia_O0} {d N1 W1 : Nat} {K : ia_K} (hK : ia_isK (d + 12) mm_M_needs N1 W1 K) {x1 : Int32} {x2 : Int32} {x3 : Int32} {x4 : Int32} {x5 : Int32} {x6 : Int32} {x7 : Int32} {r : Int64} {h1 : ia_H} (hret : ∀ (pc : Nat) (lv : ia_L), ia_ret mm_M_needs pc (some (.inr (.inl r))) → K pc lv ((some (.inr (.inl r))) : Option ia_V).toList h1) {k109 : Int64 → ia_H → Option (Int64 × ia_H)} (hk109 : ∀ (y8 : Int64) (h : ia_H), gd_ w h → k109 y8 h = some (r, h1) → K 109 [none, none, none, none, none, none, none, none, some (.inr (.inl y8)), none, none] [] h) : ∀ (n : Nat) (y8 : Int64) (x10 : Int32) (h : ia_H), gd_ w h → l_M_needs_48 x1 x2 x3 x4 x5 x6 x7 k109 n y8 x10 h = some (r, h1) → K 48 [some (.inr (.inr 417)), none, none, none, none, some (.inl x5), some (.inl x6), some (.inl x7), some (.inr (.inl y8)), none, some (.inl x10)] [] h := by
  intro n
  induction n with
  | zero =>
    intro y8 x10 h hg hm
    cases (show (none : Option (Int64 × ia_H)) = some _ from hm)
  | succ n ih =>
    intro y8 x10 h hg hm
    rw [l_M_needs_48] at hm
    refine ia_go hK ck_M_needs_48 ?_
    show K 51 [some (.inr (.inr 417)), none, none, none, none, some (.inl x5), some (.inl x6), some (.inl x7), some (.inr (.inl y8)), none, some (.inl x10)] [.inr (.inr 417), .inl x10] h
    obtain ⟨v4, hv4, hm⟩ := ia_bnd hm
    have ev4 := t_M_cells (d + 11) hg hv4
    refine ia_cV hK mk_M_cells lk_12_234 dc_M_needs_51 417 [] [.inl x10] rfl rfl (Nat.le_of_ble_eq_true rfl) (by decide) rfl (gk_12 hg pk_417) ev4 ⟨rfl, rfl⟩ ?_
    show K 54 [some (.inr (.inr 417)), none, none, none, none, some (.inl x5), some (.inl x6), some (.inl x7), some (.inr (.inl y8)), none, some (.inl x10)] [.inl v4, .inl x10] h
    refine ia_go hK ck_M_needs_54 ⟨fun c => ?_, fun c => ?_⟩
    · replace hm := ia_ifp hm c
      show K 109 [some (.inr (.inr 417)), none, none, none, none, some (.inl x5), some (.inl x6), some (.inl x7), some (.inr (.inl y8)), none, some (.inl x10)] [] h
      refine ia_fg hK (lv' := [none, none, none, none, none, none, none, none, some (.inr (.inl y8)), none, none]) ⟨rfl, trivial⟩ ?_
      exact hk109 y8 h hg hm
    · replace hm := ia_ifn hm c
      show K 57 [some (.inr (.inr 417)), none, none, none, none, some (.inl x5), some (.inl x6), some (.inl x7), some (.inr (.inl y8)), none, some (.inl x10)] [] h
      refine ia_go hK ck_M_needs_57 ⟨fun c => ?_, fun c => ?_⟩
      · replace hm := ia_ifp hm c
        show K 99 [some (.inr (.inr 417)), none, none, none, none, some (.inl x5), some (.inl x6), some (.inl x7), some (.inr (.inl y8)), none, some (.inl x10)] [.inr (.inl y8)] h
        refine ia_go hK ck_M_needs_99 ?_
        show K 100 [some (.inr (.inr 417)), none, none, none, none, some (.inl x5), some (.inl x6), some (.inl x7), some (.inr (.inl y8)), none, some (.inl x10)] [.inr (.inl 0), .inr (.inl y8)] h
        refine ia_fg hK (lv' := [some (.inr (.inr 417)), none, none, none, none, some (.inl x5), some (.inl x6), some (.inl x7), none, none, some (.inl x10)]) ⟨rfl, rfl, rfl, rfl, rfl, trivial⟩ ?_
        exact tj_M_needs_100 hK hret ih hk109 x10 y8 0 h hg hm
      · replace hm := ia_ifn hm c
        show K 66 [some (.inr (.inr 417)), none, none, none, none, some (.inl x5), some (.inl x6), some (.inl x7), some (.inr (.inl y8)), none, some (.inl x10)] [.inr (.inl y8)] h
        refine ia_go hK ck_M_needs_66 ⟨fun c => ?_, fun c => ?_⟩
        · replace hm := ia_ifp hm c
          show K 99 [some (.inr (.inr 417)), none, none, none, none, some (.inl x5), some (.inl x6), some (.inl x7), some (.inr (.inl y8)), none, some (.inl x10)] [.inr (.inl y8)] h
          refine ia_go hK ck_M_needs_99 ?_
          show K 100 [some (.inr (.inr 417)), none, none, none, none, some (.inl x5), some (.inl x6), some (.inl x7), some (.inr (.inl y8)), none, some (.inl x10)] [.inr (.inl 0), .inr (.inl y8)] h
          refine ia_fg hK (lv' := [some (.inr (.inr 417)), none, none, none, none, some (.inl x5), some (.inl x6), some (.inl x7), none, none, some (.inl x10)]) ⟨rfl, rfl, rfl, rfl, rfl, trivial⟩ ?_
          exact tj_M_needs_100 hK hret ih hk109 x10 y8 0 h hg hm
        · replace hm := ia_ifn hm c
          show K 73 [some (.inr (.inr 417)), none, none, none, none, some (.inl x5), some (.inl x6), some (.inl x7), some (.inr (.inl y8)), none, some (.inl x10)] [.inr (.inl y8)] h
          refine ia_go hK ck_M_needs_73 ?_
          show K 86 [some (.inr (.inr 417)), none, none, none, none, some (.inl x5), some (.inl x6), some (.inl x7), some (.inr (.inl y8)), none, some (.inl x10)] [.inl x10, .inl x10, .inl x10, .inl x5, .inl x7, .inl x6, .inr (.inr 417), .inr (.inl y8)] h
          obtain ⟨v5, hv5, hm⟩ := ia_bnd hm
          have ev5 := t_M_isCut (d + 4) hg hv5
          have gv5 := g_M_isCut hg hv5
          refine ia_cV hK mk_M_isCut lk_12_389 dc_M_needs_86 417 [.inl x6, .inl x7, .inl x5, .inl x10, .inl x10, .inl x10] [.inr (.inl y8)] rfl rfl (Nat.le_of_ble_eq_true rfl) (by decide) rfl (gk_12 hg pk_417) ev5 (gd_nm hg gv5) ?_
          show K 89 [some (.inr (.inr 417)), none, none, none, none, some (.inl x5), some (.inl x6), some (.inl x7), some (.inr (.inl y8)), none, some (.inl x10)] [.inl v5.1, .inr (.inl y8)] v5.2
          refine ia_go hK ck_M_needs_89 ⟨fun c => ?_, fun c => ?_⟩
          · replace hm := ia_ifp hm c
            show K 99 [some (.inr (.inr 417)), none, none, none, none, some (.inl x5), some (.inl x6), some (.inl x7), some (.inr (.inl y8)), none, some (.inl x10)] [.inr (.inl y8)] v5.2
            refine ia_go hK ck_M_needs_99 ?_
            show K 100 [some (.inr (.inr 417)), none, none, none, none, some (.inl x5), some (.inl x6), some (.inl x7), some (.inr (.inl y8)), none, some (.inl x10)] [.inr (.inl 0), .inr (.inl y8)] v5.2
            refine ia_fg hK (lv' := [some (.inr (.inr 417)), none, none, none, none, some (.inl x5), some (.inl x6), some (.inl x7), none, none, some (.inl x10)]) ⟨rfl, rfl, rfl, rfl, rfl, trivial⟩ ?_
            exact tj_M_needs_100 hK hret ih hk109 x10 y8 0 v5.2 gv5 hm
          · replace hm := ia_ifn hm c
            show K 92 [some (.inr (.inr 417)), none, none, none, none, some (.inl x5), some (.inl x6), some (.inl x7), some (.inr (.inl y8)), none, some (.inl x10)] [.inr (.inl y8)] v5.2
            refine ia_go hK ck_M_needs_92 ?_
            show K 100 [some (.inr (.inr 417)), none, none, none, none, some (.inl x5), some (.inl x6), some (.inl x7), some (.inr (.inl y8)), none, some (.inl x10)] [.inr (.inl (1 <<< (x10.toInt64 &&& 63))), .inr (.inl y8)] v5.2
            refine ia_fg hK (lv' := [some (.inr (.inr 417)), none, none, none, none, some (.inl x5), some (.inl x6), some (.inl x7), none, none, some (.inl x10)]) ⟨rfl, rfl, rfl, rfl, rfl, trivial⟩ ?_
            exact tj_M_needs_100 hK hret ih hk109 x10 y8 (1 <<< (x10.toInt64 &&& 63)) v5.2 gv5 hm
theorem gl_M_needs_48 {w : ia_O0} {x1 : Int32} {x2 : Int32} {x3 : Int32} {x4 : Int32} {x5 : Int32} {x6 : Int32} {x7 : Int32} {r : Int64} {h1 : ia_H} {k109 : Int64 → ia_H → Option (Int64 × ia_H)} (hk109 : ∀ (y8 : Int64) (h : ia_H), gd_ w h → k109 y8 h = some (r, h1) → gd_ w h1) : ∀ (n : Nat) (y8 : Int64) (x10 : Int32) (h : ia_H), gd_ w h → l_M_needs_48 x1 x2 x3 x4 x5 x6 x7 k109 n y8 x10 h = some (r, h1) → gd_ w h1 := by
  intro n
  induction n with
  | zero =>
    intro y8 x10 h hg hm
    cases (show (none : Option (Int64 × ia_H)) = some _ from hm)
  | succ n ih =>
    intro y8 x10 h hg hm
    rw [l_M_needs_48] at hm
    obtain ⟨v4, hv4, hm⟩ := ia_bnd hm
    by_cases c : v4 ≤ x10
    · replace hm := ia_ifp hm c
      exact hk109 y8 h hg hm
    · replace hm := ia_ifn hm c
      by_cases c : x10 = x6
      · replace hm := ia_ifp hm c
        exact gj_M_needs_100 ih hk109 x10 y8 0 h hg hm
      · replace hm := ia_ifn hm c
        by_cases c : x10 = x7
        · replace hm := ia_ifp hm c
          exact gj_M_needs_100 ih hk109 x10 y8 0 h hg hm
        · replace hm := ia_ifn hm c
          obtain ⟨v5, hv5, hm⟩ := ia_bnd hm
          have gv5 := g_M_isCut hg hv5
          by_cases c : v5.1 = 0
          · replace hm := ia_ifp hm c
            exact gj_M_needs_100 ih hk109 x10 y8 0 v5.2 gv5 hm
          · replace hm := ia_ifn hm c
            exact gj_M_needs_100 ih hk109 x10 y8 (1 <<< (x10.toInt64 &&& 63)) v5.2 gv5 hm
def f_M_needs (x1 : Int32) (x2 : Int32) (x3 : Int32) (x4 : Int32) (x5 : Int32) (x6 : Int32) (x7 : Int32) (h : ia_H) : Option (Int64 × ia_H) := (f_M_isLoad x5 h).bind fun v1 => (if v1 = 0 then (some ((-1), h)) else ((f_M_areWays x1 x2 x3 x4 x6 x7 h).bind fun v2 => (if v2.1 = 0 then (some ((-1), v2.2)) else ((f_M_isWay x6 x7 x5 (-1) v2.2).bind fun v3 => (if v3.1 = 0 then (some ((-1), v3.2)) else (l_M_needs_48 x1 x2 x3 x4 x5 x6 x7 (fun y8 h => some (y8, h)) fu_ 0 0 v3.2))))))
theorem g_M_needs {w : ia_O0} {x1 : Int32} {x2 : Int32} {x3 : Int32} {x4 : Int32} {x5 : Int32} {x6 : Int32} {x7 : Int32} {h : ia_H} (hg : gd_ w h) {q : (Int64 × ia_H)} (hm : f_M_needs x1 x2 x3 x4 x5 x6 x7 h = some q) : gd_ w q.2 := by
  obtain ⟨r, h1⟩ := q
  unfold f_M_needs at hm
  obtain ⟨v1, hv1, hm⟩ := ia_bnd hm
  by_cases c : v1 = 0
  · replace hm := ia_ifp hm c
    obtain ⟨rfl, rfl⟩ := Prod.mk.inj (Option.some.inj hm)
    exact hg
  · replace hm := ia_ifn hm c
    obtain ⟨v2, hv2, hm⟩ := ia_bnd hm
    have gv2 := g_M_areWays hg hv2
    by_cases c : v2.1 = 0
    · replace hm := ia_ifp hm c
      obtain ⟨rfl, rfl⟩ := Prod.mk.inj (Option.some.inj hm)
      exact gv2
    · replace hm := ia_ifn hm c
      obtain ⟨v3, hv3, hm⟩ := ia_bnd hm
      have gv3 := g_M_isWay gv2 hv3
      by_cases c : v3.1 = 0
      · replace hm := ia_ifp hm c
        obtain ⟨rfl, rfl⟩ := Prod.mk.inj (Option.some.inj hm)
        exact gv3
      · replace hm := ia_ifn hm c
        refine gl_M_needs_48 ?_ fu_ 0 0 v3.2 gv3 hm
        · intro y8 h hg hm
          obtain ⟨rfl, rfl⟩ := Prod.mk.inj (Option.some.inj hm)
          exact hg
theorem t_M_needs {w : ia_O0} (d : Nat) {x1 : Int32} {x2 : Int32} {x3 : Int32} {x4 : Int32} {x5 : Int32} {x6 : Int32} {x7 : Int32} {h : ia_H} (hg : gd_ w h) {q : (Int64 × ia_H)} (hm : f_M_needs x1 x2 x3 x4 x5 x6 x7 h = some q) : ia_Ev (d + 12) mm_M_needs [.inr (.inr 417), .inl x1, .inl x2, .inl x3, .inl x4, .inl x5, .inl x6, .inl x7] h (some (.inr (.inl q.1))) q.2 := by
  have gq := g_M_needs hg hm
  refine ia_Ev_intro ok_M_needs (gd_le hg gq).1 (gd_le hg gq).2 (Nat.le_of_ble_eq_true rfl) (fun K hK hret => ?_)
  obtain ⟨r, h1⟩ := q
  show K 0 [some (.inr (.inr 417)), some (.inl x1), some (.inl x2), some (.inl x3), some (.inl x4), some (.inl x5), some (.inl x6), some (.inl x7), none, none, none] [] h
  unfold f_M_needs at hm
  refine ia_go hK ck_M_needs_0 ?_
  show K 2 [some (.inr (.inr 417)), some (.inl x1), some (.inl x2), some (.inl x3), some (.inl x4), some (.inl x5), some (.inl x6), some (.inl x7), none, none, none] [.inl x5] h
  obtain ⟨v1, hv1, hm⟩ := ia_bnd hm
  have ev1 := t_M_isLoad (d + 10) hg hv1
  refine ia_cS hK mk_M_isLoad lk_12_349 dc_M_needs_2 [.inl x5] [] rfl rfl (Nat.le_of_ble_eq_true rfl) ev1 ⟨rfl, rfl⟩ ?_
  show K 5 [some (.inr (.inr 417)), some (.inl x1), some (.inl x2), some (.inl x3), some (.inl x4), some (.inl x5), some (.inl x6), some (.inl x7), none, none, none] [.inl v1] h
  refine ia_go hK ck_M_needs_5 ⟨fun c => ?_, fun c => ?_⟩
  · replace hm := ia_ifp hm c
    show K 38 [some (.inr (.inr 417)), some (.inl x1), some (.inl x2), some (.inl x3), some (.inl x4), some (.inl x5), some (.inl x6), some (.inl x7), none, none, none] [] h
    refine ia_ldc2 hK (v := (-1)) (ia_tb_in (List.mem_of_getElem? (i := 2043) (by decide +kernel)) rfl) dc_M_needs_38 ?_
    show K 41 [some (.inr (.inr 417)), some (.inl x1), some (.inl x2), some (.inl x3), some (.inl x4), some (.inl x5), some (.inl x6), some (.inl x7), none, none, none] [.inr (.inl (-1))] h
    obtain ⟨rfl, rfl⟩ := Prod.mk.inj (Option.some.inj hm)
    exact hret 41 _ dc_M_needs_41
  · replace hm := ia_ifn hm c
    show K 8 [some (.inr (.inr 417)), some (.inl x1), some (.inl x2), some (.inl x3), some (.inl x4), some (.inl x5), some (.inl x6), some (.inl x7), none, none, none] [] h
    refine ia_go hK ck_M_needs_8 ?_
    show K 18 [some (.inr (.inr 417)), some (.inl x1), some (.inl x2), some (.inl x3), some (.inl x4), some (.inl x5), some (.inl x6), some (.inl x7), none, none, none] [.inl x7, .inl x6, .inl x4, .inl x3, .inl x2, .inl x1, .inr (.inr 417)] h
    obtain ⟨v2, hv2, hm⟩ := ia_bnd hm
    have ev2 := t_M_areWays (d + 0) hg hv2
    have gv2 := g_M_areWays hg hv2
    refine ia_cV hK mk_M_areWays lk_12_325 dc_M_needs_18 417 [.inl x1, .inl x2, .inl x3, .inl x4, .inl x6, .inl x7] [] rfl rfl (Nat.le_of_ble_eq_true rfl) (by decide) rfl (gk_12 hg pk_417) ev2 (gd_nm hg gv2) ?_
    show K 21 [some (.inr (.inr 417)), some (.inl x1), some (.inl x2), some (.inl x3), some (.inl x4), some (.inl x5), some (.inl x6), some (.inl x7), none, none, none] [.inl v2.1] v2.2
    refine ia_go hK ck_M_needs_21 ⟨fun c => ?_, fun c => ?_⟩
    · replace hm := ia_ifp hm c
      show K 38 [some (.inr (.inr 417)), some (.inl x1), some (.inl x2), some (.inl x3), some (.inl x4), some (.inl x5), some (.inl x6), some (.inl x7), none, none, none] [] v2.2
      refine ia_ldc2 hK (v := (-1)) (ia_tb_in (List.mem_of_getElem? (i := 2043) (by decide +kernel)) rfl) dc_M_needs_38 ?_
      show K 41 [some (.inr (.inr 417)), some (.inl x1), some (.inl x2), some (.inl x3), some (.inl x4), some (.inl x5), some (.inl x6), some (.inl x7), none, none, none] [.inr (.inl (-1))] v2.2
      obtain ⟨rfl, rfl⟩ := Prod.mk.inj (Option.some.inj hm)
      exact hret 41 _ dc_M_needs_41
    · replace hm := ia_ifn hm c
      show K 24 [some (.inr (.inr 417)), some (.inl x1), some (.inl x2), some (.inl x3), some (.inl x4), some (.inl x5), some (.inl x6), some (.inl x7), none, none, none] [] v2.2
      refine ia_go hK ck_M_needs_24 ?_
      show K 32 [some (.inr (.inr 417)), some (.inl x1), some (.inl x2), some (.inl x3), some (.inl x4), some (.inl x5), some (.inl x6), some (.inl x7), none, none, none] [.inl (-1), .inl x5, .inl x7, .inl x6, .inr (.inr 417)] v2.2
      obtain ⟨v3, hv3, hm⟩ := ia_bnd hm
      have ev3 := t_M_isWay (d + 5) gv2 hv3
      have gv3 := g_M_isWay gv2 hv3
      refine ia_cV hK mk_M_isWay lk_12_269 dc_M_needs_32 417 [.inl x6, .inl x7, .inl x5, .inl (-1)] [] rfl rfl (Nat.le_of_ble_eq_true rfl) (by decide) rfl (gk_12 gv2 pk_417) ev3 (gd_nm gv2 gv3) ?_
      show K 35 [some (.inr (.inr 417)), some (.inl x1), some (.inl x2), some (.inl x3), some (.inl x4), some (.inl x5), some (.inl x6), some (.inl x7), none, none, none] [.inl v3.1] v3.2
      refine ia_go hK ck_M_needs_35 ⟨fun c => ?_, fun c => ?_⟩
      · replace hm := ia_ifn hm c
        show K 42 [some (.inr (.inr 417)), some (.inl x1), some (.inl x2), some (.inl x3), some (.inl x4), some (.inl x5), some (.inl x6), some (.inl x7), none, none, none] [] v3.2
        refine ia_go hK ck_M_needs_42 ?_
        show K 48 [some (.inr (.inr 417)), some (.inl x1), some (.inl x2), some (.inl x3), some (.inl x4), some (.inl x5), some (.inl x6), some (.inl x7), some (.inr (.inl 0)), none, some (.inl 0)] [] v3.2
        refine ia_fg hK (lv' := [some (.inr (.inr 417)), none, none, none, none, some (.inl x5), some (.inl x6), some (.inl x7), some (.inr (.inl 0)), none, some (.inl 0)]) ⟨rfl, rfl, rfl, rfl, rfl, rfl, trivial⟩ ?_
        refine tl_M_needs_48 hK hret ?_ fu_ 0 0 v3.2 gv3 hm
        · intro y8 h hg hm
          refine ia_go hK ck_M_needs_109 ?_
          show K 111 [none, none, none, none, none, none, none, none, some (.inr (.inl y8)), none, none] [.inr (.inl y8)] h
          obtain ⟨rfl, rfl⟩ := Prod.mk.inj (Option.some.inj hm)
          exact hret 111 _ dc_M_needs_111
      · replace hm := ia_ifp hm c
        show K 38 [some (.inr (.inr 417)), some (.inl x1), some (.inl x2), some (.inl x3), some (.inl x4), some (.inl x5), some (.inl x6), some (.inl x7), none, none, none] [] v3.2
        refine ia_ldc2 hK (v := (-1)) (ia_tb_in (List.mem_of_getElem? (i := 2043) (by decide +kernel)) rfl) dc_M_needs_38 ?_
        show K 41 [some (.inr (.inr 417)), some (.inl x1), some (.inl x2), some (.inl x3), some (.inl x4), some (.inl x5), some (.inl x6), some (.inl x7), none, none, none] [.inr (.inl (-1))] v3.2
        obtain ⟨rfl, rfl⟩ := Prod.mk.inj (Option.some.inj hm)
        exact hret 41 _ dc_M_needs_41
