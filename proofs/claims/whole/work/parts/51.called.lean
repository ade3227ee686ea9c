/-! the methods that constructors call -/
theorem ul_Ar_fill_5 {D : Nat → Nat × Nat} (hD : cl_ D) {w : ia_O1} {d N1 W1 : Nat} {K : ia_K} (hK : ia_isK (d + 0) mm_Ar_fill N1 W1 K) {a0 : Nat} {x1 : Int32} (p0 : (D a0).1 = 100) {h1 : ia_H} (hret : ∀ (pc : Nat) (lv : ia_L), ia_ret mm_Ar_fill pc none → K pc lv (none : Option ia_V).toList h1) {k20 : ia_H → Option ia_H} (hk20 : ∀ (h : ia_H), ge_ D w h → k20 h = some h1 → K 20 [none, none, none, none] [] h) : ∀ (n : Nat) (x2 : Int32) (x3 : Int32) (h : ia_H), ge_ D w h → l_Ar_fill_5 a0 x1 k20 n x2 x3 h = some h1 → K 5 [some (.inr (.inr a0)), some (.inl x1), some (.inl x2), some (.inl x3)] [] h := by
  intro n
  induction n with
  | zero =>
    intro x2 x3 h hg hm
    cases (show (none : Option ia_H) = some _ from hm)
  | succ n ih =>
    intro x2 x3 h hg hm
    rw [l_Ar_fill_5] at hm
    refine ia_go hK ck_Ar_fill_5 ⟨fun c => ?_, fun c => ?_⟩
    · replace hm := ia_ifp hm c
      show K 20 [some (.inr (.inr a0)), some (.inl x1), some (.inl x2), some (.inl x3)] [] h
      refine ia_fg hK (lv' := [none, none, none, none]) trivial ?_
      exact hk20 h hg hm
    · replace hm := ia_ifn hm c
      show K 10 [some (.inr (.inr a0)), some (.inl x1), some (.inl x2), some (.inl x3)] [] h
      obtain ⟨c1, hm⟩ := ia_gd_some hm
      refine ia_go hK ck_Ar_fill_10 ⟨hga_s100 hD hg (hkd_pr hD p0) c1, ?_⟩
      show K 5 [some (.inr (.inr a0)), some (.inl x1), some (.inl (x2 + 1)), some (.inl x3)] [] (ia_wI h a0 ((x2).toNatClampNeg) x1)
      exact ih (x2 + 1) x3 (ia_wI h a0 ((x2).toNatClampNeg) x1) (hgd_wI hD hg (hkx_100 hD (hkd_pr hD p0))) hm
theorem vl_Ar_fill_5 {D : Nat → Nat × Nat} (hD : cl_ D) {w : ia_O1} {a0 : Nat} {x1 : Int32} (p0 : (D a0).1 = 100) {h1 : ia_H} {k20 : ia_H → Option ia_H} (hk20 : ∀ (h : ia_H), ge_ D w h → k20 h = some h1 → ge_ D w h1) : ∀ (n : Nat) (x2 : Int32) (x3 : Int32) (h : ia_H), ge_ D w h → l_Ar_fill_5 a0 x1 k20 n x2 x3 h = some h1 → ge_ D w h1 := by
  intro n
  induction n with
  | zero =>
    intro x2 x3 h hg hm
    cases (show (none : Option ia_H) = some _ from hm)
  | succ n ih =>
    intro x2 x3 h hg hm
    rw [l_Ar_fill_5] at hm
    by_cases c : x3 ≤ x2
    · replace hm := ia_ifp hm c
      exact hk20 h hg hm
    · replace hm := ia_ifn hm c
      obtain ⟨c1, hm⟩ := ia_gd_some hm
      exact ih (x2 + 1) x3 (ia_wI h a0 ((x2).toNatClampNeg) x1) (hgd_wI hD hg (hkx_100 hD (hkd_pr hD p0))) hm
theorem v_Ar_fill {D : Nat → Nat × Nat} (hD : cl_ D) {w : ia_O1} {a0 : Nat} {x1 : Int32} {h : ia_H} (hg : ge_ D w h) (p0 : (D a0).1 = 100) {q : ia_H} (hm : f_Ar_fill a0 x1 h = some q) : ge_ D w q := by
  obtain ⟨h1, e1⟩ : ∃ x, x = q := ⟨_, rfl⟩
  subst e1
  unfold f_Ar_fill at hm
  refine vl_Ar_fill_5 hD p0 ?_ fu_ 0 (Int32.ofNat ((kd_D a0).2)) h hg hm
  · intro h hg hm
    obtain rfl := Option.some.inj hm
    exact hg
theorem u_Ar_fill {D : Nat → Nat × Nat} (hD : cl_ D) {w : ia_O1} (d : Nat) {a0 : Nat} {x1 : Int32} {h : ia_H} (hg : ge_ D w h) (p0 : (D a0).1 = 100) {q : ia_H} (hm : f_Ar_fill a0 x1 h = some q) : ia_Ev (d + 0) mm_Ar_fill [.inr (.inr a0), .inl x1] h none q := by
  have gq := v_Ar_fill hD hg p0 hm
  refine ia_Ev_intro ok_Ar_fill (hgd_le hD hg gq).1 (hgd_le hD hg gq).2 (Nat.le_of_ble_eq_true rfl) (fun K hK hret => ?_)
  obtain ⟨h1, e1⟩ : ∃ x, x = q := ⟨_, rfl⟩
  subst e1
  show K 0 [some (.inr (.inr a0)), some (.inl x1), none, none] [] h
  unfold f_Ar_fill at hm
  refine ia_go hK ck_Ar_fill_0 ⟨hga_len hD hg (hkd_pr hD p0) ⟨by decide, by decide⟩, ?_⟩
  show K 4 [some (.inr (.inr a0)), some (.inl x1), some (.inl 0), none] [.inl (Int32.ofNat (ia_k h a0).2)] h
  rw [hga_ln hD hg (hkd_pr hD p0) ⟨by decide, by decide⟩]
  refine ia_go hK ck_Ar_fill_4 ?_
  show K 5 [some (.inr (.inr a0)), some (.inl x1), some (.inl 0), some (.inl (Int32.ofNat ((kd_D a0).2)))] [] h
  refine ul_Ar_fill_5 hD hK p0 hret ?_ fu_ 0 (Int32.ofNat ((kd_D a0).2)) h hg hm
  · intro h hg hm
    obtain rfl := Option.some.inj hm
    exact hret 20 _ dc_Ar_fill_20
theorem ul_Ar_fill2_6 {D : Nat → Nat × Nat} (hD : cl_ D) {w : ia_O1} {d N1 W1 : Nat} {K : ia_K} (hK : ia_isK (d + 0) mm_Ar_fill2 N1 W1 K) {a0 : Nat} {y1 : Int64} (p0 : (D a0).1 = 103) {h1 : ia_H} (hret : ∀ (pc : Nat) (lv : ia_L), ia_ret mm_Ar_fill2 pc none → K pc lv (none : Option ia_V).toList h1) {k22 : ia_H → Option ia_H} (hk22 : ∀ (h : ia_H), ge_ D w h → k22 h = some h1 → K 22 [none, none, none, none, none] [] h) : ∀ (n : Nat) (x3 : Int32) (x4 : Int32) (h : ia_H), ge_ D w h → l_Ar_fill2_6 a0 y1 k22 n x3 x4 h = some h1 → K 6 [some (.inr (.inr a0)), some (.inr (.inl y1)), none, some (.inl x3), some (.inl x4)] [] h := by
  intro n
  induction n with
  | zero =>
    intro x3 x4 h hg hm
    cases (show (none : Option ia_H) = some _ from hm)
  | succ n ih =>
    intro x3 x4 h hg hm
    rw [l_Ar_fill2_6] at hm
    refine ia_go hK ck_Ar_fill2_6 ⟨fun c => ?_, fun c => ?_⟩
    · replace hm := ia_ifp hm c
      show K 22 [some (.inr (.inr a0)), some (.inr (.inl y1)), none, some (.inl x3), some (.inl x4)] [] h
      refine ia_fg hK (lv' := [none, none, none, none, none]) trivial ?_
      exact hk22 h hg hm
    · replace hm := ia_ifn hm c
      show K 12 [some (.inr (.inr a0)), some (.inr (.inl y1)), none, some (.inl x3), some (.inl x4)] [] h
      obtain ⟨c1, hm⟩ := ia_gd_some hm
      refine ia_go hK ck_Ar_fill2_12 ⟨hga_s103 hD hg (hkd_pr hD p0) c1, ?_⟩
      show K 6 [some (.inr (.inr a0)), some (.inr (.inl y1)), none, some (.inl (x3 + 1)), some (.inl x4)] [] (ia_wL h a0 ((x3).toNatClampNeg) y1)
      exact ih (x3 + 1) x4 (ia_wL h a0 ((x3).toNatClampNeg) y1) (hgd_wL hD hg) hm
theorem vl_Ar_fill2_6 {D : Nat → Nat × Nat} (hD : cl_ D) {w : ia_O1} {a0 : Nat} {y1 : Int64} (p0 : (D a0).1 = 103) {h1 : ia_H} {k22 : ia_H → Option ia_H} (hk22 : ∀ (h : ia_H), ge_ D w h → k22 h = some h1 → ge_ D w h1) : ∀ (n : Nat) (x3 : Int32) (x4 : Int32) (h : ia_H), ge_ D w h → l_Ar_fill2_6 a0 y1 k22 n x3 x4 h = some h1 → ge_ D w h1 := by
  intro n
  induction n with
  | zero =>
    intro x3 x4 h hg hm
    cases (show (none : Option ia_H) = some _ from hm)
  | succ n ih =>
    intro x3 x4 h hg hm
    rw [l_Ar_fill2_6] at hm
    by_cases c : x4 ≤ x3
    · replace hm := ia_ifp hm c
      exact hk22 h hg hm
    · replace hm := ia_ifn hm c
      obtain ⟨c1, hm⟩ := ia_gd_some hm
      exact ih (x3 + 1) x4 (ia_wL h a0 ((x3).toNatClampNeg) y1) (hgd_wL hD hg) hm
theorem v_Ar_fill2 {D : Nat → Nat × Nat} (hD : cl_ D) {w : ia_O1} {a0 : Nat} {y1 : Int64} {h : ia_H} (hg : ge_ D w h) (p0 : (D a0).1 = 103) {q : ia_H} (hm : f_Ar_fill2 a0 y1 h = some q) : ge_ D w q := by
  obtain ⟨h1, e1⟩ : ∃ x, x = q := ⟨_, rfl⟩
  subst e1
  unfold f_Ar_fill2 at hm
  refine vl_Ar_fill2_6 hD p0 ?_ fu_ 0 (Int32.ofNat ((kd_D a0).2)) h hg hm
  · intro h hg hm
    obtain rfl := Option.some.inj hm
    exact hg
theorem u_Ar_fill2 {D : Nat → Nat × Nat} (hD : cl_ D) {w : ia_O1} (d : Nat) {a0 : Nat} {y1 : Int64} {h : ia_H} (hg : ge_ D w h) (p0 : (D a0).1 = 103) {q : ia_H} (hm : f_Ar_fill2 a0 y1 h = some q) : ia_Ev (d + 0) mm_Ar_fill2 [.inr (.inr a0), .inr (.inl y1)] h none q := by
  have gq := v_Ar_fill2 hD hg p0 hm
  refine ia_Ev_intro ok_Ar_fill2 (hgd_le hD hg gq).1 (hgd_le hD hg gq).2 (Nat.le_of_ble_eq_true rfl) (fun K hK hret => ?_)
  obtain ⟨h1, e1⟩ : ∃ x, x = q := ⟨_, rfl⟩
  subst e1
  show K 0 [some (.inr (.inr a0)), some (.inr (.inl y1)), none, none, none] [] h
  unfold f_Ar_fill2 at hm
  refine ia_go hK ck_Ar_fill2_0 ⟨hga_len hD hg (hkd_pr hD p0) ⟨by decide, by decide⟩, ?_⟩
  show K 4 [some (.inr (.inr a0)), some (.inr (.inl y1)), none, some (.inl 0), none] [.inl (Int32.ofNat (ia_k h a0).2)] h
  rw [hga_ln hD hg (hkd_pr hD p0) ⟨by decide, by decide⟩]
  refine ia_go hK ck_Ar_fill2_4 ?_
  show K 6 [some (.inr (.inr a0)), some (.inr (.inl y1)), none, some (.inl 0), some (.inl (Int32.ofNat ((kd_D a0).2)))] [] h
  refine ul_Ar_fill2_6 hD hK p0 hret ?_ fu_ 0 (Int32.ofNat ((kd_D a0).2)) h hg hm
  · intro h hg hm
    obtain rfl := Option.some.inj hm
    exact hret 22 _ dc_Ar_fill2_22
theorem u_I_hasBit {D : Nat → Nat × Nat} (hD : cl_ D) {w : ia_O1} (d : Nat) {y0 : Int64} {x2 : Int32} {h : ia_H} (hg : ge_ D w h) {r : Int32} (hm : f_I_hasBit y0 x2 h = some r) : ia_Ev (d + 0) mm_I_hasBit [.inr (.inl y0), .inl x2] h (some (.inl r)) h := by
  refine ia_Ev_intro ok_I_hasBit (Nat.le_refl _) (Nat.le_refl _) (Nat.le_of_ble_eq_true rfl) (fun K hK hret => ?_)
  show K 0 [some (.inr (.inl y0)), none, some (.inl x2)] [] h
  unfold f_I_hasBit at hm
  refine ia_go hK ck_I_hasBit_0 ⟨fun c => ?_, fun c => ?_⟩
  · replace hm := ia_ifp hm c
    show K 14 [some (.inr (.inl y0)), none, some (.inl x2)] [] h
    refine ia_go hK ck_I_hasBit_14 ?_
    show K 15 [some (.inr (.inl y0)), none, some (.inl x2)] [.inl 0] h
    obtain rfl := Option.some.inj hm
    exact hret 15 _ ⟨Or.inl rfl, dc_I_hasBit_15⟩
  · replace hm := ia_ifn hm c
    show K 10 [some (.inr (.inl y0)), none, some (.inl x2)] [] h
    refine ia_go hK ck_I_hasBit_10 ?_
    show K 15 [some (.inr (.inl y0)), none, some (.inl x2)] [.inl 1] h
    obtain rfl := Option.some.inj hm
    exact hret 15 _ ⟨Or.inr rfl, dc_I_hasBit_15⟩
theorem v_La_join {D : Nat → Nat × Nat} (hD : cl_ D) {w : ia_O1} {a0 : Nat} {x1 : Int32} {x2 : Int32} {x3 : Int32} {x4 : Int32} {h : ia_H} (hg : ge_ D w h) (p0 : (D a0).1 = 3) {q : ia_H} (hm : f_La_join a0 x1 x2 x3 x4 h = some q) : ge_ D w q := by
  obtain ⟨h1, e1⟩ : ∃ x, x = q := ⟨_, rfl⟩
  subst e1
  unfold f_La_join at hm
  by_cases c : x3 = 0
  · replace hm := ia_ifp hm c
    obtain rfl := Option.some.inj hm
    exact hg
  · replace hm := ia_ifn hm c
    obtain ⟨c1, hm⟩ := ia_gd_some hm
    obtain ⟨c2, hm⟩ := ia_gd_some hm
    obtain ⟨v3, hv3, hm⟩ := ia_bnd hm
    by_cases c : v3 = 0
    · replace hm := ia_ifp hm c
      obtain ⟨c4, hm⟩ := ia_gd_some hm
      obtain rfl := Option.some.inj hm
      exact (hgd_wI hD (hgd_wI hD hg (hkx_100 hD (hka_3_16 hD p0))) (hkx_100 hD (hka_3_17 hD p0)))
    · replace hm := ia_ifn hm c
      obtain ⟨c5, hm⟩ := ia_gd_some hm
      obtain rfl := Option.some.inj hm
      exact (hgd_wI hD (hgd_wI hD hg (hkx_100 hD (hka_3_16 hD p0))) (hkx_100 hD (hka_3_17 hD p0)))
theorem u_La_join {D : Nat → Nat × Nat} (hD : cl_ D) {w : ia_O1} (d : Nat) {a0 : Nat} {x1 : Int32} {x2 : Int32} {x3 : Int32} {x4 : Int32} {h : ia_H} (hg : ge_ D w h) (p0 : (D a0).1 = 3) {q : ia_H} (hm : f_La_join a0 x1 x2 x3 x4 h = some q) : ia_Ev (d + 1) mm_La_join [.inr (.inr a0), .inl x1, .inl x2, .inl x3, .inl x4] h none q := by
  have gq := v_La_join hD hg p0 hm
  refine ia_Ev_intro ok_La_join (hgd_le hD hg gq).1 (hgd_le hD hg gq).2 (Nat.le_of_ble_eq_true rfl) (fun K hK hret => ?_)
  obtain ⟨h1, e1⟩ : ∃ x, x = q := ⟨_, rfl⟩
  subst e1
  show K 0 [some (.inr (.inr a0)), some (.inl x1), some (.inl x2), some (.inl x3), some (.inl x4)] [] h
  unfold f_La_join at hm
  refine ia_go hK ck_La_join_0 ⟨fun c => ?_, fun c => ?_⟩
  · replace hm := ia_ifp hm c
    show K 46 [some (.inr (.inr a0)), some (.inl x1), some (.inl x2), some (.inl x3), some (.inl x4)] [] h
    obtain rfl := Option.some.inj hm
    exact hret 46 _ dc_La_join_46
  · replace hm := ia_ifn hm c
    show K 4 [some (.inr (.inr a0)), some (.inl x1), some (.inl x2), some (.inl x3), some (.inl x4)] [] h
    obtain ⟨c1, hm⟩ := ia_gd_some hm
    obtain ⟨c2, hm⟩ := ia_gd_some hm
    refine ia_go hK ck_La_join_4 ⟨hgk_3 hD hg p0, hgr_3_16 hD hg p0, hga_s100 hD hg (hka_3_16 hD p0) c1, hgk_3 hD (hgd_wI hD hg (hkx_100 hD (hka_3_16 hD p0))) p0, hgr_3_17 hD (hgd_wI hD hg (hkx_100 hD (hka_3_16 hD p0))) p0, hgk_3 hD (hgd_wI hD hg (hkx_100 hD (hka_3_16 hD p0))) p0, hgr_3_6 hD (hgd_wI hD hg (hkx_100 hD (hka_3_16 hD p0))) p0, hga_s103 hD (hgd_wI hD hg (hkx_100 hD (hka_3_16 hD p0))) (hka_3_6 hD p0) c2, ?_⟩
    show K 33 [some (.inr (.inr a0)), some (.inl x1), some (.inl x2), some (.inl x3), some (.inl x4)] [.inl x4, .inr (.inl (ia_l (ia_wI h (a0 + 10) (((x1 * 4) + x2).toNatClampNeg) x4) (a0 + 4) ((x1).toNatClampNeg))), .inl ((x1 * 4) + x2), .inr (.inr (a0 + 11))] (ia_wI h (a0 + 10) (((x1 * 4) + x2).toNatClampNeg) x4)
    obtain ⟨v3, hv3, hm⟩ := ia_bnd hm
    have ev3 := u_I_hasBit hD (d + 0) (hgd_wI hD hg (hkx_100 hD (hka_3_16 hD p0))) hv3
    refine ia_cS hK mk_I_hasBit lk_3_104 dc_La_join_33 [.inr (.inl (ia_l (ia_wI h (a0 + 10) (((x1 * 4) + x2).toNatClampNeg) x4) (a0 + 4) ((x1).toNatClampNeg))), .inl x4] [.inl ((x1 * 4) + x2), .inr (.inr (a0 + 11))] rfl rfl (Nat.le_of_ble_eq_true rfl) ev3 ⟨rfl, rfl⟩ ?_
    show K 36 [some (.inr (.inr a0)), some (.inl x1), some (.inl x2), some (.inl x3), some (.inl x4)] [.inl v3, .inl ((x1 * 4) + x2), .inr (.inr (a0 + 11))] (ia_wI h (a0 + 10) (((x1 * 4) + x2).toNatClampNeg) x4)
    refine ia_go hK ck_La_join_36 ⟨fun c => ?_, fun c => ?_⟩
    · replace hm := ia_ifp hm c
      show K 43 [some (.inr (.inr a0)), some (.inl x1), some (.inl x2), some (.inl x3), some (.inl x4)] [.inl ((x1 * 4) + x2), .inr (.inr (a0 + 11))] (ia_wI h (a0 + 10) (((x1 * 4) + x2).toNatClampNeg) x4)
      obtain ⟨c4, hm⟩ := ia_gd_some hm
      refine ia_go hK ck_La_join_43 ⟨hga_s100 hD (hgd_wI hD hg (hkx_100 hD (hka_3_16 hD p0))) (hka_3_17 hD p0) c4, ?_⟩
      show K 46 [some (.inr (.inr a0)), some (.inl x1), some (.inl x2), some (.inl x3), some (.inl x4)] [] (ia_wI (ia_wI h (a0 + 10) (((x1 * 4) + x2).toNatClampNeg) x4) (a0 + 11) (((x1 * 4) + x2).toNatClampNeg) x4)
      obtain rfl := Option.some.inj hm
      exact hret 46 _ dc_La_join_46
    · replace hm := ia_ifn hm c
      show K 39 [some (.inr (.inr a0)), some (.inl x1), some (.inl x2), some (.inl x3), some (.inl x4)] [.inl ((x1 * 4) + x2), .inr (.inr (a0 + 11))] (ia_wI h (a0 + 10) (((x1 * 4) + x2).toNatClampNeg) x4)
      refine ia_go hK ck_La_join_39 ?_
      show K 45 [some (.inr (.inr a0)), some (.inl x1), some (.inl x2), some (.inl x3), some (.inl x4)] [.inl (-1), .inl ((x1 * 4) + x2), .inr (.inr (a0 + 11))] (ia_wI h (a0 + 10) (((x1 * 4) + x2).toNatClampNeg) x4)
      obtain ⟨c5, hm⟩ := ia_gd_some hm
      refine ia_go hK ck_La_join_45 ⟨hga_s100 hD (hgd_wI hD hg (hkx_100 hD (hka_3_16 hD p0))) (hka_3_17 hD p0) c5, ?_⟩
      show K 46 [some (.inr (.inr a0)), some (.inl x1), some (.inl x2), some (.inl x3), some (.inl x4)] [] (ia_wI (ia_wI h (a0 + 10) (((x1 * 4) + x2).toNatClampNeg) x4) (a0 + 11) (((x1 * 4) + x2).toNatClampNeg) (-1))
      obtain rfl := Option.some.inj hm
      exact hret 46 _ dc_La_join_46
theorem uj_La_chart_126 {D : Nat → Nat × Nat} (hD : cl_ D) {w : ia_O1} {d N1 W1 : Nat} {K : ia_K} (hK : ia_isK (d + 2) mm_La_chart N1 W1 K) {a0 : Nat} (p0 : (D a0).1 = 3) {h1 : ia_H} (hret : ∀ (pc : Nat) (lv : ia_L), ia_ret mm_La_chart pc none → K pc lv (none : Option ia_V).toList h1) {kr : Int32 → Int32 → ia_H → Option ia_H} {k141 : Int32 → ia_H → Option ia_H} (hkr : ∀ (x1 : Int32) (x2 : Int32) (h : ia_H), ge_ D w h → kr x1 x2 h = some h1 → K 28 [some (.inr (.inr a0)), some (.inl x1), some (.inl x2), none] [] h) (hk141 : ∀ (x1 : Int32) (h : ia_H), ge_ D w h → k141 x1 h = some h1 → K 141 [some (.inr (.inr a0)), some (.inl x1), none, none] [] h) : ∀ (x1 : Int32) (x2 : Int32) (x3 : Int32) (b0 : Nat) (s1 : Int32) (s2 : Int32) (s3 : Int32) (h : ia_H), ge_ D w h → (D b0).1 = 3 → j_La_chart_126 a0 kr k141 x1 x2 x3 b0 s1 s2 s3 h = some h1 → K 126 [some (.inr (.inr a0)), some (.inl x1), some (.inl x2), some (.inl x3)] [.inl s3, .inl s2, .inl s1, .inr (.inr b0)] h := by
  intro x1 x2 x3 b0 s1 s2 s3 h hg q_b0 hm
  unfold j_La_chart_126 at hm
  refine ia_go hK ck_La_chart_126 ⟨hgk_3 hD hg p0, ?_⟩
  show K 132 [some (.inr (.inr a0)), some (.inl x1), some (.inl x2), some (.inl x3)] [.inl (x3 + (ia_i h a0 0)), .inl s3, .inl s2, .inl s1, .inr (.inr b0)] h
  obtain ⟨v6, hv6, hm⟩ := ia_bnd hm
  have ev6 := u_La_join hD (d + 0) hg q_b0 hv6
  have gv6 := v_La_join hD hg q_b0 hv6
  refine ia_cV hK mk_La_join lk_3_112 dc_La_chart_132 b0 [.inl s1, .inl s2, .inl s3, .inl (x3 + (ia_i h a0 0))] [] rfl rfl (Nat.le_of_ble_eq_true rfl) (by decide) rfl (hgk_3 hD hg q_b0) ev6 (hgd_nm hD hg gv6) ?_
  show K 135 [some (.inr (.inr a0)), some (.inl x1), some (.inl x2), some (.inl x3)] [] v6
  refine ia_go hK ck_La_chart_135 ?_
  show K 28 [some (.inr (.inr a0)), some (.inl x1), some (.inl (x2 + 1)), some (.inl x3)] [] v6
  refine ia_fg hK (lv' := [some (.inr (.inr a0)), some (.inl x1), some (.inl (x2 + 1)), none]) ⟨rfl, rfl, rfl, trivial⟩ ?_
  exact hkr x1 (x2 + 1) v6 gv6 hm
theorem vj_La_chart_126 {D : Nat → Nat × Nat} (hD : cl_ D) {w : ia_O1} {a0 : Nat} (p0 : (D a0).1 = 3) {h1 : ia_H} {kr : Int32 → Int32 → ia_H → Option ia_H} {k141 : Int32 → ia_H → Option ia_H} (hkr : ∀ (x1 : Int32) (x2 : Int32) (h : ia_H), ge_ D w h → kr x1 x2 h = some h1 → ge_ D w h1) (hk141 : ∀ (x1 : Int32) (h : ia_H), ge_ D w h → k141 x1 h = some h1 → ge_ D w h1) : ∀ (x1 : Int32) (x2 : Int32) (x3 : Int32) (b0 : Nat) (s1 : Int32) (s2 : Int32) (s3 : Int32) (h : ia_H), ge_ D w h → (D b0).1 = 3 → j_La_chart_126 a0 kr k141 x1 x2 x3 b0 s1 s2 s3 h = some h1 → ge_ D w h1 := by
  intro x1 x2 x3 b0 s1 s2 s3 h hg q_b0 hm
  unfold j_La_chart_126 at hm
  obtain ⟨v6, hv6, hm⟩ := ia_bnd hm
  have gv6 := v_La_join hD hg q_b0 hv6
  exact hkr x1 (x2 + 1) v6 gv6 hm
theorem uj_La_chart_102 {D : Nat → Nat × Nat} (hD : cl_ D) {w : ia_O1} {d N1 W1 : Nat} {K : ia_K} (hK : ia_isK (d + 2) mm_La_chart N1 W1 K) {a0 : Nat} (p0 : (D a0).1 = 3) {h1 : ia_H} (hret : ∀ (pc : Nat) (lv : ia_L), ia_ret mm_La_chart pc none → K pc lv (none : Option ia_V).toList h1) {kr : Int32 → Int32 → ia_H → Option ia_H} {k141 : Int32 → ia_H → Option ia_H} (hkr : ∀ (x1 : Int32) (x2 : Int32) (h : ia_H), ge_ D w h → kr x1 x2 h = some h1 → K 28 [some (.inr (.inr a0)), some (.inl x1), some (.inl x2), none] [] h) (hk141 : ∀ (x1 : Int32) (h : ia_H), ge_ D w h → k141 x1 h = some h1 → K 141 [some (.inr (.inr a0)), some (.inl x1), none, none] [] h) : ∀ (x1 : Int32) (x2 : Int32) (x3 : Int32) (b0 : Nat) (s1 : Int32) (s2 : Int32) (s3 : Int32) (h : ia_H), ge_ D w h → (D b0).1 = 3 → j_La_chart_102 a0 kr k141 x1 x2 x3 b0 s1 s2 s3 h = some h1 → K 102 [some (.inr (.inr a0)), some (.inl x1), some (.inl x2), some (.inl x3)] [.inl s3, .inl s2, .inl s1, .inr (.inr b0)] h := by
  intro x1 x2 x3 b0 s1 s2 s3 h hg q_b0 hm
  unfold j_La_chart_102 at hm
  refine ia_go hK ck_La_chart_102 ?_
  show K 105 [some (.inr (.inr a0)), some (.inl x1), some (.inl x2), some (.inl x3)] [.inl (x3 + 1), .inl s3, .inl s2, .inl s1, .inr (.inr b0)] h
  obtain ⟨v5, hv5, hm⟩ := ia_bnd hm
  have ev5 := u_La_join hD (d + 0) hg q_b0 hv5
  have gv5 := v_La_join hD hg q_b0 hv5
  refine ia_cV hK mk_La_join lk_3_112 dc_La_chart_105 b0 [.inl s1, .inl s2, .inl s3, .inl (x3 + 1)] [] rfl rfl (Nat.le_of_ble_eq_true rfl) (by decide) rfl (hgk_3 hD hg q_b0) ev5 (hgd_nm hD hg gv5) ?_
  show K 108 [some (.inr (.inr a0)), some (.inl x1), some (.inl x2), some (.inl x3)] [] v5
  refine ia_go hK ck_La_chart_108 ⟨hgk_3 hD gv5 p0, fun c => ?_, fun c => ?_⟩
  · replace hm := ia_ifp hm c
    show K 125 [some (.inr (.inr a0)), some (.inl x1), some (.inl x2), some (.inl x3)] [.inl 3, .inl x3, .inr (.inr a0)] v5
    refine ia_go hK ck_La_chart_125 ?_
    show K 126 [some (.inr (.inr a0)), some (.inl x1), some (.inl x2), some (.inl x3)] [.inl 0, .inl 3, .inl x3, .inr (.inr a0)] v5
    exact uj_La_chart_126 hD hK p0 hret hkr hk141 x1 x2 x3 a0 x3 3 0 v5 gv5 p0 hm
  · replace hm := ia_ifn hm c
    show K 121 [some (.inr (.inr a0)), some (.inl x1), some (.inl x2), some (.inl x3)] [.inl 3, .inl x3, .inr (.inr a0)] v5
    refine ia_go hK ck_La_chart_121 ?_
    show K 126 [some (.inr (.inr a0)), some (.inl x1), some (.inl x2), some (.inl x3)] [.inl 1, .inl 3, .inl x3, .inr (.inr a0)] v5
    exact uj_La_chart_126 hD hK p0 hret hkr hk141 x1 x2 x3 a0 x3 3 1 v5 gv5 p0 hm
theorem vj_La_chart_102 {D : Nat → Nat × Nat} (hD : cl_ D) {w : ia_O1} {a0 : Nat} (p0 : (D a0).1 = 3) {h1 : ia_H} {kr : Int32 → Int32 → ia_H → Option ia_H} {k141 : Int32 → ia_H → Option ia_H} (hkr : ∀ (x1 : Int32) (x2 : Int32) (h : ia_H), ge_ D w h → kr x1 x2 h = some h1 → ge_ D w h1) (hk141 : ∀ (x1 : Int32) (h : ia_H), ge_ D w h → k141 x1 h = some h1 → ge_ D w h1) : ∀ (x1 : Int32) (x2 : Int32) (x3 : Int32) (b0 : Nat) (s1 : Int32) (s2 : Int32) (s3 : Int32) (h : ia_H), ge_ D w h → (D b0).1 = 3 → j_La_chart_102 a0 kr k141 x1 x2 x3 b0 s1 s2 s3 h = some h1 → ge_ D w h1 := by
  intro x1 x2 x3 b0 s1 s2 s3 h hg q_b0 hm
  unfold j_La_chart_102 at hm
  obtain ⟨v5, hv5, hm⟩ := ia_bnd hm
  have gv5 := v_La_join hD hg q_b0 hv5
  by_cases c : (ia_i v5 a0 1) ≤ (x1 + 1)
  · replace hm := ia_ifp hm c
    exact vj_La_chart_126 hD p0 hkr hk141 x1 x2 x3 a0 x3 3 0 v5 gv5 p0 hm
  · replace hm := ia_ifn hm c
    exact vj_La_chart_126 hD p0 hkr hk141 x1 x2 x3 a0 x3 3 1 v5 gv5 p0 hm
theorem uj_La_chart_78 {D : Nat → Nat × Nat} (hD : cl_ D) {w : ia_O1} {d N1 W1 : Nat} {K : ia_K} (hK : ia_isK (d + 2) mm_La_chart N1 W1 K) {a0 : Nat} (p0 : (D a0).1 = 3) {h1 : ia_H} (hret : ∀ (pc : Nat) (lv : ia_L), ia_ret mm_La_chart pc none → K pc lv (none : Option ia_V).toList h1) {kr : Int32 → Int32 → ia_H → Option ia_H} {k141 : Int32 → ia_H → Option ia_H} (hkr : ∀ (x1 : Int32) (x2 : Int32) (h : ia_H), ge_ D w h → kr x1 x2 h = some h1 → K 28 [some (.inr (.inr a0)), some (.inl x1), some (.inl x2), none] [] h) (hk141 : ∀ (x1 : Int32) (h : ia_H), ge_ D w h → k141 x1 h = some h1 → K 141 [some (.inr (.inr a0)), some (.inl x1), none, none] [] h) : ∀ (x1 : Int32) (x2 : Int32) (x3 : Int32) (b0 : Nat) (s1 : Int32) (s2 : Int32) (s3 : Int32) (h : ia_H), ge_ D w h → (D b0).1 = 3 → j_La_chart_78 a0 kr k141 x1 x2 x3 b0 s1 s2 s3 h = some h1 → K 78 [some (.inr (.inr a0)), some (.inl x1), some (.inl x2), some (.inl x3)] [.inl s3, .inl s2, .inl s1, .inr (.inr b0)] h := by
  intro x1 x2 x3 b0 s1 s2 s3 h hg q_b0 hm
  unfold j_La_chart_78 at hm
  refine ia_go hK ck_La_chart_78 ?_
  show K 81 [some (.inr (.inr a0)), some (.inl x1), some (.inl x2), some (.inl x3)] [.inl (x3 - 1), .inl s3, .inl s2, .inl s1, .inr (.inr b0)] h
  obtain ⟨v4, hv4, hm⟩ := ia_bnd hm
  have ev4 := u_La_join hD (d + 0) hg q_b0 hv4
  have gv4 := v_La_join hD hg q_b0 hv4
  refine ia_cV hK mk_La_join lk_3_112 dc_La_chart_81 b0 [.inl s1, .inl s2, .inl s3, .inl (x3 - 1)] [] rfl rfl (Nat.le_of_ble_eq_true rfl) (by decide) rfl (hgk_3 hD hg q_b0) ev4 (hgd_nm hD hg gv4) ?_
  show K 84 [some (.inr (.inr a0)), some (.inl x1), some (.inl x2), some (.inl x3)] [] v4
  refine ia_go hK ck_La_chart_84 ⟨hgk_3 hD gv4 p0, fun c => ?_, fun c => ?_⟩
  · replace hm := ia_ifp hm c
    show K 101 [some (.inr (.inr a0)), some (.inl x1), some (.inl x2), some (.inl x3)] [.inl 2, .inl x3, .inr (.inr a0)] v4
    refine ia_go hK ck_La_chart_101 ?_
    show K 102 [some (.inr (.inr a0)), some (.inl x1), some (.inl x2), some (.inl x3)] [.inl 0, .inl 2, .inl x3, .inr (.inr a0)] v4
    exact uj_La_chart_102 hD hK p0 hret hkr hk141 x1 x2 x3 a0 x3 2 0 v4 gv4 p0 hm
  · replace hm := ia_ifn hm c
    show K 97 [some (.inr (.inr a0)), some (.inl x1), some (.inl x2), some (.inl x3)] [.inl 2, .inl x3, .inr (.inr a0)] v4
    refine ia_go hK ck_La_chart_97 ?_
    show K 102 [some (.inr (.inr a0)), some (.inl x1), some (.inl x2), some (.inl x3)] [.inl 1, .inl 2, .inl x3, .inr (.inr a0)] v4
    exact uj_La_chart_102 hD hK p0 hret hkr hk141 x1 x2 x3 a0 x3 2 1 v4 gv4 p0 hm
theorem vj_La_chart_78 {D : Nat → Nat × Nat} (hD : cl_ D) {w : ia_O1} {a0 : Nat} (p0 : (D a0).1 = 3) {h1 : ia_H} {kr : Int32 → Int32 → ia_H → Option ia_H} {k141 : Int32 → ia_H → Option ia_H} (hkr : ∀ (x1 : Int32) (x2 : Int32) (h : ia_H), ge_ D w h → kr x1 x2 h = some h1 → ge_ D w h1) (hk141 : ∀ (x1 : Int32) (h : ia_H), ge_ D w h → k141 x1 h = some h1 → ge_ D w h1) : ∀ (x1 : Int32) (x2 : Int32) (x3 : Int32) (b0 : Nat) (s1 : Int32) (s2 : Int32) (s3 : Int32) (h : ia_H), ge_ D w h → (D b0).1 = 3 → j_La_chart_78 a0 kr k141 x1 x2 x3 b0 s1 s2 s3 h = some h1 → ge_ D w h1 := by
  intro x1 x2 x3 b0 s1 s2 s3 h hg q_b0 hm
  unfold j_La_chart_78 at hm
  obtain ⟨v4, hv4, hm⟩ := ia_bnd hm
  have gv4 := v_La_join hD hg q_b0 hv4
  by_cases c : (ia_i v4 a0 0) ≤ (x2 + 1)
  · replace hm := ia_ifp hm c
    exact vj_La_chart_102 hD p0 hkr hk141 x1 x2 x3 a0 x3 2 0 v4 gv4 p0 hm
  · replace hm := ia_ifn hm c
    exact vj_La_chart_102 hD p0 hkr hk141 x1 x2 x3 a0 x3 2 1 v4 gv4 p0 hm
theorem uj_La_chart_57 {D : Nat → Nat × Nat} (hD : cl_ D) {w : ia_O1} {d N1 W1 : Nat} {K : ia_K} (hK : ia_isK (d + 2) mm_La_chart N1 W1 K) {a0 : Nat} (p0 : (D a0).1 = 3) {h1 : ia_H} (hret : ∀ (pc : Nat) (lv : ia_L), ia_ret mm_La_chart pc none → K pc lv (none : Option ia_V).toList h1) {kr : Int32 → Int32 → ia_H → Option ia_H} {k141 : Int32 → ia_H → Option ia_H} (hkr : ∀ (x1 : Int32) (x2 : Int32) (h : ia_H), ge_ D w h → kr x1 x2 h = some h1 → K 28 [some (.inr (.inr a0)), some (.inl x1), some (.inl x2), none] [] h) (hk141 : ∀ (x1 : Int32) (h : ia_H), ge_ D w h → k141 x1 h = some h1 → K 141 [some (.inr (.inr a0)), some (.inl x1), none, none] [] h) : ∀ (x1 : Int32) (x2 : Int32) (x3 : Int32) (b0 : Nat) (s1 : Int32) (s2 : Int32) (s3 : Int32) (h : ia_H), ge_ D w h → (D b0).1 = 3 → j_La_chart_57 a0 kr k141 x1 x2 x3 b0 s1 s2 s3 h = some h1 → K 57 [some (.inr (.inr a0)), some (.inl x1), some (.inl x2), some (.inl x3)] [.inl s3, .inl s2, .inl s1, .inr (.inr b0)] h := by
  intro x1 x2 x3 b0 s1 s2 s3 h hg q_b0 hm
  unfold j_La_chart_57 at hm
  refine ia_go hK ck_La_chart_57 ⟨hgk_3 hD hg p0, ?_⟩
  show K 63 [some (.inr (.inr a0)), some (.inl x1), some (.inl x2), some (.inl x3)] [.inl (x3 - (ia_i h a0 0)), .inl s3, .inl s2, .inl s1, .inr (.inr b0)] h
  obtain ⟨v3, hv3, hm⟩ := ia_bnd hm
  have ev3 := u_La_join hD (d + 0) hg q_b0 hv3
  have gv3 := v_La_join hD hg q_b0 hv3
  refine ia_cV hK mk_La_join lk_3_112 dc_La_chart_63 b0 [.inl s1, .inl s2, .inl s3, .inl (x3 - (ia_i h a0 0))] [] rfl rfl (Nat.le_of_ble_eq_true rfl) (by decide) rfl (hgk_3 hD hg q_b0) ev3 (hgd_nm hD hg gv3) ?_
  show K 66 [some (.inr (.inr a0)), some (.inl x1), some (.inl x2), some (.inl x3)] [] v3
  refine ia_go hK ck_La_chart_66 ⟨fun c => ?_, fun c => ?_⟩
  · replace hm := ia_ifp hm c
    show K 77 [some (.inr (.inr a0)), some (.inl x1), some (.inl x2), some (.inl x3)] [.inl 1, .inl x3, .inr (.inr a0)] v3
    refine ia_go hK ck_La_chart_77 ?_
    show K 78 [some (.inr (.inr a0)), some (.inl x1), some (.inl x2), some (.inl x3)] [.inl 0, .inl 1, .inl x3, .inr (.inr a0)] v3
    exact uj_La_chart_78 hD hK p0 hret hkr hk141 x1 x2 x3 a0 x3 1 0 v3 gv3 p0 hm
  · replace hm := ia_ifn hm c
    show K 73 [some (.inr (.inr a0)), some (.inl x1), some (.inl x2), some (.inl x3)] [.inl 1, .inl x3, .inr (.inr a0)] v3
    refine ia_go hK ck_La_chart_73 ?_
    show K 78 [some (.inr (.inr a0)), some (.inl x1), some (.inl x2), some (.inl x3)] [.inl 1, .inl 1, .inl x3, .inr (.inr a0)] v3
    exact uj_La_chart_78 hD hK p0 hret hkr hk141 x1 x2 x3 a0 x3 1 1 v3 gv3 p0 hm
theorem vj_La_chart_57 {D : Nat → Nat × Nat} (hD : cl_ D) {w : ia_O1} {a0 : Nat} (p0 : (D a0).1 = 3) {h1 : ia_H} {kr : Int32 → Int32 → ia_H → Option ia_H} {k141 : Int32 → ia_H → Option ia_H} (hkr : ∀ (x1 : Int32) (x2 : Int32) (h : ia_H), ge_ D w h → kr x1 x2 h = some h1 → ge_ D w h1) (hk141 : ∀ (x1 : Int32) (h : ia_H), ge_ D w h → k141 x1 h = some h1 → ge_ D w h1) : ∀ (x1 : Int32) (x2 : Int32) (x3 : Int32) (b0 : Nat) (s1 : Int32) (s2 : Int32) (s3 : Int32) (h : ia_H), ge_ D w h → (D b0).1 = 3 → j_La_chart_57 a0 kr k141 x1 x2 x3 b0 s1 s2 s3 h = some h1 → ge_ D w h1 := by
  intro x1 x2 x3 b0 s1 s2 s3 h hg q_b0 hm
  unfold j_La_chart_57 at hm
  obtain ⟨v3, hv3, hm⟩ := ia_bnd hm
  have gv3 := v_La_join hD hg q_b0 hv3
  by_cases c : x2 ≤ 0
  · replace hm := ia_ifp hm c
    exact vj_La_chart_78 hD p0 hkr hk141 x1 x2 x3 a0 x3 1 0 v3 gv3 p0 hm
  · replace hm := ia_ifn hm c
    exact vj_La_chart_78 hD p0 hkr hk141 x1 x2 x3 a0 x3 1 1 v3 gv3 p0 hm
theorem ul_La_chart_28 {D : Nat → Nat × Nat} (hD : cl_ D) {w : ia_O1} {d N1 W1 : Nat} {K : ia_K} (hK : ia_isK (d + 2) mm_La_chart N1 W1 K) {a0 : Nat} (p0 : (D a0).1 = 3) {h1 : ia_H} (hret : ∀ (pc : Nat) (lv : ia_L), ia_ret mm_La_chart pc none → K pc lv (none : Option ia_V).toList h1) {k141 : Int32 → ia_H → Option ia_H} (hk141 : ∀ (x1 : Int32) (h : ia_H), ge_ D w h → k141 x1 h = some h1 → K 141 [some (.inr (.inr a0)), some (.inl x1), none, none] [] h) : ∀ (n : Nat) (x1 : Int32) (x2 : Int32) (h : ia_H), ge_ D w h → l_La_chart_28 a0 k141 n x1 x2 h = some h1 → K 28 [some (.inr (.inr a0)), some (.inl x1), some (.inl x2), none] [] h := by
  intro n
  induction n with
  | zero =>
    intro x1 x2 h hg hm
    cases (show (none : Option ia_H) = some _ from hm)
  | succ n ih =>
    intro x1 x2 h hg hm
    rw [l_La_chart_28] at hm
    refine ia_go hK ck_La_chart_28 ⟨hgk_3 hD hg p0, fun c => ?_, fun c => ?_⟩
    · replace hm := ia_ifp hm c
      show K 141 [some (.inr (.inr a0)), some (.inl x1), some (.inl x2), none] [] h
      refine ia_fg hK (lv' := [some (.inr (.inr a0)), some (.inl x1), none, none]) ⟨rfl, rfl, trivial⟩ ?_
      exact hk141 x1 h hg hm
    · replace hm := ia_ifn hm c
      show K 36 [some (.inr (.inr a0)), some (.inl x1), some (.inl x2), none] [] h
      refine ia_go hK ck_La_chart_36 ⟨hgk_3 hD hg p0, fun c => ?_, fun c => ?_⟩
      · replace hm := ia_ifp hm c
        show K 56 [some (.inr (.inr a0)), some (.inl x1), some (.inl x2), some (.inl ((x1 * (ia_i h a0 0)) + x2))] [.inl 0, .inl ((x1 * (ia_i h a0 0)) + x2), .inr (.inr a0)] h
        refine ia_go hK ck_La_chart_56 ?_
        show K 57 [some (.inr (.inr a0)), some (.inl x1), some (.inl x2), some (.inl ((x1 * (ia_i h a0 0)) + x2))] [.inl 0, .inl 0, .inl ((x1 * (ia_i h a0 0)) + x2), .inr (.inr a0)] h
        exact uj_La_chart_57 hD hK p0 hret ih hk141 x1 x2 ((x1 * (ia_i h a0 0)) + x2) a0 ((x1 * (ia_i h a0 0)) + x2) 0 0 h hg p0 hm
      · replace hm := ia_ifn hm c
        show K 52 [some (.inr (.inr a0)), some (.inl x1), some (.inl x2), some (.inl ((x1 * (ia_i h a0 0)) + x2))] [.inl 0, .inl ((x1 * (ia_i h a0 0)) + x2), .inr (.inr a0)] h
        refine ia_go hK ck_La_chart_52 ?_
        show K 57 [some (.inr (.inr a0)), some (.inl x1), some (.inl x2), some (.inl ((x1 * (ia_i h a0 0)) + x2))] [.inl 1, .inl 0, .inl ((x1 * (ia_i h a0 0)) + x2), .inr (.inr a0)] h
        exact uj_La_chart_57 hD hK p0 hret ih hk141 x1 x2 ((x1 * (ia_i h a0 0)) + x2) a0 ((x1 * (ia_i h a0 0)) + x2) 0 1 h hg p0 hm
theorem vl_La_chart_28 {D : Nat → Nat × Nat} (hD : cl_ D) {w : ia_O1} {a0 : Nat} (p0 : (D a0).1 = 3) {h1 : ia_H} {k141 : Int32 → ia_H → Option ia_H} (hk141 : ∀ (x1 : Int32) (h : ia_H), ge_ D w h → k141 x1 h = some h1 → ge_ D w h1) : ∀ (n : Nat) (x1 : Int32) (x2 : Int32) (h : ia_H), ge_ D w h → l_La_chart_28 a0 k141 n x1 x2 h = some h1 → ge_ D w h1 := by
  intro n
  induction n with
  | zero =>
    intro x1 x2 h hg hm
    cases (show (none : Option ia_H) = some _ from hm)
  | succ n ih =>
    intro x1 x2 h hg hm
    rw [l_La_chart_28] at hm
    by_cases c : (ia_i h a0 0) ≤ x2
    · replace hm := ia_ifp hm c
      exact hk141 x1 h hg hm
    · replace hm := ia_ifn hm c
      by_cases c : x1 ≤ 0
      · replace hm := ia_ifp hm c
        exact vj_La_chart_57 hD p0 ih hk141 x1 x2 ((x1 * (ia_i h a0 0)) + x2) a0 ((x1 * (ia_i h a0 0)) + x2) 0 0 h hg p0 hm
      · replace hm := ia_ifn hm c
        exact vj_La_chart_57 hD p0 ih hk141 x1 x2 ((x1 * (ia_i h a0 0)) + x2) a0 ((x1 * (ia_i h a0 0)) + x2) 0 1 h hg p0 hm
theorem ul_La_chart_18 {D : Nat → Nat × Nat} (hD : cl_ D) {w : ia_O1} {d N1 W1 : Nat} {K : ia_K} (hK : ia_isK (d + 2) mm_La_chart N1 W1 K) {a0 : Nat} (p0 : (D a0).1 = 3) {h1 : ia_H} (hret : ∀ (pc : Nat) (lv : ia_L), ia_ret mm_La_chart pc none → K pc lv (none : Option ia_V).toList h1) {k147 : ia_H → Option ia_H} (hk147 : ∀ (h : ia_H), ge_ D w h → k147 h = some h1 → K 147 [none, none, none, none] [] h) : ∀ (n : Nat) (x1 : Int32) (h : ia_H), ge_ D w h → l_La_chart_18 a0 k147 n x1 h = some h1 → K 18 [some (.inr (.inr a0)), some (.inl x1), none, none] [] h := by
  intro n
  induction n with
  | zero =>
    intro x1 h hg hm
    cases (show (none : Option ia_H) = some _ from hm)
  | succ n ih =>
    intro x1 h hg hm
    rw [l_La_chart_18] at hm
    refine ia_go hK ck_La_chart_18 ⟨hgk_3 hD hg p0, fun c => ?_, fun c => ?_⟩
    · replace hm := ia_ifp hm c
      show K 147 [some (.inr (.inr a0)), some (.inl x1), none, none] [] h
      refine ia_fg hK (lv' := [none, none, none, none]) trivial ?_
      exact hk147 h hg hm
    · replace hm := ia_ifn hm c
      show K 26 [some (.inr (.inr a0)), some (.inl x1), none, none] [] h
      refine ia_go hK ck_La_chart_26 ?_
      show K 28 [some (.inr (.inr a0)), some (.inl x1), some (.inl 0), none] [] h
      refine ul_La_chart_28 hD hK p0 hret ?_ fu_ x1 0 h hg hm
      · intro x1 h hg hm
        refine ia_go hK ck_La_chart_141 ?_
        show K 18 [some (.inr (.inr a0)), some (.inl (x1 + 1)), none, none] [] h
        exact ih (x1 + 1) h hg hm
theorem vl_La_chart_18 {D : Nat → Nat × Nat} (hD : cl_ D) {w : ia_O1} {a0 : Nat} (p0 : (D a0).1 = 3) {h1 : ia_H} {k147 : ia_H → Option ia_H} (hk147 : ∀ (h : ia_H), ge_ D w h → k147 h = some h1 → ge_ D w h1) : ∀ (n : Nat) (x1 : Int32) (h : ia_H), ge_ D w h → l_La_chart_18 a0 k147 n x1 h = some h1 → ge_ D w h1 := by
  intro n
  induction n with
  | zero =>
    intro x1 h hg hm
    cases (show (none : Option ia_H) = some _ from hm)
  | succ n ih =>
    intro x1 h hg hm
    rw [l_La_chart_18] at hm
    by_cases c : (ia_i h a0 1) ≤ x1
    · replace hm := ia_ifp hm c
      exact hk147 h hg hm
    · replace hm := ia_ifn hm c
      refine vl_La_chart_28 hD p0 ?_ fu_ x1 0 h hg hm
      · intro x1 h hg hm
        exact ih (x1 + 1) h hg hm
theorem v_La_chart {D : Nat → Nat × Nat} (hD : cl_ D) {w : ia_O1} {a0 : Nat} {h : ia_H} (hg : ge_ D w h) (p0 : (D a0).1 = 3) {q : ia_H} (hm : f_La_chart a0 h = some q) : ge_ D w q := by
  obtain ⟨h1, e1⟩ : ∃ x, x = q := ⟨_, rfl⟩
  subst e1
  unfold f_La_chart at hm
  obtain ⟨v1, hv1, hm⟩ := ia_bnd hm
  have gv1 := v_Ar_fill hD hg (congrArg Prod.fst (hka_3_16 hD p0)) hv1
  obtain ⟨v2, hv2, hm⟩ := ia_bnd hm
  have gv2 := v_Ar_fill hD gv1 (congrArg Prod.fst (hka_3_17 hD p0)) hv2
  refine vl_La_chart_18 hD p0 ?_ fu_ 0 v2 gv2 hm
  · intro h hg hm
    obtain rfl := Option.some.inj hm
    exact hg
theorem u_La_chart {D : Nat → Nat × Nat} (hD : cl_ D) {w : ia_O1} (d : Nat) {a0 : Nat} {h : ia_H} (hg : ge_ D w h) (p0 : (D a0).1 = 3) {q : ia_H} (hm : f_La_chart a0 h = some q) : ia_Ev (d + 2) mm_La_chart [.inr (.inr a0)] h none q := by
  have gq := v_La_chart hD hg p0 hm
  refine ia_Ev_intro ok_La_chart (hgd_le hD hg gq).1 (hgd_le hD hg gq).2 (Nat.le_of_ble_eq_true rfl) (fun K hK hret => ?_)
  obtain ⟨h1, e1⟩ : ∃ x, x = q := ⟨_, rfl⟩
  subst e1
  show K 0 [some (.inr (.inr a0)), none, none, none] [] h
  unfold f_La_chart at hm
  refine ia_go hK ck_La_chart_0 ⟨hgk_3 hD hg p0, hgr_3_16 hD hg p0, ?_⟩
  show K 5 [some (.inr (.inr a0)), none, none, none] [.inl (-1), .inr (.inr (a0 + 10))] h
  obtain ⟨v1, hv1, hm⟩ := ia_bnd hm
  have ev1 := u_Ar_fill hD (d + 1) hg (congrArg Prod.fst (hka_3_16 hD p0)) hv1
  have gv1 := v_Ar_fill hD hg (congrArg Prod.fst (hka_3_16 hD p0)) hv1
  refine ia_cS hK mk_Ar_fill lk_3_59 dc_La_chart_5 [.inr (.inr (a0 + 10)), .inl (-1)] [] rfl rfl (Nat.le_of_ble_eq_true rfl) ev1 (hgd_nm hD hg gv1) ?_
  show K 8 [some (.inr (.inr a0)), none, none, none] [] v1
  refine ia_go hK ck_La_chart_8 ⟨hgk_3 hD gv1 p0, hgr_3_17 hD gv1 p0, ?_⟩
  show K 13 [some (.inr (.inr a0)), none, none, none] [.inl (-1), .inr (.inr (a0 + 11))] v1
  obtain ⟨v2, hv2, hm⟩ := ia_bnd hm
  have ev2 := u_Ar_fill hD (d + 1) gv1 (congrArg Prod.fst (hka_3_17 hD p0)) hv2
  have gv2 := v_Ar_fill hD gv1 (congrArg Prod.fst (hka_3_17 hD p0)) hv2
  refine ia_cS hK mk_Ar_fill lk_3_59 dc_La_chart_13 [.inr (.inr (a0 + 11)), .inl (-1)] [] rfl rfl (Nat.le_of_ble_eq_true rfl) ev2 (hgd_nm hD gv1 gv2) ?_
  show K 16 [some (.inr (.inr a0)), none, none, none] [] v2
  refine ia_go hK ck_La_chart_16 ?_
  show K 18 [some (.inr (.inr a0)), some (.inl 0), none, none] [] v2
  refine ul_La_chart_18 hD hK p0 hret ?_ fu_ 0 v2 gv2 hm
  · intro h hg hm
    obtain rfl := Option.some.inj hm
    exact hret 147 _ dc_La_chart_147
theorem v_La_clear {D : Nat → Nat × Nat} (hD : cl_ D) {w : ia_O1} {a0 : Nat} {h : ia_H} (hg : ge_ D w h) (p0 : (D a0).1 = 3) {q : ia_H} (hm : f_La_clear a0 h = some q) : ge_ D w q := by
  obtain ⟨h1, e1⟩ : ∃ x, x = q := ⟨_, rfl⟩
  subst e1
  unfold f_La_clear at hm
  obtain ⟨v1, hv1, hm⟩ := ia_bnd hm
  have gv1 := v_Ar_fill hD (hgd_wI hD (hgd_wI hD (hgd_wI hD hg (hko_3 hD p0)) (hko_3 hD p0)) (hko_3 hD p0)) (congrArg Prod.fst (hka_3_3 hD p0)) hv1
  obtain ⟨v2, hv2, hm⟩ := ia_bnd hm
  have gv2 := v_Ar_fill hD gv1 (congrArg Prod.fst (hka_3_4 hD p0)) hv2
  obtain ⟨v3, hv3, hm⟩ := ia_bnd hm
  have gv3 := v_Ar_fill hD gv2 (congrArg Prod.fst (hka_3_5 hD p0)) hv3
  obtain ⟨v4, hv4, hm⟩ := ia_bnd hm
  have gv4 := v_Ar_fill2 hD gv3 (congrArg Prod.fst (hka_3_6 hD p0)) hv4
  obtain ⟨v5, hv5, hm⟩ := ia_bnd hm
  have gv5 := v_La_chart hD (hgd_wI hD (hgd_wI hD (hgd_wI hD (hgd_wL hD (hgd_wL hD gv4)) (hkx_100 hD (hka_3_9 hD p0))) (hko_3 hD p0)) (hko_3 hD p0)) p0 hv5
  obtain rfl := Option.some.inj hm
  exact gv5
theorem u_La_clear {D : Nat → Nat × Nat} (hD : cl_ D) {w : ia_O1} (d : Nat) {a0 : Nat} {h : ia_H} (hg : ge_ D w h) (p0 : (D a0).1 = 3) {q : ia_H} (hm : f_La_clear a0 h = some q) : ia_Ev (d + 3) mm_La_clear [.inr (.inr a0)] h none q := by
  have gq := v_La_clear hD hg p0 hm
  refine ia_Ev_intro ok_La_clear (hgd_le hD hg gq).1 (hgd_le hD hg gq).2 (Nat.le_of_ble_eq_true rfl) (fun K hK hret => ?_)
  obtain ⟨h1, e1⟩ : ∃ x, x = q := ⟨_, rfl⟩
  subst e1
  show K 0 [some (.inr (.inr a0))] [] h
  unfold f_La_clear at hm
  refine ia_go hK ck_La_clear_0 ⟨hgk_3 hD hg p0, hgk_3 hD (hgd_wI hD hg (hko_3 hD p0)) p0, hgk_3 hD (hgd_wI hD (hgd_wI hD hg (hko_3 hD p0)) (hko_3 hD p0)) p0, hgk_3 hD (hgd_wI hD (hgd_wI hD (hgd_wI hD hg (hko_3 hD p0)) (hko_3 hD p0)) (hko_3 hD p0)) p0, hgr_3_3 hD (hgd_wI hD (hgd_wI hD (hgd_wI hD hg (hko_3 hD p0)) (hko_3 hD p0)) (hko_3 hD p0)) p0, ?_⟩
  show K 22 [some (.inr (.inr a0))] [.inl 20, .inr (.inr (a0 + 1))] (ia_wI (ia_wI (ia_wI h a0 0 4) a0 1 4) a0 2 10)
  obtain ⟨v1, hv1, hm⟩ := ia_bnd hm
  have ev1 := u_Ar_fill hD (d + 2) (hgd_wI hD (hgd_wI hD (hgd_wI hD hg (hko_3 hD p0)) (hko_3 hD p0)) (hko_3 hD p0)) (congrArg Prod.fst (hka_3_3 hD p0)) hv1
  have gv1 := v_Ar_fill hD (hgd_wI hD (hgd_wI hD (hgd_wI hD hg (hko_3 hD p0)) (hko_3 hD p0)) (hko_3 hD p0)) (congrArg Prod.fst (hka_3_3 hD p0)) hv1
  refine ia_cS hK mk_Ar_fill lk_3_59 dc_La_clear_22 [.inr (.inr (a0 + 1)), .inl 20] [] rfl rfl (Nat.le_of_ble_eq_true rfl) ev1 (hgd_nm hD (hgd_wI hD (hgd_wI hD (hgd_wI hD hg (hko_3 hD p0)) (hko_3 hD p0)) (hko_3 hD p0)) gv1) ?_
  show K 25 [some (.inr (.inr a0))] [] v1
  refine ia_go hK ck_La_clear_25 ⟨hgk_3 hD gv1 p0, hgr_3_4 hD gv1 p0, ?_⟩
  show K 30 [some (.inr (.inr a0))] [.inl 0, .inr (.inr (a0 + 2))] v1
  obtain ⟨v2, hv2, hm⟩ := ia_bnd hm
  have ev2 := u_Ar_fill hD (d + 2) gv1 (congrArg Prod.fst (hka_3_4 hD p0)) hv2
  have gv2 := v_Ar_fill hD gv1 (congrArg Prod.fst (hka_3_4 hD p0)) hv2
  refine ia_cS hK mk_Ar_fill lk_3_59 dc_La_clear_30 [.inr (.inr (a0 + 2)), .inl 0] [] rfl rfl (Nat.le_of_ble_eq_true rfl) ev2 (hgd_nm hD gv1 gv2) ?_
  show K 33 [some (.inr (.inr a0))] [] v2
  refine ia_go hK ck_La_clear_33 ⟨hgk_3 hD gv2 p0, hgr_3_5 hD gv2 p0, ?_⟩
  show K 38 [some (.inr (.inr a0))] [.inl 0, .inr (.inr (a0 + 3))] v2
  obtain ⟨v3, hv3, hm⟩ := ia_bnd hm
  have ev3 := u_Ar_fill hD (d + 2) gv2 (congrArg Prod.fst (hka_3_5 hD p0)) hv3
  have gv3 := v_Ar_fill hD gv2 (congrArg Prod.fst (hka_3_5 hD p0)) hv3
  refine ia_cS hK mk_Ar_fill lk_3_59 dc_La_clear_38 [.inr (.inr (a0 + 3)), .inl 0] [] rfl rfl (Nat.le_of_ble_eq_true rfl) ev3 (hgd_nm hD gv2 gv3) ?_
  show K 41 [some (.inr (.inr a0))] [] v3
  refine ia_go hK ck_La_clear_41 ⟨hgk_3 hD gv3 p0, hgr_3_6 hD gv3 p0, ?_⟩
  show K 46 [some (.inr (.inr a0))] [.inr (.inl 0), .inr (.inr (a0 + 4))] v3
  obtain ⟨v4, hv4, hm⟩ := ia_bnd hm
  have ev4 := u_Ar_fill2 hD (d + 2) gv3 (congrArg Prod.fst (hka_3_6 hD p0)) hv4
  have gv4 := v_Ar_fill2 hD gv3 (congrArg Prod.fst (hka_3_6 hD p0)) hv4
  refine ia_cS hK mk_Ar_fill2 lk_3_65 dc_La_clear_46 [.inr (.inr (a0 + 4)), .inr (.inl 0)] [] rfl rfl (Nat.le_of_ble_eq_true rfl) ev4 (hgd_nm hD gv3 gv4) ?_
  show K 49 [some (.inr (.inr a0))] [] v4
  refine ia_go hK ck_La_clear_49 ⟨hgk_3 hD gv4 p0, hgk_3 hD (hgd_wL hD gv4) p0, hgk_3 hD (hgd_wL hD (hgd_wL hD gv4)) p0, hgr_3_9 hD (hgd_wL hD (hgd_wL hD gv4)) p0, hga_s100 hD (hgd_wL hD (hgd_wL hD gv4)) (hka_3_9 hD p0) (by decide), hgk_3 hD (hgd_wI hD (hgd_wL hD (hgd_wL hD gv4)) (hkx_100 hD (hka_3_9 hD p0))) p0, hgk_3 hD (hgd_wI hD (hgd_wI hD (hgd_wL hD (hgd_wL hD gv4)) (hkx_100 hD (hka_3_9 hD p0))) (hko_3 hD p0)) p0, ?_⟩
  show K 77 [some (.inr (.inr a0))] [.inr (.inr a0)] (ia_wI (ia_wI (ia_wI (ia_wL (ia_wL v4 a0 7 0) a0 8 0) (a0 + 5) 0 0) a0 10 1) a0 11 0)
  obtain ⟨v5, hv5, hm⟩ := ia_bnd hm
  have ev5 := u_La_chart hD (d + 0) (hgd_wI hD (hgd_wI hD (hgd_wI hD (hgd_wL hD (hgd_wL hD gv4)) (hkx_100 hD (hka_3_9 hD p0))) (hko_3 hD p0)) (hko_3 hD p0)) p0 hv5
  have gv5 := v_La_chart hD (hgd_wI hD (hgd_wI hD (hgd_wI hD (hgd_wL hD (hgd_wL hD gv4)) (hkx_100 hD (hka_3_9 hD p0))) (hko_3 hD p0)) (hko_3 hD p0)) p0 hv5
  refine ia_cV hK mk_La_chart lk_3_81 dc_La_clear_77 a0 [] [] rfl rfl (Nat.le_of_ble_eq_true rfl) (by decide) rfl (hgk_3 hD (hgd_wI hD (hgd_wI hD (hgd_wI hD (hgd_wL hD (hgd_wL hD gv4)) (hkx_100 hD (hka_3_9 hD p0))) (hko_3 hD p0)) (hko_3 hD p0)) p0) ev5 (hgd_nm hD (hgd_wI hD (hgd_wI hD (hgd_wI hD (hgd_wL hD (hgd_wL hD gv4)) (hkx_100 hD (hka_3_9 hD p0))) (hko_3 hD p0)) (hko_3 hD p0)) gv5) ?_
  show K 80 [some (.inr (.inr a0))] [] v5
  obtain rfl := Option.some.inj hm
  exact hret 80 _ dc_La_clear_80
theorem v_Lw_clear {D : Nat → Nat × Nat} (hD : cl_ D) {w : ia_O1} {a0 : Nat} {h : ia_H} (hg : ge_ D w h) (p0 : (D a0).1 = 4) {q : ia_H} (hm : f_Lw_clear a0 h = some q) : ge_ D w q := by
  obtain ⟨h1, e1⟩ : ∃ x, x = q := ⟨_, rfl⟩
  subst e1
  unfold f_Lw_clear at hm
  obtain ⟨v1, hv1, hm⟩ := ia_bnd hm
  have gv1 := v_Ar_fill2 hD (hgd_wL hD (hgd_wI hD (hgd_wI hD (hgd_wI hD (hgd_wI hD (hgd_wI hD hg (hko_4 hD p0)) (hko_4 hD p0)) (hko_4 hD p0)) (hko_4 hD p0)) (hko_4 hD p0))) (congrArg Prod.fst (hka_4_8 hD p0)) hv1
  obtain rfl := Option.some.inj hm
  exact gv1
theorem u_Lw_clear {D : Nat → Nat × Nat} (hD : cl_ D) {w : ia_O1} (d : Nat) {a0 : Nat} {h : ia_H} (hg : ge_ D w h) (p0 : (D a0).1 = 4) {q : ia_H} (hm : f_Lw_clear a0 h = some q) : ia_Ev (d + 1) mm_Lw_clear [.inr (.inr a0)] h none q := by
  have gq := v_Lw_clear hD hg p0 hm
  refine ia_Ev_intro ok_Lw_clear (hgd_le hD hg gq).1 (hgd_le hD hg gq).2 (Nat.le_of_ble_eq_true rfl) (fun K hK hret => ?_)
  obtain ⟨h1, e1⟩ : ∃ x, x = q := ⟨_, rfl⟩
  subst e1
  show K 0 [some (.inr (.inr a0))] [] h
  unfold f_Lw_clear at hm
  refine ia_go hK ck_Lw_clear_0 ⟨hgk_4 hD hg p0, hgk_4 hD (hgd_wI hD hg (hko_4 hD p0)) p0, hgk_4 hD (hgd_wI hD (hgd_wI hD hg (hko_4 hD p0)) (hko_4 hD p0)) p0, hgk_4 hD (hgd_wI hD (hgd_wI hD (hgd_wI hD hg (hko_4 hD p0)) (hko_4 hD p0)) (hko_4 hD p0)) p0, hgk_4 hD (hgd_wI hD (hgd_wI hD (hgd_wI hD (hgd_wI hD hg (hko_4 hD p0)) (hko_4 hD p0)) (hko_4 hD p0)) (hko_4 hD p0)) p0, hgk_4 hD (hgd_wI hD (hgd_wI hD (hgd_wI hD (hgd_wI hD (hgd_wI hD hg (hko_4 hD p0)) (hko_4 hD p0)) (hko_4 hD p0)) (hko_4 hD p0)) (hko_4 hD p0)) p0, hgk_4 hD (hgd_wL hD (hgd_wI hD (hgd_wI hD (hgd_wI hD (hgd_wI hD (hgd_wI hD hg (hko_4 hD p0)) (hko_4 hD p0)) (hko_4 hD p0)) (hko_4 hD p0)) (hko_4 hD p0))) p0, hgr_4_8 hD (hgd_wL hD (hgd_wI hD (hgd_wI hD (hgd_wI hD (hgd_wI hD (hgd_wI hD hg (hko_4 hD p0)) (hko_4 hD p0)) (hko_4 hD p0)) (hko_4 hD p0)) (hko_4 hD p0))) p0, ?_⟩
  show K 35 [some (.inr (.inr a0))] [.inr (.inl 0), .inr (.inr (a0 + 3))] (ia_wL (ia_wI (ia_wI (ia_wI (ia_wI (ia_wI h a0 0 0) a0 1 0) a0 2 5) a0 3 1) a0 4 0) a0 7 0)
  obtain ⟨v1, hv1, hm⟩ := ia_bnd hm
  have ev1 := u_Ar_fill2 hD (d + 0) (hgd_wL hD (hgd_wI hD (hgd_wI hD (hgd_wI hD (hgd_wI hD (hgd_wI hD hg (hko_4 hD p0)) (hko_4 hD p0)) (hko_4 hD p0)) (hko_4 hD p0)) (hko_4 hD p0))) (congrArg Prod.fst (hka_4_8 hD p0)) hv1
  have gv1 := v_Ar_fill2 hD (hgd_wL hD (hgd_wI hD (hgd_wI hD (hgd_wI hD (hgd_wI hD (hgd_wI hD hg (hko_4 hD p0)) (hko_4 hD p0)) (hko_4 hD p0)) (hko_4 hD p0)) (hko_4 hD p0))) (congrArg Prod.fst (hka_4_8 hD p0)) hv1
  refine ia_cS hK mk_Ar_fill2 lk_4_45 dc_Lw_clear_35 [.inr (.inr (a0 + 3)), .inr (.inl 0)] [] rfl rfl (Nat.le_of_ble_eq_true rfl) ev1 (hgd_nm hD (hgd_wL hD (hgd_wI hD (hgd_wI hD (hgd_wI hD (hgd_wI hD (hgd_wI hD hg (hko_4 hD p0)) (hko_4 hD p0)) (hko_4 hD p0)) (hko_4 hD p0)) (hko_4 hD p0))) gv1) ?_
  show K 38 [some (.inr (.inr a0))] [] v1
  obtain rfl := Option.some.inj hm
  exact hret 38 _ dc_Lw_clear_38
