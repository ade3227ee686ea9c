/-! making an object: steps that know their heaps; what clear() leaves as it was -/
/-- only ints and longs of cells from A on are other -/
def sk_ (A : Nat) (hb h : ia_H) : Prop := ia_k h = ia_k hb ∧ ia_n h = ia_n hb ∧ ia_m h = ia_m hb ∧ ia_r h = ia_r hb ∧ ∀ b, b < A → ia_i h b = ia_i hb b ∧ ia_l h b = ia_l hb b
theorem sk_refl {A : Nat} {h : ia_H} : sk_ A h h := ⟨rfl, rfl, rfl, rfl, fun _ _ => ⟨rfl, rfl⟩⟩
theorem sk_wI {A a i : Nat} {x : Int32} {hb h : ia_H} (g : sk_ A hb h) (ha : A ≤ a) : sk_ A hb (ia_wI h a i x) := by
  obtain ⟨g1, g2, g3, g4, g5⟩ := g
  exact ⟨g1, g2, g3, g4, fun b q => ⟨(ia_up_b (by omega)).trans (g5 b q).1, (g5 b q).2⟩⟩
theorem sk_wL {A a i : Nat} {x : Int64} {hb h : ia_H} (g : sk_ A hb h) (ha : A ≤ a) : sk_ A hb (ia_wL h a i x) := by
  obtain ⟨g1, g2, g3, g4, g5⟩ := g
  exact ⟨g1, g2, g3, g4, fun b q => ⟨(g5 b q).1, (ia_up_b (by omega)).trans (g5 b q).2⟩⟩
theorem svl_Ar_fill_5 {A : Nat} {hb : ia_H} {a0 : Nat} {x1 : Int32} (p0 : A ≤ a0) {h1 : ia_H} {k20 : ia_H → Option ia_H} (hk20 : ∀ (h : ia_H), sk_ A hb h → k20 h = some h1 → sk_ A hb h1) : ∀ (n : Nat) (x2 : Int32) (x3 : Int32) (h : ia_H), sk_ A hb h → l_Ar_fill_5 a0 x1 k20 n x2 x3 h = some h1 → sk_ A hb h1 := by
  intro n
  induction n with
  | zero =>
    intro x2 x3 h hg hm
    cases (show (none : Option ia_H) = some _ from hm)
  | succ n ih =>
    intro x2 x3 h hg hm
    rw [l_Ar_fill_5] at hm
    by_cases c : x3 ≤ x2
    · replace hm := ia_ifp hm c
      exact hk20 h hg hm
    · replace hm := ia_ifn hm c
      obtain ⟨c1, hm⟩ := ia_gd_some hm
      exact ih (x2 + 1) x3 (ia_wI h a0 ((x2).toNatClampNeg) x1) (sk_wI hg (by omega)) hm
theorem sv_Ar_fill {A : Nat} {hb : ia_H} {a0 : Nat} {x1 : Int32} {h : ia_H} (hg : sk_ A hb h) (p0 : A ≤ a0) {q : ia_H} (hm : f_Ar_fill a0 x1 h = some q) : sk_ A hb q := by
  obtain ⟨h1, e1⟩ : ∃ x, x = q := ⟨_, rfl⟩
  subst e1
  unfold f_Ar_fill at hm
  refine svl_Ar_fill_5 p0 ?_ fu_ 0 (Int32.ofNat ((kd_D a0).2)) h hg hm
  · intro h hg hm
    obtain rfl := Option.some.inj hm
    exact hg
theorem svl_Ar_fill2_6 {A : Nat} {hb : ia_H} {a0 : Nat} {y1 : Int64} (p0 : A ≤ a0) {h1 : ia_H} {k22 : ia_H → Option ia_H} (hk22 : ∀ (h : ia_H), sk_ A hb h → k22 h = some h1 → sk_ A hb h1) : ∀ (n : Nat) (x3 : Int32) (x4 : Int32) (h : ia_H), sk_ A hb h → l_Ar_fill2_6 a0 y1 k22 n x3 x4 h = some h1 → sk_ A hb h1 := by
  intro n
  induction n with
  | zero =>
    intro x3 x4 h hg hm
    cases (show (none : Option ia_H) = some _ from hm)
  | succ n ih =>
    intro x3 x4 h hg hm
    rw [l_Ar_fill2_6] at hm
    by_cases c : x4 ≤ x3
    · replace hm := ia_ifp hm c
      exact hk22 h hg hm
    · replace hm := ia_ifn hm c
      obtain ⟨c1, hm⟩ := ia_gd_some hm
      exact ih (x3 + 1) x4 (ia_wL h a0 ((x3).toNatClampNeg) y1) (sk_wL hg (by omega)) hm
theorem sv_Ar_fill2 {A : Nat} {hb : ia_H} {a0 : Nat} {y1 : Int64} {h : ia_H} (hg : sk_ A hb h) (p0 : A ≤ a0) {q : ia_H} (hm : f_Ar_fill2 a0 y1 h = some q) : sk_ A hb q := by
  obtain ⟨h1, e1⟩ : ∃ x, x = q := ⟨_, rfl⟩
  subst e1
  unfold f_Ar_fill2 at hm
  refine svl_Ar_fill2_6 p0 ?_ fu_ 0 (Int32.ofNat ((kd_D a0).2)) h hg hm
  · intro h hg hm
    obtain rfl := Option.some.inj hm
    exact hg
theorem sv_La_join {A : Nat} {hb : ia_H} {a0 : Nat} {x1 : Int32} {x2 : Int32} {x3 : Int32} {x4 : Int32} {h : ia_H} (hg : sk_ A hb h) (p0 : A ≤ a0) {q : ia_H} (hm : f_La_join a0 x1 x2 x3 x4 h = some q) : sk_ A hb q := by
  obtain ⟨h1, e1⟩ : ∃ x, x = q := ⟨_, rfl⟩
  subst e1
  unfold f_La_join at hm
  by_cases c : x3 = 0
  · replace hm := ia_ifp hm c
    obtain rfl := Option.some.inj hm
    exact hg
  · replace hm := ia_ifn hm c
    obtain ⟨c1, hm⟩ := ia_gd_some hm
    obtain ⟨c2, hm⟩ := ia_gd_some hm
    obtain ⟨v3, hv3, hm⟩ := ia_bnd hm
    by_cases c : v3 = 0
    · replace hm := ia_ifp hm c
      obtain ⟨c4, hm⟩ := ia_gd_some hm
      obtain rfl := Option.some.inj hm
      exact (sk_wI (sk_wI hg (by omega)) (by omega))
    · replace hm := ia_ifn hm c
      obtain ⟨c5, hm⟩ := ia_gd_some hm
      obtain rfl := Option.some.inj hm
      exact (sk_wI (sk_wI hg (by omega)) (by omega))
theorem svj_La_chart_126 {A : Nat} {hb : ia_H} {a0 : Nat} (p0 : A ≤ a0) {h1 : ia_H} {kr : Int32 → Int32 → ia_H → Option ia_H} {k141 : Int32 → ia_H → Option ia_H} (hkr : ∀ (x1 : Int32) (x2 : Int32) (h : ia_H), sk_ A hb h → kr x1 x2 h = some h1 → sk_ A hb h1) (hk141 : ∀ (x1 : Int32) (h : ia_H), sk_ A hb h → k141 x1 h = some h1 → sk_ A hb h1) : ∀ (x1 : Int32) (x2 : Int32) (x3 : Int32) (b0 : Nat) (s1 : Int32) (s2 : Int32) (s3 : Int32) (h : ia_H), sk_ A hb h → A ≤ b0 → j_La_chart_126 a0 kr k141 x1 x2 x3 b0 s1 s2 s3 h = some h1 → sk_ A hb h1 := by
  intro x1 x2 x3 b0 s1 s2 s3 h hg q_b0 hm
  unfold j_La_chart_126 at hm
  obtain ⟨v6, hv6, hm⟩ := ia_bnd hm
  have gv6 := sv_La_join hg q_b0 hv6
  exact hkr x1 (x2 + 1) v6 gv6 hm
theorem svj_La_chart_102 {A : Nat} {hb : ia_H} {a0 : Nat} (p0 : A ≤ a0) {h1 : ia_H} {kr : Int32 → Int32 → ia_H → Option ia_H} {k141 : Int32 → ia_H → Option ia_H} (hkr : ∀ (x1 : Int32) (x2 : Int32) (h : ia_H), sk_ A hb h → kr x1 x2 h = some h1 → sk_ A hb h1) (hk141 : ∀ (x1 : Int32) (h : ia_H), sk_ A hb h → k141 x1 h = some h1 → sk_ A hb h1) : ∀ (x1 : Int32) (x2 : Int32) (x3 : Int32) (b0 : Nat) (s1 : Int32) (s2 : Int32) (s3 : Int32) (h : ia_H), sk_ A hb h → A ≤ b0 → j_La_chart_102 a0 kr k141 x1 x2 x3 b0 s1 s2 s3 h = some h1 → sk_ A hb h1 := by
  intro x1 x2 x3 b0 s1 s2 s3 h hg q_b0 hm
  unfold j_La_chart_102 at hm
  obtain ⟨v5, hv5, hm⟩ := ia_bnd hm
  have gv5 := sv_La_join hg q_b0 hv5
  by_cases c : (ia_i v5 a0 1) ≤ (x1 + 1)
  · replace hm := ia_ifp hm c
    exact svj_La_chart_126 p0 hkr hk141 x1 x2 x3 a0 x3 3 0 v5 gv5 p0 hm
  · replace hm := ia_ifn hm c
    exact svj_La_chart_126 p0 hkr hk141 x1 x2 x3 a0 x3 3 1 v5 gv5 p0 hm
theorem svj_La_chart_78 {A : Nat} {hb : ia_H} {a0 : Nat} (p0 : A ≤ a0) {h1 : ia_H} {kr : Int32 → Int32 → ia_H → Option ia_H} {k141 : Int32 → ia_H → Option ia_H} (hkr : ∀ (x1 : Int32) (x2 : Int32) (h : ia_H), sk_ A hb h → kr x1 x2 h = some h1 → sk_ A hb h1) (hk141 : ∀ (x1 : Int32) (h : ia_H), sk_ A hb h → k141 x1 h = some h1 → sk_ A hb h1) : ∀ (x1 : Int32) (x2 : Int32) (x3 : Int32) (b0 : Nat) (s1 : Int32) (s2 : Int32) (s3 : Int32) (h : ia_H), sk_ A hb h → A ≤ b0 → j_La_chart_78 a0 kr k141 x1 x2 x3 b0 s1 s2 s3 h = some h1 → sk_ A hb h1 := by
  intro x1 x2 x3 b0 s1 s2 s3 h hg q_b0 hm
  unfold j_La_chart_78 at hm
  obtain ⟨v4, hv4, hm⟩ := ia_bnd hm
  have gv4 := sv_La_join hg q_b0 hv4
  by_cases c : (ia_i v4 a0 0) ≤ (x2 + 1)
  · replace hm := ia_ifp hm c
    exact svj_La_chart_102 p0 hkr hk141 x1 x2 x3 a0 x3 2 0 v4 gv4 p0 hm
  · replace hm := ia_ifn hm c
    exact svj_La_chart_102 p0 hkr hk141 x1 x2 x3 a0 x3 2 1 v4 gv4 p0 hm
theorem svj_La_chart_57 {A : Nat} {hb : ia_H} {a0 : Nat} (p0 : A ≤ a0) {h1 : ia_H} {kr : Int32 → Int32 → ia_H → Option ia_H} {k141 : Int32 → ia_H → Option ia_H} (hkr : ∀ (x1 : Int32) (x2 : Int32) (h : ia_H), sk_ A hb h → kr x1 x2 h = some h1 → sk_ A hb h1) (hk141 : ∀ (x1 : Int32) (h : ia_H), sk_ A hb h → k141 x1 h = some h1 → sk_ A hb h1) : ∀ (x1 : Int32) (x2 : Int32) (x3 : Int32) (b0 : Nat) (s1 : Int32) (s2 : Int32) (s3 : Int32) (h : ia_H), sk_ A hb h → A ≤ b0 → j_La_chart_57 a0 kr k141 x1 x2 x3 b0 s1 s2 s3 h = some h1 → sk_ A hb h1 := by
  intro x1 x2 x3 b0 s1 s2 s3 h hg q_b0 hm
  unfold j_La_chart_57 at hm
  obtain ⟨v3, hv3, hm⟩ := ia_bnd hm
  have gv3 := sv_La_join hg q_b0 hv3
  by_cases c : x2 ≤ 0
  · replace hm := ia_ifp hm c
    exact svj_La_chart_78 p0 hkr hk141 x1 x2 x3 a0 x3 1 0 v3 gv3 p0 hm
  · replace hm := ia_ifn hm c
    exact svj_La_chart_78 p0 hkr hk141 x1 x2 x3 a0 x3 1 1 v3 gv3 p0 hm
theorem svl_La_chart_28 {A : Nat} {hb : ia_H} {a0 : Nat} (p0 : A ≤ a0) {h1 : ia_H} {k141 : Int32 → ia_H → Option ia_H} (hk141 : ∀ (x1 : Int32) (h : ia_H), sk_ A hb h → k141 x1 h = some h1 → sk_ A hb h1) : ∀ (n : Nat) (x1 : Int32) (x2 : Int32) (h : ia_H), sk_ A hb h → l_La_chart_28 a0 k141 n x1 x2 h = some h1 → sk_ A hb h1 := by
  intro n
  induction n with
  | zero =>
    intro x1 x2 h hg hm
    cases (show (none : Option ia_H) = some _ from hm)
  | succ n ih =>
    intro x1 x2 h hg hm
    rw [l_La_chart_28] at hm
    by_cases c : (ia_i h a0 0) ≤ x2
    · replace hm := ia_ifp hm c
      exact hk141 x1 h hg hm
    · replace hm := ia_ifn hm c
      by_cases c : x1 ≤ 0
      · replace hm := ia_ifp hm c
        exact svj_La_chart_57 p0 ih hk141 x1 x2 ((x1 * (ia_i h a0 0)) + x2) a0 ((x1 * (ia_i h a0 0)) + x2) 0 0 h hg p0 hm
      · replace hm := ia_ifn hm c
        exact svj_La_chart_57 p0 ih hk141 x1 x2 ((x1 * (ia_i h a0 0)) + x2) a0 ((x1 * (ia_i h a0 0)) + x2) 0 1 h hg p0 hm
theorem svl_La_chart_18 {A : Nat} {hb : ia_H} {a0 : Nat} (p0 : A ≤ a0) {h1 : ia_H} {k147 : ia_H → Option ia_H} (hk147 : ∀ (h : ia_H), sk_ A hb h → k147 h = some h1 → sk_ A hb h1) : ∀ (n : Nat) (x1 : Int32) (h : ia_H), sk_ A hb h → l_La_chart_18 a0 k147 n x1 h = some h1 → sk_ A hb h1 := by
  intro n
  induction n with
  | zero =>
    intro x1 h hg hm
    cases (show (none : Option ia_H) = some _ from hm)
  | succ n ih =>
    intro x1 h hg hm
    rw [l_La_chart_18] at hm
    by_cases c : (ia_i h a0 1) ≤ x1
    · replace hm := ia_ifp hm c
      exact hk147 h hg hm
    · replace hm := ia_ifn hm c
      refine svl_La_chart_28 p0 ?_ fu_ x1 0 h hg hm
      · intro x1 h hg hm
        exact ih (x1 + 1) h hg hm
theorem sv_La_chart {A : Nat} {hb : ia_H} {a0 : Nat} {h : ia_H} (hg : sk_ A hb h) (p0 : A ≤ a0) {q : ia_H} (hm : f_La_chart a0 h = some q) : sk_ A hb q := by
  obtain ⟨h1, e1⟩ : ∃ x, x = q := ⟨_, rfl⟩
  subst e1
  unfold f_La_chart at hm
  obtain ⟨v1, hv1, hm⟩ := ia_bnd hm
  have gv1 := sv_Ar_fill hg (by omega) hv1
  obtain ⟨v2, hv2, hm⟩ := ia_bnd hm
  have gv2 := sv_Ar_fill gv1 (by omega) hv2
  refine svl_La_chart_18 p0 ?_ fu_ 0 v2 gv2 hm
  · intro h hg hm
    obtain rfl := Option.some.inj hm
    exact hg
theorem sv_La_clear {A : Nat} {hb : ia_H} {a0 : Nat} {h : ia_H} (hg : sk_ A hb h) (p0 : A ≤ a0) {q : ia_H} (hm : f_La_clear a0 h = some q) : sk_ A hb q := by
  obtain ⟨h1, e1⟩ : ∃ x, x = q := ⟨_, rfl⟩
  subst e1
  unfold f_La_clear at hm
  obtain ⟨v1, hv1, hm⟩ := ia_bnd hm
  have gv1 := sv_Ar_fill (sk_wI (sk_wI (sk_wI hg (by omega)) (by omega)) (by omega)) (by omega) hv1
  obtain ⟨v2, hv2, hm⟩ := ia_bnd hm
  have gv2 := sv_Ar_fill gv1 (by omega) hv2
  obtain ⟨v3, hv3, hm⟩ := ia_bnd hm
  have gv3 := sv_Ar_fill gv2 (by omega) hv3
  obtain ⟨v4, hv4, hm⟩ := ia_bnd hm
  have gv4 := sv_Ar_fill2 gv3 (by omega) hv4
  obtain ⟨v5, hv5, hm⟩ := ia_bnd hm
  have gv5 := sv_La_chart (sk_wI (sk_wI (sk_wI (sk_wL (sk_wL gv4 (by omega)) (by omega)) (by omega)) (by omega)) (by omega)) p0 hv5
  obtain rfl := Option.some.inj hm
  exact gv5
theorem sv_Lw_clear {A : Nat} {hb : ia_H} {a0 : Nat} {h : ia_H} (hg : sk_ A hb h) (p0 : A ≤ a0) {q : ia_H} (hm : f_Lw_clear a0 h = some q) : sk_ A hb q := by
  obtain ⟨h1, e1⟩ : ∃ x, x = q := ⟨_, rfl⟩
  subst e1
  unfold f_Lw_clear at hm
  obtain ⟨v1, hv1, hm⟩ := ia_bnd hm
  have gv1 := sv_Ar_fill2 (sk_wL (sk_wI (sk_wI (sk_wI (sk_wI (sk_wI hg (by omega)) (by omega)) (by omega)) (by omega)) (by omega)) (by omega)) (by omega) hv1
  obtain rfl := Option.some.inj hm
  exact gv1
theorem hc_sk {A c : Nat} {S : List Nat} {w : ia_O0} {h h' : ia_H} (H : hc_ c S w h) (hA : 64 ≤ A) (g : sk_ A h h') : hc_ c S w h' := by
  obtain ⟨g1, g2, g3, g4, g5⟩ := g
  obtain ⟨a1, a2, a3, a4, a5, a6, a7, a8, a9, a10, a11⟩ := H
  unfold hc_
  rw [g1, g2, g3, g4]
  exact ⟨a1, a2, a3, a4, a5, a6, a7, a8, a9, a10, fun a q => ⟨(a11 a q).1, (g5 a (by omega)).1.trans (a11 a q).2⟩⟩
theorem hf_sk {A : Nat} {h h' : ia_H} (g : sk_ A h h') : hf_ A h h' := fun b q => ⟨(g.2.2.2.2 b q).1, (g.2.2.2.2 b q).2, by rw [g.2.2.2.1]⟩
theorem hf_trans {a b : Nat} {h h' h'' : ia_H} (H : hf_ a h h') (G : hf_ b h' h'') (q : a ≤ b) : hf_ a h h'' := fun e he => by
  obtain ⟨a1, a2, a3⟩ := H e he
  obtain ⟨b1, b2, b3⟩ := G e (by omega)
  exact ⟨b1.trans a1, b2.trans a2, b3.trans a3⟩
theorem hf_r {b e k v : Nat} {h h' : ia_H} (G : hf_ b h h') (q : e < b) (hv : ia_r h e k = v) : ia_r h' e k = v := (congrFun (G e q).2.2 k).trans hv
theorem hf_i {b e k : Nat} {v : Int32} {h h' : ia_H} (G : hf_ b h h') (q : e < b) (hv : ia_i h e k = v) : ia_i h' e k = v := (congrFun (G e q).1 k).trans hv
theorem hc_o {c e k f : Nat} {S : List Nat} {w : ia_O0} {h : ia_H} (H : hc_ c S w h) (he : e < c) (hS : e ∉ S) (q : rd_o (kd_D e).1 k = some f) : ia_r h e k = e + f := H.2.2.2.2.2.1 e k f he hS q
theorem hc_s {c e j f : Nat} {S : List Nat} {w : ia_O0} {h : ia_H} (H : hc_ c S w h) (he : e < c) (hS : e ∉ S) (q : rd_s (kd_D e).1 = some f) (hj : j < (kd_D e).2) : ia_r h e j = e + 1 + f * j := H.2.2.2.2.2.2.2.1 e j f he hS q hj
theorem hc_at {c : Nat} {S : List Nat} {w : ia_O0} {h : ia_H} (H : hc_ c S w h) : 64 + ia_n h = c := by
  have h1 := H.1
  have h2 := H.2.1
  omega
theorem hc_ne {c e : Nat} {S : List Nat} {w : ia_O0} {h : ia_H} (H : hc_ c S w h) (q : e < c) : e ≠ 64 + ia_n h := by
  have h1 := hc_at H
  omega
theorem hc_le {c e : Nat} {S : List Nat} {w : ia_O0} {h : ia_H} (H : hc_ c S w h) (q : e ≤ c) : e ≤ 64 + ia_n h := by
  have h1 := hc_at H
  omega
theorem kw_arr {d : Nat} {M : ia_M} {N1 W1 : Nat} {K : ia_K} {pc k len c : Nat} {at_ : ArrayType} {ty : FieldType} {lv : ia_L} {st : List ia_V} {h h' : ia_H} {n : Int32} (hK : ia_isK d M N1 W1 K) (hty : newarray.typeOf at_ = ty) (hw : Cond.arrayClass (newarray.typeOf at_) ∈ ia_tb) (hd : decode M.2.1 pc = .ok (.newarray at_, 2)) (hk4 : (k = 100 ∧ ty = .int) ∨ (k = 101 ∧ ty = .boolean) ∨ (k = 102 ∧ ty = .byte) ∨ (k = 103 ∧ ty = .long)) (hn : ¬ n < 0 ∧ n.toNatClampNeg ≤ 60000 ∧ n.toNatClampNeg = len) (e : h' = ia_nw h k len len) (hc : 64 + ia_n h = c) (hcap : ia_n h' ≤ N1 ∧ ia_m h' ≤ W1) (kk : K (pc + 2) lv (.inr (.inr c) :: st) h') : K pc lv (.inl n :: st) h := by
  subst e
  subst hc
  obtain ⟨n1, n2, rfl⟩ := hn
  exact ia_newa hK (t0 := 0) hty hw hd hk4 n1 n2 hcap kk
theorem kw_newq {d : Nat} {M : ia_M} {N1 W1 : Nat} {K : ia_K} {pc idx ci k len c : Nat} {lv : ia_L} {st : List ia_V} {h h' : ia_H} {n : Int32} (hK : ia_isK d M N1 W1 K) (hra : ia_ra ci = true) (hl : Cond.classLink (ia_O M.2.2.2.2.1) idx (ia_R ci) ∈ ia_tb) (hd : decode M.2.1 pc = .ok (.anewarray idx, 3)) (hk : k = 104 + ci) (hn : ¬ n < 0 ∧ n.toNatClampNeg ≤ 60000 ∧ n.toNatClampNeg = len) (e : h' = ia_nw h k len len) (hc : 64 + ia_n h = c) (hcap : ia_n h' ≤ N1 ∧ ia_m h' ≤ W1) (kk : K (pc + 3) lv (.inr (.inr c) :: st) h') : K pc lv (.inl n :: st) h := by
  subst e
  subst hc
  subst hk
  obtain ⟨n1, n2, rfl⟩ := hn
  exact ia_newq hK hra hl hd n1 n2 hcap kk
theorem kw_new {d : Nat} {M : ia_M} {N1 W1 : Nat} {K : ia_K} {pc idx ci n c : Nat} {lv : ia_L} {st : List ia_V} {h h' : ia_H} (hK : ia_isK d M N1 W1 K) (hci : ci < 13) (hl : Cond.classLink (ia_O M.2.2.2.2.1) idx (ia_R ci) ∈ ia_tb) (hi : Cond.instantiable (ia_R ci) (ia_N ci) ∈ ia_tb) (hin : Cond.initialized (ia_R ci) ∈ ia_tb) (hd : decode M.2.1 pc = .ok (.new idx, 3)) (hn : n = ia_N ci) (e : h' = ia_nw h ci 0 n) (hc : 64 + ia_n h = c) (hcap : ia_n h' ≤ N1 ∧ ia_m h' ≤ W1) (kk : K (pc + 3) lv (.inr (.inr c) :: st) h') : K pc lv st h := by
  subst hn
  subst e
  subst hc
  exact ia_new hK hci hl hi hin hd hcap kk
theorem kw_mna {d : Nat} {M : ia_M} {N1 W1 : Nat} {K : ia_K} {pc idx nn kk' c : Nat} {lv : ia_L} {st : List ia_V} {h h' : ia_H} {n k : Int32} (hK : ia_isK d M N1 W1 K) (hl : Cond.classLink (ia_O M.2.2.2.2.1) idx "[[I" ∈ ia_tb) (hw : Cond.arrayClass .int ∈ ia_tb) (hd : decode M.2.1 pc = .ok (.multianewarray idx 2, 4)) (hn : ¬ n < 0 ∧ ¬ n = 0 ∧ n.toNatClampNeg ≤ 10000 ∧ n.toNatClampNeg = nn) (hk : ¬ k < 0 ∧ k.toNatClampNeg ≤ 10000 ∧ k.toNatClampNeg = kk') (e : h' = ia_n2 h nn kk') (hc : 64 + ia_n h = c) (hcap : ia_n h' ≤ N1 ∧ ia_m h' ≤ W1) (kk : K (pc + 4) lv (.inr (.inr c) :: st) h') : K pc lv (.inl k :: .inl n :: st) h := by
  subst e
  subst hc
  obtain ⟨n1, n2, n3, rfl⟩ := hn
  obtain ⟨k1, k2, rfl⟩ := hk
  exact ia_mna hK hl hw hd n1 n2 k1 n3 k2 hcap kk
section Cg
theorem cg_join {a c k : Nat} {x3 x4 : Int} {h : pH} (c36 : c < 36) (k4 : k < 4) (hv : x3 = 0 ∨ (0 ≤ x4 ∧ x4 < 36)) : ∃ h', pf_La_join a c k x3 x4 h = some h' ∧ fr (fun b => b = a + 10 ∨ b = a + 11) h h' := by
  unfold pf_La_join
  by_cases x0 : x3 = 0
  · rw [if_pos x0]
    exact ⟨h, rfl, fr_refl⟩
  · have hv := hv.resolve_left x0
    obtain ⟨w, rfl⟩ : ∃ w : Nat, x4 = w := ⟨x4.toNat, by omega⟩
    rw [if_neg x0, wr_eq (x := (c : Int) * 4) (by omega) (by omega), wr_eq (x := (c : Int) * 4 + k) (by omega) (by omega), gib (by omega) (by omega), gib (by omega) (by omega), show ((c : Int) * 4 + k).toNat = 4 * c + k by omega, Int.toNat_natCast, c_hasBit (by omega), bsm]
    rw [gib (by omega) (by omega), gib (by omega) (by omega)]
    generalize (if tb (pl (pwI h (a + 10) (4 * c + k) ↑w) (a + 4) c) w = true then (1 : Int) else 0) = u
    by_cases v : u = 0
    · rw [if_pos v]
      exact ⟨pwI (pwI h (a + 10) (4 * c + k) w) (a + 11) (4 * c + k) w, rfl, fr_wI (fr_wI fr_refl (Or.inl rfl)) (Or.inr rfl)⟩
    · rw [if_neg v]
      exact ⟨pwI (pwI h (a + 10) (4 * c + k) w) (a + 11) (4 * c + k) (-1), rfl, fr_wI (fr_wI fr_refl (Or.inl rfl)) (Or.inr rfl)⟩
theorem cg_cell {a y x c n : Nat} {t : pH} {K : Int → pH → Option pH} (hy : y < 4) (hx : x < 4) (hc : 4 * y + x = c) (ew : pi t a 0 = 4) (eh : pi t a 1 = 4) : ∃ t', fr (fun b => b = a + 10 ∨ b = a + 11) t t' ∧ pl_La_chart_28 a K (n + 1) y x t = pl_La_chart_28 a K n y ((x + 1 : Nat) : Int) t' := by
  have keep : ∀ {u v : pH}, fr (fun b => b = a + 10 ∨ b = a + 11) u v → ∀ j, pi v a j = pi u a j := fun f j => fr_i f (by omega)
  have ix : ∀ _ : Unit, wr ((x : Int) + 1) = ((x + 1 : Nat) : Int) := fun _ => by rw [wr_eq (by omega) (by omega)]; rfl
  have iy : ∀ _ : Unit, wr ((y : Int) + 1) = ((y + 1 : Nat) : Int) := fun _ => by rw [wr_eq (by omega) (by omega)]; rfl
  have x3e : ∀ _ : Unit, wr (wr ((y : Int) * 4) + x) = (c : Nat) := fun _ => by rw [wr_eq (x := (y : Int) * 4) (by omega) (by omega), wr_eq (by omega) (by omega)]; omega
  have S3 : ∀ {kr : Int → Int → pH → Option pH} (t : pH) (z : Int), pi t a 0 = 4 → (z = 0 ∨ y < 3) → ∃ t', fr (fun b => b = a + 10 ∨ b = a + 11) t t' ∧ pj_La_chart_126 a kr K y x c a c 3 z t = kr y ((x + 1 : Nat) : Int) t' := fun {kr} t z w q => by
    unfold pj_La_chart_126
    rw [w, ix (), wr_eq (x := (c : Int) + 4) (by omega) (by omega)]
    obtain ⟨t', e, f⟩ := cg_join (a := a) (c := c) (k := 3) (x3 := z) (x4 := (c : Int) + 4) (h := t) (by omega) (by decide) (by omega)
    rw [show pf_La_join a c 3 z ((c : Int) + 4) t = some t' from e, bsm]
    exact ⟨t', f, rfl⟩
  have S2 : ∀ {kr : Int → Int → pH → Option pH} (t : pH) (z : Int), pi t a 0 = 4 → pi t a 1 = 4 → (z = 0 ∨ x < 3) → ∃ t', fr (fun b => b = a + 10 ∨ b = a + 11) t t' ∧ pj_La_chart_102 a kr K y x c a c 2 z t = kr y ((x + 1 : Nat) : Int) t' := fun {kr} t z w w1 q => by
    unfold pj_La_chart_102
    rw [wr_eq (x := (c : Int) + 1) (by omega) (by omega)]
    obtain ⟨t1, e, f⟩ := cg_join (a := a) (c := c) (k := 2) (x3 := z) (x4 := (c : Int) + 1) (h := t) (by omega) (by decide) (by omega)
    rw [show pf_La_join a c 2 z ((c : Int) + 1) t = some t1 from e, bsm, keep f, w1, iy ()]
    split
    · obtain ⟨t2, f2, e2⟩ := S3 (kr := kr) t1 0 ((keep f 0).trans w) (Or.inl rfl)
      exact ⟨t2, fr_trans f f2, e2⟩
    · obtain ⟨t2, f2, e2⟩ := S3 (kr := kr) t1 1 ((keep f 0).trans w) (Or.inr (by omega))
      exact ⟨t2, fr_trans f f2, e2⟩
  have S1 : ∀ {kr : Int → Int → pH → Option pH} (t : pH) (z : Int), pi t a 0 = 4 → pi t a 1 = 4 → (z = 0 ∨ 0 < x) → ∃ t', fr (fun b => b = a + 10 ∨ b = a + 11) t t' ∧ pj_La_chart_78 a kr K y x c a c 1 z t = kr y ((x + 1 : Nat) : Int) t' := fun {kr} t z w w1 q => by
    unfold pj_La_chart_78
    rw [wr_eq (x := (c : Int) - 1) (by omega) (by omega)]
    obtain ⟨t1, e, f⟩ := cg_join (a := a) (c := c) (k := 1) (x3 := z) (x4 := (c : Int) - 1) (h := t) (by omega) (by decide) (by omega)
    rw [show pf_La_join a c 1 z ((c : Int) - 1) t = some t1 from e, bsm, keep f, w, ix ()]
    split
    · obtain ⟨t2, f2, e2⟩ := S2 (kr := kr) t1 0 ((keep f 0).trans w) ((keep f 1).trans w1) (Or.inl rfl)
      exact ⟨t2, fr_trans f f2, e2⟩
    · obtain ⟨t2, f2, e2⟩ := S2 (kr := kr) t1 1 ((keep f 0).trans w) ((keep f 1).trans w1) (Or.inr (by omega))
      exact ⟨t2, fr_trans f f2, e2⟩
  have S0 : ∀ {kr : Int → Int → pH → Option pH} (t : pH) (z : Int), pi t a 0 = 4 → pi t a 1 = 4 → (z = 0 ∨ 0 < y) → ∃ t', fr (fun b => b = a + 10 ∨ b = a + 11) t t' ∧ pj_La_chart_57 a kr K y x c a c 0 z t = kr y ((x + 1 : Nat) : Int) t' := fun {kr} t z w w1 q => by
    unfold pj_La_chart_57
    rw [w, wr_eq (x := (c : Int) - 4) (by omega) (by omega)]
    obtain ⟨t1, e, f⟩ := cg_join (a := a) (c := c) (k := 0) (x3 := z) (x4 := (c : Int) - 4) (h := t) (by omega) (by decide) (by omega)
    rw [show pf_La_join a c 0 z ((c : Int) - 4) t = some t1 from e, bsm]
    split
    · obtain ⟨t2, f2, e2⟩ := S1 (kr := kr) t1 0 ((keep f 0).trans w) ((keep f 1).trans w1) (Or.inl rfl)
      exact ⟨t2, fr_trans f f2, e2⟩
    · obtain ⟨t2, f2, e2⟩ := S1 (kr := kr) t1 1 ((keep f 0).trans w) ((keep f 1).trans w1) (Or.inr (by omega))
      exact ⟨t2, fr_trans f f2, e2⟩
  rw [pl_La_chart_28, ew, if_neg (by omega), x3e ()]
  clear S1 S2 S3 ix iy x3e
  split
  · exact S0 t 0 ew eh (Or.inl rfl)
  · exact S0 t 1 ew eh (Or.inr (by omega))
theorem cg_chart {a : Nat} {h : pH} (k1 : (kd_D (a + 10)).2 = 144) (k2 : (kd_D (a + 11)).2 = 144) (ew : pi h a 0 = 4) (eh : pi h a 1 = 4) : ∃ h', pf_La_chart a h = some h' := by
  unfold pf_La_chart
  obtain ⟨h1, a1, a2, a3⟩ := c_fill (a := a + 10) (N := 144) (v := -1) (h := h) k1 (by decide)
  obtain ⟨h2, b1, b2, b3⟩ := c_fill (a := a + 11) (N := 144) (v := -1) (h := h1) k2 (by decide)
  rw [a1, bsm, b1, bsm]
  have ew2 : pi h2 a 0 = 4 := by rw [fr_i b2 (by omega), fr_i a2 (by omega)]; exact ew
  have eh2 : pi h2 a 1 = 4 := by rw [fr_i b2 (by omega), fr_i a2 (by omega)]; exact eh
  refine lpf (F := fun k (y : Nat) t => pl_La_chart_18 a (fun h => some h) k y t) (Q := fun r => ∃ h', r = some h') 4 (fun y t => pi t a 0 = 4 ∧ pi t a 1 = 4) ?_ ?_ fu_ 0 h2 (by omega) (by unfold fu_; omega) ⟨ew2, eh2⟩
  · intro k y t hy ⟨w, w1⟩
    right
    have iny : ∃ t', pl_La_chart_28 a (fun x1 h => pl_La_chart_18 a (fun h => some h) k (wr (x1 + 1)) h) fu_ y 0 t = pl_La_chart_18 a (fun h => some h) k (wr ((y : Int) + 1)) t' ∧ (pi t' a 0 = 4 ∧ pi t' a 1 = 4) := by
      refine lpf (F := fun k' (x : Nat) t => pl_La_chart_28 a (fun x1 h => pl_La_chart_18 a (fun h => some h) k (wr (x1 + 1)) h) k' y x t) (Q := fun r => ∃ t', r = pl_La_chart_18 a (fun h => some h) k (wr ((y : Int) + 1)) t' ∧ (pi t' a 0 = 4 ∧ pi t' a 1 = 4)) 4 (fun x t => pi t a 0 = 4 ∧ pi t a 1 = 4) ?_ ?_ fu_ 0 t (by omega) (by unfold fu_; omega) ⟨w, w1⟩
      · intro k' x t hx ⟨w, w1⟩
        right
        obtain ⟨t', f, e⟩ := cg_cell (a := a) (y := y) (x := x) (n := k') (t := t) (K := fun x1 h => pl_La_chart_18 a (fun h => some h) k (wr (x1 + 1)) h) hy hx rfl w w1
        exact ⟨t', e, by rw [fr_i f (by omega)]; exact w, by rw [fr_i f (by omega)]; exact w1⟩
      · intro k' t ⟨w, w1⟩
        refine ⟨t, ?_, w, w1⟩
        show pl_La_chart_28 a _ (k' + 1) y (4 : Nat) t = _
        rw [pl_La_chart_28, w, if_pos (by decide)]
    obtain ⟨t', e, w2⟩ := iny
    refine ⟨t', ?_, w2⟩
    show pl_La_chart_18 a _ (k + 1) y t = pl_La_chart_18 a _ k (y + 1 : Nat) t'
    rw [pl_La_chart_18, w1, if_neg (by omega), e, wr_eq (x := (y : Int) + 1) (by omega) (by omega)]
    rfl
  · intro k t ⟨w, w1⟩
    refine ⟨t, ?_⟩
    show pl_La_chart_18 a _ (k + 1) (4 : Nat) t = _
    rw [pl_La_chart_18, w1, if_pos (by decide)]
theorem cg_La_clear {a : Nat} {h : pH} (p : (kd_D a).1 = 3) : ∃ h', pf_La_clear a h = some h' := by
  unfold pf_La_clear
  obtain ⟨h1, a1, a2, a3⟩ := c_fill (a := a + 1) (N := 36) (v := 20) (h := pwI (pwI (pwI h a 0 4) a 1 4) a 2 10) (congrArg Prod.snd (ka_3_3 p)) (by decide)
  obtain ⟨h2, b1, b2, b3⟩ := c_fill (a := a + 2) (N := 36) (v := 0) (h := h1) (congrArg Prod.snd (ka_3_4 p)) (by decide)
  obtain ⟨h3, c1, c2, c3⟩ := c_fill (a := a + 3) (N := 36) (v := 0) (h := h2) (congrArg Prod.snd (ka_3_5 p)) (by decide)
  obtain ⟨h4, d1, d2, d3⟩ := c_fill2 (a := a + 4) (N := 36) (v := 0) (h := h3) (congrArg Prod.snd (ka_3_6 p)) (by decide)
  rw [a1, bsm, b1, bsm, c1, bsm, d1, bsm]
  have p4 : ∀ j, pi h4 a j = pi (pwI (pwI (pwI h a 0 4) a 1 4) a 2 10) a j := fun j => by rw [fr_i d2 (by omega), fr_i c2 (by omega), fr_i b2 (by omega), fr_i a2 (by omega)]
  have q5 : ∀ j, j ≠ 10 → j ≠ 11 → pi (pwI (pwI (pwI (pwL (pwL h4 a 7 0) a 8 0) (a + 5) 0 0) a 10 1) a 11 0) a j = pi h4 a j := fun j x y => by rw [pi_wIi y, pi_wIi x, pi_wIa (by omega)]; rfl
  obtain ⟨h5, e5⟩ := cg_chart (a := a) (h := pwI (pwI (pwI (pwL (pwL h4 a 7 0) a 8 0) (a + 5) 0 0) a 10 1) a 11 0) (congrArg Prod.snd (ka_3_16 p)) (congrArg Prod.snd (ka_3_17 p)) (by rw [q5 0 (by decide) (by decide), p4, pi_wIi (by decide), pi_wIi (by decide), pi_wIs]) (by rw [q5 1 (by decide) (by decide), p4, pi_wIi (by decide), pi_wIs])
  rw [e5, bsm]
  exact ⟨h5, rfl⟩
theorem fs_La_clear {a : Nat} (p : (kd_D a).1 = 3) (h : ia_H) : ∃ q, f_La_clear a h = some q := by
  obtain ⟨h', e⟩ := cg_La_clear p (h := vw h)
  have q : (f_La_clear a h).map vw = pf_La_clear a (vw h) := qf_La_clear rfl rfl
  rw [e] at q
  obtain ⟨x, x1, x2⟩ := Option.map_eq_some_iff.mp q
  exact ⟨x, x1⟩
theorem fs_Lw_clear {a : Nat} (p : (kd_D a).1 = 4) (h : ia_H) : ∃ q, f_Lw_clear a h = some q := by
  have q : (f_Lw_clear a h).map vw = pf_Lw_clear a (vw h) := qf_Lw_clear rfl rfl
  unfold pf_Lw_clear at q
  obtain ⟨h1, a1, a2, a3⟩ := c_fill2 (a := a + 3) (N := 36) (v := 0) (h := pwL (pwI (pwI (pwI (pwI (pwI (vw h) a 0 0) a 1 0) a 2 5) a 3 1) a 4 0) a 7 0) (congrArg Prod.snd (ka_4_8 p)) (by decide)
  rw [a1, bsm] at q
  obtain ⟨x, x1, x2⟩ := Option.map_eq_some_iff.mp q
  exact ⟨x, x1⟩
end Cg
/-- the cells of one lake, or of one law, alone -/
def dl_ (a n e : Nat) : Nat × Nat := if a ≤ e ∧ e < a + n then kd_D e else (999, 0)
theorem dl_in {a n e : Nat} (q : a ≤ e ∧ e < a + n) : dl_ a n e = kd_D e := if_pos q
theorem dl_at {a n e : Nat} (q : (dl_ a n e).1 ≠ 999) : (a ≤ e ∧ e < a + n) ∧ dl_ a n e = kd_D e := by
  by_cases c : a ≤ e ∧ e < a + n
  · exact ⟨c, dl_in c⟩
  · unfold dl_ at q
    rw [if_neg c] at q
    exact absurd rfl q
theorem cl_La {a : Nat} (p : (kd_D a).1 = 3) : cl_ (dl_ a 12) := by
  have ha := ko_3 p
  have only : ∀ e, a ≤ e ∧ e < a + 12 → ((kd_D e).1 = 3 ∨ (kd_D e).1 = 4) → e = a := fun e q r => by
    rcases (show e = a ∨ e = a + 1 ∨ e = a + 2 ∨ e = a + 3 ∨ e = a + 4 ∨ e = a + 5 ∨ e = a + 6 ∨ e = a + 7 ∨ e = a + 8 ∨ e = a + 9 ∨ e = a + 10 ∨ e = a + 11 by omega) with h | h | h | h | h | h | h | h | h | h | h | h
    · exact h
    all_goals (exfalso; subst h; first | (rw [ka_3_3 p] at r; revert r; decide) | (rw [ka_3_4 p] at r; revert r; decide) | (rw [ka_3_5 p] at r; revert r; decide) | (rw [ka_3_6 p] at r; revert r; decide) | (rw [ka_3_9 p] at r; revert r; decide) | (rw [ka_3_12 p] at r; revert r; decide) | (rw [ka_3_13 p] at r; revert r; decide) | (rw [ka_3_14 p] at r; revert r; decide) | (rw [ka_3_15 p] at r; revert r; decide) | (rw [ka_3_16 p] at r; revert r; decide) | (rw [ka_3_17 p] at r; revert r; decide))
  refine ⟨fun e q => ⟨?_, (dl_at q).2⟩, fun e q => ?_, fun e q => ?_⟩
  · have := (dl_at q).1; omega
  · have z := dl_at (by rw [q]; decide : (dl_ a 12 e).1 ≠ 999)
    have e1 := only e z.1 (Or.inl (by rw [← z.2]; exact q))
    subst e1
    exact ⟨(dl_in (by omega)).trans (ka_3_3 p), (dl_in (by omega)).trans (ka_3_4 p), (dl_in (by omega)).trans (ka_3_5 p), (dl_in (by omega)).trans (ka_3_6 p), (dl_in (by omega)).trans (ka_3_9 p), (dl_in (by omega)).trans (ka_3_12 p), (dl_in (by omega)).trans (ka_3_13 p), (dl_in (by omega)).trans (ka_3_14 p), (dl_in (by omega)).trans (ka_3_15 p), (dl_in (by omega)).trans (ka_3_16 p), (dl_in (by omega)).trans (ka_3_17 p)⟩
  · have z := dl_at (by rw [q]; decide : (dl_ a 12 e).1 ≠ 999)
    have e1 := only e z.1 (Or.inr (by rw [← z.2]; exact q))
    subst e1
    rw [z.2, p] at q
    cases q
theorem cl_Lw {a : Nat} (p : (kd_D a).1 = 4) : cl_ (dl_ a 4) := by
  have ha := ko_4 p
  have only : ∀ e, a ≤ e ∧ e < a + 4 → ((kd_D e).1 = 3 ∨ (kd_D e).1 = 4) → e = a := fun e q r => by
    rcases (show e = a ∨ e = a + 1 ∨ e = a + 2 ∨ e = a + 3 by omega) with h | h | h | h
    · exact h
    all_goals (exfalso; subst h; first | (rw [ka_4_5 p] at r; revert r; decide) | (rw [ka_4_6 p] at r; revert r; decide) | (rw [ka_4_8 p] at r; revert r; decide))
  refine ⟨fun e q => ⟨?_, (dl_at q).2⟩, fun e q => ?_, fun e q => ?_⟩
  · have := (dl_at q).1; omega
  · have z := dl_at (by rw [q]; decide : (dl_ a 4 e).1 ≠ 999)
    have e1 := only e z.1 (Or.inl (by rw [← z.2]; exact q))
    subst e1
    rw [z.2, p] at q
    cases q
  · have z := dl_at (by rw [q]; decide : (dl_ a 4 e).1 ≠ 999)
    have e1 := only e z.1 (Or.inr (by rw [← z.2]; exact q))
    subst e1
    exact ⟨(dl_in (by omega)).trans (ka_4_5 p), (dl_in (by omega)).trans (ka_4_6 p), (dl_in (by omega)).trans (ka_4_8 p)⟩
/-- what clear() is in a constructor -/
theorem ge_dl {a n C : Nat} {S : List Nat} {w : ia_O0} {h : ia_H} (p : (kd_D a).1 = C) (ha : 64 ≤ a) (hC : C = 3 ∨ C = 4) (only : ∀ e, (dl_ a n e).1 = 3 ∨ (dl_ a n e).1 = 4 → e = a) (hn : 0 < n) (H : hc_ (a + n) S w h) (r : ∀ k f, rd_o C k = some f → ia_r h a k = a + f) : ge_ (dl_ a n) (w, ia_n h, ia_m h) h := by
  refine ⟨fun e q => ?_, rfl, rfl, fun e k f q1 q2 => ?_, H.2.2.2.2.2.2.2.2.2.2⟩
  · have z := dl_at q
    rw [z.2]
    exact H.2.2.2.1 e (by omega) z.1.2
  · have e1 := only e q1
    subst e1
    rw [dl_in (by omega), p] at q2
    exact r k f q2
theorem on_La {a e : Nat} (p : (kd_D a).1 = 3) (q : (dl_ a 12 e).1 = 3 ∨ (dl_ a 12 e).1 = 4) : e = a := by
  have z := dl_at (by rcases q with q | q <;> rw [q] <;> decide : (dl_ a 12 e).1 ≠ 999)
  rw [z.2] at q
  have r := q
  rcases (show e = a ∨ e = a + 1 ∨ e = a + 2 ∨ e = a + 3 ∨ e = a + 4 ∨ e = a + 5 ∨ e = a + 6 ∨ e = a + 7 ∨ e = a + 8 ∨ e = a + 9 ∨ e = a + 10 ∨ e = a + 11 by omega) with h | h | h | h | h | h | h | h | h | h | h | h
  · exact h
  all_goals (exfalso; subst h; first | (rw [ka_3_3 p] at r; revert r; decide) | (rw [ka_3_4 p] at r; revert r; decide) | (rw [ka_3_5 p] at r; revert r; decide) | (rw [ka_3_6 p] at r; revert r; decide) | (rw [ka_3_9 p] at r; revert r; decide) | (rw [ka_3_12 p] at r; revert r; decide) | (rw [ka_3_13 p] at r; revert r; decide) | (rw [ka_3_14 p] at r; revert r; decide) | (rw [ka_3_15 p] at r; revert r; decide) | (rw [ka_3_16 p] at r; revert r; decide) | (rw [ka_3_17 p] at r; revert r; decide))
theorem on_Lw {a e : Nat} (p : (kd_D a).1 = 4) (q : (dl_ a 4 e).1 = 3 ∨ (dl_ a 4 e).1 = 4) : e = a := by
  have z := dl_at (by rcases q with q | q <;> rw [q] <;> decide : (dl_ a 4 e).1 ≠ 999)
  rw [z.2] at q
  have r := q
  rcases (show e = a ∨ e = a + 1 ∨ e = a + 2 ∨ e = a + 3 by omega) with h | h | h | h
  · exact h
  all_goals (exfalso; subst h; first | (rw [ka_4_5 p] at r; revert r; decide) | (rw [ka_4_6 p] at r; revert r; decide) | (rw [ka_4_8 p] at r; revert r; decide))
theorem cc_La (d : Nat) {a : Nat} {S : List Nat} {w : ia_O0} {h : ia_H} (p : (kd_D a).1 = 3) (H : hc_ (a + 12) S w h) (r : ∀ k f, rd_o 3 k = some f → ia_r h a k = a + f) : ∃ h', ia_Ev (d + 3) mm_La_clear [.inr (.inr a)] h none h' ∧ sk_ a h h' := by
  obtain ⟨q, e⟩ := fs_La_clear p h
  have g := ge_dl p (ko_3 p) (Or.inl rfl) (fun e q => on_La p q) (by decide) H r
  exact ⟨q, u_La_clear (cl_La p) d g (by rw [dl_in (by omega)]; exact p) e, sv_La_clear sk_refl (Nat.le_refl _) e⟩
theorem cc_Lw (d : Nat) {a : Nat} {S : List Nat} {w : ia_O0} {h : ia_H} (p : (kd_D a).1 = 4) (H : hc_ (a + 4) S w h) (r : ∀ k f, rd_o 4 k = some f → ia_r h a k = a + f) : ∃ h', ia_Ev (d + 1) mm_Lw_clear [.inr (.inr a)] h none h' ∧ sk_ a h h' := by
  obtain ⟨q, e⟩ := fs_Lw_clear p h
  have g := ge_dl p (ko_4 p) (Or.inr rfl) (fun e q => on_Lw p q) (by decide) H r
  exact ⟨q, u_Lw_clear (cl_Lw p) d g (by rw [dl_in (by omega)]; exact p) e, sv_Lw_clear sk_refl (Nat.le_refl _) e⟩
/-- new int[8][36] of the ways -/
theorem hs_wa : hs_ 325 = hs_ 316 + (8 + 8 * 36) := by decide +kernel
theorem kd_wa : kd_D 316 = (117, 8) ∧ ∀ i, i < 8 → kd_D (317 + i) = (100, 36) := by decide +kernel
theorem hc_n2 {S : List Nat} {w : ia_O0} {h : ia_H} (H : hc_ 316 S w h) : hc_ 325 S w (ia_n2 h 8 36) := by
  obtain ⟨a1, a2, a3, a4, a5, a6, a7, a8, a9, a10, a11⟩ := H
  have hn : ia_n h = 252 := a2
  have ek : ia_k (ia_n2 h 8 36) = fun b => if b = 316 then (117, 8) else if 316 < b ∧ b ≤ 324 then (100, 36) else ia_k h b := by
    funext b
    show (if b = 64 + ia_n h then _ else if 64 + ia_n h < b ∧ b ≤ 64 + ia_n h + 8 then _ else _) = _
    rw [hn]
  have er : ∀ b, b < 316 → ia_r (ia_n2 h 8 36) b = ia_r h b := fun b q => by
    funext j
    show (if b = 64 + ia_n h then _ else if 64 + ia_n h < b ∧ b ≤ 64 + ia_n h + 8 then _ else _) = _
    rw [hn, if_neg (by omega), if_neg (by omega)]
  have ei : ∀ b, b < 316 → ia_i (ia_n2 h 8 36) b = ia_i h b := fun b q => by
    funext j
    show (if 64 + ia_n h ≤ b ∧ b ≤ 64 + ia_n h + 8 then _ else _) = _
    rw [hn, if_neg (by omega)]
  have k100 : ∀ e, 316 < e → e < 325 → (kd_D e).1 = 100 := fun e q1 q2 => by
    have := kd_wa.2 (e - 317) (by omega)
    rw [show 317 + (e - 317) = e by omega] at this
    rw [this]
  refine ⟨by decide, by show ia_n h + 9 = _; omega, ?_, fun a q1 q2 => ?_, fun a q => ?_, fun e j f q1 q2 q3 => ?_, fun e j f q1 q2 q3 => ?_, fun e j f q1 q2 q3 q4 => ?_, fun e q1 q2 q3 => ?_, fun e q1 q2 q3 => ?_, fun a q => ?_⟩
  · show ia_m h + (8 + 8 * 36) = _
    rw [hs_wa, a3]
  · rw [ek]
    by_cases c : a = 316
    · rw [c]; exact kd_wa.1.symm
    · by_cases c2 : 316 < a
      · have := kd_wa.2 (a - 317) (by omega)
        rw [show 317 + (a - 317) = a by omega] at this
        show (if a = 316 then _ else if 316 < a ∧ a ≤ 324 then _ else _) = _
        rw [if_neg c, if_pos (by omega), this]
      · show (if a = 316 then _ else if 316 < a ∧ a ≤ 324 then _ else _) = _
        rw [if_neg c, if_neg (by omega)]
        exact a4 a q1 (by omega)
  · rw [ek]
    show (if a = 316 then _ else if 316 < a ∧ a ≤ 324 then _ else _) = _
    rw [if_neg (by omega), if_neg (by omega)]
    exact a5 a (by omega)
  · by_cases c : e < 316
    · rw [er e c]; exact a6 e j f c q2 q3
    · exfalso
      by_cases c2 : e = 316
      · rw [c2, kd_wa.1] at q3; cases q3
      · rw [k100 e (by omega) q1] at q3; cases q3
  · by_cases c : e < 316
    · rw [er e c]; exact a7 e j f c q2 q3
    · exfalso
      by_cases c2 : e = 316
      · rw [c2, kd_wa.1] at q3; cases q3
      · rw [k100 e (by omega) q1] at q3; cases q3
  · by_cases c : e < 316
    · rw [er e c]; exact a8 e j f c q2 q3 q4
    · by_cases c2 : e = 316
      · subst c2
        rw [kd_wa.1] at q3 q4
        have q4 : j < 8 := q4
        obtain rfl := Option.some.inj (show some 1 = some f from q3)
        show (if 316 = 64 + ia_n h then (if j < 8 then 64 + ia_n h + 1 + j else 0) else _) = _
        rw [hn, if_pos rfl, if_pos q4]
        omega
      · rw [k100 e (by omega) q1] at q3; cases q3
  · by_cases c : e < 316
    · rw [er e c]; exact a9 e c q2 q3
    · exfalso
      by_cases c2 : e = 316
      · rw [c2, kd_wa.1] at q3; cases q3
      · rw [k100 e (by omega) q1] at q3; cases q3
  · by_cases c : e < 316
    · rw [er e c]; exact a10 e c q2 q3
    · exfalso
      by_cases c2 : e = 316
      · rw [c2, kd_wa.1] at q3; cases q3
      · rw [k100 e (by omega) q1] at q3; cases q3
  · rw [ek, ei a (by omega)]
    show (if a = 316 then _ else if 316 < a ∧ a ≤ 324 then _ else _) = _ ∧ _
    rw [if_neg (by omega), if_neg (by omega)]
    exact a11 a q
theorem hf_n2 {a : Nat} {h h' : ia_H} (H : hf_ a h h') (hn : ia_n h' = 252) (ha : a ≤ 316) : hf_ a h (ia_n2 h' 8 36) := fun b q => by
  obtain ⟨a1, a2, a3⟩ := H b q
  refine ⟨?_, ?_, ?_⟩
  · rw [← a1]; funext j
    show (if 64 + ia_n h' ≤ b ∧ b ≤ 64 + ia_n h' + 8 then _ else _) = _
    rw [hn, if_neg (by omega)]
  · rw [← a2]; funext j
    show (if 64 + ia_n h' ≤ b ∧ b ≤ 64 + ia_n h' + 8 then _ else _) = _
    rw [hn, if_neg (by omega)]
  · rw [← a3]; funext j
    show (if b = 64 + ia_n h' then _ else if 64 + ia_n h' < b ∧ b ≤ 64 + ia_n h' + 8 then _ else _) = _
    rw [hn, if_neg (by omega), if_neg (by omega)]
