/-! numbers: how the reading stands: (1 if it ended, place, fault, its place) -/
noncomputable def nstp (B : Nat → Int) (n : Nat) (bad : Prop) (t : Nat × Nat × Int × Int) : Nat × Nat × Int × Int := cif (t.1 = 0) (cif (kd B n t.2.1 = 2) (cif (t.2.2.1 = 0 ∧ bad) (0, nx B n t.2.1, 2, (t.2.1 : Int)) (0, nx B n t.2.1, t.2.2.1, t.2.2.2)) (1, t.2.1, 1, (t.2.1 : Int))) t
noncomputable def nvl (B : Nat → Int) (n : Nat) (lo hi : Int) (t : Nat × Nat × Int × Int) : Int := cif (t.1 = 0 ∧ kd B n t.2.1 = 2 ∧ lo ≤ vl B n t.2.1 ∧ vl B n t.2.1 ≤ hi) (vl B n t.2.1) (-1)
noncomputable def estp (B : Nat → Int) (n : Nat) (t : Nat × Nat × Int × Int) : Nat × Nat × Int × Int := cif (t.1 = 0) (cif (kd B n t.2.1 = 4) (0, nx B n t.2.1, t.2.2.1, t.2.2.2) (1, t.2.1, 1, (t.2.1 : Int))) t
def FOK (s : Nat) (f q : Int) : Prop := (f = 0 ∧ q = -1) ∨ ((f = 2 ∨ f = 3) ∧ q < s)
def MST (g : pH) (B : Nat → Int) (n : Nat) (t : Nat × Nat × Int × Int) : Prop := (t.1 = 0 ∧ MT g B n t.2.1 ∧ pi g 417 8 = 0 ∧ pi g 418 4 = t.2.2.1 ∧ pi g 418 5 = t.2.2.2 ∧ FOK t.2.1 t.2.2.1 t.2.2.2) ∨ (t.1 = 1 ∧ MB g B n ∧ pi g 417 8 = 1 ∧ pi g 418 4 = 1 ∧ t.2.2.1 = 1 ∧ pi g 418 5 = t.2.2.2)
def MN (g g' : pH) : Prop := fr (fun b => b = 417 ∨ b = 418) g g' ∧ (∀ j, (j < 3 ∨ 9 < j) → pi g' 417 j = pi g 417 j) ∧ ∀ j, j ≠ 4 → j ≠ 5 → pi g' 418 j = pi g 418 j
theorem MN_refl {h : pH} : MN h h := ⟨fr_refl, fun _ _ => rfl, fun _ _ _ => rfl⟩
theorem MN_trans {h h1 h2 : pH} (a : MN h h1) (b : MN h1 h2) : MN h h2 := ⟨fr_trans a.1 b.1, fun j hj => by rw [b.2.1 j hj, a.2.1 j hj], fun j x y => by rw [b.2.2 j x y, a.2.2 j x y]⟩
theorem MA_MN {h h1 : pH} (a : MA h h1) : MN h h1 := ⟨fr_mono a.1 (fun b hb => Or.inl hb), fun j hj => a.2 j (by omega), fun j _ _ => fr_i a.1 (by decide)⟩
theorem MN_i {h h1 : pH} {b : Nat} (a : MN h h1) (q : b ≠ 417 ∧ b ≠ 418) : pi h1 b = pi h b := fr_fi a.1 (by omega)
theorem tkm_1 {k w : Int} : tkm k w = 1 ↔ k = 2 := by unfold tkm; repeat' split; all_goals omega
theorem tkm_2 {k w : Int} : tkm k w = 2 ↔ k = 4 := by unfold tkm; repeat' split; all_goals omega
theorem tkm_0 {k w : Int} : tkm k w = 0 ↔ k = 0 := by unfold tkm; repeat' split; all_goals omega
theorem tkm_5 {k w : Int} : tkm k w = 5 ↔ k = 3 := by unfold tkm; repeat' split; all_goals omega
theorem tkm_3 {k w : Int} : tkm k w = 3 ↔ (k = 1 ∧ w ≠ -1) := by unfold tkm; repeat' split; all_goals omega
section Tg
variable {g : pH} {B : Nat → Int} {n s : Nat}
theorem MT_n {g' : pH} (c : MT g B n s) (e7 : ∀ j, j < 8 → pi g' 417 j = pi g 417 j) (e8 : ∀ j, 10 ≤ j → pi g' 418 j = pi g 418 j) : MT g' B n s := by
  obtain ⟨⟨b1, b2, b3⟩, c2, c3, c4, c5, c6, c7⟩ := c
  exact ⟨⟨by rw [e7 2 (by omega)]; exact b1, b2, fun i hi => by rw [e8 _ (by omega)]; exact b3 i hi⟩, c2, by rw [e7 4 (by omega)]; exact c3, by rw [e7 3 (by omega)]; exact c4, by rw [e7 5 (by omega)]; exact c5, fun k => by rw [e7 6 (by omega)]; exact c6 k, fun k u => by rw [e7 7 (by omega)]; exact c7 k u⟩
theorem MB_n {g' : pH} (c : MB g B n) (e7 : pi g' 417 2 = pi g 417 2) (e8 : ∀ j, 10 ≤ j → pi g' 418 j = pi g 418 j) : MB g' B n := ⟨by rw [e7]; exact c.1, c.2.1, fun i hi => by rw [e8 _ (by omega)]; exact c.2.2 i hi⟩
/-- what is written elsewhere does not matter -/
theorem MST_n {g' : pH} {t : Nat × Nat × Int × Int} (c : MST g B n t) (e7 : ∀ j, j < 9 → pi g' 417 j = pi g 417 j) (e8 : ∀ j, 4 ≤ j → pi g' 418 j = pi g 418 j) : MST g' B n t := by
  rcases c with ⟨c1, c2, c3, c4, c5, c6⟩ | ⟨c1, c2, c3, c4, c5, c6⟩
  · exact Or.inl ⟨c1, MT_n c2 (fun j hj => e7 j (by omega)) (fun j hj => e8 j (by omega)), by rw [e7 8 (by omega)]; exact c3, by rw [e8 4 (by omega)]; exact c4, by rw [e8 5 (by omega)]; exact c5, c6⟩
  · exact Or.inr ⟨c1, MB_n c2 (e7 2 (by omega)) (fun j hj => e8 j (by omega)), by rw [e7 8 (by omega)]; exact c3, by rw [e8 4 (by omega)]; exact c4, c5, by rw [e8 5 (by omega)]; exact c6⟩
/-- a further fault -/
theorem m_also {k q f : Int} {at_ : Int} (w : pi g 417 8 = 0) (ef : pi g 418 4 = f) (eq : pi g 418 5 = q) (ok : f = 0 ∨ q < at_ ∨ (q = at_ ∧ f ≤ k)) : ∃ g', pf_M_also k at_ g = some g' ∧ MN g g' ∧ (∀ j, pi g' 417 j = pi g 417 j) ∧ pi g' 418 4 = (if f = 0 then k else f) ∧ pi g' 418 5 = (if f = 0 then at_ else q) := by
  unfold pf_M_also pj_M_also_47
  rw [if_pos w, ef, eq]
  by_cases y : f = 0
  · rw [if_pos y, if_pos y, if_pos y]
    refine ⟨_, rfl, ⟨fr_wI (fr_wI fr_refl (Or.inr rfl)) (Or.inr rfl), fun j hj => ?_, fun j a b => ?_⟩, fun j => ?_, ?_, pi_wIs⟩
    · rw [pi_wIa (by decide), pi_wIa (by decide)]
    · rw [pi_wIi b, pi_wIi a]
    · rw [pi_wIa (by decide), pi_wIa (by decide)]
    · rw [pi_wIi (by decide), pi_wIs]
  · rw [if_neg y, if_neg y, if_neg y]
    by_cases u : q < at_
    · rw [if_pos u]
      exact ⟨g, rfl, MN_refl, fun _ => rfl, ef, eq⟩
    · rw [if_neg u, if_pos (by omega), if_neg (by omega)]
      exact ⟨g, rfl, MN_refl, fun _ => rfl, ef, eq⟩
theorem m_ends0 (w : pi g 417 8 = 0) (c : MB g B n) (e4 : pi g 417 4 = s) : ∃ g', pf_M_ends g = some g' ∧ MN g g' ∧ pi g' 417 9 = pi g 417 9 ∧ MST g' B n (1, s, 1, (s : Int)) := by
  unfold pf_M_ends
  rw [if_pos w]
  refine ⟨_, rfl, ⟨fr_wI (fr_wI (fr_wI fr_refl (Or.inl rfl)) (Or.inr rfl)) (Or.inr rfl), fun j hj => ?_, fun j a b => ?_⟩, ?_, Or.inr ⟨rfl, ?_, ?_, ?_, rfl, ?_⟩⟩
  · rw [pi_wIa (by decide), pi_wIa (by decide), pi_wIi (by omega)]
  · rw [pi_wIi b, pi_wIi a, pi_wIa (by decide)]
  · rw [pi_wIa (by decide), pi_wIa (by decide), pi_wIi (by decide)]
  · refine MB_n c ?_ (fun j hj => ?_)
    · rw [pi_wIa (by decide), pi_wIa (by decide), pi_wIi (by decide)]
    · rw [pi_wIi (by omega), pi_wIi (by omega), pi_wIa (by decide)]
  · rw [pi_wIa (by decide), pi_wIa (by decide), pi_wIs]
  · rw [pi_wIi (by decide), pi_wIs]
  · rw [pi_wIs, pi_wIa (by decide), pi_wIi (by decide)]; exact e4
theorem m_ends1 (w : pi g 417 8 = 1) : pf_M_ends g = some g := by
  unfold pf_M_ends
  rw [if_neg (by omega)]
/-- the reading goes on behind a token -/
theorem m_go {f q : Int} (c : MT g B n s) (k : kd B n s ≠ 0) (w : pi g 417 8 = 0) (ef : pi g 418 4 = f) (eq : pi g 418 5 = q) (ok : (f = 0 ∧ q = -1) ∨ ((f = 2 ∨ f = 3) ∧ q ≤ s)) : ∃ g', pf_M_advance g = some g' ∧ MA g g' ∧ MST g' B n (0, nx B n s, f, q) := by
  obtain ⟨g', a1, a2, a3⟩ := m_advance c.1 c.2.2.2.1 (af_ok (B := B) c.2.1).1
  have nk := (nx_ok (B := B) c.2.1).2.2.1 k
  refine ⟨g', a1, a2, Or.inl ⟨rfl, a3, by rw [a2.2 8 (by omega)]; exact w, by rw [fr_i a2.1 (by decide)]; exact ef, by rw [fr_i a2.1 (by decide)]; exact eq, ?_⟩⟩
  show FOK (nx B n s) f q
  unfold FOK
  omega
theorem nvl_r {lo hi : Int} {t : Nat × Nat × Int × Int} (h0 : 0 ≤ lo) : -1 ≤ nvl B n lo hi t ∧ nvl B n lo hi t ≤ max hi (-1) := by
  unfold nvl
  by_cases q : t.1 = 0 ∧ kd B n t.2.1 = 2 ∧ lo ≤ vl B n t.2.1 ∧ vl B n t.2.1 ≤ hi
  · rw [cif_t q]; omega
  · rw [cif_f q]; omega
theorem m_numbered {lo hi : Int} {t : Nat × Nat × Int × Int} (c : MST g B n t) : ∃ g', pf_M_numbered lo hi g = some (nvl B n lo hi t, g') ∧ MST g' B n (nstp B n (¬ (lo ≤ vl B n t.2.1 ∧ vl B n t.2.1 ≤ hi)) t) ∧ MN g g' ∧ pi g' 417 9 = pi g 417 9 := by
  obtain ⟨w, s, f, q⟩ := t
  unfold pf_M_numbered pj_M_numbered_15
  rcases c with ⟨c1, c2, c3, c4, c5, c6⟩ | ⟨c1, c2, c3, c4, c5, c6⟩
  · obtain rfl : w = 0 := c1
    have c2 : MT g B n s := c2
    have c4 : pi g 418 4 = f := c4
    have c5 : pi g 418 5 = q := c5
    have c6 : FOK s f q := c6
    rw [if_pos c3, c2.2.2.2.2.1]
    by_cases k : kd B n s = 2
    · rw [if_pos (tkm_1.mpr k), c2.2.2.2.2.2.1 k, c2.2.2.1, m_isIn, bsm, if1]
      unfold pj_M_numbered_44
      by_cases r : lo ≤ vl B n s ∧ vl B n s ≤ hi
      · obtain ⟨g1, a1, a2, a3⟩ := m_go c2 (by omega) c3 c4 c5 (by unfold FOK at c6; omega)
        rw [if_pos r, a1, bsm, m_isIn, bsm, if1, if_pos r]
        refine ⟨g1, ?_, ?_, MA_MN a2, a2.2 9 (by omega)⟩
        · unfold nvl
          rw [cif_t ⟨rfl, k, r⟩]
        · unfold nstp
          rw [cif_t rfl, cif_t k, cif_f (fun v => v.2 r)]
          exact a3
      · obtain ⟨g0, b1, b2, b3, b4, b5⟩ := m_also (k := 2) (at_ := (s : Int)) c3 c4 c5 (by unfold FOK at c6; omega)
        obtain ⟨g1, a1, a2, a3⟩ := m_go (MT_n c2 (fun j _ => b3 j) (fun j hj => b2.2.2 j (by omega) (by omega))) (by omega) (by rw [b3]; exact c3) b4 b5 (by unfold FOK at c6; split <;> omega)
        rw [if_neg r, b1, bsm, a1, bsm, m_isIn, bsm, if1, if_neg r]
        refine ⟨g1, ?_, ?_, MN_trans b2 (MA_MN a2), by rw [a2.2 9 (by omega), b3]⟩
        · unfold nvl
          rw [cif_f (fun v => r v.2.2)]
        · unfold nstp
          rw [cif_t rfl, cif_t k]
          by_cases f0 : f = 0
          · rw [cif_t ⟨f0, r⟩]
            rw [if_pos f0, if_pos f0] at a3
            exact a3
          · rw [cif_f (fun v => f0 v.1)]
            rw [if_neg f0, if_neg f0] at a3
            exact a3
    · obtain ⟨g1, a1, a2, a3, a4⟩ := m_ends0 c3 c2.1 c2.2.2.1
      rw [if_neg (fun v => k (tkm_1.mp v)), a1, bsm]
      refine ⟨g1, ?_, ?_, a2, a3⟩
      · unfold nvl
        rw [cif_f (fun v => k v.2.1)]
      · unfold nstp
        rw [cif_t rfl, cif_f k]
        exact a4
  · have c1 : w = 1 := c1
    rw [if_neg (by omega), m_ends1 c3, bsm]
    refine ⟨g, ?_, ?_, MN_refl, rfl⟩
    · unfold nvl
      rw [cif_f (fun v => by have : w = 0 := v.1; omega)]
    · unfold nstp
      rw [cif_f (by show ¬ w = 0; omega)]
      exact Or.inr ⟨c1, c2, c3, c4, c5, c6⟩
theorem m_cellOf {t : Nat × Nat × Int × Int} (c : MST g B n t) : ∃ g', pf_M_cellOf g = some (nvl B n 0 35 t, g') ∧ MST g' B n (nstp B n (¬ (0 ≤ vl B n t.2.1 ∧ vl B n t.2.1 ≤ 35)) t) ∧ MN g g' ∧ pi g' 417 9 = max (pi g 417 9) (nvl B n 0 35 t) := by
  obtain ⟨g1, a1, a2, a3, a4⟩ := m_numbered (lo := 0) (hi := 35) c
  unfold pf_M_cellOf
  rw [a1, bsm]
  have ex : ∀ v, MST (pwI g1 417 9 v) B n (nstp B n (¬ (0 ≤ vl B n t.2.1 ∧ vl B n t.2.1 ≤ 35)) t) ∧ MN g (pwI g1 417 9 v) := fun v => ⟨MST_n a2 (fun j hj => pi_wIi (by omega)) (fun j hj => pi_wIa (by decide)), MN_trans a3 ⟨fr_wI fr_refl (Or.inl rfl), fun j hj => pi_wIi (by omega), fun j _ _ => pi_wIa (by decide)⟩⟩
  simp only []
  by_cases y : nvl B n 0 35 t ≤ pi g1 417 9
  · rw [if_pos y]
    exact ⟨_, rfl, (ex _).1, (ex _).2, by rw [pi_wIs, a4]; rw [a4] at y; omega⟩
  · rw [if_neg y]
    exact ⟨_, rfl, (ex _).1, (ex _).2, by rw [pi_wIs]; rw [a4] at y; omega⟩
theorem nstp_c {b b' : Prop} {t : Nat × Nat × Int × Int} (h : t.1 = 0 → kd B n t.2.1 = 2 → t.2.2.1 = 0 → (b ↔ b')) : nstp B n b t = nstp B n b' t := by
  unfold nstp
  by_cases q1 : t.1 = 0
  · rw [cif_t q1, cif_t q1]
    by_cases q2 : kd B n t.2.1 = 2
    · rw [cif_t q2, cif_t q2]
      by_cases q3 : t.2.2.1 = 0
      · have := h q1 q2 q3
        by_cases q4 : b
        · rw [cif_t ⟨q3, q4⟩, cif_t ⟨q3, this.mp q4⟩]
        · rw [cif_f (fun v => q4 v.2), cif_f (fun v => q4 (this.mpr v.2))]
      · rw [cif_f (fun v => q3 v.1), cif_f (fun v => q3 v.1)]
    · rw [cif_f q2, cif_f q2]
  · rw [cif_f q1, cif_f q1]
theorem m_otherCell {x : Int} {t : Nat × Nat × Int × Int} (c : MST g B n t) : ∃ g', pf_M_otherCell x g = some (nvl B n 0 35 t, g') ∧ MST g' B n (nstp B n (¬ (0 ≤ vl B n t.2.1 ∧ vl B n t.2.1 ≤ 35) ∨ vl B n t.2.1 = x) t) ∧ MN g g' ∧ pi g' 417 9 = max (pi g 417 9) (nvl B n 0 35 t) := by
  have cc := c
  obtain ⟨w, s, f, q⟩ := t
  unfold pf_M_otherCell pj_M_otherCell_25
  have pl : (w = 0 → kd B n s = 2 → f = 0 → vl B n s ≠ x) → ∃ g', ((pf_M_cellOf g).bind fun v1 => some (v1.1, v1.2)) = some (nvl B n 0 35 (w, s, f, q), g') ∧ MST g' B n (nstp B n (¬ (0 ≤ vl B n s ∧ vl B n s ≤ 35) ∨ vl B n s = x) (w, s, f, q)) ∧ MN g g' ∧ pi g' 417 9 = max (pi g 417 9) (nvl B n 0 35 (w, s, f, q)) := fun ne => by
    obtain ⟨g1, a1, a2, a3, a4⟩ := m_cellOf cc
    rw [a1, bsm]
    refine ⟨g1, rfl, ?_, a3, a4⟩
    rw [nstp_c (b := ¬ (0 ≤ vl B n s ∧ vl B n s ≤ 35) ∨ vl B n s = x) (b' := ¬ (0 ≤ vl B n s ∧ vl B n s ≤ 35)) (fun a b e => ⟨fun v => by rcases v with v | v; exact v; exact absurd v (ne a b e), Or.inl⟩)]
    exact a2
  rcases c with ⟨c1, c2, c3, c4, c5, c6⟩ | ⟨c1, c2, c3, c4, c5, c6⟩
  · obtain rfl : w = 0 := c1
    have c2 : MT g B n s := c2
    have c4 : pi g 418 4 = f := c4
    have c5 : pi g 418 5 = q := c5
    have c6 : FOK s f q := c6
    rw [c2.2.2.2.2.1, c2.2.2.1]
    by_cases k : kd B n s = 2
    · rw [if_pos (tkm_1.mpr k), c2.2.2.2.2.2.1 k]
      by_cases e : vl B n s = x
      · obtain ⟨g0, b1, b2, b3, b4, b5⟩ := m_also (k := 2) (at_ := (s : Int)) c3 c4 c5 (by unfold FOK at c6; omega)
        rw [if_pos e, b1, bsm]
        -- the same fault again
        have c20 : MT g0 B n s := MT_n c2 (fun j _ => b3 j) (fun j hj => b2.2.2 j (by omega) (by omega))
        unfold pf_M_cellOf pf_M_numbered pj_M_numbered_44
        rw [if_pos (by rw [b3]; exact c3), c20.2.2.2.2.1, if_pos (tkm_1.mpr k), c20.2.2.2.2.2.1 k, c20.2.2.1, m_isIn, bsm, if1]
        have st : nstp B n (¬ (0 ≤ vl B n s ∧ vl B n s ≤ 35) ∨ vl B n s = x) (0, s, f, q) = (0, nx B n s, (if f = 0 then 2 else f), (if f = 0 then (s : Int) else q)) := by
          unfold nstp
          rw [cif_t rfl, cif_t k]
          by_cases f0 : f = 0
          · rw [cif_t ⟨f0, Or.inr e⟩, if_pos f0, if_pos f0]
          · rw [cif_f (fun v => f0 v.1), if_neg f0, if_neg f0]
        have fin : ∀ g1, MN g0 g1 → (∀ j, pi g1 417 j = pi g0 417 j) → pi g1 418 4 = (if f = 0 then 2 else f) → pi g1 418 5 = (if f = 0 then (s : Int) else q) → ∃ g2, pf_M_advance g1 = some g2 ∧ MN g g2 ∧ MST g2 B n (nstp B n (¬ (0 ≤ vl B n s ∧ vl B n s ≤ 35) ∨ vl B n s = x) (0, s, f, q)) ∧ pi g2 417 9 = pi g 417 9 := fun g1 m1 m2 m3 m4 => by
          obtain ⟨g2, a1, a2, a3⟩ := m_go (MT_n c20 (fun j _ => m2 j) (fun j hj => m1.2.2 j (by omega) (by omega))) (by omega) (by rw [m2, b3]; exact c3) m3 m4 (by unfold FOK at c6; split <;> omega)
          exact ⟨g2, a1, MN_trans b2 (MN_trans m1 (MA_MN a2)), by rw [st]; exact a3, by rw [a2.2 9 (by omega), m2, b3]⟩
        have en : ∀ v, v = nvl B n 0 35 (0, s, f, q) → ∀ g2, MN g g2 → MST g2 B n (nstp B n (¬ (0 ≤ vl B n s ∧ vl B n s ≤ 35) ∨ vl B n s = x) (0, s, f, q)) → pi g2 417 9 = pi g 417 9 → ∃ g', ((if v ≤ pi g2 417 9 then some (v, pwI g2 417 9 (pi g2 417 9)) else some (v, pwI g2 417 9 v)).bind fun v1 => some (v1.1, v1.2)) = some (nvl B n 0 35 (0, s, f, q), g') ∧ MST g' B n (nstp B n (¬ (0 ≤ vl B n s ∧ vl B n s ≤ 35) ∨ vl B n s = x) (0, s, f, q)) ∧ MN g g' ∧ pi g' 417 9 = max (pi g 417 9) (nvl B n 0 35 (0, s, f, q)) := fun v ev g2 m1 m2 m3 => by
          have ex : ∀ u, MST (pwI g2 417 9 u) B n (nstp B n (¬ (0 ≤ vl B n s ∧ vl B n s ≤ 35) ∨ vl B n s = x) (0, s, f, q)) ∧ MN g (pwI g2 417 9 u) := fun u => ⟨MST_n m2 (fun j hj => pi_wIi (by omega)) (fun j hj => pi_wIa (by decide)), MN_trans m1 ⟨fr_wI fr_refl (Or.inl rfl), fun j hj => pi_wIi (by omega), fun j _ _ => pi_wIa (by decide)⟩⟩
          by_cases y : v ≤ pi g2 417 9
          · rw [if_pos y, bsm, ev]
            exact ⟨_, rfl, (ex _).1, (ex _).2, by rw [pi_wIs, m3]; rw [m3, ev] at y; omega⟩
          · rw [if_neg y, bsm, ev]
            exact ⟨_, rfl, (ex _).1, (ex _).2, by rw [pi_wIs]; rw [m3, ev] at y; omega⟩
        by_cases r : 0 ≤ vl B n s ∧ vl B n s ≤ 35
        · obtain ⟨g2, a1, a2, a3, a4⟩ := fin g0 MN_refl (fun _ => rfl) b4 b5
          rw [if_pos r, a1, bsm, m_isIn, bsm, if1, if_pos r, bsm]
          exact en _ (by unfold nvl; rw [cif_t ⟨rfl, k, r⟩]) g2 a2 a3 a4
        · obtain ⟨g1, d1, d2, d3, d4, d5⟩ := m_also (g := g0) (k := 2) (at_ := (s : Int)) (by rw [b3]; exact c3) b4 b5 (by unfold FOK at c6; split <;> omega)
          have n0 : ¬ (if f = 0 then (2 : Int) else f) = 0 := by unfold FOK at c6; split <;> omega
          rw [if_neg n0] at d4 d5
          obtain ⟨g2, a1, a2, a3, a4⟩ := fin g1 d2 d3 d4 d5
          rw [if_neg r, d1, bsm, a1, bsm, m_isIn, bsm, if1, if_neg r, bsm]
          exact en _ (by unfold nvl; rw [cif_f (fun v => r v.2.2)]) g2 a2 a3 a4
      · rw [if_neg e]
        exact pl (fun _ _ _ => e)
    · rw [if_neg (fun v => k (tkm_1.mp v))]
      exact pl (fun _ v _ => absurd v k)
  · have c1 : w = 1 := c1
    have al : pf_M_also 2 (pi g 417 4) g = some g := by
      unfold pf_M_also
      rw [if_neg (by omega)]
    have p := pl (fun v => by omega)
    rw [al, bsm]
    split
    · split <;> exact p
    · exact p
theorem m_endsLine {t : Nat × Nat × Int × Int} (c : MST g B n t) : ∃ g', pf_M_endsLine g = some g' ∧ MST g' B n (estp B n t) ∧ MN g g' ∧ pi g' 417 9 = pi g 417 9 := by
  obtain ⟨w, s, f, q⟩ := t
  unfold pf_M_endsLine pj_M_endsLine_22
  rcases c with ⟨c1, c2, c3, c4, c5, c6⟩ | ⟨c1, c2, c3, c4, c5, c6⟩
  · obtain rfl : w = 0 := c1
    have c2 : MT g B n s := c2
    have c6 : FOK s f q := c6
    rw [if_pos c3, c2.2.2.2.2.1]
    unfold estp
    rw [cif_t rfl]
    by_cases k : kd B n s = 4
    · obtain ⟨g1, a1, a2, a3⟩ := m_go c2 (by omega) c3 c4 c5 (by unfold FOK at c6; simp only []; omega)
      rw [if_pos (tkm_2.mpr k), a1, bsm, cif_t k]
      exact ⟨g1, rfl, a3, MA_MN a2, a2.2 9 (by omega)⟩
    · obtain ⟨g1, a1, a2, a3, a4⟩ := m_ends0 c3 c2.1 c2.2.2.1
      rw [if_neg (fun v => k (tkm_2.mp v)), a1, bsm, cif_f k]
      exact ⟨g1, rfl, a4, a2, a3⟩
  · have c1 : w = 1 := c1
    rw [if_neg (by omega), m_ends1 c3, bsm]
    unfold estp
    rw [cif_f (by show ¬ w = 0; omega)]
    exact ⟨g, rfl, Or.inr ⟨c1, c2, c3, c4, c5, c6⟩, MN_refl, rfl⟩
end Tg
