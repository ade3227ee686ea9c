/-! the invariant between calls -/
/-- what is told, at hand and in the images, is what the reference has -/
def INV (h : pH) : Prop := TR h 65 (pi h 418) ∧ MI h ∧ ∀ k : Nat, k < 3 → (pi h 278 k = 0 ∨ pi h 278 k = 1) ∧ pi h 419 k = pi h 278 k ∧ (pi h 278 k = 1 → TR h (119 + 53 * k) (fun j => pi h 418 (1632 * (k + 1) + j)))
/-- one call of both: the same answer, and the invariant again -/
def keeps {α : Type} (cf mf : pH → Option (α × pH)) : Prop := ∀ h, INV h → ∃ r h1 h2, cf h = some (r, h1) ∧ mf h1 = some (r, h2) ∧ INV h2
theorem INV_fr {F : Nat → Prop} {h h' : pH} (f : fr F h h') (q : ∀ b, F b → 303 ≤ b ∧ b ≠ 418 ∧ b ≠ 419) (I : INV h) (m : MI h → MI h') : INV h' := by
  obtain ⟨a, b, c⟩ := I
  have e8 : pi h' 418 = pi h 418 := fr_fi f (fun k => (q _ k).2.1 rfl)
  have e9 : pi h' 419 = pi h 419 := fr_fi f (fun k => (q _ k).2.2 rfl)
  have e7 : pi h' 278 = pi h 278 := fr_fi f (fun k => by have := (q _ k).1; omega)
  refine ⟨by rw [e8]; exact TR_fr a f (fun i hi k => by have := (q _ k).1; omega), m b, fun k hk => ?_⟩
  rw [e7, e8, e9]
  obtain ⟨c1, c2, c3⟩ := c k hk
  exact ⟨c1, c2, fun y => TR_fr (c3 y) f (fun i hi k => by have := (q _ k).1; omega)⟩
theorem asks_keeps {α : Type} {cf mf : pH → Option (α × pH)} (a : asks cf mf) : keeps cf mf := by
  intro h I
  obtain ⟨r, h1, h2, p1, p2, p3, p4⟩ := a h _ I.1 rfl I.2.1
  refine ⟨r, h1, h2, p1, p3, ?_⟩
  have I1 : INV h1 := INV_fr p2 (fun b hb => by unfold CGs at hb; omega) I (CG_MI p2)
  exact INV_fr p4.1 (fun b hb => by unfold MFs at hb; omega) I1 (MG_MI p4)
theorem tells_keeps {cf mf : pH → Option Int} (a : tells cf mf) : ∀ h, INV h → ∃ r, cf h = some r ∧ mf h = some r := fun h I => a h _ I.1 rfl
theorem p_end {x : Int} : keeps (pf_I_end x) (pf_M_end x) := by
  intro h I
  obtain ⟨R, mi, im⟩ := I
  have e3 : pi h 65 1 = pi h 418 3 := R.2.2.1.1.1
  unfold pf_I_end pf_M_end
  by_cases q1 : x < 0
  · refine ⟨-1, h, h, by rw [if_pos q1], by rw [if_pos q1], R, mi, im⟩
  · by_cases q2 : x ≤ pi h 65 1
    · refine ⟨x, pwI h 65 1 x, pwI (pwI h 65 1 x) 418 3 x, by rw [if_neg q1, if_pos q2], by rw [if_neg q1, pi_wIa (by decide), ← e3, if_pos q2], ?_⟩
      generalize eH : pwI (pwI h 65 1 x) 418 3 x = h'
      have f : fr (fun b => b = 65 ∨ b = 418) h h' := by rw [← eH]; exact fr_wI (fr_wI fr_refl (Or.inl rfl)) (Or.inr rfl)
      have e8 : ∀ j, j ≠ 3 → pi h' 418 j = pi h 418 j := fun j hj => by rw [← eH, pi_wIi hj, pi_wIa (by decide)]
      have e83 : pi h' 418 3 = x := by rw [← eH, pi_wIs]
      have e5 : ∀ j, j ≠ 1 → pi h' 65 j = pi h 65 j := fun j hj => by rw [← eH, pi_wIa (by decide), pi_wIi hj]
      have e51 : pi h' 65 1 = x := by rw [← eH, pi_wIa (by decide), pi_wIs]
      have elk : ∀ i, lk (pi h' 418) i = lk (pi h 418) i := fun i => funext fun j => e8 _ (by omega)
      have elw : ∀ i, lw (pi h' 418) i = lw (pi h 418) i := fun i => funext fun j => e8 _ (by omega)
      have epn : ∀ i, pn (pi h' 418) i = pn (pi h 418) i := fun i => funext fun j => e8 _ (by omega)
      obtain ⟨a0, a1, ⟨⟨a2, a3, a4⟩, a5⟩, a6, a7, a8, a9⟩ := R
      refine ⟨⟨?_, ?_, ⟨⟨by rw [e51, e83], by rw [e5 2 (by decide), e8 4 (by decide)]; exact a3, by rw [e5 3 (by decide), e8 5 (by decide)]; exact a4⟩, by rw [e83]; omega⟩, fun i hi => ?_, fun i hi => ?_, fun i hi => ?_, fun i hi => ?_⟩, ?_, fun k hk => ?_⟩
      · rw [e8 0 (by decide), e8 1 (by decide), e8 2 (by decide)]; exact a0
      · rw [e8 0 (by decide), e8 1 (by decide), e8 2 (by decide), fr_i f (by omega), fr_i f (by omega), fr_i f (by omega)]; exact a1
      · rw [e83] at hi
        rw [fr_i f (by omega), e8 _ (by omega)]
        exact a6 i (by omega)
      · rw [e8 0 (by decide)] at hi
        rw [elk]
        exact ⟨LR_fr (a7 i hi).1 f (fun j hj y => by have := a0.1; omega), (a7 i hi).2⟩
      · rw [e8 1 (by decide)] at hi
        rw [elw]
        exact ⟨WR_fr (a8 i hi).1 f (fun j hj y => by have := a0.2.1; omega), (a8 i hi).2⟩
      · rw [e8 2 (by decide)] at hi
        rw [epn]
        obtain ⟨b1, b2⟩ := a9 i hi
        refine ⟨?_, b2⟩
        have := a0.2.2
        unfold PR at *
        rw [fr_fi f (by omega), fr_fi f (by omega), fr_fi f (by omega), fr_fi f (by omega), fr_fi f (by omega)]
        exact b1
      · unfold MI at *
        rw [fr_fi f (by omega), fr_fi f (by omega)]
        exact mi
      · obtain ⟨c1, c2, c3⟩ := im k hk
        rw [fr_fi f (show ¬ (278 = 65 ∨ 278 = 418) by decide), fr_fi f (show ¬ (419 = 65 ∨ 419 = 418) by decide)]
        refine ⟨c1, c2, fun y => ?_⟩
        have eA : (fun j => pi h' 418 (1632 * (k + 1) + j)) = fun j => pi h 418 (1632 * (k + 1) + j) := funext fun j => e8 _ (by omega)
        rw [eA]
        exact TR_fr (c3 y) f (fun i hi y => by omega)
    · refine ⟨-1, h, h, by rw [if_neg q1, if_neg q2], by rw [if_neg q1, ← e3, if_neg q2], R, mi, im⟩
