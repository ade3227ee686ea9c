/-! the invariant on a fresh object -/
theorem INV_0 {h : pH} (c : ∀ i : Nat, i < 3 → pi h 67 i = 0 ∧ pi h 418 i = 0) (f : pi h 65 1 = 0 ∧ pi h 65 2 = pi h 418 4 ∧ pi h 65 3 = pi h 418 5) (e3 : pi h 418 3 = 0) (m : MI h) (k : ∀ k : Nat, k < 3 → pi h 278 k = 0 ∧ pi h 419 k = 0) : INV h := by
  obtain ⟨c0, d0⟩ := c 0 (by decide)
  obtain ⟨c1, d1⟩ := c 1 (by decide)
  obtain ⟨c2, d2⟩ := c 2 (by decide)
  refine ⟨⟨⟨by rw [d0]; decide, by rw [d1]; decide, by rw [d2]; decide⟩, ⟨by rw [d0]; exact c0, by rw [d1]; exact c1, by rw [d2]; exact c2⟩, ⟨⟨by rw [e3]; exact f.1, f.2.1, f.2.2⟩, by rw [e3]; decide⟩, fun i hi => by rw [e3] at hi; omega, fun i hi => by rw [d0] at hi; omega, fun i hi => by rw [d1] at hi; omega, fun i hi => by rw [d2] at hi; omega⟩, m, fun j hj => ?_⟩
  obtain ⟨a, b⟩ := k j hj
  exact ⟨Or.inl a, by rw [a, b], fun y => by rw [a] at y; omega⟩
/-- a call that may write: both answer alike, and the invariant is kept; OC is what the old cells hold -/
def keepsO {α : Type} (cf mf : pH → Option (α × pH)) : Prop := ∀ h, OC h → INV h → ∃ r h1 h2, cf h = some (r, h1) ∧ mf h1 = some (r, h2) ∧ INV h2
theorem keeps_O {α : Type} {cf mf : pH → Option (α × pH)} (a : keeps cf mf) : keepsO cf mf := fun h _ I => a h I
theorem text_O {x1 x2 : Int} : keepsO (pf_I_text x1 x2) (pf_M_text x1 x2) := fun _ o I => p_text o I
