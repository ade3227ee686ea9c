/-! what the old cells hold -/
def OCw (w : ia_O0) : Prop := ((w.2 2 0).toInt = 2 ∧ (w.2 2 1).toInt = 2 ∧ (w.2 2 2).toInt = 3) ∧ ((w.2 3 0).toInt = 0 ∧ (w.2 3 1).toInt = 10 ∧ (w.2 3 2).toInt = 16 ∧ (w.2 3 3).toInt = 21)
theorem OC_gd {w : ia_O0} {h : ia_H} (g : gd_ w h) (c : OCw w) : OC (vw h) := by
  obtain ⟨_, _, _, _, _, _, _, _, _, _, o⟩ := g
  have e : ∀ a, a < 64 → ∀ i, pi (vw h) a i = (w.2 a i).toInt := fun a ha i => by
    show (ia_i h a i).toInt = _
    rw [(o a ha).2]
  unfold OC
  rw [e 2 (by decide), e 2 (by decide), e 2 (by decide), e 3 (by decide), e 3 (by decide), e 3 (by decide), e 3 (by decide)]
  exact c
