/-! the first token of a text -/
theorem DR_start {sr : Nat} {h g : pH} (ht : sr < 3) (d : DC0 h) (e9 : pi g 417 9 = 0) (e11 : pi g 417 11 = 0) (R : ∀ j, j < 260 → pi g 420 j = bgv sr j) : DRs sr h g := by
  obtain ⟨⟨a1, a2, a3, a4, a5⟩, ⟨b1, b2, b3, b4⟩, ⟨c1, c2, c3⟩, ⟨⟨d1, d2, d3, d4, d5⟩, d6, d7⟩, d8⟩ := d
  rcases (show sr = 0 ∨ sr = 1 ∨ sr = 2 by omega) with rfl | rfl | rfl
  · have v : ∀ j, j < 260 → 4 ≤ j → pi g 420 j = (if 8 ≤ j ∧ j < 44 then 20 else 0) := fun j x y => by
      rw [R j x]
      unfold bgv
      rw [if_pos rfl, if_neg (by omega), if_neg (by omega), if_neg (by omega), if_neg (by omega)]
    have z : ∀ j, j < 260 → 4 ≤ j → (j < 8 ∨ 44 ≤ j) → pi g 420 j = 0 := fun j x y w => by rw [v j x y, if_neg (by omega)]
    have r0 : pi g 420 0 = 4 := by rw [R 0 (by decide)]; rfl
    have r1 : pi g 420 1 = 4 := by rw [R 1 (by decide)]; rfl
    have r2 : pi g 420 2 = 10 := by rw [R 2 (by decide)]; rfl
    have r3 : pi g 420 3 = 1 := by rw [R 3 (by decide)]; rfl
    have r4 : pi g 420 4 = 0 := z 4 (by decide) (by decide) (by decide)
    show DR0 h g
    refine ⟨⟨⟨by rw [a1, r0], by rw [a2, r1], by rw [a3, r2]⟩, by rw [r0, r1]; exact ⟨by decide, by decide, by decide, by decide⟩, by rw [r2]; decide⟩, ⟨fun c hc => ?_, fun c hc => ?_, fun c hc => ?_, fun c hc => z _ (by omega) (by omega) (by omega)⟩, fun c hc => ?_, ⟨by rw [a4, r3], by rw [r3]; decide, fun k hk => ?_, fun k hk => ?_⟩, ⟨by rw [a5, r4], by rw [r4]; decide, fun t ht => ?_⟩, ⟨by rw [e11]; decide, fun a b ha hb => ?_, fun k hk => ?_⟩, ⟨by rw [e9]; decide, fun c hc u => ?_, Or.inl e9, fun t ht => by rw [r4] at ht; omega, fun k hk => by rw [e11] at hk; omega⟩⟩
    · rw [b1 c hc, v _ (by omega) (by omega), if_pos (by omega)]; decide
    · rw [b2 c hc, z _ (by omega) (by omega) (by omega)]; decide
    · rw [b3 c hc, z _ (by omega) (by omega) (by omega)]; decide
    · rw [c1, tb_0, z _ (by omega) (by omega) (by omega)]
      exact ⟨⟨fun u => absurd u (by decide), fun u => by omega⟩, Or.inl rfl⟩
    · rw [z _ (by omega) (by omega) (by omega)]; decide
    · rw [r3] at hk
      rw [show k = 0 by omega, c3, z _ (by omega) (by omega) (by omega)]
    · rw [r4] at ht; omega
    · rw [b4 a ha, tb_0, e11]
      exact ⟨fun u => absurd u (by decide), fun ⟨k, x, _⟩ => by have : k < 0 := x; omega⟩
    · rw [e11] at hk; omega
    · rw [c2, tb_0] at u; cases u
  · have z : ∀ j, j < 260 → j ≠ 2 → j ≠ 3 → pi g 420 j = 0 := fun j x y w => by
      rw [R j x]
      unfold bgv
      rw [if_neg (by decide), if_pos rfl, if_neg y, if_neg w]
    have r2 : pi g 420 2 = 5 := by rw [R 2 (by decide)]; rfl
    have r3 : pi g 420 3 = 1 := by rw [R 3 (by decide)]; rfl
    have r4 : pi g 420 4 = 0 := z 4 (by decide) (by decide) (by decide)
    show DR1 h g
    refine ⟨⟨⟨by rw [d1, z 0 (by decide) (by decide) (by decide)], by rw [d2, z 1 (by decide) (by decide) (by decide)], by rw [d3, r2], by rw [d4, r3], by rw [d5, r4]⟩, fun k hk => by rw [r4] at hk; omega, fun c hc => ?_, fun c d hc hd => ?_⟩, ?_⟩
    · rw [d6, tb_0, z _ (by omega) (by omega) (by omega)]
      exact ⟨fun u => absurd u (by decide), fun u => by omega⟩
    · rw [d7 c hc, tb_0, r4]
      exact ⟨fun u => absurd u (by decide), fun ⟨k, x, _⟩ => by omega⟩
    · refine ⟨by rw [z 0 (by decide) (by decide) (by decide)]; decide, by rw [z 1 (by decide) (by decide) (by decide)]; decide, by rw [r2]; decide, by rw [r3]; decide, by rw [r4]; decide, fun k hk => by rw [r4] at hk; omega, fun c hc => Or.inl (z _ (by omega) (by omega) (by omega))⟩
  · have r0 : pi g 420 0 = 0 := by rw [R 0 (by decide)]; rfl
    show DR2 h g
    exact ⟨⟨by rw [d8, r0], fun k hk => by rw [r0] at hk; omega⟩, by rw [r0]; decide, fun k hk => by rw [r0] at hk; omega⟩
theorem DC0_CA {h h' : pH} (a : CA h h') (d : DC0 h) : DC0 h' := by
  unfold DC0 at *
  rw [fr_fi a.1 (by decide), fr_fi a.1 (by decide), fr_fi a.1 (by decide), fr_fi a.1 (by decide), fr_fi a.1 (by decide), fr_fi a.1 (by decide), fr_fi a.1 (by decide), fr_fl a.1 (by decide), fr_fl a.1 (by decide), fr_fl a.1 (by decide), fr_fl a.1 (by decide)]
  exact d
theorem LIs_start {sr n : Nat} {B : Nat → Int} {h g : pH} (ht : sr < 3) (cb : CBx h B n) (e12 : pi h 279 12 = 0) (e3 : pi h 279 3 = 0) (e4 : pi h 279 4 = -1) (e8 : pi h 279 8 = sr) (e13 : pi h 279 13 = 0 ∧ pi h 279 14 = 0 ∧ pi h 279 15 = 0) (d : DC0 h) (mb : MB g B n) (m3 : pi g 417 3 = 0) (m8 : pi g 417 8 = 0) (m9 : pi g 417 9 = 0) (m11 : pi g 417 11 = 0) (m4 : pi g 418 4 = 0) (m5 : pi g 418 5 = -1) (R : ∀ j, j < 260 → pi g 420 j = bgv sr j) : ∃ h' g' s, pf_Re_advance h = some h' ∧ CA h h' ∧ pf_M_advance g = some g' ∧ MA g g' ∧ LIs sr (DRs sr) h' g' B n s 0 (-1) := by
  obtain ⟨h', a1, a2, a3⟩ := c_advance (p := 0) cb e12 (by omega)
  obtain ⟨g', b1, b2, b3⟩ := m_advance (p := 0) mb m3 (by omega)
  have eR : ∀ j, j < 260 → pi g' 420 j = bgv sr j := fun j hj => by rw [fr_i b2.1 (by decide)]; exact R j hj
  have c11 : pi g' 417 11 = 0 := by rw [b2.2 11 (by decide)]; exact m11
  have q13 : pi h' 279 13 = 0 := by rw [a2.2.1 13 (by decide)]; exact e13.1
  have q14 : pi h' 279 14 = 0 := by rw [a2.2.1 14 (by decide)]; exact e13.2.1
  have q15 : pi h' 279 15 = 0 := by rw [a2.2.1 15 (by decide)]; exact e13.2.2
  refine ⟨h', g', skb B n 0, a1, a2, b1, b2, a3, by rw [a2.2.1 3 (by decide)]; exact e3, by rw [a2.2.1 4 (by decide)]; exact e4, by rw [a2.2.1 8 (by decide)]; exact e8, Or.inl ⟨rfl, b3, by rw [b2.2 8 (by decide)]; exact m8, by rw [fr_i b2.1 (by decide)]; exact m4, by rw [fr_i b2.1 (by decide)]; exact m5, Or.inl ⟨rfl, rfl⟩⟩, ⟨by rw [q13]; omega, by rw [q14]; omega, by rw [q15]; omega, fun y => ?_, fun y => ?_, fun y => ?_, fun _ => q13, fun _ => q14, fun _ => q15⟩, fun _ => DR_start ht (DC0_CA a2 d) (by rw [b2.2 9 (by decide)]; exact m9) c11 eR⟩
  · rw [y] at eR
    rw [eR 4 (by decide), q13, c11]
    exact ⟨rfl, by decide, by omega⟩
  · rw [y] at eR
    rw [eR 4 (by decide), q14]; rfl
  · rw [y] at eR
    rw [eR 0 (by decide), q15]; rfl
