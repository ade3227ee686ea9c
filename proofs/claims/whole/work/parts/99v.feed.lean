/-! feed -/
theorem INV_tape {h h' : pH} {T : Int} (I : INV h) (f : fr (fun b => b = 65 ∨ b = 66 ∨ b = 418) h h') (e8 : ∀ j, j ≠ 3 → (j < 10 ∨ 610 ≤ j) → pi h' 418 j = pi h 418 j) (e83 : pi h' 418 3 = T) (e5 : ∀ j, j ≠ 1 → pi h' 65 j = pi h 65 j) (e51 : pi h' 65 1 = T) (t0 : 0 ≤ T ∧ T ≤ 600) (tp : ∀ i : Nat, (i : Int) < T → (-128 ≤ pi h' 66 i ∧ pi h' 66 i ≤ 127) ∧ pi h' 418 (10 + i) = pi h' 66 i % 256) : INV h' := by
  obtain ⟨R, mi, im⟩ := I
  have elk : ∀ i, lk (pi h' 418) i = lk (pi h 418) i := fun i => funext fun j => e8 _ (by omega) (by omega)
  have elw : ∀ i, lw (pi h' 418) i = lw (pi h 418) i := fun i => funext fun j => e8 _ (by omega) (by omega)
  have epn : ∀ i, pn (pi h' 418) i = pn (pi h 418) i := fun i => funext fun j => e8 _ (by omega) (by omega)
  obtain ⟨a0, a1, ⟨⟨a2, a3, a4⟩, a5⟩, a6, a7, a8, a9⟩ := R
  refine ⟨⟨?_, ?_, ⟨⟨by rw [e51, e83], by rw [e5 2 (by decide), e8 4 (by decide) (by decide)]; exact a3, by rw [e5 3 (by decide), e8 5 (by decide) (by decide)]; exact a4⟩, by rw [e83]; exact t0⟩, fun i hi => ?_, fun i hi => ?_, fun i hi => ?_, fun i hi => ?_⟩, ?_, fun k hk => ?_⟩
  · rw [e8 0 (by decide) (by decide), e8 1 (by decide) (by decide), e8 2 (by decide) (by decide)]; exact a0
  · rw [e8 0 (by decide) (by decide), e8 1 (by decide) (by decide), e8 2 (by decide) (by decide), fr_i f (by omega), fr_i f (by omega), fr_i f (by omega)]; exact a1
  · rw [e83] at hi
    exact tp i hi
  · rw [e8 0 (by decide) (by decide)] at hi
    rw [elk]
    exact ⟨LR_fr (a7 i hi).1 f (fun j hj y => by have := a0.1; omega), (a7 i hi).2⟩
  · rw [e8 1 (by decide) (by decide)] at hi
    rw [elw]
    exact ⟨WR_fr (a8 i hi).1 f (fun j hj y => by have := a0.2.1; omega), (a8 i hi).2⟩
  · rw [e8 2 (by decide) (by decide)] at hi
    rw [epn]
    obtain ⟨b1, b2⟩ := a9 i hi
    refine ⟨?_, b2⟩
    have := a0.2.2
    unfold PR at *
    rw [fr_fi f (by omega), fr_fi f (by omega), fr_fi f (by omega), fr_fi f (by omega), fr_fi f (by omega)]
    exact b1
  · unfold MI at *
    rw [fr_fi f (by omega), fr_fi f (by omega)]
    exact mi
  · obtain ⟨c1, c2, c3⟩ := im k hk
    rw [fr_fi f (show ¬ (278 = 65 ∨ 278 = 66 ∨ 278 = 418) by decide), fr_fi f (show ¬ (419 = 65 ∨ 419 = 66 ∨ 419 = 418) by decide)]
    refine ⟨c1, c2, fun y => ?_⟩
    have eA : (fun j => pi h' 418 (1632 * (k + 1) + j)) = fun j => pi h 418 (1632 * (k + 1) + j) := funext fun j => e8 _ (by omega) (by omega)
    rw [eA]
    exact TR_fr (c3 y) f (fun i hi y => by omega)
def byt (x s : Int) : Int := pvb (p8 (push x s))
theorem c_tapeNumber {h : pH} {x : Int} {T : Nat} (eT : pi h 65 1 = T) (hT : T ≤ 596) : ∃ h', pf_To_tapeNumber 65 x h = some h' ∧ fr (fun b => b = 65 ∨ b = 66) h h' ∧ pi h' 65 1 = ((T + 4 : Nat) : Int) ∧ (∀ j, j ≠ 1 → pi h' 65 j = pi h 65 j) ∧ (∀ b : Nat, b < 4 → pi h' 66 (T + b) = byt x (24 - 8 * b)) ∧ ∀ i, i < T → pi h' 66 i = pi h 66 i := by
  unfold pf_To_tapeNumber
  refine lpf (F := fun n (i : Nat) t => pl_To_tapeNumber_3 65 x (fun h => some h) n (24 - 8 * (i : Int)) t) (Q := fun r => ∃ h', r = some h' ∧ fr (fun b => b = 65 ∨ b = 66) h h' ∧ pi h' 65 1 = ((T + 4 : Nat) : Int) ∧ (∀ j, j ≠ 1 → pi h' 65 j = pi h 65 j) ∧ (∀ b : Nat, b < 4 → pi h' 66 (T + b) = byt x (24 - 8 * b)) ∧ ∀ i, i < T → pi h' 66 i = pi h 66 i) 4 (fun i t => fr (fun b => b = 65 ∨ b = 66) h t ∧ pi t 65 1 = ((T + i : Nat) : Int) ∧ (∀ j, j ≠ 1 → pi t 65 j = pi h 65 j) ∧ (∀ b : Nat, b < i → pi t 66 (T + b) = byt x (24 - 8 * b)) ∧ ∀ i, i < T → pi t 66 i = pi h 66 i) ?_ ?_ fu_ 0 h (by omega) (by unfold fu_; omega) ⟨fr_refl, eT, fun _ _ => rfl, fun b hb => absurd hb (Nat.not_lt_zero _), fun _ _ => rfl⟩
  · intro n i t hi ⟨f, e1, e2, e3, e4⟩
    right
    refine ⟨pwI (pwI t 65 1 ((T + (i + 1) : Nat) : Int)) 66 (T + i) (byt x (24 - 8 * i)), ?_, fr_wI (fr_wI f (Or.inl rfl)) (Or.inr rfl), by rw [pi_wIa (by decide), pi_wIs], fun j hj => by rw [pi_wIa (by decide), pi_wIi hj]; exact e2 j hj, fun b hb => ?_, fun j hj => by rw [pi_wIi (by omega), pi_wIa (by decide)]; exact e4 j hj⟩
    · show pl_To_tapeNumber_3 65 x (fun h => some h) (n + 1) (24 - 8 * (i : Int)) t = pl_To_tapeNumber_3 65 x (fun h => some h) n (24 - 8 * ((i + 1 : Nat) : Int)) _
      rw [pl_To_tapeNumber_3, if_neg (by omega), e1, if_neg (by omega), gib (by omega) (by omega), wr_eq (x := 24 - 8 * (i : Int) + -8) (by omega) (by omega), wr_eq (x := ((T + i : Nat) : Int) + 1) (by omega) (by omega), Int.toNat_natCast, show 24 - 8 * (i : Int) + -8 = 24 - 8 * ((i + 1 : Nat) : Int) by omega, show ((T + i : Nat) : Int) + 1 = ((T + (i + 1) : Nat) : Int) by omega]
      rfl
    · by_cases y : b = i
      · rw [y, pi_wIs]
      · rw [pi_wIi (by omega), pi_wIa (by decide)]; exact e3 b (by omega)
  · intro n t ⟨f, e1, e2, e3, e4⟩
    refine ⟨t, ?_, f, e1, e2, e3, e4⟩
    show pl_To_tapeNumber_3 65 x (fun h => some h) (n + 1) (24 - 8 * ((4 : Nat) : Int)) t = _
    rw [pl_To_tapeNumber_3, if_pos (by omega)]
/-- which of the five numbers -/
def five (x1 x2 x3 x4 x5 : Int) (i : Nat) : Int := if 4 ≤ i then (if 8 ≤ i then (if 12 ≤ i then (if 16 ≤ i then x5 else x4) else x3) else x2) else x1
theorem m_feed {h : pH} {x1 x2 x3 x4 x5 : Int} {T : Nat} (eT : pi h 418 3 = T) (hT : T ≤ 580) : ∃ h', pl_M_feed_20 x1 x2 x3 x4 x5 (fun h => some (pi h 418 3, h)) fu_ 0 h = some (((T + 20 : Nat) : Int), h') ∧ fr (fun b => b = 418) h h' ∧ pi h' 418 3 = ((T + 20 : Nat) : Int) ∧ (∀ b : Nat, b < 20 → pi h' 418 (10 + T + b) = pand (pshr (five x1 x2 x3 x4 x5 b) (24 - 8 * ((b % 4 : Nat) : Int))) 255) ∧ ∀ j, j ≠ 3 → (j < 10 + T ∨ 610 ≤ j) → pi h' 418 j = pi h 418 j := by
  refine lpf (F := fun n (i : Nat) t => pl_M_feed_20 x1 x2 x3 x4 x5 (fun h => some (pi h 418 3, h)) n i t) (Q := fun r => ∃ h', r = some (((T + 20 : Nat) : Int), h') ∧ fr (fun b => b = 418) h h' ∧ pi h' 418 3 = ((T + 20 : Nat) : Int) ∧ (∀ b : Nat, b < 20 → pi h' 418 (10 + T + b) = pand (pshr (five x1 x2 x3 x4 x5 b) (24 - 8 * ((b % 4 : Nat) : Int))) 255) ∧ ∀ j, j ≠ 3 → (j < 10 + T ∨ 610 ≤ j) → pi h' 418 j = pi h 418 j) 20 (fun i t => fr (fun b => b = 418) h t ∧ pi t 418 3 = ((T + i : Nat) : Int) ∧ (∀ b : Nat, b < i → pi t 418 (10 + T + b) = pand (pshr (five x1 x2 x3 x4 x5 b) (24 - 8 * ((b % 4 : Nat) : Int))) 255) ∧ ∀ j, j ≠ 3 → (j < 10 + T ∨ 610 ≤ j) → pi t 418 j = pi h 418 j) ?_ ?_ fu_ 0 h (by omega) (by unfold fu_; omega) ⟨fr_refl, eT, fun b hb => absurd hb (Nat.not_lt_zero _), fun _ _ _ => rfl⟩
  · intro n i t hi ⟨f, e1, e2, e3⟩
    right
    have e0 : pl_M_feed_20 x1 x2 x3 x4 x5 (fun h => some (pi h 418 3, h)) (n + 1) i t = pj_M_feed_73 x1 x2 x3 x4 x5 (pl_M_feed_20 x1 x2 x3 x4 x5 (fun h => some (pi h 418 3, h)) n) (fun h => some (pi h 418 3, h)) i (five x1 x2 x3 x4 x5 i) t := by
      rw [pl_M_feed_20, if_neg (by omega)]
      unfold five
      by_cases q1 : 4 ≤ i
      · rw [if_pos (show (4 : Int) ≤ i by omega), if_pos q1]
        by_cases q2 : 8 ≤ i
        · rw [if_pos (show (8 : Int) ≤ i by omega), if_pos q2]
          by_cases q3 : 12 ≤ i
          · rw [if_pos (show (12 : Int) ≤ i by omega), if_pos q3]
            by_cases q4 : 16 ≤ i
            · rw [if_pos (show (16 : Int) ≤ i by omega), if_pos q4]
            · rw [if_neg (show ¬ (16 : Int) ≤ i by omega), if_neg q4]
          · rw [if_neg (show ¬ (12 : Int) ≤ i by omega), if_neg q3]
        · rw [if_neg (show ¬ (8 : Int) ≤ i by omega), if_neg q2]
      · rw [if_neg (show ¬ (4 : Int) ≤ i by omega), if_neg q1]
    refine ⟨pwI (pwI t 418 (10 + T + i) (pand (pshr (five x1 x2 x3 x4 x5 i) (24 - 8 * ((i % 4 : Nat) : Int))) 255)) 418 3 ((T + (i + 1) : Nat) : Int), ?_, fr_wI (fr_wI f rfl) rfl, by rw [pi_wIs], fun b hb => ?_, fun j hj hr => by rw [pi_wIi hj, pi_wIi (by omega)]; exact e3 j hj hr⟩
    · show pl_M_feed_20 x1 x2 x3 x4 x5 (fun h => some (pi h 418 3, h)) (n + 1) i t = _
      rw [e0, pj_M_feed_73, e1, wr_eq (x := 10 + ((T + i : Nat) : Int)) (by omega) (by omega), gib (by omega) (by omega), tm_p (by omega), wr_eq (x := 8 * ((i : Int) % 4)) (by omega) (by omega), wr_eq (x := 24 - 8 * ((i : Int) % 4)) (by omega) (by omega), show (10 + ((T + i : Nat) : Int)).toNat = 10 + T + i by omega, pi_wIi (by omega), e1, wr_eq (x := ((T + i : Nat) : Int) + 1) (by omega) (by omega), wr_eq (x := (i : Int) + 1) (by omega) (by omega), show ((T + i : Nat) : Int) + 1 = ((T + (i + 1) : Nat) : Int) by omega, show (i : Int) % 4 = ((i % 4 : Nat) : Int) by omega]
      rfl
    · rw [pi_wIi (by omega)]
      by_cases y : b = i
      · rw [y, pi_wIs]
      · rw [pi_wIi (by omega)]; exact e2 b (by omega)
  · intro n t ⟨f, e1, e2, e3⟩
    refine ⟨t, ?_, f, e1, e2, e3⟩
    show pl_M_feed_20 x1 x2 x3 x4 x5 (fun h => some (pi h 418 3, h)) (n + 1) (20 : Nat) t = _
    rw [pl_M_feed_20, if_pos (by omega), e1]
theorem p_feed {x1 x2 x3 x4 x5 : Int} : keeps (pf_I_feed x1 x2 x3 x4 x5) (pf_M_feed x1 x2 x3 x4 x5) := by
  intro h I
  have R := I.1
  have e3 : pi h 65 1 = pi h 418 3 := R.2.2.1.1.1
  have t0 := R.2.2.1.2
  obtain ⟨T, hT⟩ : ∃ T : Nat, pi h 418 3 = T := ⟨(pi h 418 3).toNat, by omega⟩
  have hT1 : pi h 65 1 = T := by omega
  unfold pf_I_feed pf_M_feed
  by_cases q1 : T ≤ 580
  · obtain ⟨h1, a1, a2, a3, a4, a5, a6⟩ := c_tapeNumber (x := x1) hT1 (by omega)
    obtain ⟨h2, b1, b2, b3, b4, b5, b6⟩ := c_tapeNumber (x := x2) a3 (by omega)
    obtain ⟨h3, c1, c2, c3, c4, c5, c6⟩ := c_tapeNumber (x := x3) b3 (by omega)
    obtain ⟨h4, d1, d2, d3, d4, d5, d6⟩ := c_tapeNumber (x := x4) c3 (by omega)
    obtain ⟨h5, g1, g2, g3, g4, g5, g6⟩ := c_tapeNumber (x := x5) d3 (by omega)
    have fc : fr (fun b => b = 65 ∨ b = 66) h h5 := fr_trans a2 (fr_trans b2 (fr_trans c2 (fr_trans d2 g2)))
    obtain ⟨h6, m1, m2, m3, m4, m5⟩ := m_feed (h := h5) (x1 := x1) (x2 := x2) (x3 := x3) (x4 := x4) (x5 := x5) (T := T) (by rw [fr_i fc (by omega)]; exact hT) q1
    refine ⟨((T + 20 : Nat) : Int), h5, h6, ?_, ?_, ?_⟩
    · rw [hT1, wr_eq (by omega) (by omega), if_pos (by omega), a1, bsm, b1, bsm, c1, bsm, d1, bsm, g1, bsm, g3]
    · rw [fr_i fc (by omega), hT, wr_eq (by omega) (by omega), if_pos (by omega)]
      exact m1
    · refine INV_tape (T := ((T + 20 : Nat) : Int)) I (fr_trans (fr_mono fc (fun b hb => by omega)) (fr_mono m2 (fun b hb => by omega))) (fun j j1 j2 => by rw [m5 j j1 (by omega), fr_i fc (by omega)]) m3 (fun j hj => by rw [fr_i m2 (by omega), g4 j hj, d4 j hj, c4 j hj, b4 j hj, a4 j hj]) (by rw [fr_i m2 (by omega)]; exact g3) (by omega) (fun i hi => ?_)
      have e66 : pi h6 66 i = pi h5 66 i := fr_i m2 (by omega)
      rw [e66]
      rcases Nat.lt_or_ge i T with y | y
      · rw [g6 i (by omega), d6 i (by omega), c6 i (by omega), b6 i (by omega), a6 i y, m5 (10 + i) (by omega) (by omega), fr_i fc (by omega)]
        exact R.2.2.2.1 i (by omega)
      · obtain ⟨b, rfl⟩ : ∃ b, i = T + b := ⟨i - T, by omega⟩
        have key : pi h5 66 (T + b) = byt (five x1 x2 x3 x4 x5 b) (24 - 8 * ((b % 4 : Nat) : Int)) := by
          unfold five
          by_cases q1 : 4 ≤ b
          · rw [if_pos q1]
            by_cases q2 : 8 ≤ b
            · rw [if_pos q2]
              by_cases q3 : 12 ≤ b
              · rw [if_pos q3]
                by_cases q4 : 16 ≤ b
                · rw [if_pos q4, show T + b = T + 4 + 4 + 4 + 4 + (b % 4) by omega]; exact g5 (b % 4) (by omega)
                · rw [if_neg q4, g6 _ (by omega), show T + b = T + 4 + 4 + 4 + (b % 4) by omega]; exact d5 (b % 4) (by omega)
              · rw [if_neg q3, g6 _ (by omega), d6 _ (by omega), show T + b = T + 4 + 4 + (b % 4) by omega]; exact c5 (b % 4) (by omega)
            · rw [if_neg q2, g6 _ (by omega), d6 _ (by omega), c6 _ (by omega), show T + b = T + 4 + (b % 4) by omega]; exact b5 (b % 4) (by omega)
          · rw [if_neg q1, g6 _ (by omega), d6 _ (by omega), c6 _ (by omega), b6 _ (by omega), show T + b = T + (b % 4) by omega]; exact a5 (b % 4) (by omega)
        have bs := by_s (x := five x1 x2 x3 x4 x5 b) (s := 24 - 8 * ((b % 4 : Nat) : Int)) (by omega)
        rw [key, show 10 + (T + b) = 10 + T + b by omega, m4 b (by omega)]
        exact ⟨bs.2, bs.1.symm⟩
  · refine ⟨-1, h, h, ?_, ?_, I⟩
    · rw [hT1, wr_eq (by omega) (by omega), if_neg (by omega)]
    · rw [hT, wr_eq (by omega) (by omega), if_neg (by omega)]
