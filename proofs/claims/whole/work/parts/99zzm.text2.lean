/-! text, whole -/
def PLC (A : Nat → Int) (x1 x2 : Int) : Prop := (0 ≤ x1 ∧ x1 ≤ 2) ∧ ((x2 = -1 ∧ A x1.toNat < mxS x1.toNat) ∨ (x2 ≠ -1 ∧ 0 ≤ x2 ∧ x2 < A x1.toNat))
def G4 (g : pH) : pH := pwI (pwI (pwI (pwI g 417 2 (pi g 418 3)) 418 3 0) 418 4 0) 418 5 (-1)
theorem c_place {h : pH} {A : Nat → Int} {x1 x2 : Int} (o : OC h) (e : ∀ i : Nat, i < 3 → pi h 67 i = A i) : pf_I_hasPlace x1 x2 h = some (cif (PLC A x1 x2) 1 0) := by
  unfold pf_I_hasPlace
  by_cases y1 : x1 < 0
  · rw [if_pos y1, cif_f (fun v => by have := v.1.1; omega)]
  · rw [if_neg y1]
    by_cases y2 : x1 ≤ 2
    · rw [if_pos y2]
      obtain ⟨sr, rfl⟩ : ∃ sr : Nat, x1 = sr := ⟨x1.toNat, by omega⟩
      have ht : sr < 3 := by omega
      have om : pi h 2 sr = mxS sr := by
        unfold mxS
        rcases (show sr = 0 ∨ sr = 1 ∨ sr = 2 by omega) with rfl | rfl | rfl
        · exact o.1.1
        · exact o.1.2.1
        · exact o.1.2.2
      by_cases y3 : x2 = -1
      · rw [if_pos y3, gib (by omega) (by omega), gib (by omega) (by omega), Int.toNat_natCast, e sr ht, om]
        by_cases y4 : mxS sr ≤ A sr
        · rw [if_pos y4, cif_f (fun v => by
            rcases v.2 with v | v
            · have := v.2; rw [Int.toNat_natCast] at this; omega
            · exact v.1 y3)]
        · rw [if_neg y4, cif_t ⟨⟨by omega, y2⟩, Or.inl ⟨y3, by rw [Int.toNat_natCast]; omega⟩⟩]
      · rw [if_neg y3]
        unfold pf_To_has
        by_cases y4 : x2 < 0
        · rw [if_pos y4, bsm, cif_f (fun v => by
            rcases v.2 with v | v
            · exact y3 v.1
            · have := v.2.1; omega)]
          rfl
        · rw [if_neg y4, gib (by omega) (by omega), Int.toNat_natCast]
          have e' : pi h (65 + 2) sr = A sr := e sr ht
          rw [e']
          by_cases y5 : A sr ≤ x2
          · rw [if_pos y5, bsm, cif_f (fun v => by
              rcases v.2 with v | v
              · exact y3 v.1
              · have := v.2.2; rw [Int.toNat_natCast] at this; omega)]
            rfl
          · rw [if_neg y5, bsm, cif_t ⟨⟨by omega, y2⟩, Or.inr ⟨y3, by omega, by rw [Int.toNat_natCast]; omega⟩⟩]
            rfl
    · rw [if_neg y2, cif_f (fun v => y2 v.1.2)]
theorem m_place {g : pH} {A : Nat → Int} {x1 x2 : Int} (e : ∀ i : Nat, i < 3 → pi g 418 i = A i) (rA : ∀ i : Nat, i < 3 → 0 ≤ A i ∧ A i ≤ 3) : pf_M_text x1 x2 g = cif (PLC A x1 x2) (pj_M_text_79 x1 x2 (G4 g)) (some (-2, G4 g)) := by
  have eG : ∀ i : Nat, i < 3 → pi (G4 g) 418 i = A i := fun i hi => by
    unfold G4
    rw [pi_wIi (by omega), pi_wIi (by omega), pi_wIi (by omega), pi_wIa (by decide)]
    exact e i hi
  unfold pf_M_text
  show (pf_M_isIn x1 0 2 (G4 g)).bind _ = _
  rw [m_isIn, bsm, if1]
  by_cases y : 0 ≤ x1 ∧ x1 ≤ 2
  · rw [if_pos y]
    obtain ⟨sr, rfl⟩ : ∃ sr : Nat, x1 = sr := ⟨x1.toNat, by omega⟩
    have ht : sr < 3 := by omega
    by_cases y3 : x2 = -1
    · rw [if_pos y3, gib (by omega) (by omega)]
      have s61 : ∀ m : Int, m = mxS sr → pj_M_text_61 sr x2 (pi (G4 g) 418 (Int.toNat sr)) m (G4 g) = cif (PLC A sr x2) (pj_M_text_79 sr x2 (G4 g)) (some (-2, G4 g)) := fun m hm => by
        unfold pj_M_text_61
        rw [Int.toNat_natCast, eG sr ht, hm]
        by_cases y4 : A sr < mxS sr
        · rw [if_pos y4, cif_t ⟨y, Or.inl ⟨y3, by rw [Int.toNat_natCast]; exact y4⟩⟩]
        · rw [if_neg y4, cif_f (fun v => by
            rcases v.2 with v | v
            · have := v.2; rw [Int.toNat_natCast] at this; omega
            · exact v.1 y3)]
      by_cases y5 : (sr : Int) = 2
      · rw [if_pos y5]; exact s61 3 (by unfold mxS; rw [if_pos (by omega)])
      · rw [if_neg y5]; exact s61 2 (by unfold mxS; rw [if_neg (by omega)])
    · rw [if_neg y3]
      show (pf_M_isOf sr x2 (G4 g)).bind _ = _
      have ra := rA sr ht
      unfold pf_M_isOf
      rw [gib (by omega) (by omega), Int.toNat_natCast, eG sr ht, wr_eq (by omega) (by omega), m_isIn, bsm, gz1, bsm, if1]
      by_cases y4 : 0 ≤ x2 ∧ x2 ≤ A sr - 1
      · rw [if_pos y4, cif_t ⟨y, Or.inr ⟨y3, y4.1, by rw [Int.toNat_natCast]; omega⟩⟩]
        rfl
      · rw [if_neg y4, cif_f (fun v => by
          rcases v.2 with v | v
          · exact y3 v.1
          · have := v.2; rw [Int.toNat_natCast] at this; omega)]
        rfl
  · rw [if_neg y, cif_f (fun v => y v.1)]
    rfl
theorem INV_of {h z : pH} (I : INV h) (T : TR z 65 (pi z 418)) (f : fr (fun b => b ≤ 117 ∨ (279 ≤ b ∧ b ≤ 302) ∨ b = 417 ∨ b = 418 ∨ b = 420 ∨ b = 421) h z) (e17 : ∀ j, 16 ≤ j → j < 20 → pi z 417 j = pi h 417 j) (e18 : ∀ j, 1632 ≤ j → pi z 418 j = pi h 418 j) : INV z := by
  obtain ⟨_, ⟨⟨m1, m2, m3, m4⟩, m5⟩, im⟩ := I
  refine ⟨T, ⟨⟨by rw [e17 16 (by decide) (by decide)]; exact m1, by rw [e17 17 (by decide) (by decide)]; exact m2, by rw [e17 18 (by decide) (by decide)]; exact m3, by rw [e17 19 (by decide) (by decide)]; exact m4⟩, fun c hc => by rw [fr_i f (by omega)]; exact m5 c hc⟩, fun k hk => ?_⟩
  obtain ⟨i1, i2, i3⟩ := im k hk
  rw [fr_fi f (a := 278) (by omega), fr_fi f (a := 419) (by omega)]
  refine ⟨i1, i2, fun y => ?_⟩
  have e : (fun j => pi z 418 (1632 * (k + 1) + j)) = (fun j => pi h 418 (1632 * (k + 1) + j)) := funext fun j => e18 _ (by omega)
  rw [e]
  exact TR_fr (i3 y) f (fun i hi v => by omega)
/-- what is told behind a text; N: what is new -/
theorem TR_upd {h z : pH} {F : Nat → Prop} (N : Nat → Nat → Prop) (R : TR h 65 (pi h 418)) (f : fr F h z) (e3 : pi z 418 3 = 0) (e65 : pi z 65 1 = 0 ∧ pi z 65 2 = pi z 418 4 ∧ pi z 65 3 = pi z 418 5) (cnt : ∀ i : Nat, i < 3 → pi z 67 i = pi z 418 i ∧ 0 ≤ pi z 418 i ∧ pi z 418 i ≤ mxS i)
    (old : ∀ sr i : Nat, sr < 3 → (i : Int) < pi z 418 sr → ¬ N sr i → (i : Int) < pi h 418 sr) (same : ∀ sr i j : Nat, sr < 3 → (i : Int) < mxS sr → ¬ N sr i → j < lnS sr → pi z 418 (bse sr i + j) = pi h 418 (bse sr i + j))
    (av0 : ∀ i j : Nat, (i : Int) < 2 → ¬ N 0 i → j ≤ 11 → ¬ F (69 + 12 * i + j)) (av1 : ∀ i j : Nat, (i : Int) < 2 → ¬ N 1 i → j ≤ 3 → ¬ F (94 + 4 * i + j)) (av2 : ∀ i j : Nat, (i : Int) < 3 → ¬ N 2 i → j ≤ 4 → ¬ F (103 + 5 * i + j))
    (n0 : ∀ i, N 0 i → LR z (69 + 12 * i) (lk (pi z 418) i) ∧ LK (lk (pi z 418) i)) (n1 : ∀ i, N 1 i → WR z (94 + 4 * i) (lw (pi z 418) i) ∧ WK (lw (pi z 418) i)) (n2 : ∀ i, N 2 i → PR z (103 + 5 * i) (pn (pi z 418) i) ∧ PK (pn (pi z 418) i)) : TR z 65 (pi z 418) := by
  obtain ⟨a0, a1, a2, a3, a4, a5, a6⟩ := R
  have c0 := cnt 0 (by decide)
  have c1 := cnt 1 (by decide)
  have c2 := cnt 2 (by decide)
  have x0 : mxS 0 = 2 := rfl
  have x1 : mxS 1 = 2 := rfl
  have x2 : mxS 2 = 3 := rfl
  rw [x0] at c0
  rw [x1] at c1
  rw [x2] at c2
  refine ⟨⟨c0.2, c1.2, c2.2⟩, ⟨c0.1, c1.1, c2.1⟩, ⟨⟨by rw [e3]; exact e65.1, e65.2.1, e65.2.2⟩, by rw [e3]; decide⟩, fun i hi => by rw [e3] at hi; omega, fun i hi => ?_, fun i hi => ?_, fun i hi => ?_⟩
  · rcases Classical.em (N 0 i) with u | u
    · exact n0 i u
    · obtain ⟨r, k⟩ := a4 i (old 0 i (by decide) hi u)
      have e : ∀ j, j < 260 → lk (pi z 418) i j = lk (pi h 418) i j := fun j hj => same 0 i j (by decide) (by rw [x0]; omega) u hj
      exact ⟨LR_ext e k (LR_fr r f (fun j hj v => av0 i j (by omega) u hj v)), LK_ext e k⟩
  · rcases Classical.em (N 1 i) with u | u
    · exact n1 i u
    · obtain ⟨r, k⟩ := a5 i (old 1 i (by decide) hi u)
      have e : ∀ j, j < 68 → lw (pi z 418) i j = lw (pi h 418) i j := fun j hj => same 1 i j (by decide) (by rw [x1]; omega) u hj
      exact ⟨WR_ext e k (WR_fr r f (fun j hj v => av1 i j (by omega) u hj v)), WK_ext e k⟩
  · rcases Classical.em (N 2 i) with u | u
    · exact n2 i u
    · obtain ⟨r, k⟩ := a6 i (old 2 i (by decide) hi u)
      have e : ∀ j, j < 122 → pn (pi z 418) i j = pn (pi h 418) i j := fun j hj => same 2 i j (by decide) (by rw [x2]; omega) u hj
      refine ⟨PR_ext e k ?_, PK_ext e k⟩
      have b : ∀ j, j ≤ 4 → pi z (103 + 5 * i + j) = pi h (103 + 5 * i + j) := fun j hj => fr_fi f (av2 i j (by omega) u hj)
      have r : PR h (103 + 5 * i) (pn (pi h 418) i) := r
      unfold PR at *
      have b0 : pi z (103 + 5 * i) = pi h (103 + 5 * i) := b 0 (by decide)
      rw [b0, b 1 (by decide), b 2 (by decide), b 3 (by decide), b 4 (by decide)]
      exact r
