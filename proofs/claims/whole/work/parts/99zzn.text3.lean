/-! text: the promise -/
theorem G4_r {u : pH} : pi (G4 u) 417 2 = pi u 418 3 ∧ pi (G4 u) 418 3 = 0 ∧ pi (G4 u) 418 4 = 0 ∧ pi (G4 u) 418 5 = -1 ∧ (∀ j, j ≠ 3 → j ≠ 4 → j ≠ 5 → pi (G4 u) 418 j = pi u 418 j) ∧ (∀ j, j ≠ 2 → pi (G4 u) 417 j = pi u 417 j) ∧ fr (fun b => b = 417 ∨ b = 418) u (G4 u) := by
  unfold G4
  refine ⟨by rw [pi_wIa (by decide), pi_wIa (by decide), pi_wIa (by decide), pi_wIs], by rw [pi_wIi (by decide), pi_wIi (by decide), pi_wIs], by rw [pi_wIi (by decide), pi_wIs], pi_wIs, fun j a b c => by rw [pi_wIi c, pi_wIi b, pi_wIi a, pi_wIa (by decide)], fun j a => by rw [pi_wIa (by decide), pi_wIa (by decide), pi_wIa (by decide), pi_wIi a], fr_wI (fr_wI (fr_wI (fr_wI fr_refl (Or.inl rfl)) (Or.inr rfl)) (Or.inr rfl)) (Or.inr rfl)⟩
theorem GOT_fr {sr : Nat} {h h' g : pH} (G : GOT sr h g) (f : fr (fun b => b = 67) h h') : GOT sr h' g := by
  refine ⟨fun v => ⟨LR_fr (G.1 v).1 f (fun i hi y => by omega), (G.1 v).2⟩, fun v => ⟨WR_fr (G.2.1 v).1 f (fun i hi y => by omega), (G.2.1 v).2⟩, fun v => ⟨?_, (G.2.2 v).2⟩⟩
  have r := (G.2.2 v).1
  unfold PR at *
  rw [fr_fi f (by omega), fr_fi f (by omega), fr_fi f (by omega), fr_fi f (by omega), fr_fi f (by omega)]
  exact r
theorem bse_dis {sr i sr' k j : Nat} (h1 : sr < 3) (h2 : sr' < 3) (i1 : (i : Int) < mxS sr) (k1 : (k : Int) < mxS sr') (hj : j < lnS sr) (ne : ¬ (sr = sr' ∧ i = k)) : ¬ (bse sr' k ≤ bse sr i + j ∧ bse sr i + j < bse sr' k + lnS sr') ∧ 610 ≤ bse sr i + j ∧ bse sr i + j < 1632 := by
  have ne' : sr ≠ sr' ∨ i ≠ k := by omega
  clear ne
  unfold bse lnS mxS at *
  rcases (show sr = 0 ∨ sr = 1 ∨ sr = 2 by omega) with rfl | rfl | rfl <;> rcases (show sr' = 0 ∨ sr' = 1 ∨ sr' = 2 by omega) with rfl | rfl | rfl <;> simp only [Nat.reduceEqDiff, if_true, if_false, reduceIte] at i1 k1 hj ⊢ <;> omega
theorem p_text {x1 x2 : Int} {h : pH} (o : OC h) (I : INV h) : ∃ r h1 h2, pf_I_text x1 x2 h = some (r, h1) ∧ pf_M_text x1 x2 h1 = some (r, h2) ∧ INV h2 := by
  have R := I.1
  obtain ⟨a0, a1, ⟨⟨b1, b2, b3⟩, b4⟩, a3, _⟩ := I.1
  generalize eH : pwI (pwI (pwI h 65 1 0) 65 2 0) 65 3 (-1) = H0
  have fH : fr (fun b => b = 65) h H0 := by rw [← eH]; exact fr_wI (fr_wI (fr_wI fr_refl rfl) rfl) rfl
  have H1 : pi H0 65 1 = 0 ∧ pi H0 65 2 = 0 ∧ pi H0 65 3 = -1 := by
    rw [← eH]
    exact ⟨by rw [pi_wIi (by decide), pi_wIi (by decide), pi_wIs], by rw [pi_wIi (by decide), pi_wIs], pi_wIs⟩
  have oH : OC H0 := by
    unfold OC at *
    rw [fr_fi fH (by decide), fr_fi fH (by decide)]
    exact o
  have rA : ∀ i : Nat, i < 3 → 0 ≤ pi h 418 i ∧ pi h 418 i ≤ mxS i := fun i hi => by
    rcases (show i = 0 ∨ i = 1 ∨ i = 2 by omega) with rfl | rfl | rfl
    · exact a0.1
    · exact a0.2.1
    · exact a0.2.2
  have rA3 : ∀ i : Nat, i < 3 → 0 ≤ pi h 418 i ∧ pi h 418 i ≤ 3 := fun i hi => by
    have := rA i hi
    unfold mxS at this
    split at this <;> omega
  have h67 : ∀ i : Nat, i < 3 → pi h 67 i = pi h 418 i := fun i hi => by
    rcases (show i = 0 ∨ i = 1 ∨ i = 2 by omega) with rfl | rfl | rfl
    · exact a1.1
    · exact a1.2.1
    · exact a1.2.2
  have cp := c_place (A := pi h 418) (x1 := x1) (x2 := x2) oH (fun i hi => by rw [fr_i fH (by decide)]; exact h67 i hi)
  have hI : pf_I_text x1 x2 h = (pf_I_hasPlace x1 x2 H0).bind fun v1 => (if v1 = 0 then (some ((-2), H0)) else ((pf_Re_read 66 (pi h 65 1) x1 H0).bind fun v2 => (if v2.1 = 0 then (some ((-1), pwI (pwI v2.2 65 2 (pi v2.2 279 3)) 65 3 (pi (pwI v2.2 65 2 (pi v2.2 279 3)) 279 4))) else (if x2 = ((-1)) then (ia_gd (pib x1 3) (ia_gd (pib x1 3) (pj_I_text_116 x1 x2 (pi v2.2 67 (Int.toNat x1)) (pwI v2.2 67 (Int.toNat x1) (wr ((pi v2.2 67 (Int.toNat x1)) + 1)))))) else (pj_I_text_116 x1 x2 x2 v2.2))))) := by
    unfold pf_I_text
    rw [eH]
  rw [cp, bsm] at hI
  rcases Classical.em (PLC (pi h 418) x1 x2) with P | P
  · rw [cif_t P, if_neg (by decide)] at hI
    obtain ⟨sr, rfl⟩ : ∃ sr : Nat, x1 = sr := ⟨x1.toNat, by have := P.1; omega⟩
    have ht : sr < 3 := by have := P.1; omega
    obtain ⟨n, en⟩ : ∃ n : Nat, pi h 418 3 = n := ⟨(pi h 418 3).toNat, by omega⟩
    have n6 : n ≤ 600 := by omega
    rw [b1, en] at hI
    -- the readings, for any heap of the same row 418
    have rd : ∀ u, pi u 418 = pi h 418 → ∃ r h' g', pf_Re_read 66 n sr H0 = some (r, h') ∧ fr (fun b => 279 ≤ b ∧ b ≤ 302) H0 h' ∧ FMT (G4 u) g' ∧ ((r = 0 ∧ pj_M_text_79 sr x2 (G4 u) = some (-1, g') ∧ pi h' 279 3 = pi g' 418 4 ∧ pi h' 279 4 = pi g' 418 5) ∨ (r = 1 ∧ pj_M_text_79 sr x2 (G4 u) = pj_M_text_171 sr x2 g' ∧ pi g' 418 4 = 0 ∧ pi g' 418 5 = -1 ∧ GOT sr h' g')) := fun u eu => by
      obtain ⟨q1, q2, q3, q4, q5, q6, q7⟩ := G4_r (u := u)
      refine read_both (B := fun i => pi h 66 i % 256) ht oH n6 (fun i hi => ?_) (by rw [q1, eu]; exact en) (fun i hi => ?_) q3 q4
      · rw [fr_i fH (by decide)]
        exact ⟨(a3 i (by rw [en]; omega)).1, rfl⟩
      · rw [q5 _ (by omega) (by omega) (by omega), eu]
        exact ⟨(a3 i (by rw [en]; omega)).2, by omega, by omega⟩
    obtain ⟨r, h', g0, c1, c2, _, c4⟩ := rd h rfl
    rw [c1, bsm] at hI
    simp only [] at hI
    have mt : ∀ u, pi u 418 = pi h 418 → pf_M_text sr x2 u = pj_M_text_79 sr x2 (G4 u) := fun u eu => by
      rw [m_place (A := pi h 418) (fun i _ => by rw [eu]) rA3, cif_t P]
    have FX : fr (fun b => b = 65 ∨ (279 ≤ b ∧ b ≤ 302)) h h' := fr_trans (fr_mono fH (fun b hb => Or.inl hb)) (fr_mono c2 (fun b hb => Or.inr hb))
    rcases c4 with ⟨r0, _⟩ | ⟨r1, _, _, _, got0⟩
    · -- a fault
      rw [if_pos r0] at hI
      generalize eh1 : pwI (pwI h' 65 2 (pi h' 279 3)) 65 3 (pi (pwI h' 65 2 (pi h' 279 3)) 279 4) = h1 at hI
      have F1 : fr (fun b => b = 65) h' h1 := by rw [← eh1]; exact fr_wI (fr_wI fr_refl rfl) rfl
      have e418 : pi h1 418 = pi h 418 := by rw [fr_fi F1 (by decide), fr_fi FX (by omega)]
      obtain ⟨r2, h2', g', d1, _, d3, d4⟩ := rd h1 e418
      rw [c1] at d1
      have ee : r = r2 ∧ h' = h2' := by cases d1; exact ⟨rfl, rfl⟩
      obtain ⟨q1, q2, q3, q4, q5, q6, q7⟩ := G4_r (u := h1)
      rcases d4 with ⟨_, d5, d6, d7⟩ | ⟨d5, _⟩
      · rw [← ee.2] at d6 d7
        have e18 : ∀ j, j ≠ 3 → j ≠ 4 → j ≠ 5 → pi g' 418 j = pi h 418 j := fun j a b c => by rw [d3.2.2 j b c, q5 j a b c, e418]
        have fz : fr (fun b => b = 65 ∨ (279 ≤ b ∧ b ≤ 302) ∨ b = 417 ∨ b = 418 ∨ b = 420 ∨ b = 421) h g' := fr_trans (fr_mono FX (fun b hb => by omega)) (fr_trans (fr_mono F1 (fun b hb => by omega)) (fr_trans (fr_mono q7 (fun b hb => by omega)) (fr_mono d3.1 (fun b hb => by omega))))
        have g65 : ∀ j, pi g' 65 j = pi h1 65 j := fun j => by rw [fr_i d3.1 (by omega), fr_i q7 (by omega)]
        have g3 : pi g' 418 3 = 0 := by rw [d3.2.2 3 (by decide) (by decide)]; exact q2
        refine ⟨-1, h1, g', hI, by rw [mt h1 e418]; exact d5, INV_of I (TR_upd (fun _ _ => False) R fz g3 ⟨?_, ?_, ?_⟩ (fun i hi => ?_) (fun s i hs hi _ => ?_) (fun s i j hs hi _ hj => ?_) (fun i j hi _ hj v => by omega) (fun i j hi _ hj v => by omega) (fun i j hi _ hj v => by omega) (fun _ v => v.elim) (fun _ v => v.elim) (fun _ v => v.elim)) (fr_mono fz (fun b hb => by omega)) (fun j j1 j2 => ?_) (fun j hj => e18 j (by omega) (by omega) (by omega))⟩
        · rw [g65, ← eh1, pi_wIi (by decide), pi_wIi (by decide), fr_i c2 (by omega)]; exact H1.1
        · rw [g65, ← eh1, pi_wIi (by decide), pi_wIs]; exact d6
        · rw [g65, ← eh1, pi_wIs, pi_wIa (by decide)]; exact d7
        · rw [fr_i fz (by omega), e18 i (by omega) (by omega) (by omega), h67 i hi]
          exact ⟨rfl, rA i hi⟩
        · rw [e18 s (by omega) (by omega) (by omega)] at hi; exact hi
        · have := bse_dis (sr' := if s = 0 then 1 else 0) (k := 0) hs (by split <;> decide) hi (by unfold mxS; split <;> omega) hj (fun v => by have := v.1; split at this <;> omega)
          exact e18 _ (by omega) (by omega) (by omega)
        · rw [d3.2.1 j (by omega), q6 j (by omega), fr_i F1 (by decide), fr_i FX (by omega)]
      · omega
    · -- no fault
      rw [if_neg (by rw [r1]; decide)] at hI
      have h'67 : pi h' 67 sr = pi h 418 sr := by rw [fr_i FX (by omega)]; exact h67 sr ht
      obtain ⟨k, h'', ek, fk, e67, kx, hI2⟩ : ∃ (k : Nat) (h'' : pH), (k : Int) < mxS sr ∧ fr (fun b => b = 67) h' h'' ∧ (∀ i : Nat, i < 3 → pi h'' 67 i = if i = sr ∧ x2 = -1 then (k : Int) + 1 else pi h 418 i) ∧ ((x2 = -1 ∧ pi h 418 sr = k) ∨ (x2 ≠ -1 ∧ x2 = k ∧ (k : Int) < pi h 418 sr)) ∧ pf_I_text sr x2 h = pj_I_text_116 sr x2 k h'' := by
        have ra := rA3 sr ht
        by_cases y : x2 = -1
        · obtain ⟨k, hk⟩ : ∃ k : Nat, pi h 418 sr = k := ⟨(pi h 418 sr).toNat, by omega⟩
          refine ⟨k, pwI h' 67 sr ((k : Int) + 1), ?_, fr_wI fr_refl rfl, fun i hi => ?_, Or.inl ⟨y, hk⟩, ?_⟩
          · rcases P.2 with v | v
            · have := v.2; rw [Int.toNat_natCast, hk] at this; exact this
            · exact absurd y v.1
          · rw [pi_wI]
            by_cases e : i = sr
            · rw [if_pos ⟨rfl, e⟩, if_pos ⟨e, y⟩]
            · rw [if_neg (fun v => e v.2), if_neg (fun v => e v.1), fr_i FX (by omega)]; exact h67 i hi
          · rw [hI, if_pos y, gib (by omega) (by omega), gib (by omega) (by omega), Int.toNat_natCast, h'67, hk, wr_eq (by omega) (by omega)]
        · have v : 0 ≤ x2 ∧ x2 < pi h 418 sr := by
            rcases P.2 with v | v
            · exact absurd v.1 y
            · have := v.2; rw [Int.toNat_natCast] at this; exact this
          obtain ⟨k, hk⟩ : ∃ k : Nat, x2 = k := ⟨x2.toNat, by omega⟩
          refine ⟨k, h', by have := rA sr ht; omega, fr_refl, fun i hi => ?_, Or.inr ⟨y, hk, by omega⟩, ?_⟩
          · rw [if_neg (fun v => y v.2), fr_i FX (by omega)]; exact h67 i hi
          · rw [hI, if_neg y, hk]
      obtain ⟨h1, k1, k2, _⟩ := c_kepT (sr := sr) (k := k) (h := h'') (g := g0) ht ek (GOT_fr got0 fk)
      have hI3 : pf_I_text sr x2 h = some ((k : Int), h1) := by
        rw [hI2]
        unfold pj_I_text_116
        rw [k1, bsm]
      have k418 : ∀ b, 108 + 10 ≤ b → b ≠ 67 → ¬ ((sr = 0 ∧ 69 + 12 * k ≤ b ∧ b ≤ 80 + 12 * k) ∨ (sr = 1 ∧ 94 + 4 * k ≤ b ∧ b ≤ 97 + 4 * k) ∨ (sr = 2 ∧ 103 + 5 * k ≤ b ∧ b ≤ 107 + 5 * k)) := fun b hb _ v => by
        unfold mxS at ek
        split at ek <;> omega
      have e418 : pi h1 418 = pi h 418 := by rw [fr_fi k2 (k418 418 (by decide) (by decide)), fr_fi fk (by decide), fr_fi FX (by omega)]
      obtain ⟨r2, h2', g', d1, _, d3, d4⟩ := rd h1 e418
      rw [c1] at d1
      have ee : r = r2 ∧ h' = h2' := by cases d1; exact ⟨rfl, rfl⟩
      obtain ⟨q1, q2, q3, q4, q5, q6, q7⟩ := G4_r (u := h1)
      rcases d4 with ⟨d5, _⟩ | ⟨_, d5, d6, d7, got⟩
      · omega
      · rw [← ee.2] at got
        obtain ⟨h1', w1, w2, w3, w4, w5⟩ := c_kepT (sr := sr) (k := k) (h := h'') (g := g') ht ek (GOT_fr got fk)
        rw [k1] at w1
        have eh : h1 = h1' := by cases w1; rfl
        subst eh
        have e18 : ∀ j, j ≠ 3 → j ≠ 4 → j ≠ 5 → pi g' 418 j = pi h 418 j := fun j a b c => by rw [d3.2.2 j b c, q5 j a b c, e418]
        obtain ⟨z, z1, z2, z3⟩ := m_kepT (sr := sr) (k := k) (x2 := x2) (g := g') ht ek d6 (by
          rcases kx with ⟨u, v⟩ | ⟨u, v, _⟩
          · exact Or.inl ⟨u, by rw [e18 sr (by omega) (by omega) (by omega)]; exact v⟩
          · exact Or.inr ⟨u, v⟩)
        have lo : 610 ≤ bse sr k ∧ bse sr k + lnS sr ≤ 1632 := by
          unfold bse lnS
          unfold mxS at ek
          rcases (show sr = 0 ∨ sr = 1 ∨ sr = 2 by omega) with rfl | rfl | rfl <;> simp only [if_true, if_false, reduceIte, Nat.reduceEqDiff] at * <;> omega
        have zl : ∀ j, j < 610 → pi z 418 j = if j = sr ∧ x2 = -1 then (k : Int) + 1 else pi g' 418 j := fun j hj => by rw [z3, if_neg (by omega)]
        have zo : ∀ j, 610 ≤ j → ¬ (bse sr k ≤ j ∧ j < bse sr k + lnS sr) → pi z 418 j = pi h 418 j := fun j hj hn => by rw [z3, if_neg hn, if_neg (by omega), e18 j (by omega) (by omega) (by omega)]
        have zi : ∀ j, j < lnS sr → pi z 418 (bse sr k + j) = pi g' 420 j := fun j hj => by rw [z3, if_pos (by omega), show bse sr k + j - bse sr k = j by omega]
        have fg : fr (fun b => b = 417 ∨ b = 418 ∨ b = 420 ∨ b = 421) h1 z := fr_trans (fr_mono q7 (fun b hb => by omega)) (fr_trans d3.1 (fr_mono z2 (fun b hb => by omega)))
        have fz : fr (fun b => b = 65 ∨ b = 67 ∨ ((sr = 0 ∧ 69 + 12 * k ≤ b ∧ b ≤ 80 + 12 * k) ∨ (sr = 1 ∧ 94 + 4 * k ≤ b ∧ b ≤ 97 + 4 * k) ∨ (sr = 2 ∧ 103 + 5 * k ≤ b ∧ b ≤ 107 + 5 * k)) ∨ (279 ≤ b ∧ b ≤ 302) ∨ b = 417 ∨ b = 418 ∨ b = 420 ∨ b = 421) h z := fr_trans (fr_mono FX (fun b hb => by omega)) (fr_trans (fr_mono fk (fun b hb => Or.inr (Or.inl hb))) (fr_trans (fr_mono k2 (fun b hb => Or.inr (Or.inr (Or.inl hb)))) (fr_mono fg (fun b hb => by omega))))
        have k7 : (k : Int) < 3 ∧ (sr ≠ 2 → (k : Int) < 2) := by unfold mxS at ek; split at ek <;> omega
        have zc : ∀ i : Nat, i < 3 → pi z 418 i = if i = sr ∧ x2 = -1 then (k : Int) + 1 else pi h 418 i := fun i hi => by rw [zl i (by omega), e18 i (by omega) (by omega) (by omega)]
        have z65 : ∀ j, pi z 65 j = pi H0 65 j := fun j => by rw [fr_i fg (by decide), fr_i k2 (by omega), fr_i fk (by decide), fr_i c2 (by omega)]
        refine ⟨(k : Int), h1, z, hI3, by rw [mt h1 e418, d5]; exact z1, INV_of I (TR_upd (fun s i => s = sr ∧ i = k) R fz ?_ ⟨?_, ?_, ?_⟩ (fun i hi => ?_) (fun s i hs hi nn => ?_) (fun s i j hs hi nn hj => ?_) (fun i j hi nn hj v => by omega) (fun i j hi nn hj v => by omega) (fun i j hi nn hj v => by omega) (fun i nn => ?_) (fun i nn => ?_) (fun i nn => ?_)) (fr_mono fz (fun b hb => by omega)) (fun j j1 j2 => ?_) (fun j hj => zo j (by omega) (by omega))⟩
        · rw [zl 3 (by decide), if_neg (by omega), d3.2.2 3 (by decide) (by decide)]; exact q2
        · rw [z65]; exact H1.1
        · rw [z65, zl 4 (by decide), if_neg (by omega), d6]; exact H1.2.1
        · rw [z65, zl 5 (by decide), if_neg (by omega), d7]; exact H1.2.2
        · rw [zc i hi, fr_i fg (by decide), fr_i k2 (by omega), e67 i hi]
          have := rA i hi
          by_cases u : i = sr ∧ x2 = -1
          · rw [if_pos u, u.1]; exact ⟨rfl, by omega, by omega⟩
          · rw [if_neg u]; exact ⟨rfl, this⟩
        · rw [zc s hs] at hi
          by_cases u : s = sr ∧ x2 = -1
          · rw [if_pos u] at hi
            rcases kx with ⟨_, v⟩ | ⟨v, _⟩
            · rw [u.1, v]
              have : i ≠ k := fun e => nn ⟨u.1, e⟩
              omega
            · exact absurd u.2 v
          · rw [if_neg u] at hi; exact hi
        · have b := bse_dis hs ht hi ek hj nn
          exact zo _ (by omega) b.1
        · obtain ⟨e1, e2⟩ := nn
          subst e1 e2
          obtain ⟨lr, lk_⟩ := w3 rfl
          have e : ∀ j, j < 260 → lk (pi z 418) i j = pi g' 420 j := fun j hj => zi j hj
          exact ⟨LR_ext e lk_ (LR_fr lr fg (fun j hj v => by omega)), LK_ext e lk_⟩
        · obtain ⟨e1, e2⟩ := nn
          subst e1 e2
          obtain ⟨wr_, wk⟩ := w4 rfl
          have e : ∀ j, j < 68 → lw (pi z 418) i j = pi g' 420 j := fun j hj => zi j hj
          exact ⟨WR_ext e wk (WR_fr wr_ fg (fun j hj v => by omega)), WK_ext e wk⟩
        · obtain ⟨e1, e2⟩ := nn
          subst e1 e2
          obtain ⟨pr_, pk⟩ := w5 rfl
          have e : ∀ j, j < 122 → pn (pi z 418) i j = pi g' 420 j := fun j hj => zi j hj
          refine ⟨PR_ext e pk ?_, PK_ext e pk⟩
          unfold PR at *
          rw [fr_fi fg (by omega), fr_fi fg (by omega), fr_fi fg (by omega), fr_fi fg (by omega), fr_fi fg (by omega)]
          exact pr_
        · rw [fr_i z2 (by decide), d3.2.1 j (by omega), q6 j (by omega), fr_i k2 (by omega), fr_i fk (by decide), fr_i FX (by omega)]
  · -- no such place
    rw [cif_f P, if_pos rfl] at hI
    obtain ⟨q1, q2, q3, q4, q5, q6, q7⟩ := G4_r (u := H0)
    have e418 : pi H0 418 = pi h 418 := fr_fi fH (by decide)
    have fz : fr (fun b => b = 65 ∨ b = 417 ∨ b = 418) h (G4 H0) := fr_trans (fr_mono fH (fun b hb => Or.inl hb)) (fr_mono q7 (fun b hb => Or.inr hb))
    have e18 : ∀ j, j ≠ 3 → j ≠ 4 → j ≠ 5 → pi (G4 H0) 418 j = pi h 418 j := fun j a b c => by rw [q5 j a b c, e418]
    have g65 : ∀ j, pi (G4 H0) 65 j = pi H0 65 j := fun j => fr_i q7 (by decide)
    refine ⟨-2, H0, G4 H0, hI, by rw [m_place (A := pi h 418) (fun i _ => by rw [e418]) rA3, cif_f P], INV_of I (TR_upd (fun _ _ => False) R fz q2 ⟨by rw [g65]; exact H1.1, by rw [g65, q3]; exact H1.2.1, by rw [g65, q4]; exact H1.2.2⟩ (fun i hi => ?_) (fun s i hs hi _ => ?_) (fun s i j hs hi _ hj => ?_) (fun i j hi _ hj v => by omega) (fun i j hi _ hj v => by omega) (fun i j hi _ hj v => by omega) (fun _ v => v.elim) (fun _ v => v.elim) (fun _ v => v.elim)) (fr_mono fz (fun b hb => by omega)) (fun j j1 j2 => ?_) (fun j hj => e18 j (by omega) (by omega) (by omega))⟩
    · rw [fr_i fz (by omega), e18 i (by omega) (by omega) (by omega), h67 i hi]
      exact ⟨rfl, rA i hi⟩
    · rw [e18 s (by omega) (by omega) (by omega)] at hi; exact hi
    · have := bse_dis (sr' := if s = 0 then 1 else 0) (k := 0) hs (by split <;> decide) hi (by unfold mxS; split <;> omega) hj (fun v => by have := v.1; split at this <;> omega)
      exact e18 _ (by omega) (by omega) (by omega)
    · rw [q6 j (by omega), fr_i fH (by decide)]
