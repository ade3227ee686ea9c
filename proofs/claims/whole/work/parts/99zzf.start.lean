/-! the start of a text -/
/-- an empty draft of the class -/
def DC0 (h : pH) : Prop := (pi h 280 0 = 4 ∧ pi h 280 1 = 4 ∧ pi h 280 2 = 10 ∧ pi h 280 10 = 1 ∧ pi h 280 11 = 0) ∧ ((∀ c, c < 36 → pi h 281 c = 20) ∧ (∀ c, c < 36 → pi h 282 c = 0) ∧ (∀ c, c < 36 → pi h 283 c = 0) ∧ (∀ c, c < 36 → pl h 284 c = 0)) ∧ (pl h 280 7 = 0 ∧ pl h 280 8 = 0 ∧ pi h 285 0 = 0) ∧ ((pi h 292 0 = 0 ∧ pi h 292 1 = 0 ∧ pi h 292 2 = 5 ∧ pi h 292 3 = 1 ∧ pi h 292 4 = 0) ∧ pl h 292 7 = 0 ∧ ∀ c, c < 36 → pl h 295 c = 0) ∧ pi h 296 0 = 0
theorem c_clear {h : pH} : ∃ h', pf_Re_clear h = some h' ∧ fr (fun b => 279 ≤ b ∧ b ≤ 302) h h' ∧ pr h' 279 = pr h 279 ∧ pi h' 279 7 = pi h 279 7 ∧ pi h' 279 8 = pi h 279 8 ∧ (pi h' 279 3 = 0 ∧ pi h' 279 4 = -1 ∧ pi h' 279 12 = 0 ∧ pi h' 279 13 = 0 ∧ pi h' 279 14 = 0 ∧ pi h' 279 15 = 0) ∧ DC0 h' := by
  unfold pf_Re_clear pf_La_clear pf_Lw_clear
  obtain ⟨h1, a1, a2, a3⟩ := c_fill (a := 281) (N := 36) (v := 20) (h := pwI (pwI (pwI h 280 0 4) 280 1 4) 280 2 10) (by decide +kernel) (by decide)
  obtain ⟨h2, b1, b2, b3⟩ := c_fill (a := 282) (N := 36) (v := 0) (h := h1) (by decide +kernel) (by decide)
  obtain ⟨h3, c1, c2, c3⟩ := c_fill (a := 283) (N := 36) (v := 0) (h := h2) (by decide +kernel) (by decide)
  obtain ⟨h4, d1, d2, d3⟩ := c_fill2 (a := 284) (N := 36) (v := 0) (h := h3) (by decide +kernel) (by decide)
  generalize eH5 : pwI (pwI (pwI (pwL (pwL h4 280 7 0) 280 8 0) 285 0 0) 280 10 1) 280 11 0 = h5
  have p4 : ∀ j, pi h4 280 j = pi (pwI (pwI (pwI h 280 0 4) 280 1 4) 280 2 10) 280 j := fun j => by rw [fr_i d2 (by decide), fr_i c2 (by decide), fr_i b2 (by decide), fr_i a2 (by decide)]
  have f05 : fr (fun b => 280 ≤ b ∧ b ≤ 285) h h5 := by
    rw [← eH5]
    exact fr_wI (fr_wI (fr_wI (fr_wL (fr_wL (fr_trans (fr_wI (fr_wI (fr_wI fr_refl (by omega)) (by omega)) (by omega)) (fr_trans (fr_mono a2 (fun b hb => by omega)) (fr_trans (fr_mono b2 (fun b hb => by omega)) (fr_trans (fr_mono c2 (fun b hb => by omega)) (fr_mono d2 (fun b hb => by omega)))))) (by omega)) (by omega)) (by omega)) (by omega)) (by omega)
  have q5 : ∀ j, j ≠ 10 → j ≠ 11 → pi h5 280 j = pi h4 280 j := fun j x y => by rw [← eH5, pi_wIi y, pi_wIi x, pi_wIa (by decide)]; rfl
  have w5 : pi h5 280 0 = (4 : Nat) := by rw [q5 0 (by decide) (by decide), p4, pi_wIi (by decide), pi_wIi (by decide), pi_wIs]; rfl
  have w51 : pi h5 280 1 = (4 : Nat) := by rw [q5 1 (by decide) (by decide), p4, pi_wIi (by decide), pi_wIs]; rfl
  have w52 : pi h5 280 2 = 10 := by rw [q5 2 (by decide) (by decide), p4, pi_wIs]
  have w510 : pi h5 280 10 = 1 := by rw [← eH5, pi_wIi (by decide), pi_wIs]
  have w511 : pi h5 280 11 = 0 := by rw [← eH5, pi_wIs]
  have r81 : ∀ c, c < 36 → pi h5 281 c = 20 := fun c hc => by
    rw [← eH5, pi_wIa (by decide), pi_wIa (by decide), pi_wIa (by decide)]
    show pi h4 281 c = 20
    rw [fr_i d2 (by decide), fr_i c2 (by decide), fr_i b2 (by decide), a3, if_pos hc]
  have r82 : ∀ c, c < 36 → pi h5 282 c = 0 := fun c hc => by
    rw [← eH5, pi_wIa (by decide), pi_wIa (by decide), pi_wIa (by decide)]
    show pi h4 282 c = 0
    rw [fr_i d2 (by decide), fr_i c2 (by decide), b3, if_pos hc]
  have r83 : ∀ c, c < 36 → pi h5 283 c = 0 := fun c hc => by
    rw [← eH5, pi_wIa (by decide), pi_wIa (by decide), pi_wIa (by decide)]
    show pi h4 283 c = 0
    rw [fr_i d2 (by decide), c3, if_pos hc]
  have r84 : ∀ c, c < 36 → pl h5 284 c = 0 := fun c hc => by
    rw [← eH5]
    show pl (pwL (pwL h4 280 7 0) 280 8 0) 284 c = 0
    rw [pl_wLa (by decide), pl_wLa (by decide), d3, if_pos hc]
  have r7 : pl h5 280 7 = 0 ∧ pl h5 280 8 = 0 := by
    rw [← eH5]
    show pl (pwL (pwL h4 280 7 0) 280 8 0) 280 7 = 0 ∧ pl (pwL (pwL h4 280 7 0) 280 8 0) 280 8 = 0
    rw [pl_wLs, pl_wL, if_neg (by decide), pl_wLs]; exact ⟨rfl, rfl⟩
  have r85 : pi h5 285 0 = 0 := by rw [← eH5, pi_wIa (by decide), pi_wIa (by decide), pi_wIs]
  obtain ⟨h6, e1, e2, _⟩ := c_chart (h := h5) (w := 4) (hn := 4) (by decide) w5 w51
  have a1 : pf_Ar_fill (280 + 1) 20 (pwI (pwI (pwI h 280 0 4) 280 1 4) 280 2 10) = some h1 := a1
  have b1 : pf_Ar_fill (280 + 2) 0 h1 = some h2 := b1
  have c1 : pf_Ar_fill (280 + 3) 0 h2 = some h3 := c1
  have d1 : pf_Ar_fill2 (280 + 4) 0 h3 = some h4 := d1
  have eH5' : pwI (pwI (pwI (pwL (pwL h4 280 7 0) 280 8 0) (280 + 5) 0 0) 280 10 1) 280 11 0 = h5 := eH5
  rw [a1, bsm, b1, bsm, c1, bsm, d1, bsm, eH5', e1, bsm, bsm]
  obtain ⟨h7, k1, k2, k3⟩ := c_fill2 (a := 295) (N := 36) (v := 0) (h := pwL (pwI (pwI (pwI (pwI (pwI h6 292 0 0) 292 1 0) 292 2 5) 292 3 1) 292 4 0) 292 7 0) (by decide +kernel) (by decide)
  have k1 : pf_Ar_fill2 (292 + 3) 0 (pwL (pwI (pwI (pwI (pwI (pwI h6 292 0 0) 292 1 0) 292 2 5) 292 3 1) 292 4 0) 292 7 0) = some h7 := k1
  rw [k1, bsm, bsm]
  generalize eH8 : pwI (pwI (pwI (pwI (pwI (pwI (pwI h7 296 0 0) 279 3 0) 279 4 (-1)) 279 12 0) 279 13 0) 279 14 0) 279 15 0 = h8
  have f67 : fr (fun b => b = 292 ∨ b = 295) h6 h7 := fr_trans (fr_wL (fr_wI (fr_wI (fr_wI (fr_wI (fr_wI fr_refl (by omega)) (by omega)) (by omega)) (by omega)) (by omega)) (by omega)) (fr_mono k2 (fun b hb => Or.inr hb))
  have f78 : fr (fun b => b = 279 ∨ b = 296) h7 h8 := by rw [← eH8]; exact fr_wI (fr_wI (fr_wI (fr_wI (fr_wI (fr_wI (fr_wI fr_refl (by omega)) (by omega)) (by omega)) (by omega)) (by omega)) (by omega)) (by omega)
  have all : fr (fun b => 280 ≤ b ∧ b ≤ 295) h h7 := fr_trans (fr_mono f05 (fun b hb => by omega)) (fr_trans (fr_mono e2 (fun b hb => by omega)) (fr_mono f67 (fun b hb => by omega)))
  have up : ∀ b, 280 ≤ b → b ≤ 285 → (∀ j, pi h8 b j = pi h5 b j) ∧ ∀ j, pl h8 b j = pl h5 b j := fun b x y => ⟨fun j => by rw [fr_i f78 (by omega), fr_i f67 (by omega), fr_i e2 (by omega)], fun j => by rw [fr_l f78 (by omega), fr_l f67 (by omega), fr_l e2 (by omega)]⟩
  have u92 : ∀ j, pi h8 292 j = pi (pwI (pwI (pwI (pwI (pwI h6 292 0 0) 292 1 0) 292 2 5) 292 3 1) 292 4 0) 292 j := fun j => by
    rw [fr_i f78 (by decide), fr_i k2 (by decide)]; rfl
  refine ⟨h8, rfl, fr_trans (fr_mono all (fun b hb => by omega)) (fr_mono f78 (fun b hb => by omega)), ?_, ?_, ?_, ?_, ⟨⟨by rw [(up 280 (by decide) (by decide)).1]; exact w5, by rw [(up 280 (by decide) (by decide)).1]; exact w51, by rw [(up 280 (by decide) (by decide)).1]; exact w52, by rw [(up 280 (by decide) (by decide)).1]; exact w510, by rw [(up 280 (by decide) (by decide)).1]; exact w511⟩, ⟨fun c hc => by rw [(up 281 (by decide) (by decide)).1]; exact r81 c hc, fun c hc => by rw [(up 282 (by decide) (by decide)).1]; exact r82 c hc, fun c hc => by rw [(up 283 (by decide) (by decide)).1]; exact r83 c hc, fun c hc => by rw [(up 284 (by decide) (by decide)).2]; exact r84 c hc⟩, ⟨by rw [(up 280 (by decide) (by decide)).2]; exact r7.1, by rw [(up 280 (by decide) (by decide)).2]; exact r7.2, by rw [(up 285 (by decide) (by decide)).1]; exact r85⟩, ⟨⟨?_, ?_, ?_, ?_, ?_⟩, ?_, fun c hc => ?_⟩, ?_⟩⟩
  · rw [← eH8]
    show pr h7 279 = _
    exact fr_fr all (by omega)
  · rw [← eH8, pi_wIi (by decide), pi_wIi (by decide), pi_wIi (by decide), pi_wIi (by decide), pi_wIi (by decide), pi_wIi (by decide), pi_wIa (by decide)]
    exact fr_i all (by omega)
  · rw [← eH8, pi_wIi (by decide), pi_wIi (by decide), pi_wIi (by decide), pi_wIi (by decide), pi_wIi (by decide), pi_wIi (by decide), pi_wIa (by decide)]
    exact fr_i all (by omega)
  · rw [← eH8]
    exact ⟨by rw [pi_wIi (by decide), pi_wIi (by decide), pi_wIi (by decide), pi_wIi (by decide), pi_wIi (by decide), pi_wIs], by rw [pi_wIi (by decide), pi_wIi (by decide), pi_wIi (by decide), pi_wIi (by decide), pi_wIs], by rw [pi_wIi (by decide), pi_wIi (by decide), pi_wIi (by decide), pi_wIs], by rw [pi_wIi (by decide), pi_wIi (by decide), pi_wIs], by rw [pi_wIi (by decide), pi_wIs], pi_wIs⟩
  · rw [u92, pi_wIi (by decide), pi_wIi (by decide), pi_wIi (by decide), pi_wIi (by decide), pi_wIs]
  · rw [u92, pi_wIi (by decide), pi_wIi (by decide), pi_wIi (by decide), pi_wIs]
  · rw [u92, pi_wIi (by decide), pi_wIi (by decide), pi_wIs]
  · rw [u92, pi_wIi (by decide), pi_wIs]
  · rw [u92, pi_wIs]
  · rw [fr_l f78 (by decide), fr_l k2 (by decide), pl_wLs]
  · rw [fr_l f78 (by decide), k3, if_pos hc]
  · rw [← eH8, pi_wIa (by decide), pi_wIa (by decide), pi_wIa (by decide), pi_wIa (by decide), pi_wIa (by decide), pi_wIa (by decide), pi_wIs]
/-- an empty draft of the reference -/
def bgv (sr j : Nat) : Int := if sr = 0 then (if j = 0 then 4 else (if j = 1 then 4 else (if j = 2 then 10 else (if j = 3 then 1 else (if 8 ≤ j ∧ j < 44 then 20 else 0))))) else (if sr = 1 then (if j = 2 then 5 else (if j = 3 then 1 else 0)) else 0)
theorem m_begins {g : pH} {sr : Nat} (ht : sr < 3) : ∃ g', pf_M_begins sr g = some g' ∧ fr (fun b => b = 417 ∨ b = 420) g g' ∧ (∀ j, j ≠ 9 → j ≠ 11 → pi g' 417 j = pi g 417 j) ∧ pi g' 417 9 = 0 ∧ pi g' 417 11 = 0 ∧ ∀ j, j < 260 → pi g' 420 j = bgv sr j := by
  have l1 : ∀ {K : pH → Option pH} {t : pH}, ∃ t', pl_M_begins_2 sr K fu_ 0 t = K t' ∧ fr (fun b => b = 420) t t' ∧ ∀ j, j < 260 → pi t' 420 j = 0 := fun {K t} => by
    refine lpf (F := fun k (i : Nat) u => pl_M_begins_2 sr K k i u) (Q := fun r => ∃ t', r = K t' ∧ fr (fun b => b = 420) t t' ∧ ∀ j, j < 260 → pi t' 420 j = 0) 260 (fun i u => fr (fun b => b = 420) t u ∧ ∀ j, j < i → pi u 420 j = 0) ?_ ?_ fu_ 0 t (by omega) (by unfold fu_; omega) ⟨fr_refl, fun j hj => by omega⟩
    · intro k i u hi ⟨a, b⟩
      right
      refine ⟨pwI u 420 i 0, ?_, fr_wI a rfl, fun j hj => ?_⟩
      · show pl_M_begins_2 sr K (k + 1) i u = pl_M_begins_2 sr K k (i + 1 : Nat) _
        rw [pl_M_begins_2, if_neg (by omega), gib (by omega) (by omega), wr_eq (by omega) (by omega), Int.toNat_natCast]; rfl
      · by_cases e : j = i
        · rw [e, pi_wIs]
        · rw [pi_wIi e]; exact b j (by omega)
    · intro k u ⟨a, b⟩
      refine ⟨u, ?_, a, b⟩
      show pl_M_begins_2 sr K (k + 1) (260 : Nat) u = K u
      rw [pl_M_begins_2, if_pos (by decide)]
  have l2 : ∀ {K : pH → Option pH} {t : pH}, ∃ t', pl_M_begins_67 sr K fu_ 0 t = K t' ∧ fr (fun b => b = 420) t t' ∧ ∀ j, pi t' 420 j = if 8 ≤ j ∧ j < 44 then 20 else pi t 420 j := fun {K t} => by
    refine lpf (F := fun k (i : Nat) u => pl_M_begins_67 sr K k i u) (Q := fun r => ∃ t', r = K t' ∧ fr (fun b => b = 420) t t' ∧ ∀ j, pi t' 420 j = if 8 ≤ j ∧ j < 44 then 20 else pi t 420 j) 36 (fun i u => fr (fun b => b = 420) t u ∧ ∀ j, pi u 420 j = if 8 ≤ j ∧ j < 8 + i then 20 else pi t 420 j) ?_ ?_ fu_ 0 t (by omega) (by unfold fu_; omega) ⟨fr_refl, fun j => by rw [if_neg (by omega)]⟩
    · intro k i u hi ⟨a, b⟩
      right
      refine ⟨pwI u 420 (8 + i) 20, ?_, fr_wI a rfl, fun j => ?_⟩
      · show pl_M_begins_67 sr K (k + 1) i u = pl_M_begins_67 sr K k (i + 1 : Nat) _
        rw [pl_M_begins_67, if_neg (by omega), wr_eq (x := 8 + (i : Int)) (by omega) (by omega), gib (by omega) (by omega), wr_eq (by omega) (by omega), show (8 + (i : Int)).toNat = 8 + i by omega]; rfl
      · by_cases e : j = 8 + i
        · rw [e, pi_wIs, if_pos (by omega)]
        · rw [pi_wIi e, b j]
          by_cases u : 8 ≤ j ∧ j < 8 + i
          · rw [if_pos u, if_pos (by omega)]
          · rw [if_neg u, if_neg (by omega)]
    · intro k u ⟨a, b⟩
      refine ⟨u, ?_, a, b⟩
      show pl_M_begins_67 sr K (k + 1) (36 : Nat) u = K u
      rw [pl_M_begins_67, if_pos (by decide)]
  unfold pf_M_begins pj_M_begins_90
  obtain ⟨t1, a1, a2, a3⟩ := l1 (K := fun h => if (sr : Int) = 0 then (pl_M_begins_67 sr (fun h => if (sr : Int) = 1 then (some (pwI (pwI h 420 2 5) 420 3 1)) else (some h)) fu_ 0 (pwI (pwI (pwI (pwI (pwI (pwI h 417 9 0) 417 11 0) 420 0 4) 420 1 4) 420 2 10) 420 3 1)) else (if (sr : Int) = 1 then (some (pwI (pwI (pwI (pwI h 417 9 0) 417 11 0) 420 2 5) 420 3 1)) else (some (pwI (pwI h 417 9 0) 417 11 0)))) (t := g)
  rw [a1]
  rcases (show sr = 0 ∨ sr = 1 ∨ sr = 2 by omega) with rfl | rfl | rfl
  · obtain ⟨t2, b1, b2, b3⟩ := l2 (K := fun h => if ((0 : Nat) : Int) = 1 then (some (pwI (pwI h 420 2 5) 420 3 1)) else (some h)) (t := pwI (pwI (pwI (pwI (pwI (pwI t1 417 9 0) 417 11 0) 420 0 4) 420 1 4) 420 2 10) 420 3 1)
    rw [if_pos (by decide), b1, if_neg (by decide)]
    refine ⟨t2, rfl, fr_trans (fr_wI (fr_wI (fr_wI (fr_wI (fr_wI (fr_wI (fr_mono a2 (fun b hb => Or.inr hb)) (by omega)) (by omega)) (by omega)) (by omega)) (by omega)) (by omega)) (fr_mono b2 (fun b hb => Or.inr hb)), fun j x y => ?_, ?_, ?_, fun j hj => ?_⟩
    · rw [fr_i b2 (by decide), pi_wIa (by decide), pi_wIa (by decide), pi_wIa (by decide), pi_wIa (by decide), pi_wIi y, pi_wIi x, fr_i a2 (by decide)]
    · rw [fr_i b2 (by decide), pi_wIa (by decide), pi_wIa (by decide), pi_wIa (by decide), pi_wIa (by decide), pi_wIi (by decide), pi_wIs]
    · rw [fr_i b2 (by decide), pi_wIa (by decide), pi_wIa (by decide), pi_wIa (by decide), pi_wIa (by decide), pi_wIs]
    · unfold bgv
      rw [if_pos rfl, b3]
      by_cases u : 8 ≤ j ∧ j < 44
      · rw [if_pos u, if_neg (by omega), if_neg (by omega), if_neg (by omega), if_neg (by omega), if_pos u]
      · rw [if_neg u, if_neg u]
        by_cases j3 : j = 3
        · rw [j3, pi_wIs]; rfl
        · rw [pi_wIi j3, if_neg j3]
          by_cases j2 : j = 2
          · rw [j2, pi_wIs]; rfl
          · rw [pi_wIi j2, if_neg j2]
            by_cases j1 : j = 1
            · rw [j1, pi_wIs]; rfl
            · rw [pi_wIi j1, if_neg j1]
              by_cases j0 : j = 0
              · rw [j0, pi_wIs]; rfl
              · rw [pi_wIi j0, if_neg j0, pi_wIa (by decide), pi_wIa (by decide)]; exact a3 j hj
  · rw [if_neg (by decide), if_pos (by decide)]
    refine ⟨_, rfl, fr_wI (fr_wI (fr_wI (fr_wI (fr_mono a2 (fun b hb => Or.inr hb)) (by omega)) (by omega)) (by omega)) (by omega), fun j x y => ?_, ?_, ?_, fun j hj => ?_⟩
    · rw [pi_wIa (by decide), pi_wIa (by decide), pi_wIi y, pi_wIi x, fr_i a2 (by decide)]
    · rw [pi_wIa (by decide), pi_wIa (by decide), pi_wIi (by decide), pi_wIs]
    · rw [pi_wIa (by decide), pi_wIa (by decide), pi_wIs]
    · unfold bgv
      rw [if_neg (by decide), if_pos rfl]
      by_cases j3 : j = 3
      · rw [j3, pi_wIs]; rfl
      · rw [pi_wIi j3, if_neg j3]
        by_cases j2 : j = 2
        · rw [j2, pi_wIs]; rfl
        · rw [pi_wIi j2, if_neg j2, pi_wIa (by decide), pi_wIa (by decide)]; exact a3 j hj
  · rw [if_neg (by decide), if_neg (by decide)]
    refine ⟨_, rfl, fr_wI (fr_wI (fr_mono a2 (fun b hb => Or.inr hb)) (by omega)) (by omega), fun j x y => ?_, ?_, ?_, fun j hj => ?_⟩
    · rw [pi_wIi y, pi_wIi x, fr_i a2 (by decide)]
    · rw [pi_wIi (by decide), pi_wIs]
    · rw [pi_wIs]
    · unfold bgv
      rw [if_neg (by decide), if_neg (by decide), pi_wIa (by decide), pi_wIa (by decide)]; exact a3 j hj
