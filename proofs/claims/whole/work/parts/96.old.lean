/-! old, stop -/
section Dh
variable {h : pH} {a p q l w : Nat} {L W wt sv S T : Nat → Int} {u : Bool} {d : Nat} {tk : Int}
noncomputable def odw (L W wt sv S : Nat → Int) (fm to load : Int) (y : Int64) (i m : Nat) : Int := fnd (fun j => dc (wy L W (adn L W wt sv j S) wt fm to load ∧ scb L W (adn L W wt sv j S) wt load fm to = y)) i m
theorem odw_s {fm to load : Int} {y : Int64} {i m : Nat} : odw L W wt sv S fm to load y i (m + 1) = if dc (wy L W (adn L W wt sv i S) wt fm to load ∧ scb L W (adn L W wt sv i S) wt load fm to = y) = true then (i : Int) else odw L W wt sv S fm to load y (i + 1) m := rfl
theorem neg63 {y : Int64} : plc y 0 < 0 ↔ tb y 63 = true := by
  unfold plc lg_cmp tb
  have e : y.toBitVec.getLsbD 63 = y.toBitVec.msb := by rw [BitVec.msb_eq_getLsbD_last]
  have i : y < 0 ↔ y.toBitVec.msb = true := by
    rw [Int64.lt_iff_toInt_lt]
    show y.toBitVec.toInt < 0 ↔ _
    rw [BitVec.msb_eq_toInt, decide_eq_true_eq]
  rw [e, ← i]
  by_cases q1 : y > 0
  · rw [if_pos q1]
    constructor
    · intro v; exact absurd v (by decide)
    · intro v
      exact absurd (Int64.lt_trans q1 v) (by simp)
  · rw [if_neg q1]
    by_cases q2 : y = 0
    · rw [if_pos q2, q2]
      constructor
      · intro v; exact absurd v (by decide)
      · intro v; exact absurd v (by decide)
    · rw [if_neg q2]
      constructor
      · intro _
        rcases Int64.lt_or_eq_of_le (Int64.not_lt.mp q1) with v | v
        · exact v
        · exact absurd v q2
      · intro _; decide
theorem m_old {x1 x2 x3 x4 load fm to : Int} {y : Int64} (M : MC h l w L W wt sv 0) (V : SV L (pi h 422) d) (hd : d ≤ 900) (Z : ∀ c : Nat, c < 36 → pi h 424 c = 0) (hf : inr L fm) (ht : inr L to) (b : 0 ≤ load ∧ load ≤ 100000) : ∃ h', pl_M_old_29 x1 x2 x3 x4 load fm to y (fun x10 h => some (x10, h)) (fun h => some (-1, h)) fu_ 0 h = some (odw L W wt sv (pi h 422) fm to load y 0 31, h') ∧ MF h h' := by
  have kL := M.1.2.2.2.2.2.2.1
  have kW := M.1.2.2.2.2.2.2.2
  generalize hr : odw L W wt sv (pi h 422) fm to load y 0 31 = r
  refine lpf (F := fun n (i : Nat) t => pl_M_old_29 x1 x2 x3 x4 load fm to y (fun x10 h => some (x10, h)) (fun h => some (-1, h)) n i t) (Q := fun rr => ∃ h', rr = some (r, h') ∧ MF h h') 31 (fun i t => MF h t ∧ pi t 422 = adn L W wt sv i (pi h 422) ∧ r = odw L W wt sv (pi h 422) fm to load y i (31 - i)) ?_ ?_ fu_ 0 h (by omega) (by unfold fu_; omega) ⟨MF_refl, rfl, hr.symm⟩
  · intro n i t hi ⟨f, g, e⟩
    have Mt := MF_MC M f
    have Vt := SV_adn (wt := wt) (sv := sv) kL kW V (n := i)
    obtain ⟨h1, p1, p2, p3, -, p4⟩ := m_short1 (load := load) Mt (by rw [g]; exact Vt) (fun c hc => by rw [MF_24 f]; exact Z c hc) hf ht b
    rw [g] at p1 p3 p4
    obtain ⟨h2, d1, d2, d3⟩ := m_day1 (MF_MC Mt p2) (by rw [p3]; exact Vt) (by omega)
    rw [p3] at d3
    rw [show 31 - i = (31 - (i + 1)) + 1 by omega, odw_s] at e
    show (∃ h', pl_M_old_29 x1 x2 x3 x4 load fm to y _ _ (n + 1) i t = some (_, h') ∧ _) ∨ ∃ t', pl_M_old_29 x1 x2 x3 x4 load fm to y _ _ (n + 1) i t = pl_M_old_29 x1 x2 x3 x4 load fm to y _ _ n (i + 1 : Nat) t' ∧ _
    rw [pl_M_old_29, if_neg (by omega), p1, bsm]
    unfold pj_M_old_62
    simp only []
    rw [d1, bsm, wr_eq (by omega) (by omega)]
    by_cases q2 : wy L W (adn L W wt sv i (pi h 422)) wt fm to load
    · rw [cif_t q2, if_neg (by decide), (p4 q2).2.2, bsm]
      by_cases q3 : scb L W (adn L W wt sv i (pi h 422)) wt load fm to = y
      · left
        rw [dc_t ⟨q2, q3⟩, if_pos rfl] at e
        exact ⟨h1, by rw [if_pos (plc_0.mpr q3), e], MF_trans f p2⟩
      · right
        rw [dc_f (fun v => q3 v.2), if_neg (by decide)] at e
        refine ⟨h2, ?_, MF_trans f (MF_trans p2 d2), d3, e⟩
        rw [if_neg (fun v => q3 (plc_0.mp v))]
        rfl
    · right
      rw [dc_f (fun v => q2 v.1), if_neg (by decide)] at e
      refine ⟨h2, ?_, MF_trans f (MF_trans p2 d2), d3, e⟩
      rw [cif_f q2, if_pos rfl]
      rfl
  · intro n t ⟨f, g, e⟩
    refine ⟨t, ?_, f⟩
    show pl_M_old_29 x1 x2 x3 x4 load fm to y _ _ (n + 1) (31 : Nat) t = _
    rw [pl_M_old_29, if_pos (by omega), e]
    rfl
theorem c_old {x1 x2 x3 x4 load fm to : Int} {y : Int64} (hW : WS L wt sv) (C : CX h p q L W) (K : SC h 303 p q L W wt sv false S) (V : SV L S d) (hd : d ≤ 900) (hf : inr L fm) (ht : inr L to) (ne : fm ≠ to) (hl : 1 ≤ load) (hy : ¬ tb y 63 = true) : ∃ h', pl_I_old_37 x1 x2 x3 x4 load fm to y (fun x10 h => some (x10, h)) (fun h => some (-1, h)) fu_ 0 h = some (odw L W wt sv S fm to load y 0 31, h') ∧ fr CGs h h' := by
  have kL := C.2.2.1
  have kW := C.2.2.2.1
  generalize hr : odw L W wt sv S fm to load y 0 31 = r
  refine lpf (F := fun n (i : Nat) t => pl_I_old_37 x1 x2 x3 x4 load fm to y (fun x10 h => some (x10, h)) (fun h => some (-1, h)) n i t) (Q := fun rr => ∃ h', rr = some (r, h') ∧ fr CGs h h') 31 (fun i t => fr CGs h t ∧ SC t 303 p q L W wt sv false (adn L W wt sv i S) ∧ r = odw L W wt sv S fm to load y i (31 - i)) ?_ ?_ fu_ 0 h (by omega) (by unfold fu_; omega) ⟨fr_refl, K, hr.symm⟩
  · intro n i t hi ⟨f, Kt, e⟩
    have Ct : CX t p q L W := CX_fr C f (fun b hb => hb.1)
    have Vt := SV_adn (wt := wt) (sv := sv) kL kW V (n := i)
    obtain ⟨h1, p1, p2⟩ := c_shortCells hW Ct Kt Vt hf ht ne hl
    have f1 : fr CGs h h1 := fr_trans f (fr_mono p2 (fun b hb => by unfold CGs; omega))
    obtain ⟨ff0, h3, d1, d2, d3, d4⟩ := c_day1 hW (CX_fr C f1 (fun b hb => hb.1)) (SC_fr Kt p2 (fun b hb => by omega)) Vt (by omega)
    rw [show 31 - i = (31 - (i + 1)) + 1 by omega, odw_s] at e
    show (∃ h', pl_I_old_37 x1 x2 x3 x4 load fm to y _ _ (n + 1) i t = some (_, h') ∧ _) ∨ ∃ t', pl_I_old_37 x1 x2 x3 x4 load fm to y _ _ (n + 1) i t = pl_I_old_37 x1 x2 x3 x4 load fm to y _ _ n (i + 1 : Nat) t' ∧ _
    rw [pl_I_old_37, if_neg (by omega), p1, bsm]
    simp only []
    rw [d1, bsm, d2, bsm, wr_eq (by omega) (by omega)]
    have nw : ¬ wy L W (adn L W wt sv i S) wt fm to load → ¬ scb L W (adn L W wt sv i S) wt load fm to = y := fun v v2 => by
      unfold scb at v2
      rw [cif_f v] at v2
      rw [← v2] at hy
      exact hy (tb_m1 (by omega))
    by_cases q3 : scb L W (adn L W wt sv i S) wt load fm to = y
    · left
      have q2 : wy L W (adn L W wt sv i S) wt fm to load := Classical.byContradiction fun v => nw v q3
      rw [dc_t ⟨q2, q3⟩, if_pos rfl] at e
      exact ⟨h1, by rw [if_pos (plc_0.mpr q3), e], f1⟩
    · right
      rw [dc_f (fun v => q3 v.2), if_neg (by decide)] at e
      refine ⟨h3, ?_, fr_trans f1 (fr_mono d3 (fun b hb => by unfold SF at hb; unfold CGs; omega)), d4, e⟩
      rw [if_neg (fun v => q3 (plc_0.mp v))]
      rfl
  · intro n t ⟨f, Kt, e⟩
    refine ⟨t, ?_, f⟩
    show pl_I_old_37 x1 x2 x3 x4 load fm to y _ _ (n + 1) (31 : Nat) t = _
    rw [pl_I_old_37, if_pos (by omega), e]
    rfl
theorem odw_neg {fm to load : Int} {y : Int64} (kL : LK L) (hf : inr L fm) (hy : tb y 63 = true) : ∀ {m i : Nat}, odw L W wt sv S fm to load y i m = -1
  | 0, i => rfl
  | m + 1, i => by
    rw [odw_s, dc_f, if_neg (by decide), odw_neg kL hf hy]
    intro ⟨v1, v2⟩
    unfold scb at v2
    rw [cif_t v1] at v2
    have := pbt_63 (W := W) (O := opn L W (adn L W wt sv i S) wt 0 (-1) load no0) (to := to) kL hf (n := (dst L W (opn L W (adn L W wt sv i S) wt 0 (-1) load no0) to fm + 1).toNat) (by have := v1.2; omega) 63 (by omega) (by omega)
    rw [v2, hy] at this
    exact absurd this (by decide)
end Dh
/-- the reference alone, to load, from, to -/
theorem m_no_trip {α : Type} {mf : pH → Option (α × pH)} {x y z n load fm to : Int} (no : α) {km : Int × pH → Option (α × pH)} (hm0 : ¬ (1 ≤ load ∧ load ≤ 999) → ∀ g, mf g = some (no, g)) (hm : (1 ≤ load ∧ load ≤ 999) → ∀ g, mf g = (pf_M_areWays x y z n fm to g).bind km) (nm : ∀ h, km (0, h) = some (no, h)) (main : (1 ≤ load ∧ load ≤ 999) → fm ≠ to → ∀ l w L W g, MC g l w L W (wt0 L) (sv0 L) 0 → SV L (pi g 422) 31 → (∀ c : Nat, c < 36 → pi g 424 c = 0) → inr L fm → inr L to → ∃ g1, km (1, g) = some (no, g1) ∧ MG g g1) : ∀ g, TB (pi g 418) → MI g → ∃ g1, mf g = some (no, g1) ∧ MG g g1 := by
  intro g B I
  by_cases q2 : 1 ≤ load ∧ load ≤ 999
  · rw [hm q2]
    unfold pf_M_areWays
    by_cases q3 : fm = to
    · rw [if_pos q3, bsm, nm]; exact ⟨g, rfl, MG_refl⟩
    · rw [if_neg q3]
      obtain ⟨r, h1, p1, p2, p3⟩ := m_isState (x := x) (y := y) (z := z) (n := n) rfl B I
      rw [p1, bsm]
      rcases p3 with ⟨s1, s2⟩ | ⟨S, s1, s2, s3⟩
      · rw [s2, n00, bsm, nm]; exact ⟨h1, rfl, p2⟩
      · obtain ⟨g1, g2, kL, -, g5, g6⟩ := gst_ok B s1
        have M := s3.1
        have hl := M.1.2.2.1
        rw [s2, n10]
        simp only []
        rw [M.1.1, m_isCell (by omega) M.1.2.2.2.2.1 kL.1, bsm, if1, m_isCell (by omega) M.1.2.2.2.2.1 kL.1, bsm, if1]
        by_cases q4 : 0 ≤ fm ∧ fm < ce (lk (pi g 418) x.toNat)
        · rw [if_pos q4]
          by_cases q5 : 0 ≤ to ∧ to < ce (lk (pi g 418) x.toNat)
          · obtain ⟨g', m1, m2⟩ := main q2 q3 _ _ _ _ h1 M (by rw [s3.2.1]; exact g5) s3.2.2 q4 q5
            rw [if_pos q5, bsm, m1]
            exact ⟨g', rfl, MG_trans p2 m2⟩
          · rw [if_neg q5, bsm, nm]; exact ⟨h1, rfl, p2⟩
        · rw [if_neg q4, bsm, nm]; exact ⟨h1, rfl, p2⟩
  · exact ⟨g, hm0 q2 g, MG_refl⟩
theorem p_old {x y z n ld fm to : Int} {cells : Int64} : asks (pf_I_old x y z n ld fm to cells) (pf_M_old x y z n ld fm to cells) := by
  by_cases q0 : tb cells 63 = true
  · refine ask_no (-1) (fun h A R => ⟨h, ?_, fr_refl⟩) ?_
    · unfold pf_I_old
      rw [if_pos (neg63.mpr q0)]
    · refine m_no_trip (x := x) (y := y) (z := z) (n := n) (load := ld) (fm := fm) (to := to) (-1) (km := fun v2 => (if v2.1 = 0 then (some (-1, v2.2)) else (pl_M_old_29 x y z n ld fm to cells (fun x10 h => some (x10, h)) (fun h => some (-1, h)) fu_ 0 v2.2))) (fun v g => by unfold pf_M_old; rw [m_isLoad, bsm, if1, if_neg v]) (fun v g => by unfold pf_M_old; rw [m_isLoad, bsm, if1, if_pos v]) (fun _ => rfl) ?_
      intro hl ne l w L W g M V Z hf ht
      have kL := M.1.2.2.2.2.2.2.1
      obtain ⟨g1, m1, m2⟩ := m_old (x1 := x) (x2 := y) (x3 := z) (x4 := n) (y := cells) M V (by omega) Z hf ht (by omega : 0 ≤ ld ∧ ld ≤ 100000)
      rw [n10]
      simp only []
      rw [m1, odw_neg kL hf q0]
      exact ⟨g1, rfl, MF_MG m2⟩
  · refine ask_trip (x := x) (y := y) (z := z) (n := n) (load := ld) (fm := fm) (to := to) (-1) (kc := fun v1 => (if v1.1 = 0 then (some (-1, v1.2)) else ((pf_I_isTrip ld fm to v1.2).bind fun v2 => (if v2 = 0 then (some (-1, v1.2)) else (pl_I_old_37 x y z n ld fm to cells (fun x10 h => some (x10, h)) (fun h => some (-1, h)) fu_ 0 v1.2))))) (km := fun v2 => (if v2.1 = 0 then (some (-1, v2.2)) else (pl_M_old_29 x y z n ld fm to cells (fun x10 h => some (x10, h)) (fun h => some (-1, h)) fu_ 0 v2.2))) (fun h => by unfold pf_I_old; rw [if_neg (fun v => q0 (neg63.mp v))]) (fun _ => rfl) (fun _ => rfl) (fun _ => rfl) (fun v g => by unfold pf_M_old; rw [m_isLoad, bsm, if1, if_neg v]) (fun v g => by unfold pf_M_old; rw [m_isLoad, bsm, if1, if_pos v]) (fun _ => rfl) ?_
    intro hl ne p q l w L W S h g ⟨C, K, M, eS, Z, V, TT⟩ hf ht
    have kL := C.2.2.1
    subst eS
    obtain ⟨h1, c1, c2⟩ := c_old (x1 := x) (x2 := y) (x3 := z) (x4 := n) (y := cells) (WS0 kL) C K V (by omega) hf ht ne hl.1 q0
    obtain ⟨g1, m1, m2⟩ := m_old (x1 := x) (x2 := y) (x3 := z) (x4 := n) (y := cells) M V (by omega) Z hf ht (by omega : 0 ≤ ld ∧ ld ≤ 100000)
    simp only []
    rw [if_neg (show ¬ (1 : Int) = 0 by decide), if_neg (show ¬ (1 : Int) = 0 by decide), c1, m1]
    exact ⟨_, h1, g1, rfl, c2, rfl, MF_MG m2⟩
theorem p_stop {x y z : Int} : asks (pf_I_stop x y z) (pf_M_stop x y z) := by
  intro h A R hA I
  have B := TR_TB R
  have a0 := R.1
  have e0 := c_has (k := 0) (x := x) R (by omega)
  have e1 := c_has (k := 1) (x := y) R (by omega)
  have e2 := c_has (k := 2) (x := z) R (by omega)
  rw [show ((0 : Nat) : Int) = 0 from rfl] at e0
  rw [show ((1 : Nat) : Int) = 1 from rfl] at e1
  rw [show ((2 : Nat) : Int) = 2 from rfl] at e2
  have model : ∀ h1, fr CGs h h1 → ∃ r g, pf_M_areBoth x y h1 = some (r, g) ∧ MG h1 g ∧ pi g 418 = A ∧ ((¬ ((0 ≤ x ∧ x < A 0) ∧ (0 ≤ y ∧ y < A 1)) ∧ r = 0) ∨ (((0 ≤ x ∧ x < A 0) ∧ (0 ≤ y ∧ y < A 1)) ∧ r = 1 ∧ GM g A x y (pi h 422))) := by
    intro h1 f
    have e18 : pi h1 418 = A := by rw [CG_i f (Or.inr (by omega))]; exact hA
    obtain ⟨r, g, p1, p2, p3, p4⟩ := m_areBoth (x := x) (y := y) (h := h1) (by rw [e18]; exact B) (CG_MI f I)
    rw [e18, CG_i f (Or.inr (by omega))] at p4
    exact ⟨r, g, p1, p2, by rw [MG_18 p2]; exact e18, p4⟩
  unfold pf_I_stop pf_M_stop
  rw [e0, bsm, if1]
  by_cases q1 : 0 ≤ x ∧ x < A 0
  · rw [if_pos q1, e1, bsm, if1]
    by_cases q2 : 0 ≤ y ∧ y < A 1
    · rw [if_pos q2, e2, bsm, if1]
      by_cases q3 : 0 ≤ z ∧ z < A 2
      · rw [if_pos q3]
        obtain ⟨h1, b1, b2, b3⟩ := c_beginAt R q1 q2
        have zR := R.2.2.2.2.2.2 z.toNat (by omega)
        have p30 := zR.2.1
        have G := b3 (pi h 422)
        rw [gib q1.1 (by omega), gib q2.1 (by omega), show 68 + 1 + 12 * x.toNat = 69 + 12 * x.toNat by omega, show 93 + 1 + 4 * y.toNat = 94 + 4 * y.toNat by omega, b1, bsm, gib q3.1 (by omega)]
        have z0 : pi h1 (102 + 1 + 5 * z.toNat) 0 = pn A z.toNat 0 := by rw [CG_i b2 (Or.inl (by omega)), show 102 + 1 + 5 * z.toNat = 65 + 38 + 5 * z.toNat by omega]; exact zR.1.1
        rw [z0]
        obtain ⟨C, K⟩ := G
        have kL := C.2.2.1
        have kW := C.2.2.2.1
        have hW := WS0 kL
        have ao := anw_ok (W := lw A y.toNat) (wt := wt0 (lk A x.toNat)) (S := pi h 422) kL
        have cls : ∃ (m : Nat) (h2 : pH), pl_I_stop_80 x y z (fun x5 h => some (x5, h)) (fun x4 h => some (x4, h)) fu_ (pn A z.toNat 0) 0 h1 = some ((m : Int), h2) ∧ fr CGs h1 h2 ∧ (m : Int) ≤ pn A z.toNat 0 ∧ (∃ S, rns (lk A x.toNat) (lw A y.toNat) (wt0 (lk A x.toNat)) (sv0 (lk A x.toNat)) (pn A z.toNat) (anw (lk A x.toNat) (lw A y.toNat) (wt0 (lk A x.toNat)) 0 (pi h 422)) m = some S) ∧ ((m : Int) = pn A z.toNat 0 ∨ rns (lk A x.toNat) (lw A y.toNat) (wt0 (lk A x.toNat)) (sv0 (lk A x.toNat)) (pn A z.toNat) (anw (lk A x.toNat) (lw A y.toNat) (wt0 (lk A x.toNat)) 0 (pi h 422)) (m + 1) = none) := by
          generalize hS0 : anw (lk A x.toNat) (lw A y.toNat) (wt0 (lk A x.toNat)) 0 (pi h 422) = S0 at *
          refine lpf (F := fun m (i : Nat) t => pl_I_stop_80 x y z (fun x5 h => some (x5, h)) (fun x4 h => some (x4, h)) m (pn A z.toNat 0) i t) (Q := fun r => ∃ (m : Nat) (h2 : pH), r = some ((m : Int), h2) ∧ fr CGs h1 h2 ∧ (m : Int) ≤ pn A z.toNat 0 ∧ (∃ S, rns (lk A x.toNat) (lw A y.toNat) (wt0 (lk A x.toNat)) (sv0 (lk A x.toNat)) (pn A z.toNat) S0 m = some S) ∧ ((m : Int) = pn A z.toNat 0 ∨ rns (lk A x.toNat) (lw A y.toNat) (wt0 (lk A x.toNat)) (sv0 (lk A x.toNat)) (pn A z.toNat) S0 (m + 1) = none)) (pn A z.toNat 0).toNat (fun i t => fr CGs h1 t ∧ ∃ S, rns (lk A x.toNat) (lw A y.toNat) (wt0 (lk A x.toNat)) (sv0 (lk A x.toNat)) (pn A z.toNat) S0 i = some S ∧ SC t 303 (69 + 12 * x.toNat) (94 + 4 * y.toNat) (lk A x.toNat) (lw A y.toNat) (wt0 (lk A x.toNat)) (sv0 (lk A x.toNat)) false S) ?_ ?_ fu_ 0 h1 (by omega) (by unfold fu_; omega) ⟨fr_refl, S0, rfl, K⟩
          · intro m i t hi ⟨f, S, e, Kt⟩
            obtain ⟨V, TT⟩ := rns_ok kL kW ao.1 ao.2 e
            have Ct : CX t (69 + 12 * x.toNat) (94 + 4 * y.toNat) (lk A x.toNat) (lw A y.toNat) := CX_fr C f (fun b hb => hb.1)
            have g := zR.1.2 i (by omega)
            have fe : ∀ b, b < 303 → pi t b = pi h b := fun b hb => by rw [CG_i f (Or.inl hb), CG_i b2 (Or.inl hb)]
            obtain ⟨v, h', p1, p2, p3⟩ := c_perform (r := 103 + 5 * z.toNat) (i := i) (a := 303) hW Ct Kt V (by omega) (Or.inl rfl) (by omega) (by rw [fe _ (by omega)]; exact g.1) (by rw [fe _ (by omega)]; exact g.2.1) (by rw [fe _ (by omega)]; exact g.2.2.1) (by rw [fe _ (by omega)]; exact g.2.2.2) (zR.2.2 i (by omega))
            have f' : fr CGs h1 h' := fr_trans f (fr_mono p2 (fun b hb => by unfold CFs SF at hb; unfold CGs; omega))
            show (∃ (m' : Nat) (h2 : pH), pl_I_stop_80 x y z _ _ (m + 1) (pn A z.toNat 0) i t = some ((m' : Int), h2) ∧ _) ∨ ∃ t', pl_I_stop_80 x y z _ _ (m + 1) (pn A z.toNat 0) i t = pl_I_stop_80 x y z _ _ m (pn A z.toNat 0) (i + 1 : Nat) t' ∧ _
            rw [pl_I_stop_80, if_neg (by omega), gib q3.1 (by omega), show 102 + 1 + 5 * z.toNat = 103 + 5 * z.toNat by omega, p1, bsm]
            have en : rns (lk A x.toNat) (lw A y.toNat) (wt0 (lk A x.toNat)) (sv0 (lk A x.toNat)) (pn A z.toNat) S0 (i + 1) = dsp (lk A x.toNat) (lw A y.toNat) (wt0 (lk A x.toNat)) (sv0 (lk A x.toNat)) (pn A z.toNat (1 + 4 * i)) (pn A z.toNat (2 + 4 * i)) (pn A z.toNat (3 + 4 * i)) (pn A z.toNat (4 + 4 * i)) S := by rw [rns, e]; rfl
            rcases p3 with ⟨s1, s2⟩ | ⟨S', s1, s2, s3⟩
            · left
              exact ⟨i, h', by rw [s2]; rfl, f', by omega, ⟨S, e⟩, Or.inr (by rw [en]; exact s1)⟩
            · right
              refine ⟨h', ?_, f', S', by rw [en]; exact s1, s3⟩
              rw [s2, n10, wr_eq (by omega) (by omega)]
              rfl
          · intro m t ⟨f, S, e, Kt⟩
            refine ⟨(pn A z.toNat 0).toNat, t, ?_, f, by omega, ⟨S, e⟩, Or.inl (by omega)⟩
            show pl_I_stop_80 x y z _ _ (m + 1) (pn A z.toNat 0) ((pn A z.toNat 0).toNat : Nat) t = _
            rw [pl_I_stop_80, if_pos (by omega), show (((pn A z.toNat 0).toNat : Nat) : Int) = pn A z.toNat 0 by omega]
        obtain ⟨m, h2, c1, c2, c3, ⟨S, c4⟩, c5⟩ := cls
        have f2 := fr_trans b2 c2
        obtain ⟨r, g, p1, p2, p3, p4⟩ := model h2 f2
        rcases p4 with ⟨v, _⟩ | ⟨_, v2, G2⟩
        · exact absurd ⟨q1, q2⟩ v
        · have i2 := m_isOf (h := g) (k := 2) (x := z) (by rw [p3]; exact B) (by omega)
          rw [show ((2 : Nat) : Int) = 2 from rfl, p3] at i2
          obtain ⟨k, g2, r1, r2, r3, r4, S2, r5, r6⟩ := m_runs (most := 99) p3 B G2 q3 (by omega)
          have : k = m := by
            rcases Nat.lt_trichotomy k m with v | v | v
            · rcases r6 with ⟨w, _⟩ | ⟨w, _⟩
              · omega
              · have := rns_no (n := k + 1) (m := m) (by omega) w
                rw [c4] at this; cases this
            · exact v
            · rcases c5 with w | w
              · omega
              · have := rns_no (n := m + 1) (m := k) (by omega) w
                rw [r5] at this; cases this
          refine ⟨(m : Int), h2, g2, c1, f2, ?_, MG_trans p2 (MF_MG r2)⟩
          rw [p1, bsm, v2, n10]
          simp only []
          rw [i2, bsm, if1, if_pos q3, r1, this]
          rfl
      · rw [if_neg q3]
        obtain ⟨r, g, p1, p2, p3, p4⟩ := model h fr_refl
        refine ⟨-1, h, g, rfl, fr_refl, ?_, p2⟩
        rw [p1, bsm]
        rcases p4 with ⟨v, v2⟩ | ⟨_, v2, G2⟩
        · rw [v2, n00]
        · have i2 := m_isOf (h := g) (k := 2) (x := z) (by rw [p3]; exact B) (by omega)
          rw [show ((2 : Nat) : Int) = 2 from rfl, p3] at i2
          rw [v2, n10]
          simp only []
          rw [i2, bsm, if1, if_neg q3]
    · rw [if_neg q2]
      obtain ⟨r, g, p1, p2, p3, p4⟩ := model h fr_refl
      refine ⟨-1, h, g, rfl, fr_refl, ?_, p2⟩
      rcases p4 with ⟨v, v2⟩ | ⟨v, _⟩
      · rw [p1, bsm, v2, n00]
      · exact absurd v.2 q2
  · rw [if_neg q1]
    obtain ⟨r, g, p1, p2, p3, p4⟩ := model h fr_refl
    refine ⟨-1, h, g, rfl, fr_refl, ?_, p2⟩
    rcases p4 with ⟨v, v2⟩ | ⟨v, _⟩
    · rw [p1, bsm, v2, n00]
    · exact absurd v.1 q1
