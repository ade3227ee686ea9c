/-! told: the law; a cell but for its cracks; the end -/
def lwV (W : Nat → Int) (o : Int) : Int := if 0 ≤ o ∧ o ≤ 4 then W o.toNat else (if 20 ≤ o ∧ o ≤ 19 + W 4 then W (6 + 2 * (o - 20).toNat) else (if 40 ≤ o ∧ o ≤ 39 + W 4 then W (7 + 2 * (o - 40).toNat) else (if 60 ≤ o ∧ o ≤ 95 then W (30 + (o - 60).toNat) else -1)))
theorem p_law {x o : Int} : tells (pf_I_law x o) (pf_M_law x o) := by
  intro h A R e
  have B := TR_TB R
  rw [← e] at B
  have c0 := c_has (k := 1) (x := x) R (by omega)
  have m0 := m_isOf (k := 1) (x := x) B (by omega)
  rw [e] at m0
  have c0' : pf_To_has 65 1 x h = some (if 0 ≤ x ∧ x < A 1 then 1 else 0) := c0
  have m0' : pf_M_isOf 1 x h = some (if 0 ≤ x ∧ x < A 1 then 1 else 0) := m0
  by_cases q1 : 0 ≤ x ∧ x < A 1
  · have a2 := R.1.2.1.2
    obtain ⟨i, rfl⟩ : ∃ i : Nat, x = i := ⟨x.toNat, by omega⟩
    have hi : i < 2 := by omega
    obtain ⟨WRi, kW⟩ := R.2.2.2.2.2.1 i q1.2
    have WR' : WR h ((93 + 1) + 4 * i) (lw A i) := WRi
    have eW : ∀ j, pi h 418 (1130 + 68 * i + j) = lw A i j := fun j => by rw [e]; rfl
    obtain ⟨l0, l1, l2, l3, l4⟩ := WR'.1
    have f1 := WR'.2.1
    have f2 := WR'.2.2.1
    have w4 := kW.2.2.2.2.1
    have wb := kW.2.2.2.2.2.2
    generalize lw A i = W at *
    refine ⟨lwV W o, ?_, ?_⟩
    · unfold pf_I_law lwV
      rw [c0', bsm, if1, if_pos q1, Int.toNat_natCast, gib (by omega) (by omega), l0, l1, l2, l3, l4]
      by_cases q2 : 0 ≤ o ∧ o ≤ 4
      · rw [if_pos q2]
        have c5 : o = 0 ∨ o = 1 ∨ o = 2 ∨ o = 3 ∨ o = 4 := by omega
        rcases c5 with rfl | rfl | rfl | rfl | rfl <;> rfl
      · rw [if_neg q2, if_neg (by omega), if_neg (by omega), if_neg (by omega), if_neg (by omega), if_neg (by omega)]
        unfold pf_Lw_tellRow pj_Lw_tellRow_27 pj_Lw_tellRow_54
        rw [l4, wr_eq (x := 20 + W 4) (by omega) (by omega), wr_eq (x := 40 + W 4) (by omega) (by omega)]
        by_cases q3 : 20 ≤ o ∧ o ≤ 19 + W 4
        · rw [if_pos q3, if_neg (show ¬ o < 20 by omega), if_neg (show ¬ 20 + W 4 ≤ o by omega), wr_eq (x := o - 20) (by omega) (by omega), gib (by omega) (by omega), (f1 (o - 20).toNat (by omega)).1]; rfl
        · rw [if_neg q3]
          by_cases q4 : 40 ≤ o ∧ o ≤ 39 + W 4
          · rw [if_pos q4, if_neg (show ¬ o < 20 by omega), if_pos (show 20 + W 4 ≤ o by omega), if_neg (show ¬ o < 40 by omega), if_neg (show ¬ 40 + W 4 ≤ o by omega), wr_eq (x := o - 40) (by omega) (by omega), gib (by omega) (by omega), (f1 (o - 40).toNat (by omega)).2]; rfl
          · rw [if_neg q4]
            have tl : (if o < 60 then (some ((-1) : Int)) else (if 96 ≤ o then (some ((-1))) else ((pf_I_hasBit (pl h ((93 + 1) + (4 * i)) 7) (wr (o - 60)) h).bind fun v1 => (if v1 = 0 then (some 0) else (some 1))))) = some (if 60 ≤ o ∧ o ≤ 95 then W (30 + (o - 60).toNat) else -1) := by
              by_cases q5 : 60 ≤ o ∧ o ≤ 95
              · have hb := c_hasBit (y := pl h ((93 + 1) + (4 * i)) 7) (n := (o - 60).toNat) (h := h) (by omega)
                rw [show (((o - 60).toNat : Nat) : Int) = o - 60 by omega] at hb
                rw [if_pos q5, if_neg (show ¬ o < 60 by omega), if_neg (show ¬ 96 ≤ o by omega), wr_eq (x := o - 60) (by omega) (by omega), hb, bsm, if1]
                have t := f2 (o - 60).toNat (by omega)
                have t2 := wb (o - 60).toNat (by omega)
                by_cases q6 : tb (pl h ((93 + 1) + (4 * i)) 7) (o - 60).toNat = true
                · rw [if_pos q6, t.mp q6]
                · rw [if_neg q6]
                  rcases t2 with y | y
                  · rw [y]
                  · exact absurd (t.mpr y) q6
              · rw [if_neg q5]
                by_cases q6 : o < 60
                · rw [if_pos q6]
                · rw [if_neg q6, if_pos (by omega)]
            have bsome : ∀ v : Option Int, (v.bind fun v8 => some v8) = v := fun v => by cases v <;> rfl
            rw [bsome]
            by_cases q5 : o < 20
            · rw [if_pos q5, if_pos (show o < 40 by omega)]; exact tl
            · rw [if_neg q5, if_pos (show 20 + W 4 ≤ o by omega)]
              by_cases q6 : o < 40
              · rw [if_pos q6]; exact tl
              · rw [if_neg q6, if_pos (show 40 + W 4 ≤ o by omega)]; exact tl
    · unfold pf_M_law lwV
      rw [m0', bsm, if1, if_pos q1, m_place1 hi, bsm, wr_eq (x := ((1130 + 68 * i : Nat) : Int) + 4) (by omega) (by omega), gib (by omega) (by omega), show (((1130 + 68 * i : Nat) : Int) + 4).toNat = 1130 + 68 * i + 4 by omega, eW 4, m_isIn, bsm, if1, wr_eq (x := 19 + W 4) (by omega) (by omega), wr_eq (x := 39 + W 4) (by omega) (by omega), m_isIn, bsm, if1, m_isIn, bsm, if1, m_isIn, bsm, if1]
      by_cases q2 : 0 ≤ o ∧ o ≤ 4
      · rw [if_pos q2, if_pos q2, wr_eq (x := ((1130 + 68 * i : Nat) : Int) + o) (by omega) (by omega), gib (by omega) (by omega), show (((1130 + 68 * i : Nat) : Int) + o).toNat = 1130 + 68 * i + o.toNat by omega, eW]
      · rw [if_neg q2, if_neg q2]
        by_cases q3 : 20 ≤ o ∧ o ≤ 19 + W 4
        · rw [if_pos q3, if_pos q3, wr_eq (x := ((1130 + 68 * i : Nat) : Int) + 6) (by omega) (by omega), wr_eq (x := o - 20) (by omega) (by omega), wr_eq (x := 2 * (o - 20)) (by omega) (by omega), wr_eq (x := ((1130 + 68 * i : Nat) : Int) + 6 + 2 * (o - 20)) (by omega) (by omega), gib (by omega) (by omega), show (((1130 + 68 * i : Nat) : Int) + 6 + 2 * (o - 20)).toNat = 1130 + 68 * i + (6 + 2 * (o - 20).toNat) by omega, eW]
        · rw [if_neg q3, if_neg q3]
          by_cases q4 : 40 ≤ o ∧ o ≤ 39 + W 4
          · rw [if_pos q4, if_pos q4, wr_eq (x := ((1130 + 68 * i : Nat) : Int) + 6) (by omega) (by omega), wr_eq (x := o - 40) (by omega) (by omega), wr_eq (x := 2 * (o - 40)) (by omega) (by omega), wr_eq (x := ((1130 + 68 * i : Nat) : Int) + 6 + 2 * (o - 40)) (by omega) (by omega), wr_eq (x := ((1130 + 68 * i : Nat) : Int) + 6 + 2 * (o - 40) + 1) (by omega) (by omega), gib (by omega) (by omega), show (((1130 + 68 * i : Nat) : Int) + 6 + 2 * (o - 40) + 1).toNat = 1130 + 68 * i + (7 + 2 * (o - 40).toNat) by omega, eW]
          · rw [if_neg q4, if_neg q4]
            by_cases q5 : 60 ≤ o ∧ o ≤ 95
            · rw [if_pos q5, if_pos q5, wr_eq (x := ((1130 + 68 * i : Nat) : Int) + 30) (by omega) (by omega), wr_eq (x := ((1130 + 68 * i : Nat) : Int) + 30 + o) (by omega) (by omega), wr_eq (x := ((1130 + 68 * i : Nat) : Int) + 30 + o - 60) (by omega) (by omega), gib (by omega) (by omega), show (((1130 + 68 * i : Nat) : Int) + 30 + o - 60).toNat = 1130 + 68 * i + (30 + (o - 60).toNat) by omega, eW]
            · rw [if_neg q5, if_neg q5]
  · refine ⟨-1, ?_, ?_⟩
    · unfold pf_I_law
      rw [c0', bsm, if1, if_neg q1]
    · unfold pf_M_law
      rw [m0', bsm, if1, if_neg q1]
