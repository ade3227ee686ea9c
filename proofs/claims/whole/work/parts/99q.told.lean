/-! told: what is asked of it without a state -/
/-- both answer the same, and write nothing -/
def tells (cf mf : pH → Option Int) : Prop := ∀ h A, TR h 65 A → pi h 418 = A → ∃ r, cf h = some r ∧ mf h = some r
theorem p_count {x : Int} : tells (pf_I_count x) (pf_M_count x) := by
  intro h A R e
  have e0 : pi h 67 0 = A 0 := R.2.1.1
  have e1 : pi h 67 1 = A 1 := R.2.1.2.1
  have e2 : pi h 67 2 = A 2 := R.2.1.2.2
  unfold pf_I_count pf_M_count
  rw [m_isIn, bsm, if1, e]
  by_cases q1 : 0 ≤ x ∧ x ≤ 2
  · rw [if_neg (by omega), if_pos q1.2, if_pos q1, gib (by omega) (by omega), gib (by omega) (by omega)]
    refine ⟨_, rfl, ?_⟩
    have c3 : x = 0 ∨ x = 1 ∨ x = 2 := by omega
    rcases c3 with rfl | rfl | rfl
    · exact congrArg some e0.symm
    · exact congrArg some e1.symm
    · exact congrArg some e2.symm
  · rw [if_neg q1]
    by_cases q2 : x < 0
    · rw [if_pos q2]; exact ⟨_, rfl, rfl⟩
    · rw [if_neg q2, if_neg (by omega)]; exact ⟨_, rfl, rfl⟩
theorem p_fault {x : Int} : tells (pf_I_fault x) (pf_M_fault x) := by
  intro h A R e
  have e4 : pi h 65 2 = A 4 := R.2.2.1.1.2.1
  have e5 : pi h 65 3 = A 5 := R.2.2.1.1.2.2
  unfold pf_I_fault pf_M_fault
  rw [e, e4, e5]
  by_cases q1 : x = 0
  · rw [if_pos q1]; exact ⟨_, rfl, rfl⟩
  · rw [if_neg q1]
    by_cases q2 : x = 1
    · rw [if_pos q2]; exact ⟨_, rfl, rfl⟩
    · rw [if_neg q2]; exact ⟨_, rfl, rfl⟩
section Dr
variable {h : pH} {A : Nat → Int}
theorem m_place0 {i : Nat} (hi : i < 2) : pf_M_placeOf 0 (i : Int) h = some ((610 + 260 * i : Nat) : Int) := by
  unfold pf_M_placeOf
  rw [if_pos rfl, wr_eq (x := 260 * (i : Int)) (by omega) (by omega), wr_eq (by omega) (by omega)]
  exact congrArg some (by omega)
theorem m_place1 {i : Nat} (hi : i < 2) : pf_M_placeOf 1 (i : Int) h = some ((1130 + 68 * i : Nat) : Int) := by
  unfold pf_M_placeOf
  rw [if_neg (by decide), if_pos rfl, wr_eq (x := 68 * (i : Int)) (by omega) (by omega), wr_eq (by omega) (by omega)]
  exact congrArg some (by omega)
theorem m_place2 {i : Nat} (hi : i < 3) : pf_M_placeOf 2 (i : Int) h = some ((1266 + 122 * i : Nat) : Int) := by
  unfold pf_M_placeOf
  rw [if_neg (by decide), if_neg (by decide), wr_eq (x := 122 * (i : Int)) (by omega) (by omega), wr_eq (by omega) (by omega)]
  exact congrArg some (by omega)
end Dr
def lkV (L : Nat → Int) (o : Int) : Int := if 0 ≤ o ∧ o ≤ 4 then L o.toNat else (if 20 ≤ o ∧ o ≤ 19 + L 3 then L (224 + (o - 20).toNat) else -100)
theorem p_lake {x o : Int} : tells (pf_I_lake x o) (pf_M_lake x o) := by
  intro h A R e
  have B := TR_TB R
  rw [← e] at B
  have c0 := c_has (k := 0) (x := x) R (by omega)
  have m0 := m_isOf (k := 0) (x := x) B (by omega)
  rw [e] at m0
  have c0' : pf_To_has 65 0 x h = some (if 0 ≤ x ∧ x < A 0 then 1 else 0) := c0
  have m0' : pf_M_isOf 0 x h = some (if 0 ≤ x ∧ x < A 0 then 1 else 0) := m0
  by_cases q1 : 0 ≤ x ∧ x < A 0
  · have a2 := R.1.1.2
    obtain ⟨i, rfl⟩ : ∃ i : Nat, x = i := ⟨x.toNat, by omega⟩
    have hi : i < 2 := by omega
    obtain ⟨LRi, kL⟩ := R.2.2.2.2.1 i q1.2
    have LR' : LR h ((68 + 1) + 12 * i) (lk A i) := LRi
    have eL : ∀ j, pi h 418 (610 + 260 * i + j) = lk A i j := fun j => by rw [e]; rfl
    obtain ⟨l0, l1, l2, l3, l4⟩ := LR'.1
    have f3 := LR'.2.2.1
    have fr3 := kL.2.2.1
    generalize lk A i = L at *
    refine ⟨lkV L o, ?_, ?_⟩
    · unfold pf_I_lake lkV
      rw [c0', bsm, if1, if_pos q1, Int.toNat_natCast, gib (by omega) (by omega), l0, l1, l2, l3, l4]
      by_cases q2 : 0 ≤ o ∧ o ≤ 4
      · rw [if_pos q2]
        have c5 : o = 0 ∨ o = 1 ∨ o = 2 ∨ o = 3 ∨ o = 4 := by omega
        rcases c5 with rfl | rfl | rfl | rfl | rfl <;> rfl
      · rw [if_neg q2, if_neg (by omega), if_neg (by omega), if_neg (by omega), if_neg (by omega), if_neg (by omega), wr_eq (x := 20 + L 3) (by omega) (by omega)]
        by_cases q3 : 20 ≤ o ∧ o ≤ 19 + L 3
        · rw [if_pos q3, if_neg (by omega), if_neg (by omega), wr_eq (x := o - 20) (by omega) (by omega), gib (by omega) (by omega), f3 (o - 20).toNat (by omega)]
        · rw [if_neg q3]
          by_cases q4 : o < 20
          · rw [if_pos q4]
          · rw [if_neg q4, if_pos (by omega)]
    · unfold pf_M_lake lkV
      rw [m0', bsm, if1, if_pos q1, m_place0 hi, bsm, m_isIn, bsm, if1]
      by_cases q2 : 0 ≤ o ∧ o ≤ 4
      · rw [if_pos q2, if_pos q2, wr_eq (by omega) (by omega), gib (by omega) (by omega), show (((610 + 260 * i : Nat) : Int) + o).toNat = 610 + 260 * i + o.toNat by omega, eL]
      · rw [if_neg q2, if_neg q2, wr_eq (x := ((610 + 260 * i : Nat) : Int) + 3) (by omega) (by omega), gib (by omega) (by omega), show (((610 + 260 * i : Nat) : Int) + 3).toNat = 610 + 260 * i + 3 by omega, eL 3, wr_eq (x := 19 + L 3) (by omega) (by omega), m_isIn, bsm, if1]
        by_cases q3 : 20 ≤ o ∧ o ≤ 19 + L 3
        · rw [if_pos q3, if_pos q3, wr_eq (x := ((610 + 260 * i : Nat) : Int) + 224) (by omega) (by omega), wr_eq (x := ((610 + 260 * i : Nat) : Int) + 224 + o) (by omega) (by omega), wr_eq (x := ((610 + 260 * i : Nat) : Int) + 224 + o - 20) (by omega) (by omega), gib (by omega) (by omega), show (((610 + 260 * i : Nat) : Int) + 224 + o - 20).toNat = 610 + 260 * i + (224 + (o - 20).toNat) by omega, eL]
        · rw [if_neg q3, if_neg q3]
  · refine ⟨-100, ?_, ?_⟩
    · unfold pf_I_lake
      rw [c0', bsm, if1, if_neg q1]
    · unfold pf_M_lake
      rw [m0', bsm, if1, if_neg q1]
theorem p_shop {x s o : Int} : tells (pf_I_shop x s o) (pf_M_shop x s o) := by
  intro h A R e
  have B := TR_TB R
  rw [← e] at B
  unfold pf_I_shop pf_M_shop
  have c0 := c_has (k := 0) (x := x) R (by omega)
  have m0 := m_isOf (k := 0) (x := x) B (by omega)
  rw [e] at m0
  have c0' : pf_To_has 65 0 x h = some (if 0 ≤ x ∧ x < A 0 then 1 else 0) := c0
  have m0' : pf_M_isOf 0 x h = some (if 0 ≤ x ∧ x < A 0 then 1 else 0) := m0
  rw [c0', m0', bsm, bsm, if1, if1]
  by_cases q1 : 0 ≤ x ∧ x < A 0
  · rw [if_pos q1, if_pos q1]
    have a2 := R.1.1.2
    obtain ⟨i, rfl⟩ : ∃ i : Nat, x = i := ⟨x.toNat, by omega⟩
    have hi : i < 2 := by omega
    obtain ⟨LRi, kL⟩ := R.2.2.2.2.1 i q1.2
    have LR' : LR h ((68 + 1) + 12 * i) (lk A i) := LRi
    have eL : ∀ j, j < 260 → pi h 418 (610 + 260 * i + j) = lk A i j := fun j _ => by rw [e]; rfl
    have l4 := LR'.1.2.2.2.2
    have s6 := kL.2.2.2.1
    rw [Int.toNat_natCast, gib (by omega) (by omega), gib (by omega) (by omega), m_place0 hi, bsm, m_isShop (by omega) eL s6, bsm, if1, m_isIn, bsm, if1, l4]
    by_cases q2 : 0 ≤ s ∧ s < lk A i 4
    · rw [if_pos q2, if_neg (by omega), if_pos q2.2]
      have es : ((s.toNat : Nat) : Int) = s := by omega
      obtain ⟨f0, f1, f2, f3⟩ := LR'.2.2.2.1 s.toNat (by unfold NS; omega)
      rw [f0, f1, f2, f3, gib (by omega) (by omega), gib (by omega) (by omega), gib (by omega) (by omega), gib (by omega) (by omega)]
      by_cases q3 : 0 ≤ o ∧ o ≤ 3
      · rw [if_pos q3, bsm, m_shopOf (by omega) eL q2.1 (by omega) q3.1 (by omega)]
        have c4 : o = 0 ∨ o = 1 ∨ o = 2 ∨ o = 3 := by omega
        rcases c4 with rfl | rfl | rfl | rfl
        · exact ⟨_, rfl, congrArg (fun k => some (lk A i k)) (by omega)⟩
        · exact ⟨_, rfl, congrArg (fun k => some (lk A i k)) (by omega)⟩
        · exact ⟨_, rfl, congrArg (fun k => some (lk A i k)) (by omega)⟩
        · exact ⟨_, rfl, congrArg (fun k => some (lk A i k)) (by omega)⟩
      · rw [if_neg q3, if_neg (by omega), if_neg (by omega), if_neg (by omega), if_neg (by omega)]
        exact ⟨_, rfl, rfl⟩
    · rw [if_neg q2]
      by_cases q3 : s < 0
      · rw [if_pos q3]; exact ⟨_, rfl, rfl⟩
      · rw [if_neg q3, if_neg (by omega)]; exact ⟨_, rfl, rfl⟩
  · rw [if_neg q1, if_neg q1]; exact ⟨_, rfl, rfl⟩
def pnV (P : Nat → Int) (k o : Int) : Int := if k = -1 then (if o = 0 then P 0 else -2) else (if (0 ≤ k ∧ k ≤ P 0 - 1) ∧ 0 ≤ o ∧ o ≤ 3 then P (1 + 4 * k.toNat + o.toNat) else -2)
theorem p_act {x k o : Int} : tells (pf_I_act x k o) (pf_M_act x k o) := by
  intro h A R e
  have B := TR_TB R
  rw [← e] at B
  have c0 := c_has (k := 2) (x := x) R (by omega)
  have m0 := m_isOf (k := 2) (x := x) B (by omega)
  rw [e] at m0
  have c0' : pf_To_has 65 2 x h = some (if 0 ≤ x ∧ x < A 2 then 1 else 0) := c0
  have m0' : pf_M_isOf 2 x h = some (if 0 ≤ x ∧ x < A 2 then 1 else 0) := m0
  by_cases q1 : 0 ≤ x ∧ x < A 2
  · have a2 := R.1.2.2.2
    obtain ⟨i, rfl⟩ : ∃ i : Nat, x = i := ⟨x.toNat, by omega⟩
    have hi : i < 3 := by omega
    obtain ⟨PRi, kP⟩ := R.2.2.2.2.2.2 i q1.2
    have PR' : PR h ((102 + 1) + 5 * i) (pn A i) := PRi
    have eP : ∀ j, pi h 418 (1266 + 122 * i + j) = pn A i j := fun j => by rw [e]; rfl
    have eP0 := eP 0
    rw [Nat.add_zero] at eP0
    have p0 := kP.1
    generalize pn A i = P at *
    refine ⟨pnV P k o, ?_, ?_⟩
    · unfold pf_I_act pnV
      rw [c0', bsm, if1, if_pos q1, Int.toNat_natCast, gib (by omega) (by omega), PR'.1]
      by_cases q2 : k = -1
      · rw [if_pos q2, if_pos q2]
        by_cases q3 : o = 0
        · rw [if_pos q3, if_pos q3]
        · rw [if_neg q3, if_neg q3]
      · rw [if_neg q2, if_neg q2]
        by_cases q3 : 0 ≤ k ∧ k ≤ P 0 - 1
        · rw [if_neg (by omega), if_pos (by omega)]
          obtain ⟨f0, f1, f2, f3⟩ := PR'.2 k.toNat (by omega)
          rw [f0, f1, f2, f3, gib (by omega) (by omega), gib (by omega) (by omega), gib (by omega) (by omega), gib (by omega) (by omega)]
          by_cases q4 : 0 ≤ o ∧ o ≤ 3
          · rw [if_pos (show (0 ≤ k ∧ k ≤ P 0 - 1) ∧ 0 ≤ o ∧ o ≤ 3 from ⟨q3, q4⟩)]
            have c4 : o = 0 ∨ o = 1 ∨ o = 2 ∨ o = 3 := by omega
            have g : ∀ u v : Nat, u = v → some (P u) = some (P v) := fun u v k => by rw [k]
            rcases c4 with rfl | rfl | rfl | rfl
            · exact g (1 + 4 * k.toNat) (1 + 4 * k.toNat + (0 : Int).toNat) (by omega)
            · exact g (2 + 4 * k.toNat) (1 + 4 * k.toNat + (1 : Int).toNat) (by omega)
            · exact g (3 + 4 * k.toNat) (1 + 4 * k.toNat + (2 : Int).toNat) (by omega)
            · exact g (4 + 4 * k.toNat) (1 + 4 * k.toNat + (3 : Int).toNat) (by omega)
          · rw [if_neg (show ¬ ((0 ≤ k ∧ k ≤ P 0 - 1) ∧ 0 ≤ o ∧ o ≤ 3) from fun v => q4 v.2), if_neg (by omega), if_neg (by omega), if_neg (by omega), if_neg (by omega)]
        · rw [if_neg (show ¬ ((0 ≤ k ∧ k ≤ P 0 - 1) ∧ 0 ≤ o ∧ o ≤ 3) from fun v => q3 v.1)]
          by_cases q4 : k < 0
          · rw [if_pos q4]
          · rw [if_neg q4, if_neg (by omega)]
    · unfold pf_M_act pnV
      rw [m0', bsm, if1, if_pos q1, m_place2 hi, bsm, Int.toNat_natCast, eP0]
      by_cases q2 : k = -1
      · rw [if_pos q2, if_pos q2, gib (by omega) (by omega)]
        split <;> rfl
      · rw [if_neg q2, if_neg q2, gib (by omega) (by omega), wr_eq (x := P 0 - 1) (by omega) (by omega), m_isIn, bsm, if1, m_isIn, bsm, if1]
        by_cases q3 : 0 ≤ k ∧ k ≤ P 0 - 1
        · rw [if_pos q3]
          by_cases q4 : 0 ≤ o ∧ o ≤ 3
          · rw [if_pos q4, if_pos ⟨q3, q4⟩, wr_eq (x := ((1266 + 122 * i : Nat) : Int) + 1) (by omega) (by omega), wr_eq (x := 4 * k) (by omega) (by omega), wr_eq (x := ((1266 + 122 * i : Nat) : Int) + 1 + 4 * k) (by omega) (by omega), wr_eq (x := ((1266 + 122 * i : Nat) : Int) + 1 + 4 * k + o) (by omega) (by omega), gib (by omega) (by omega), show (((1266 + 122 * i : Nat) : Int) + 1 + 4 * k + o).toNat = 1266 + 122 * i + (1 + 4 * k.toNat + o.toNat) by omega, eP]
          · rw [if_neg q4, if_neg (fun v => q4 v.2)]
        · rw [if_neg q3, if_neg (fun v => q3 v.1)]
  · refine ⟨-2, ?_, ?_⟩
    · unfold pf_I_act
      rw [c0', bsm, if1, if_neg q1]
    · unfold pf_M_act
      rw [m0', bsm, if1, if_neg q1]
