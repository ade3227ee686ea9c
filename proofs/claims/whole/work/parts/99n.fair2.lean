/-! fair: days of blocks; the reference -/
noncomputable def dys (B : Nat → Nat → Prop) (c : Nat) (m : Nat) : Int := match m with
  | 0 => cif (B 0 c) 0 (-1)
  | m + 1 => cif (dys B c m = m ∧ B (m + 1) c) ((m : Int) + 1) (dys B c m)
theorem dys_bd {B : Nat → Nat → Prop} {c : Nat} : ∀ {m : Nat}, -1 ≤ dys B c m ∧ dys B c m ≤ m
  | 0 => by
    rw [dys]
    by_cases k : B 0 c
    · rw [cif_t k]; omega
    · rw [cif_f k]; omega
  | m + 1 => by
    have i := dys_bd (B := B) (c := c) (m := m)
    rw [dys]
    by_cases k : dys B c m = m ∧ B (m + 1) c
    · rw [cif_t k]; omega
    · rw [cif_f k]; omega
theorem dys_0 {B : Nat → Nat → Prop} {c : Nat} : (dys B c 0 = 0 ↔ B 0 c) := by
  rw [dys]
  by_cases k : B 0 c
  · rw [cif_t k]; exact ⟨fun _ => k, fun _ => rfl⟩
  · rw [cif_f k]; exact ⟨fun v => absurd v (by decide), fun v => absurd v k⟩
theorem dys_s {B : Nat → Nat → Prop} {c m : Nat} : dys B c (m + 1) = ((m + 1 : Nat) : Int) ↔ dys B c m = m ∧ B (m + 1) c := by
  have i := dys_bd (B := B) (c := c) (m := m)
  rw [dys]
  by_cases k : dys B c m = m ∧ B (m + 1) c
  · rw [cif_t k]; exact ⟨fun _ => k, fun _ => by omega⟩
  · rw [cif_f k]; exact ⟨fun v => by omega, fun v => absurd v k⟩
theorem dys_st {B : Nat → Nat → Prop} {c m : Nat} (h : dys B c m ≠ m) : ∀ {k : Nat}, dys B c (m + k) = dys B c m
  | 0 => rfl
  | k + 1 => by
    have i := dys_st (B := B) h (k := k)
    have b := dys_bd (B := B) (c := c) (m := m)
    rw [show m + (k + 1) = (m + k) + 1 from rfl, dys, cif_f, i]
    intro v
    rw [i] at v
    omega
section Do
variable {h : pH} {a p q l w : Nat} {L W wt sv S : Nat → Int} {u : Bool} {d : Nat} {tk : Int}
theorem cells_of {bw bh : Int} {P : Int → Int → Prop} (b0 : 1 ≤ bw ∧ bw ≤ 6) (b1 : 1 ≤ bh ∧ bh ≤ 6) : (∀ j : Nat, (j : Int) < bw * bh → P ((j : Int) / bw) ((j : Int) % bw)) ↔ ∀ r k : Nat, (r : Int) < bh → (k : Int) < bw → P r k := by
  have c6 : bw = 1 ∨ bw = 2 ∨ bw = 3 ∨ bw = 4 ∨ bw = 5 ∨ bw = 6 := by omega
  refine ⟨fun g r k hr hk => ?_, fun g j hj => ?_⟩
  · have jj := g (r * bw.toNat + k)
    have e1 : (((r * bw.toNat + k : Nat) : Int) / bw) = r ∧ (((r * bw.toNat + k : Nat) : Int) % bw) = k ∧ (((r * bw.toNat + k : Nat) : Int) < bw * bh) := by
      rcases c6 with rfl | rfl | rfl | rfl | rfl | rfl <;> (simp only [Int.reduceToNat]; omega)
    have t := jj e1.2.2
    rw [e1.1, e1.2.1] at t
    exact t
  · have e1 : 0 ≤ (j : Int) / bw ∧ (j : Int) / bw < bh ∧ 0 ≤ (j : Int) % bw ∧ (j : Int) % bw < bw := by
      rcases c6 with rfl | rfl | rfl | rfl | rfl | rfl <;> omega
    have t := g ((j : Int) / bw).toNat ((j : Int) % bw).toNat (by omega) (by omega)
    rw [show ((((j : Int) / bw).toNat : Nat) : Int) = (j : Int) / bw by omega, show ((((j : Int) % bw).toNat : Nat) : Int) = (j : Int) % bw by omega] at t
    exact t
theorem m_isFair {g bw bh : Int} {c : Nat} (M : MC h l w L W wt sv 0) (V : SV L (pi h 422) d) (hc : (c : Int) < ce L) (g0 : 1 ≤ g ∧ g ≤ 999) (b0 : 1 ≤ bw ∧ bw ≤ 6) (b1 : 1 ≤ bh ∧ bh ≤ 6) : pf_M_isFair c bw bh g h = some (cif (blk L W (pi h 422) wt g bw bh c) 1 0) := by
  have kL := M.1.2.2.2.2.2.2.1
  have hWS := MC_WS M
  have zz : 4 ≤ ce L ∧ ce L ≤ 36 := sz_mul kL.1
  have q0 := kL.1
  obtain ⟨z1, z2, z3, z4⟩ := q0
  have q0 := kL.1
  obtain ⟨e1, e2, hl, hw, hL, hW, -, kW⟩ := M.1
  have m0 := md (c := c) q0 (by omega)
  have mlt : (c : Int) % L 0 < L 0 := Int.emod_lt_of_pos _ (by omega)
  have dlt : (c : Int) / L 0 ≤ 36 := by
    have : (c : Int) / L 0 ≤ c := Int.ediv_le_self _ (by omega)
    omega
  have L0 := hL 0 (by omega)
  have L1 := hL 1 (by omega)
  rw [Nat.add_zero] at L0
  unfold pf_M_isFair
  rw [e1, wr_eq (x := (l : Int) + 0) (by omega) (by omega), wr_eq (x := (l : Int) + 1) (by omega) (by omega), show ((l : Int) + 0).toNat = l by omega, show ((l : Int) + 1).toNat = l + 1 by omega, L0, L1, gib (by omega) (by omega), gnz (by omega), gnz (by omega), gib (by omega) (by omega), tm_p (by omega), td_p (by omega), wr_eq (x := (c : Int) % L 0 + bw) (by omega) (by omega), wr_eq (x := (c : Int) / L 0) (by omega) (by omega), wr_eq (x := (c : Int) / L 0 + bh) (by omega) (by omega)]
  by_cases q1 : L 0 < (c : Int) % L 0 + bw
  · rw [if_pos q1, cif_f (fun k => by have := k.2.1; omega)]
  · rw [if_neg q1]
    by_cases q2 : (c : Int) / L 0 + bh ≤ L 1
    · rw [if_pos q2]
      have ft := fun i j : Int => fits (w0 := L 0) (h0 := L 1) (c := (c : Int)) (bw := bw) (bh := bh) (r := i) (k := j) q0 (by omega) (by omega) q2
      have bb := mb (a := bw) (b := bh) (A := 6) (B := 6) (by omega) b0.2 (by omega) b1.2
      have all := cells_of (bw := bw) (bh := bh) (P := fun r k => frm L W (pi h 422) wt g ((c : Int) + r * L 0 + k)) b0 b1
      have bl : blk L W (pi h 422) wt g bw bh c ↔ ∀ j : Nat, (j : Int) < bw * bh → frm L W (pi h 422) wt g ((c : Int) + (j : Int) / bw * L 0 + (j : Int) % bw) := ⟨fun k => all.mpr k.2.2.2, fun k => ⟨hc, by omega, q2, all.mp k⟩⟩
      refine lpf (F := fun n (i : Nat) (x6 : Int) => pl_M_isFair_52 c bw bh g h (fun x6 => ia_gd (pz1 x6) (some x6)) n (L 0) x6 i) (Q := fun r => r = some (cif (blk L W (pi h 422) wt g bw bh c) 1 0)) (bw * bh).toNat (fun i x6 => x6 = cif (∀ j : Nat, j < i → frm L W (pi h 422) wt g ((c : Int) + (j : Int) / bw * L 0 + (j : Int) % bw)) 1 0) ?_ ?_ fu_ 0 1 (by omega) (by unfold fu_; omega) (by rw [cif_t]; exact fun j hj => absurd hj (Nat.not_lt_zero _))
      · intro n i x6 hi I
        by_cases q3 : ∀ j : Nat, j < i → frm L W (pi h 422) wt g ((c : Int) + (j : Int) / bw * L 0 + (j : Int) % bw)
        · right
          rw [cif_t q3] at I
          have c6 : bw = 1 ∨ bw = 2 ∨ bw = 3 ∨ bw = 4 ∨ bw = 5 ∨ bw = 6 := by omega
          have db : 0 ≤ (i : Int) / bw ∧ (i : Int) / bw < bh ∧ 0 ≤ (i : Int) % bw ∧ (i : Int) % bw < bw := by
            have hi' : (i : Int) < bw * bh := by omega
            rcases c6 with rfl | rfl | rfl | rfl | rfl | rfl <;> omega
          have f := ft ((i : Int) / bw) ((i : Int) % bw) db.1 db.2.1 db.2.2.1 db.2.2.2
          have rb := mb (a := (i : Int) / bw) (b := L 0) (A := 6) (B := 6) db.1 (by omega) (by omega) (by omega)
          have f1 : (c : Int) + (i : Int) / bw * L 0 + (i : Int) % bw < ce L := f.2
          have f0 := f.1
          generalize eX : (c : Int) + (i : Int) / bw * L 0 + (i : Int) % bw = X at *
          have vX := V.1 X.toNat (by omega)
          have lb0 := ld_bd (S := pi h 422) (wo := -1) (x := X) kL kW hWS
          refine ⟨cif (frm L W (pi h 422) wt g X) 1 0, ?_, ?_⟩
          · show pl_M_isFair_52 c bw bh g h (fun x6 => ia_gd (pz1 x6) (some x6)) (n + 1) (L 0) x6 i = _
            rw [pl_M_isFair_52, wr_eq (x := bw * bh) (by omega) (by omega), if_neg (by omega), I, if_neg (show ¬ (1 : Int) = 0 by decide), gnz (by omega), gnz (by omega), td_p (by omega), tm_p (by omega), wr_eq (x := (i : Int) / bw) (by omega) (by omega), wr_eq (x := (i : Int) / bw * L 0) (by omega) (by omega), wr_eq (x := (c : Int) + (i : Int) / bw * L 0) (by omega) (by omega), wr_eq (x := (c : Int) + (i : Int) / bw * L 0 + (i : Int) % bw) (by omega) (by omega), eX, m_shopIn M.1, bsm, m_bears M f0 (by omega) vX, bsm, m_loadOf M V.2.2.2.1 f0 f1, bsm, wr_eq (x := g + ld L W (pi h 422) wt (-1) X) (by omega) (by omega), wr_eq (x := (i : Int) + 1) (by omega) (by omega)]
            by_cases q4 : 0 ≤ shI (pi h 422) X (L 4).toNat
            · have nf : ¬ frm L W (pi h 422) wt g X := fun k => k.1 (shI (pi h 422) X (L 4).toNat).toNat (by have := shI_r (S := pi h 422) (c := X) (n := (L 4).toNat); unfold NS; omega) (shI_at q4)
              rw [if_pos q4, cif_f nf]; rfl
            · rw [if_neg q4]
              by_cases q5 : br L (pi h 422) 0 X < g + ld L W (pi h 422) wt (-1) X
              · rw [if_pos q5, cif_f (fun k => by have := k.2; omega)]; rfl
              · have yf : frm L W (pi h 422) wt g X := ⟨shI_no (S := pi h 422) (c := X) (n := (L 4).toNat) (by omega), by omega⟩
                rw [if_neg q5, cif_t yf]; rfl
          · by_cases q4 : frm L W (pi h 422) wt g X
            · rw [cif_t q4, cif_t]
              intro j hj
              by_cases y : j = i
              · rw [y, eX]; exact q4
              · exact q3 j (by omega)
            · rw [cif_f q4, cif_f]
              intro k
              have := k i (Nat.lt_succ_self i)
              rw [eX] at this
              exact q4 this
        · left
          rw [cif_f q3] at I
          show pl_M_isFair_52 c bw bh g h (fun x6 => ia_gd (pz1 x6) (some x6)) (n + 1) (L 0) x6 i = _
          rw [pl_M_isFair_52, wr_eq (x := bw * bh) (by omega) (by omega), if_neg (by omega), I, if_pos rfl, cif_f (fun k => q3 (fun j hj => bl.mp k j (by omega)))]
          rfl
      · intro n x6 I
        show pl_M_isFair_52 c bw bh g h (fun x6 => ia_gd (pz1 x6) (some x6)) (n + 1) (L 0) x6 ((bw * bh).toNat : Nat) = _
        rw [pl_M_isFair_52, wr_eq (x := bw * bh) (by omega) (by omega), if_pos (by omega)]
        by_cases q3 : blk L W (pi h 422) wt g bw bh c
        · rw [cif_t q3]
          rw [cif_t (fun j hj => bl.mp q3 j (by omega))] at I
          rw [I]; rfl
        · rw [cif_f q3]
          rw [cif_f (fun k => q3 (bl.mpr (fun j hj => k j (by omega))))] at I
          rw [I]; rfl
    · rw [if_neg q2, cif_f (fun k => q2 k.2.2.1)]
end Do
