/-! fair: the class's blocks -/
theorem shl_sub {yb yf : Int64} {c : Nat} (hc : c < 64) : plc (plshl yb c &&& (yf ^^^ -1)) 0 = 0 ↔ ∀ i, i < 64 → c ≤ i → tb yb (i - c) = true → tb yf i = true := by
  rw [plc_0]
  refine ⟨fun e i hi ci t => ?_, fun g => tb_ext (fun i hi => ?_)⟩
  · have e2 : tb (plshl yb c &&& (yf ^^^ -1)) i = false := by rw [e, tb_0]
    rw [tb_and, tb_shl hc hi, tb_nx hi, t, decide_eq_true ci] at e2
    cases k : tb yf i with
    | true => rfl
    | false => rw [k] at e2; exact Bool.noConfusion e2
  · rw [tb_and, tb_shl hc hi, tb_nx hi, tb_0]
    by_cases ci : c ≤ i
    · rw [decide_eq_true ci]
      cases k : tb yb (i - c) with
      | false => rfl
      | true => rw [g i hi ci k]; rfl
    · rw [decide_eq_false ci]; rfl
section Dn
variable {h : pH} {a p q l w : Nat} {L W wt sv S : Nat → Int} {u : Bool} {d : Nat} {tk : Int}
theorem c_blocks {g bw bh : Int} {yf : Int64} (C : CX h p q L W) (ea : pr h a 0 = p) (b0 : 1 ≤ bw ∧ bw ≤ 6) (b1 : 1 ≤ bh ∧ bh ≤ 6) (hyf : ∀ e : Nat, e < 64 → (tb yf e = true ↔ (e : Int) < ce L ∧ frm L W S wt g e)) : ∃ y, pf_Ou_blocksOf a yf bw bh h = some y ∧ ∀ e : Nat, e < 64 → (tb y e = true ↔ blk L W S wt g bw bh e) := by
  have kL := C.2.2.1
  have q0 := kL.1
  have zz : 4 ≤ ce L ∧ ce L ≤ 36 := sz_mul q0
  have hb0 := q0
  obtain ⟨z1, z2, z3, z4⟩ := q0
  have q0 := kL.1
  unfold pf_Ou_blocksOf
  rw [ea, C.1.1.1]
  obtain ⟨yb, u1, u2⟩ := c_block (h := h) (a := a) (y1 := yf) (bw := bw) (bh := bh) (w0 := L 0) (h0 := L 1) (K := fun x5 y6 => pl_Ou_blocksOf_65 a yf bw bh h (fun y8 => some y8) fu_ x5 y6 0 0) q0 b0 b1
  rw [u1]
  have test : ∀ r k : Nat, (r : Int) + bh ≤ L 1 → (k : Int) + bw ≤ L 0 → (0 ≤ (r : Int) * L 0 + k ∧ (r : Int) * L 0 + k < ce L ∧ (plc (plshl yb ((r : Int) * L 0 + k) &&& (yf ^^^ -1)) 0 = 0 ↔ ∀ i j : Nat, (i : Int) < bh → (j : Int) < bw → frm L W S wt g ((r : Int) * L 0 + k + i * L 0 + j))) := fun r k hr hk => by
    have dmk := dm (r := r) (k := k) (bw := bw) q0 (by omega) (by omega) hk b0.1
    have c0 : 0 ≤ (r : Int) * L 0 + k := by have := mb (a := r) (b := L 0) (A := 6) (B := 6) (by omega) (by omega) (by omega) (by omega); omega
    have ft := fun i j : Int => fits (w0 := L 0) (h0 := L 1) (c := (r : Int) * L 0 + k) (bw := bw) (bh := bh) (r := i) (k := j) q0 c0 (by rw [dmk.1]; exact hk) (by rw [dmk.2]; exact hr)
    have f0 := ft 0 0 (Int.le_refl _) (by omega) (Int.le_refl _) (by omega)
    have c1 : (r : Int) * L 0 + k < ce L := by
      have := f0.2
      rw [Int.zero_mul, Int.add_zero, Int.add_zero] at this
      exact this
    refine ⟨c0, c1, ?_⟩
    generalize eC : (r : Int) * L 0 + k = c at *
    have ec : ((c.toNat : Nat) : Int) = c := by omega
    rw [← ec, shl_sub (by omega), ec]
    refine ⟨fun G i j hi hj => ?_, fun G i hi ci t => ?_⟩
    · have f := ft i j (by omega) hi (by omega) hj
      have ij : 0 ≤ (i : Int) * L 0 := (mb (a := i) (b := L 0) (A := 6) (B := 6) (by omega) (by omega) (by omega) (by omega)).1
      have f2 : c + i * L 0 + j < ce L := f.2
      have t := G (c + i * L 0 + j).toNat (by omega) (by omega) ((u2 _ (by omega)).mpr ⟨i, j, hi, hj, by omega⟩)
      have t2 := ((hyf _ (by omega)).mp t).2
      rw [show (((c + i * L 0 + j).toNat : Nat) : Int) = c + i * L 0 + j by omega] at t2
      exact t2
    · obtain ⟨i', j', v1, v2, v3⟩ := (u2 _ (by omega)).mp t
      have f := ft i' j' (by omega) v1 (by omega) v2
      have f2 : c + i' * L 0 + j' < ce L := f.2
      have G2 := G i' j' v1 v2
      rw [show c + (i' : Int) * L 0 + j' = (i : Int) by omega] at G2
      exact (hyf i hi).mpr ⟨by omega, G2⟩
  have fin : ∀ e : Nat, (∃ r k : Nat, (r : Int) + bh ≤ L 1 ∧ (k : Int) + bw ≤ L 0 ∧ (e : Int) = r * L 0 + k ∧ ∀ i j : Nat, (i : Int) < bh → (j : Int) < bw → frm L W S wt g ((e : Int) + i * L 0 + j)) ↔ blk L W S wt g bw bh e := fun e => by
    refine ⟨fun ⟨r, k, v1, v2, v3, v4⟩ => ?_, fun ⟨v1, v2, v3, v4⟩ => ?_⟩
    · have dmk := dm (r := r) (k := k) (bw := bw) q0 (by omega) (by omega) v2 b0.1
      have t := (test r k v1 v2).2.1
      rw [← v3] at dmk t
      exact ⟨t, by rw [dmk.1]; exact v2, by rw [dmk.2]; exact v1, v4⟩
    · have m := md (c := e) q0 (by omega)
      refine ⟨((e : Int) / L 0).toNat, ((e : Int) % L 0).toNat, by omega, by omega, ?_, v4⟩
      rw [show ((((e : Int) / L 0).toNat : Nat) : Int) = (e : Int) / L 0 by omega, show ((((e : Int) % L 0).toNat : Nat) : Int) = (e : Int) % L 0 by omega]
      exact m.2.2
  refine lpf (F := fun n (i : Nat) (y : Int64) => pl_Ou_blocksOf_65 a yf bw bh h (fun y8 => some y8) n (L 0) yb y i) (Q := fun r => ∃ y, r = some y ∧ ∀ e : Nat, e < 64 → (tb y e = true ↔ blk L W S wt g bw bh e)) (L 1 - bh + 1).toNat (fun i y => ∀ e : Nat, e < 64 → (tb y e = true ↔ ∃ r k : Nat, r < i ∧ (k : Int) + bw ≤ L 0 ∧ (e : Int) = r * L 0 + k ∧ ∀ i j : Nat, (i : Int) < bh → (j : Int) < bw → frm L W S wt g ((e : Int) + i * L 0 + j))) ?_ ?_ fu_ 0 0 (by omega) (by unfold fu_; omega) (fun e he => ⟨fun v => absurd v (by rw [tb_0]; exact Bool.false_ne_true), fun ⟨r, k, v, _⟩ => absurd v (Nat.not_lt_zero _)⟩)
  · intro n i y hi B
    right
    have inner : ∃ y', pl_Ou_blocksOf_83 a yf bw bh h (fun x5 y6 y8 x10 => pl_Ou_blocksOf_65 a yf bw bh h (fun y8 => some y8) n x5 y6 y8 (wr (x10 + 1))) fu_ (L 0) yb y i 0 = pl_Ou_blocksOf_65 a yf bw bh h (fun y8 => some y8) n (L 0) yb y' (i + 1 : Nat) ∧ ∀ e : Nat, e < 64 → (tb y' e = true ↔ ∃ r k : Nat, r < i + 1 ∧ (k : Int) + bw ≤ L 0 ∧ (e : Int) = r * L 0 + k ∧ ∀ i j : Nat, (i : Int) < bh → (j : Int) < bw → frm L W S wt g ((e : Int) + i * L 0 + j)) := by
      refine lpf (F := fun m (j : Nat) (y : Int64) => pl_Ou_blocksOf_83 a yf bw bh h (fun x5 y6 y8 x10 => pl_Ou_blocksOf_65 a yf bw bh h (fun y8 => some y8) n x5 y6 y8 (wr (x10 + 1))) m (L 0) yb y i j) (Q := fun r => ∃ y', r = pl_Ou_blocksOf_65 a yf bw bh h (fun y8 => some y8) n (L 0) yb y' (i + 1 : Nat) ∧ ∀ e : Nat, e < 64 → (tb y' e = true ↔ ∃ r k : Nat, r < i + 1 ∧ (k : Int) + bw ≤ L 0 ∧ (e : Int) = r * L 0 + k ∧ ∀ i j : Nat, (i : Int) < bh → (j : Int) < bw → frm L W S wt g ((e : Int) + i * L 0 + j))) (L 0 - bw + 1).toNat (fun j y => ∀ e : Nat, e < 64 → (tb y e = true ↔ ∃ r k : Nat, ((r < i ∧ (k : Int) + bw ≤ L 0) ∨ (r = i ∧ k < j)) ∧ (e : Int) = r * L 0 + k ∧ ∀ i j : Nat, (i : Int) < bh → (j : Int) < bw → frm L W S wt g ((e : Int) + i * L 0 + j))) ?_ ?_ fu_ 0 y (by omega) (by unfold fu_; omega) ?_
      · intro m j y hj B
        right
        obtain ⟨t0, t1, t2⟩ := test i j (by omega) (by omega)
        have jb : (0 : Int) ≤ (i : Int) * L 0 ∧ (i : Int) * L 0 ≤ 36 := mb (a := i) (b := L 0) (A := 6) (B := 6) (by omega) (by omega) (by omega) (by omega)
        have en : (((i : Int) * L 0 + j).toNat : Int) = (i : Int) * L 0 + j := by omega
        have e0 : pl_Ou_blocksOf_83 a yf bw bh h (fun x5 y6 y8 x10 => pl_Ou_blocksOf_65 a yf bw bh h (fun y8 => some y8) n x5 y6 y8 (wr (x10 + 1))) (m + 1) (L 0) yb y i j = if plc (plshl yb ((i : Int) * L 0 + j) &&& (yf ^^^ -1)) 0 = 0 then pl_Ou_blocksOf_83 a yf bw bh h (fun x5 y6 y8 x10 => pl_Ou_blocksOf_65 a yf bw bh h (fun y8 => some y8) n x5 y6 y8 (wr (x10 + 1))) m (L 0) yb (y ||| plshl 1 ((i : Int) * L 0 + j)) i (j + 1 : Nat) else pl_Ou_blocksOf_83 a yf bw bh h (fun x5 y6 y8 x10 => pl_Ou_blocksOf_65 a yf bw bh h (fun y8 => some y8) n x5 y6 y8 (wr (x10 + 1))) m (L 0) yb y i (j + 1 : Nat) := by
          rw [pl_Ou_blocksOf_83, wr_eq (x := (j : Int) + bw) (by omega) (by omega), if_neg (by omega), wr_eq (x := (i : Int) * L 0) (by omega) (by omega), wr_eq (x := (i : Int) * L 0 + j) (by omega) (by omega), c_bit, bsm, wr_eq (x := (j : Int) + 1) (by omega) (by omega)]; rfl
        have skip : ∀ e : Nat, (∃ r k : Nat, ((r < i ∧ (k : Int) + bw ≤ L 0) ∨ (r = i ∧ k < j + 1)) ∧ (e : Int) = r * L 0 + k ∧ ∀ i j : Nat, (i : Int) < bh → (j : Int) < bw → frm L W S wt g ((e : Int) + i * L 0 + j)) ↔ (∃ r k : Nat, ((r < i ∧ (k : Int) + bw ≤ L 0) ∨ (r = i ∧ k < j)) ∧ (e : Int) = r * L 0 + k ∧ ∀ i j : Nat, (i : Int) < bh → (j : Int) < bw → frm L W S wt g ((e : Int) + i * L 0 + j)) ∨ ((e : Int) = i * L 0 + j ∧ ∀ i j : Nat, (i : Int) < bh → (j : Int) < bw → frm L W S wt g ((e : Int) + i * L 0 + j)) := fun e => by
          refine ⟨fun ⟨r, k, v1, v2, v3⟩ => ?_, fun v => ?_⟩
          · by_cases y : r = i ∧ k = j
            · right; rw [y.1, y.2] at v2; exact ⟨v2, v3⟩
            · exact Or.inl ⟨r, k, by omega, v2, v3⟩
          · rcases v with ⟨r, k, v1, v2, v3⟩ | ⟨v2, v3⟩
            · exact ⟨r, k, by omega, v2, v3⟩
            · exact ⟨i, j, Or.inr ⟨rfl, by omega⟩, v2, v3⟩
        by_cases q1 : plc (plshl yb ((i : Int) * L 0 + j) &&& (yf ^^^ -1)) 0 = 0
        · refine ⟨y ||| plshl 1 ((i : Int) * L 0 + j), by show pl_Ou_blocksOf_83 a yf bw bh h _ (m + 1) (L 0) yb y i j = _; rw [e0, if_pos q1], fun e he => ?_⟩
          rw [skip e, tb_or, ← en, tb_bit (by omega) he, Bool.or_eq_true, B e he, decide_eq_true_eq, en]
          refine or_congr Iff.rfl ⟨fun v => ?_, fun v => by omega⟩
          have ee : (e : Int) = i * L 0 + j := by omega
          rw [ee]
          exact ⟨rfl, t2.mp q1⟩
        · refine ⟨y, by show pl_Ou_blocksOf_83 a yf bw bh h _ (m + 1) (L 0) yb y i j = _; rw [e0, if_neg q1], fun e he => ?_⟩
          rw [skip e, B e he]
          refine ⟨Or.inl, fun v => v.elim id (fun ⟨v1, v2⟩ => absurd (t2.mpr ?_) q1)⟩
          rw [v1] at v2
          exact v2
      · intro m y B
        refine ⟨y, ?_, fun e he => ?_⟩
        · show pl_Ou_blocksOf_83 a yf bw bh h _ (m + 1) (L 0) yb y i ((L 0 - bw + 1).toNat : Nat) = _
          rw [pl_Ou_blocksOf_83, wr_eq (x := (((L 0 - bw + 1).toNat : Nat) : Int) + bw) (by omega) (by omega), if_pos (by omega), wr_eq (by omega) (by omega)]; rfl
        · rw [B e he]
          exact ⟨fun ⟨r, k, v1, v2⟩ => ⟨r, k, by omega, by omega, v2⟩, fun ⟨r, k, v1, v2, v3⟩ => ⟨r, k, by omega, v3⟩⟩
      · intro e he
        rw [B e he]
        exact ⟨fun ⟨r, k, v1, v2, v3⟩ => ⟨r, k, Or.inl ⟨v1, v2⟩, v3⟩, fun ⟨r, k, v1, v2⟩ => ⟨r, k, by omega, by omega, v2⟩⟩
    obtain ⟨y', i1, i2⟩ := inner
    refine ⟨y', ?_, i2⟩
    show pl_Ou_blocksOf_65 a yf bw bh h _ (n + 1) (L 0) yb y i = _
    rw [pl_Ou_blocksOf_65, ea, C.1.1.2.1, wr_eq (x := (i : Int) + bh) (by omega) (by omega), if_neg (by omega)]
    exact i1
  · intro n y B
    refine ⟨y, ?_, fun e he => ?_⟩
    · show pl_Ou_blocksOf_65 a yf bw bh h _ (n + 1) (L 0) yb y ((L 1 - bh + 1).toNat : Nat) = _
      rw [pl_Ou_blocksOf_65, ea, C.1.1.2.1, wr_eq (x := (((L 1 - bh + 1).toNat : Nat) : Int) + bh) (by omega) (by omega), if_pos (by omega)]
    · rw [B e he, ← fin e]
      exact ⟨fun ⟨r, k, v1, v2⟩ => ⟨r, k, by omega, v2⟩, fun ⟨r, k, v1, v2⟩ => ⟨r, k, by omega, v2⟩⟩
end Dn
