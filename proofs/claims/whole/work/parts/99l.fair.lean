/-! fair: blocks of firm cells -/
def frm (L W S wt : Nat → Int) (g c : Int) : Prop := (∀ s, s < NS L → S (72 + s) ≠ c) ∧ g + ld L W S wt (-1) c ≤ br L S 0 c
def blk (L W S wt : Nat → Int) (g bw bh : Int) (c : Nat) : Prop := (c : Int) < ce L ∧ (c : Int) % L 0 + bw ≤ L 0 ∧ (c : Int) / L 0 + bh ≤ L 1 ∧ ∀ r k : Nat, (r : Int) < bh → (k : Int) < bw → frm L W S wt g ((c : Int) + r * L 0 + k)
theorem fits {w0 h0 c bw bh r k : Int} (q : sz w0 h0) (c0 : 0 ≤ c) (a : c % w0 + bw ≤ w0) (b : c / w0 + bh ≤ h0) (r0 : 0 ≤ r) (r1 : r < bh) (k0 : 0 ≤ k) (k1 : k < bw) : 0 ≤ c + r * w0 + k ∧ c + r * w0 + k < w0 * h0 := by
  obtain ⟨hw, h1, h2⟩ := sz_cases q
  rcases hw with rfl | rfl | rfl | rfl | rfl <;> omega
theorem dm {w0 h0 r k bw : Int} (q : sz w0 h0) (r0 : 0 ≤ r) (k0 : 0 ≤ k) (k1 : k + bw ≤ w0) (b1 : 1 ≤ bw) : (r * w0 + k) % w0 = k ∧ (r * w0 + k) / w0 = r := by
  obtain ⟨hw, h1, h2⟩ := sz_cases q
  rcases hw with rfl | rfl | rfl | rfl | rfl <;> omega
theorem md {w0 h0 c : Int} (q : sz w0 h0) (c0 : 0 ≤ c) : 0 ≤ c / w0 ∧ 0 ≤ c % w0 ∧ c = c / w0 * w0 + c % w0 := by
  obtain ⟨hw, h1, h2⟩ := sz_cases q
  rcases hw with rfl | rfl | rfl | rfl | rfl <;> omega
section Dm
variable {h : pH} {a p q l w : Nat} {L W wt sv S : Nat → Int} {u : Bool} {d : Nat} {tk : Int}
theorem c_firm {g : Int} (hW : WS L wt sv) (C : CX h p q L W) (K : SC h a p q L W wt sv false S) (V : SV L S d) (g0 : 1 ≤ g ∧ g ≤ 999) : ∃ y, pf_Ou_firmCells a g h = some y ∧ ∀ e : Nat, e < 64 → (tb y e = true ↔ (e : Int) < ce L ∧ frm L W S wt g e) := by
  have kL := C.2.2.1
  have kW := C.2.2.2.1
  have z : 4 ≤ ce L ∧ ce L ≤ 36 := sz_mul kL.1
  obtain ⟨ys, s1, s2⟩ := c_shopCells C K V
  unfold pf_Ou_firmCells
  refine lpf (F := fun n (i : Nat) (y : Int64) => pl_Ou_firmCells_5 a g h (fun y2 => (pf_Sc_shopCells a h).bind fun v5 => (some (y2 &&& (v5 ^^^ ((-1)))))) n y i) (Q := fun r => ∃ y, r = some y ∧ ∀ e : Nat, e < 64 → (tb y e = true ↔ (e : Int) < ce L ∧ frm L W S wt g e)) (ce L).toNat (fun i y => ∀ e : Nat, e < 64 → (tb y e = true ↔ e < i ∧ g + ld L W S wt (-1) e ≤ br L S 0 e)) ?_ ?_ fu_ 0 0 (by omega) (by unfold fu_; omega) (fun e he => ⟨fun v => absurd v (by rw [tb_0]; exact Bool.false_ne_true), fun v => absurd v.1 (Nat.not_lt_zero _)⟩)
  · intro n i y hi B
    right
    have v := V.1 i (by omega)
    have k1 := K.2.1 i (by omega) (Or.inl rfl)
    have k3 := (K.2.2.2.1 i (by omega)).1
    have lb0 := ld_bd (S := S) (wo := -1) (x := i) kL kW hW
    have eb : br L S 0 i = S i * S i / L 2 := by rw [br, Int.add_zero, Int.toNat_natCast]
    have e0 : pl_Ou_firmCells_5 a g h (fun y2 => (pf_Sc_shopCells a h).bind fun v5 => (some (y2 &&& (v5 ^^^ ((-1)))))) (n + 1) y i = if br L S 0 i < g + ld L W S wt (-1) i then pl_Ou_firmCells_5 a g h (fun y2 => (pf_Sc_shopCells a h).bind fun v5 => (some (y2 &&& (v5 ^^^ ((-1)))))) n y (i + 1 : Nat) else pl_Ou_firmCells_5 a g h (fun y2 => (pf_Sc_shopCells a h).bind fun v5 => (some (y2 &&& (v5 ^^^ ((-1)))))) n (y ||| plshl 1 i) (i + 1 : Nat) := by
      rw [pl_Ou_firmCells_5, K.1.2.1, c_cells C, bsm, if_neg (by omega), pf_Sc_bears, K.1.2.1, gib (by omega) (by omega), Int.toNat_natCast, k1, c_bearing C v.1 (by omega), bsm, bsm, gib (by omega) (by omega), k3, wr_eq (x := g + ld L W S wt (-1) i) (by omega) (by omega), c_bit, bsm, wr_eq (by omega) (by omega), eb]; rfl
    by_cases q1 : br L S 0 i < g + ld L W S wt (-1) i
    · refine ⟨y, by show pl_Ou_firmCells_5 a g h _ (n + 1) y i = _; rw [e0, if_pos q1], fun e he => ?_⟩
      rw [B e he]
      refine ⟨fun v => ⟨by omega, v.2⟩, fun v => ⟨?_, v.2⟩⟩
      by_cases k : e = i
      · have v2 := v.2; rw [k] at v2; omega
      · omega
    · refine ⟨y ||| plshl 1 i, by show pl_Ou_firmCells_5 a g h _ (n + 1) y i = _; rw [e0, if_neg q1], fun e he => ?_⟩
      rw [tb_or, tb_bit (by omega) he, Bool.or_eq_true, B e he, decide_eq_true_eq]
      refine ⟨fun v => ?_, fun v => ?_⟩
      · rcases v with v | v
        · exact ⟨by omega, v.2⟩
        · rw [v]; exact ⟨by omega, by omega⟩
      · by_cases k : e = i
        · exact Or.inr k
        · exact Or.inl ⟨by omega, v.2⟩
  · intro n y B
    refine ⟨y &&& (ys ^^^ -1), ?_, fun e he => ?_⟩
    · show pl_Ou_firmCells_5 a g h _ (n + 1) y ((ce L).toNat : Nat) = _
      rw [pl_Ou_firmCells_5, K.1.2.1, c_cells C, bsm, if_pos (by omega), s1]
      rfl
    · rw [tb_and, tb_nx he, Bool.and_eq_true, B e he, Bool.not_eq_true']
      have t := s2 e he
      refine ⟨fun ⟨v1, v2⟩ => ⟨by omega, fun s hs k => ?_, v1.2⟩, fun ⟨v1, v2, v3⟩ => ⟨⟨by omega, v3⟩, ?_⟩⟩
      · rw [t.mpr ⟨s, hs, k⟩] at v2; exact Bool.noConfusion v2
      · cases k : tb ys e with
        | false => rfl
        | true => obtain ⟨s, hs, k2⟩ := t.mp k; exact absurd k2 (v2 s hs)
theorem c_block {bw bh w0 h0 : Int} {y1 : Int64} {K : Int → Int64 → Option Int64} (q0 : sz w0 h0) (b0 : 1 ≤ bw ∧ bw ≤ 6) (b1 : 1 ≤ bh ∧ bh ≤ 6) : ∃ y, pl_Ou_blocksOf_15 a y1 bw bh h K fu_ w0 0 0 = K w0 y ∧ ∀ e : Nat, e < 64 → (tb y e = true ↔ ∃ r k : Nat, (r : Int) < bh ∧ (k : Int) < bw ∧ (e : Int) = r * w0 + k) := by
  obtain ⟨z1, z2, -, -⟩ := q0
  refine lpf (F := fun n (i : Nat) (y : Int64) => pl_Ou_blocksOf_15 a y1 bw bh h K n w0 y i) (Q := fun r => ∃ y, r = K w0 y ∧ ∀ e : Nat, e < 64 → (tb y e = true ↔ ∃ r k : Nat, (r : Int) < bh ∧ (k : Int) < bw ∧ (e : Int) = r * w0 + k)) bh.toNat (fun i y => ∀ e : Nat, e < 64 → (tb y e = true ↔ ∃ r k : Nat, r < i ∧ (k : Int) < bw ∧ (e : Int) = r * w0 + k)) ?_ ?_ fu_ 0 0 (by omega) (by unfold fu_; omega) (fun e he => ⟨fun v => absurd v (by rw [tb_0]; exact Bool.false_ne_true), fun ⟨r, k, v, _⟩ => absurd v (Nat.not_lt_zero _)⟩)
  · intro n i y hi B
    right
    have ib := mb (a := i) (b := w0) (A := 5) (B := 6) (by omega) (by omega) (by omega) (by omega)
    have inner : ∃ y', pl_Ou_blocksOf_25 a y1 bw bh h (fun x5 y6 x8 => pl_Ou_blocksOf_15 a y1 bw bh h K n x5 y6 (wr (x8 + 1))) fu_ w0 y i 0 = pl_Ou_blocksOf_15 a y1 bw bh h K n w0 y' (i + 1 : Nat) ∧ ∀ e : Nat, e < 64 → (tb y' e = true ↔ ∃ r k : Nat, r < i + 1 ∧ (k : Int) < bw ∧ (e : Int) = r * w0 + k) := by
      refine lpf (F := fun m (j : Nat) (y : Int64) => pl_Ou_blocksOf_25 a y1 bw bh h (fun x5 y6 x8 => pl_Ou_blocksOf_15 a y1 bw bh h K n x5 y6 (wr (x8 + 1))) m w0 y i j) (Q := fun r => ∃ y', r = pl_Ou_blocksOf_15 a y1 bw bh h K n w0 y' (i + 1 : Nat) ∧ ∀ e : Nat, e < 64 → (tb y' e = true ↔ ∃ r k : Nat, r < i + 1 ∧ (k : Int) < bw ∧ (e : Int) = r * w0 + k)) bw.toNat (fun j y => ∀ e : Nat, e < 64 → (tb y e = true ↔ ∃ r k : Nat, ((r < i ∧ (k : Int) < bw) ∨ (r = i ∧ k < j)) ∧ (e : Int) = r * w0 + k)) ?_ ?_ fu_ 0 y (by omega) (by unfold fu_; omega) ?_
      · intro m j y hj B
        right
        have en : (((i : Int) * w0 + j).toNat : Int) = (i : Int) * w0 + j := by omega
        refine ⟨y ||| plshl 1 ((i : Int) * w0 + j), ?_, fun e he => ?_⟩
        · show pl_Ou_blocksOf_25 a y1 bw bh h _ (m + 1) w0 y i j = _
          rw [pl_Ou_blocksOf_25, if_neg (by omega), wr_eq (x := (i : Int) * w0) (by omega) (by omega), wr_eq (x := (i : Int) * w0 + j) (by omega) (by omega), c_bit, bsm, wr_eq (by omega) (by omega)]; rfl
        · rw [tb_or, ← en, tb_bit (by omega) he, Bool.or_eq_true, B e he, decide_eq_true_eq]
          refine ⟨fun v => ?_, fun ⟨r, k, v1, v2⟩ => ?_⟩
          · rcases v with ⟨r, k, v1, v2⟩ | v
            · exact ⟨r, k, by omega, v2⟩
            · exact ⟨i, j, Or.inr ⟨rfl, by omega⟩, by omega⟩
          · by_cases y : r = i ∧ k = j
            · right; rw [y.1, y.2] at v2; omega
            · exact Or.inl ⟨r, k, by omega, v2⟩
      · intro m y B
        refine ⟨y, ?_, fun e he => ?_⟩
        · show pl_Ou_blocksOf_25 a y1 bw bh h _ (m + 1) w0 y i (bw.toNat : Nat) = _
          rw [pl_Ou_blocksOf_25, if_pos (by omega), wr_eq (by omega) (by omega)]; rfl
        · rw [B e he]
          exact ⟨fun ⟨r, k, v1, v2⟩ => ⟨r, k, by omega, by omega, v2⟩, fun ⟨r, k, v1, v2, v3⟩ => ⟨r, k, by omega, v3⟩⟩
      · intro e he
        rw [B e he]
        exact ⟨fun ⟨r, k, v1, v2, v3⟩ => ⟨r, k, Or.inl ⟨v1, v2⟩, v3⟩, fun ⟨r, k, v1, v2⟩ => ⟨r, k, by omega, by omega, v2⟩⟩
    obtain ⟨y', i1, i2⟩ := inner
    refine ⟨y', ?_, i2⟩
    show pl_Ou_blocksOf_15 a y1 bw bh h K (n + 1) w0 y i = _
    rw [pl_Ou_blocksOf_15, if_neg (by omega)]
    exact i1
  · intro n y B
    refine ⟨y, ?_, fun e he => ?_⟩
    · show pl_Ou_blocksOf_15 a y1 bw bh h K (n + 1) w0 y (bh.toNat : Nat) = _
      rw [pl_Ou_blocksOf_15, if_pos (by omega)]
    · rw [B e he]
      exact ⟨fun ⟨r, k, v1, v2⟩ => ⟨r, k, by omega, v2⟩, fun ⟨r, k, v1, v2⟩ => ⟨r, k, by omega, v2⟩⟩
end Dm
