/-! told: a cell, its cracks counted -/
def bti (a : Bool) (n : Nat) : Int64 := if a then plshl 1 (n : Nat) else 0
def b2i (a : Bool) : Int := if a then 1 else 0
def ph0 : pH := ⟨fun _ _ => 0, fun _ _ => 0, fun _ _ => 0⟩
def bc1 (w c : Nat) (a b d e : Bool) : Bool := (a && decide (c < w)) || (b && decide (c < 1)) || decide (pf_Lo_bitCount (bti a (c - w) ||| bti b (c - 1) ||| bti d (c + 1) ||| bti e (c + w)) ph0 = some (b2i a + b2i b + b2i d + b2i e))
def bc4 (w c : Nat) : Bool := [false, true].all fun a => [false, true].all fun b => [false, true].all fun d => [false, true].all fun e => bc1 w c a b d e
theorem bc_dec : ∀ w, w < 5 → ∀ c, c < 36 → bc4 (w + 2) c = true := by decide +kernel
theorem bc_of {w c : Nat} {a b d e : Bool} {h : pH} (w0 : 2 ≤ w) (w1 : w ≤ 6) (hc : c < 36) (ha : a = true → w ≤ c) (hb : b = true → 1 ≤ c) : pf_Lo_bitCount (bti a (c - w) ||| bti b (c - 1) ||| bti d (c + 1) ||| bti e (c + w)) h = some (b2i a + b2i b + b2i d + b2i e) := by
  have t := bc_dec (w - 2) (by omega) c hc
  rw [show w - 2 + 2 = w by omega] at t
  have mem : ∀ x : Bool, x ∈ [false, true] := fun x => by cases x <;> simp
  have t1 := List.all_eq_true.mp t a (mem a)
  have t2 := List.all_eq_true.mp t1 b (mem b)
  have t3 := List.all_eq_true.mp t2 d (mem d)
  have t4 := List.all_eq_true.mp t3 e (mem e)
  unfold bc1 at t4
  rw [Bool.or_eq_true, Bool.or_eq_true, Bool.and_eq_true, Bool.and_eq_true, decide_eq_true_eq, decide_eq_true_eq, decide_eq_true_eq] at t4
  rcases t4 with (⟨y1, y2⟩ | ⟨y1, y2⟩) | y
  · have := ha y1; omega
  · have := hb y1; omega
  · exact y
theorem tb_bti {a : Bool} {m i : Nat} (hm : m < 64) (hi : i < 64) : tb (bti a m) i = true ↔ a = true ∧ i = m := by
  unfold bti
  cases a with
  | false => rw [if_neg (by decide), tb_0]; exact ⟨fun v => Bool.noConfusion v, fun v => Bool.noConfusion v.1⟩
  | true => rw [if_pos rfl, tb_bit hm hi, decide_eq_true_eq]; exact ⟨fun v => ⟨rfl, v⟩, fun v => v.2⟩
/-- a crack on this side -/
noncomputable def crkS (L : Nat → Int) (c s : Int) : Bool := dc (0 ≤ bs L c s ∧ ck L c s)
theorem crkS_t {L : Nat → Int} {c s : Int} : crkS L c s = true ↔ 0 ≤ bs L c s ∧ ck L c s := by
  unfold crkS
  by_cases k : 0 ≤ bs L c s ∧ ck L c s
  · rw [dc_t k]; exact ⟨fun _ => k, fun _ => rfl⟩
  · rw [dc_f k]; exact ⟨fun v => Bool.noConfusion v, fun v => absurd v k⟩
theorem c_cracks {h : pH} {p n : Nat} {L : Nat → Int} (R : LR h p L) (kL : LK L) (hn : (n : Int) < ce L) : pf_Lo_bitCount (pl h (p + 4) n) h = some (b2i (crkS L n 0) + b2i (crkS L n 1) + b2i (crkS L n 2) + b2i (crkS L n 3)) := by
  have z : 4 ≤ ce L ∧ ce L ≤ 36 := sz_mul kL.1
  obtain ⟨z1, z2, z3, z4⟩ := kL.1
  have t := R.2.2.2.2.2.2 n
  have r := fun s => be_range (w := L 0) (h := L 1) (c := (n : Int)) (s := s) kL.1 (by omega) hn
  have b0 : bs L n 0 = if (n : Int) < L 0 then -1 else (n : Int) - L 0 := be_0
  have b1 : bs L n 1 = if (n : Int) % L 0 = 0 then -1 else (n : Int) - 1 := be_1
  have b2 : bs L n 2 = if (n : Int) % L 0 = L 0 - 1 then -1 else (n : Int) + 1 := be_2
  have b3 : bs L n 3 = if (n : Int) + L 0 < L 0 * L 1 then (n : Int) + L 0 else -1 := be_3
  have g0 : 0 ≤ bs L n 0 → bs L n 0 = (n : Int) - L 0 := fun k => by rw [b0] at k ⊢; split at k; omega; rename_i y; rw [if_neg y]
  have g1 : 0 ≤ bs L n 1 → bs L n 1 = (n : Int) - 1 := fun k => by rw [b1] at k ⊢; split at k; omega; rename_i y; rw [if_neg y]
  have g2 : 0 ≤ bs L n 2 → bs L n 2 = (n : Int) + 1 := fun k => by rw [b2] at k ⊢; split at k; omega; rename_i y; rw [if_neg y]
  have g3 : 0 ≤ bs L n 3 → bs L n 3 = (n : Int) + L 0 := fun k => by rw [b3] at k ⊢; split at k; rename_i y; rw [if_pos y]; omega
  have e : pl h (p + 4) n = bti (crkS L n 0) (n - (L 0).toNat) ||| bti (crkS L n 1) (n - 1) ||| bti (crkS L n 2) (n + 1) ||| bti (crkS L n 3) (n + (L 0).toNat) := by
    refine tb_ext (fun i hi => ?_)
    rw [Bool.eq_iff_iff, t i hn hi, tb_or, tb_or, tb_or, Bool.or_eq_true, Bool.or_eq_true, Bool.or_eq_true, tb_bti (by omega) hi, tb_bti (by omega) hi, tb_bti (by omega) hi, tb_bti (by omega) hi, crkS_t, crkS_t, crkS_t, crkS_t]
    refine ⟨fun ⟨s, s1, s2, s3⟩ => ?_, fun v => ?_⟩
    · rcases s1 with rfl | rfl | rfl | rfl
      · have k0 : 0 ≤ bs L n 0 := by omega
        have := g0 k0
        exact Or.inl (Or.inl (Or.inl ⟨⟨k0, s3⟩, by omega⟩))
      · have k0 : 0 ≤ bs L n 1 := by omega
        have := g1 k0
        exact Or.inl (Or.inl (Or.inr ⟨⟨k0, s3⟩, by omega⟩))
      · have k0 : 0 ≤ bs L n 2 := by omega
        have := g2 k0
        exact Or.inl (Or.inr ⟨⟨k0, s3⟩, by omega⟩)
      · have k0 : 0 ≤ bs L n 3 := by omega
        have := g3 k0
        exact Or.inr ⟨⟨k0, s3⟩, by omega⟩
    · rcases v with ((⟨⟨k0, s3⟩, v⟩ | ⟨⟨k0, s3⟩, v⟩) | ⟨⟨k0, s3⟩, v⟩) | ⟨⟨k0, s3⟩, v⟩
      · have := g0 k0
        exact ⟨0, Or.inl rfl, by omega, s3⟩
      · have := g1 k0
        exact ⟨1, Or.inr (Or.inl rfl), by omega, s3⟩
      · have := g2 k0
        exact ⟨2, Or.inr (Or.inr (Or.inl rfl)), by omega, s3⟩
      · have := g3 k0
        exact ⟨3, Or.inr (Or.inr (Or.inr rfl)), by omega, s3⟩
  rw [e]
  exact bc_of (by omega) (by omega) (by omega) (fun k => by have k0 := (crkS_t.mp k).1; have := g0 k0; omega) (fun k => by have k0 := (crkS_t.mp k).1; have := g1 k0; omega)
theorem b2i_r {a : Bool} : 0 ≤ b2i a ∧ b2i a ≤ 1 := by cases a <;> decide
theorem m_cracks {h : pH} {l n : Nat} {L : Nat → Int} {x1 x3 : Int} (hl : l ≤ 6000) (hL : ∀ j, j < 260 → pi h 418 (l + j) = L j) (kL : LK L) (hn : (n : Int) < ce L) : pl_M_cell_71 x1 n x3 h (fun x5 => some x5) fu_ l 0 0 = some (b2i (crkS L n 0) + b2i (crkS L n 1) + b2i (crkS L n 2) + b2i (crkS L n 3)) := by
  have z : 4 ≤ ce L ∧ ce L ≤ 36 := sz_mul kL.1
  have step : ∀ (m : Nat) (x5 s s' : Int), s + 1 = s' → 0 ≤ s → s < 4 → 0 ≤ x5 → x5 ≤ 10 → pl_M_cell_71 x1 n x3 h (fun x5 => some x5) (m + 1) l x5 s = pl_M_cell_71 x1 n x3 h (fun x5 => some x5) m l (x5 + b2i (crkS L n s)) s' := fun m x5 s s' es h0 h3 y0 y1 => by
    have bb := b2i_r (a := crkS L n s)
    have cr : pf_M_isCracked l n s h = some (if L (ixc L n s) = 1 then 1 else 0) := m_isCracked hl hL kL.1 (by omega) hn
    rw [pl_M_cell_71, if_neg (by omega), m_beside hl hL kL.1 (by omega) (by omega), bsm]
    unfold pj_M_cell_108
    rw [wr_eq (x := s + 1) (by omega) (by omega), es]
    by_cases q1 : bs L n s < 0
    · have e : crkS L n s = false := by
        cases k : crkS L n s with
        | false => rfl
        | true => have := (crkS_t.mp k).1; omega
      rw [if_pos q1, e, wr_eq (by omega) (by omega)]; rfl
    · rw [if_neg q1, cr, bsm, if1]
      by_cases q2 : L (ixc L n s) = 1
      · have e : crkS L n s = true := crkS_t.mpr ⟨by omega, q2⟩
        rw [if_pos q2, e, wr_eq (by omega) (by omega)]; rfl
      · have e : crkS L n s = false := by
          cases k : crkS L n s with
          | false => rfl
          | true => exact absurd (crkS_t.mp k).2 q2
        rw [if_neg q2, e, wr_eq (by omega) (by omega)]; rfl
  have a0 := b2i_r (a := crkS L n 0)
  have a1 := b2i_r (a := crkS L n 1)
  have a2 := b2i_r (a := crkS L n 2)
  rw [fu5, step _ 0 0 1 (by omega) (by omega) (by omega) (by omega) (by omega), step _ _ 1 2 (by omega) (by omega) (by omega) (by omega) (by omega), step _ _ 2 3 (by omega) (by omega) (by omega) (by omega) (by omega), step _ _ 3 4 (by omega) (by omega) (by omega) (by omega) (by omega), pl_M_cell_71, if_pos (by omega), Int.zero_add]
noncomputable def ceV (L : Nat → Int) (c o : Int) : Int := if 0 ≤ o ∧ o ≤ 3 then L (8 + 36 * o.toNat + c.toNat) else (if o = 4 then b2i (crkS L c 0) + b2i (crkS L c 1) + b2i (crkS L c 2) + b2i (crkS L c 3) else -1)
theorem p_cell {x c o : Int} : tells (pf_I_cell x c o) (pf_M_cell x c o) := by
  intro h A R e
  have B := TR_TB R
  rw [← e] at B
  have c0 := c_has (k := 0) (x := x) R (by omega)
  have m0 := m_isOf (k := 0) (x := x) B (by omega)
  rw [e] at m0
  have c0' : pf_To_has 65 0 x h = some (if 0 ≤ x ∧ x < A 0 then 1 else 0) := c0
  have m0' : pf_M_isOf 0 x h = some (if 0 ≤ x ∧ x < A 0 then 1 else 0) := m0
  by_cases q1 : 0 ≤ x ∧ x < A 0
  · have a2 := R.1.1.2
    obtain ⟨i, rfl⟩ : ∃ i : Nat, x = i := ⟨x.toNat, by omega⟩
    have hi : i < 2 := by omega
    obtain ⟨LRi, kL⟩ := R.2.2.2.2.1 i q1.2
    have LR' : LR h ((68 + 1) + 12 * i) (lk A i) := LRi
    have eL : ∀ j, j < 260 → pi h 418 (610 + 260 * i + j) = lk A i j := fun j _ => by rw [e]; rfl
    have z : 4 ≤ ce (lk A i) ∧ ce (lk A i) ≤ 36 := sz_mul kL.1
    have ic : pf_La_isCell ((68 + 1) + 12 * i) c h = some (if 0 ≤ c ∧ c < ce (lk A i) then 1 else 0) := by
      have k1 : ce (lk A i) = lk A i 0 * lk A i 1 := rfl
      unfold pf_La_isCell
      rw [LR'.1.1, LR'.1.2.1, ← k1, wr_eq (by omega) (by omega)]
      by_cases k : c < 0
      · rw [if_pos k, if_neg (by omega)]
      · rw [if_neg k]
        by_cases k2 : ce (lk A i) ≤ c
        · rw [if_pos k2, if_neg (by omega)]
        · rw [if_neg k2, if_pos (by omega)]
    have b01 := kL.2.2.2.2.2.2.2.1
    generalize lk A i = L at *
    by_cases q2 : 0 ≤ c ∧ c < ce L
    · obtain ⟨n, rfl⟩ : ∃ n : Nat, c = n := ⟨c.toNat, by omega⟩
      refine ⟨ceV L n o, ?_, ?_⟩
      · unfold pf_I_cell ceV
        obtain ⟨f1, f2, f3⟩ := LR'.2.1 n (by omega)
        have sh := LR'.2.2.2.2.2.1 n q2.2
        have s01 := b01 n (by omega)
        rw [c0', bsm, if1, if_pos q1, Int.toNat_natCast, gib (by omega) (by omega), ic, bsm, if1, if_pos q2, gib (by omega) (by omega), Int.toNat_natCast, f1, f2, f3, gib (by omega) (by omega), gib (by omega) (by omega), gib (by omega) (by omega), gib (by omega) (by omega), c_hasBit (by omega), bsm, if1, c_cracks LR' kL q2.2, bsm]
        by_cases q3 : 0 ≤ o ∧ o ≤ 3
        · rw [if_pos q3]
          have g : ∀ u v : Nat, u = v → some (L u) = some (L v) := fun u v k => by rw [k]
          have c4 : o = 0 ∨ o = 1 ∨ o = 2 ∨ o = 3 := by omega
          rcases c4 with rfl | rfl | rfl | rfl
          · exact g (8 + n) (8 + 36 * (0 : Int).toNat + n) (by omega)
          · exact g (44 + n) (8 + 36 * (1 : Int).toNat + n) (by omega)
          · exact g (80 + n) (8 + 36 * (2 : Int).toNat + n) (by omega)
          · rw [if_neg (by decide), if_neg (by decide), if_neg (by decide), if_pos rfl, show 8 + 36 * (3 : Int).toNat + n = 116 + n from by omega]
            by_cases q4 : tb (pl h ((68 + 1) + 12 * i) 7) n = true
            · rw [if_pos q4, sh.mp q4]
            · rw [if_neg q4]
              rcases s01 with y | y
              · rw [y]
              · exact absurd (sh.mpr y) q4
        · rw [if_neg q3, if_neg (by omega), if_neg (by omega), if_neg (by omega), if_neg (by omega)]
          by_cases q4 : o = 4
          · rw [if_pos q4, if_pos q4]
          · rw [if_neg q4, if_neg q4]
      · unfold pf_M_cell ceV
        rw [m0', bsm, if1, if_pos q1, m_place0 hi, bsm, m_isCell (by omega) eL kL.1, bsm, if1, if_pos q2, bsm, m_isIn, bsm, if1]
        by_cases q3 : 0 ≤ o ∧ o ≤ 3
        · rw [if_pos q3, if_pos q3, wr_eq (x := ((610 + 260 * i : Nat) : Int) + 8) (by omega) (by omega), wr_eq (x := 36 * o) (by omega) (by omega), wr_eq (x := ((610 + 260 * i : Nat) : Int) + 8 + 36 * o) (by omega) (by omega), wr_eq (x := ((610 + 260 * i : Nat) : Int) + 8 + 36 * o + n) (by omega) (by omega), gib (by omega) (by omega), show (((610 + 260 * i : Nat) : Int) + 8 + 36 * o + n).toNat = 610 + 260 * i + (8 + 36 * o.toNat + n) by omega, eL _ (by omega), Int.toNat_natCast]
        · rw [if_neg q3, if_neg q3]
          by_cases q4 : o = 4
          · rw [if_pos q4, if_pos q4, m_cracks (by omega) eL kL q2.2]
          · rw [if_neg q4, if_neg q4]
    · refine ⟨-1, ?_, ?_⟩
      · unfold pf_I_cell
        rw [c0', bsm, if1, if_pos q1, Int.toNat_natCast, gib (by omega) (by omega), ic, bsm, if1, if_neg q2]
      · unfold pf_M_cell
        rw [m0', bsm, if1, if_pos q1, m_place0 hi, bsm, m_isCell (by omega) eL kL.1, bsm, if1, if_neg q2]
  · refine ⟨-1, ?_, ?_⟩
    · unfold pf_I_cell
      rw [c0', bsm, if1, if_neg q1]
    · unfold pf_M_cell
      rw [m0', bsm, if1, if_neg q1]
