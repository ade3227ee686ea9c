/-! parts between cracks -/
noncomputable def nrk (L : Nat → Int) (c : Int) (k : Nat) : Int := nr L c k
def tr0 : Int → Int → Prop := fun _ _ => True
def prt (L : Nat → Int) (c e : Int) : Prop := ∃ n, gw (rs (nrk L) tr0) n c e
def PB (L : Nat → Int) (c : Int) (y : Int64) : Prop := ∀ e : Nat, e < 64 → (tb y e = true ↔ (e : Int) < ce L ∧ prt L c e)
theorem PB_un {L : Nat → Int} {c : Int} {y z : Int64} (h : PB L c y) (g : PB L c z) : y = z := tb_ext fun i hi => by
  have a := h i hi
  have b := g i hi
  cases e1 : tb y i <;> cases e2 : tb z i
  · rfl
  · exact absurd (a.mpr (b.mp e2)) (by rw [e1]; decide)
  · exact absurd (b.mpr (a.mp e1)) (by rw [e2]; decide)
  · rfl
noncomputable def ptb (L : Nat → Int) (c : Int) : Int64 := @Classical.epsilon Int64 ⟨0⟩ (fun y => PB L c y)
theorem ptb_eq {L : Nat → Int} {c : Int} {y : Int64} (h : PB L c y) : y = ptb L c := PB_un h (@Classical.epsilon_spec_aux Int64 ⟨0⟩ (fun y => PB L c y) ⟨y, h⟩)
theorem ptb_PB {L : Nat → Int} {c : Int} {y : Int64} (h : PB L c y) : PB L c (ptb L c) := by rw [← ptb_eq h]; exact h
theorem prt_in {L : Nat → Int} (kL : LK L) {c d : Int} (hc : inr L c) (h : rs (nrk L) tr0 c d) : inr L d := by
  obtain ⟨-, h0, k, hk, e⟩ := h
  have := nr_rg kL.1 (k := k) hc.1 hc.2
  have e' : nr L c k = d := e
  exact ⟨h0, by omega⟩
section Cf
variable {h : pH} {a p q : Nat} {L W wt sv S : Nat → Int} {u : Bool} {d : Nat}
theorem c_jn_side {c0 : Int} {last i : Nat} {y : Int64} {K : Int64 → Int → Int → pH → Option (Int64 × pH)} (C : CX h p q L W) (hi : i < last) (B : FI L (nrk L) tr0 c0 (tb y) (pi h 315) last i 0) : ∃ (y' : Int64) (last' : Nat) (h' : pH), pl_Wa_joined_35 p c0 K fu_ y last i 0 h = K y' last' i h' ∧ fr (fun b => b = 315) h h' ∧ FI L (nrk L) tr0 c0 (tb y') (pi h' 315) last' (i + 1) 0 ∧ i < last' := by
  have kL := C.2.2.1
  have z : 4 ≤ ce L ∧ ce L ≤ 36 := sz_mul kL.1
  refine lpf (F := fun n (k : Nat) (t : Int64 × Nat × pH) => pl_Wa_joined_35 p c0 K n t.1 t.2.1 i k t.2.2) (Q := fun r => ∃ (y' : Int64) (last' : Nat) (h' : pH), r = K y' last' i h' ∧ fr (fun b => b = 315) h h' ∧ FI L (nrk L) tr0 c0 (tb y') (pi h' 315) last' (i + 1) 0 ∧ i < last') 4 (fun k t => fr (fun b => b = 315) h t.2.2 ∧ i < t.2.1 ∧ FI L (nrk L) tr0 c0 (tb t.1) (pi t.2.2 315) t.2.1 i k) ?_ ?_ fu_ 0 (y, last, h) (by omega) (by unfold fu_; omega) ⟨fr_refl, hi, B⟩
  · intro n k t hk ⟨f, hi, B⟩
    right
    obtain ⟨y, lst, t⟩ := t
    have f : fr (fun b => b = 315) h t := f
    have hi : i < lst := hi
    have B : FI L (nrk L) tr0 c0 (tb y) (pi t 315) lst i k := B
    have C1 : CX t p q L W := CX_fr C f (fun b hb => by omega)
    have l36 := B.1.2.1
    show ∃ t' : Int64 × Nat × pH, pl_Wa_joined_35 p c0 K (n + 1) y lst i k t = pl_Wa_joined_35 p c0 K n t'.1 t'.2.1 i (k + 1 : Nat) t'.2.2 ∧ _
    obtain ⟨q0, q1⟩ := (B.2.2.2.1 i hi).1
    have eq : (((pi t 315 i).toNat : Nat) : Int) = pi t 315 i := by omega
    have sd := (C1.1.2.2.2.2.1 (pi t 315 i).toNat k (by omega) hk).2
    rw [eq] at sd
    have t1 : (pi t 315 i * 4 + k).toNat = 4 * (pi t 315 i).toNat + k := by omega
    have b0 := nr_rg kL.1 (k := k) q0 q1
    have keep : (0 ≤ nr L (pi t 315 i) k → tr0 (pi t 315 i) (nr L (pi t 315 i) k) → tb y (nr L (pi t 315 i) k).toNat = true) → ∃ t' : Int64 × Nat × pH, pl_Wa_joined_35 p c0 K n y lst i (k + 1 : Nat) t = pl_Wa_joined_35 p c0 K n t'.1 t'.2.1 i (k + 1 : Nat) t'.2.2 ∧ (fr (fun b => b = 315) h t'.2.2 ∧ i < t'.2.1 ∧ FI L (nrk L) tr0 c0 (tb t'.1) (pi t'.2.2 315) t'.2.1 i (k + 1)) := fun v => ⟨(y, lst, t), rfl, f, hi, FI_keep B v⟩
    rw [pl_Wa_joined_35, if_neg (by omega)]
    simp (disch := omega) only [wr_eq, gib, t1, Int.toNat_natCast, sd]
    by_cases y1 : nr L (pi t 315 i) k = -1
    · rw [if_pos y1]
      exact keep (fun v => by omega)
    · rw [if_neg y1]
      have eb : (((nr L (pi t 315 i) k).toNat : Nat) : Int) = nr L (pi t 315 i) k := by omega
      have hb := c_hasBit (y := y) (n := (nr L (pi t 315 i) k).toNat) (h := t) (by omega)
      rw [eb] at hb
      rw [hb, bsm, if1]
      by_cases y2 : tb y (nr L (pi t 315 i) k).toNat = true
      · rw [if_pos y2]
        exact keep (fun _ _ => y2)
      · rw [if_neg y2, c_bit, bsm]
        obtain ⟨lt, B2⟩ := FI_push (seen' := tb (y ||| plshl 1 (nr L (pi t 315 i) k))) kL B hi hk (show 0 ≤ nr L (pi t 315 i) k by omega) b0.2 (show tb y (nr L (pi t 315 i) k).toNat = false by simpa using y2) trivial (fun _ hc => tb_hi hc) (fun c hc => by
          show tb (y ||| plshl 1 (nr L (pi t 315 i) k)) c = true ↔ tb y c = true ∨ c = (nr L (pi t 315 i) k).toNat
          rw [tb_or, ← eb, tb_bit (by omega) hc, Bool.or_eq_true, decide_eq_true_eq, Int.toNat_natCast])
        try rw [gib (by omega) (by omega)]
        try rw [Int.toNat_natCast]
        refine ⟨(y ||| plshl 1 (nr L (pi t 315 i) k), lst + 1, pwI t 315 lst (nr L (pi t 315 i) k)), rfl, fr_wI f rfl, by show i < lst + 1; omega, ?_⟩
        show FI L _ _ c0 _ (pi (pwI t 315 lst _) 315) (lst + 1) i (k + 1)
        rw [up1_pi]
        exact B2
  · intro n t ⟨f, hi, B⟩
    refine ⟨t.1, t.2.1, t.2.2, ?_, f, FI_next B hi, hi⟩
    show pl_Wa_joined_35 p c0 K (n + 1) t.1 t.2.1 i (4 : Nat) t.2.2 = _
    rw [pl_Wa_joined_35, if_pos (by omega)]
theorem c_joined {c : Int} (C : CX h p q L W) (hc : inr L c) : ∃ h', pf_Wa_joined p c h = some (ptb L c, h') ∧ fr (fun b => b = 315) h h' ∧ PB L c (ptb L c) := by
  have kL := C.2.2.1
  have z : 4 ≤ ce L ∧ ce L ≤ 36 := sz_mul kL.1
  have c0 := hc.1
  have c1 := hc.2
  have ec : ((c.toNat : Nat) : Int) = c := by omega
  unfold pf_Wa_joined
  rw [c_bit, bsm]
  refine lp (F := fun n (t : Int64 × Nat × Nat × pH) => pl_Wa_joined_18 p c (fun y3 h => some (y3, h)) n t.1 t.2.1 t.2.2.1 t.2.2.2) (Q := fun r => ∃ h', r = some (ptb L c, h') ∧ fr (fun b => b = 315) h h' ∧ PB L c (ptb L c)) (I := fun t => fr (fun b => b = 315) h t.2.2.2 ∧ FI L (nrk L) tr0 c (tb t.1) (pi t.2.2.2 315) t.2.1 t.2.2.1 0) (fun t => 40 - t.2.2.1) ?_ fu_ (plshl 1 c, 1, 0, pwI h 315 0 c) ⟨fr_wI fr_refl rfl, ?_⟩ (by show 40 - 0 < fu_; unfold fu_; omega)
  · intro n t ⟨f, B⟩
    obtain ⟨y, lst, i, t⟩ := t
    have f : fr (fun b => b = 315) h t := f
    have B : FI L (nrk L) tr0 c (tb y) (pi t 315) lst i 0 := B
    have C1 : CX t p q L W := CX_fr C f (fun b hb => by omega)
    have b1 := B.1
    by_cases y1 : lst ≤ i
    · left
      have e : i = lst := by omega
      subst e
      have P : PB L c y := fun e he => by
        constructor
        · intro v
          exact B.2.2.1 e he v
        · intro ⟨v1, m, v2⟩
          have v5 := FI_end B (fun a b ha hr => prt_in kL ha hr) m c e hc B.2.1.2 v2
          rw [Int.toNat_natCast] at v5
          exact v5
      refine ⟨t, ?_, f, ptb_PB P⟩
      show pl_Wa_joined_18 p c _ (n + 1) y i i t = _
      rw [pl_Wa_joined_18, if_pos (by omega), ptb_eq P]
    · right
      obtain ⟨y', last', h', r1, r2, r3, r4⟩ := c_jn_side (K := fun y3 x5 x6 h => pl_Wa_joined_18 p c (fun y3 h => some (y3, h)) n y3 x5 (wr (x6 + 1)) h) C1 (by omega) B
      refine ⟨(y', last', i + 1, h'), ?_, ⟨fr_trans f r2, r3⟩, by show 40 - (i + 1) < 40 - i; omega⟩
      show pl_Wa_joined_18 p c _ (n + 1) y lst i t = pl_Wa_joined_18 p c _ n y' last' (i + 1 : Nat) h'
      rw [pl_Wa_joined_18, if_neg (by omega), if_neg (by omega), r1, wr_eq (by omega) (by omega)]
      rfl
  · refine FI_start kL hc (fun e he => ?_) pi_wIs
    show tb (plshl 1 c) e = true ↔ _
    rw [← ec, tb_bit (by omega) he, decide_eq_true_eq]
    omega
/-- parts counted up to a cell -/
noncomputable def pcs (L : Nat → Int) (c : Nat) : Int64 × Int := match c with
  | 0 => (0, 0)
  | c + 1 => if tb (pcs L c).1 c = true then pcs L c else ((pcs L c).1 ||| ptb L c, (pcs L c).2 + 1)
theorem pcs_bd {L : Nat → Int} : ∀ {c : Nat}, 0 ≤ (pcs L c).2 ∧ (pcs L c).2 ≤ c
  | 0 => by simp [pcs]
  | c + 1 => by
    have := pcs_bd (L := L) (c := c)
    rw [pcs]
    split
    · omega
    · show 0 ≤ (pcs L c).2 + 1 ∧ (pcs L c).2 + 1 ≤ (c + 1 : Nat)
      omega
theorem c_partCount (C : CX h p q L W) : ∃ h', pf_Wa_partCount p h = some ((pcs L (ce L).toNat).2, h') ∧ fr (fun b => b = 315) h h' := by
  have kL := C.2.2.1
  have z : 4 ≤ ce L ∧ ce L ≤ 36 := sz_mul kL.1
  unfold pf_Wa_partCount
  refine lpf (F := fun n (c : Nat) t => pl_Wa_partCount_8 p (fun x4 h => some (x4, h)) n (pcs L c).1 (pcs L c).2 c t) (Q := fun r => ∃ h', r = some ((pcs L (ce L).toNat).2, h') ∧ fr (fun b => b = 315) h h') (ce L).toNat (fun c t => fr (fun b => b = 315) h t) ?_ ?_ fu_ 0 h (by omega) (by unfold fu_; omega) fr_refl
  · intro n c t hc f
    right
    have C1 : CX t p q L W := CX_fr C f (fun b hb => by omega)
    have pb := pcs_bd (L := L) (c := c)
    show ∃ t', pl_Wa_partCount_8 p _ (n + 1) (pcs L c).1 (pcs L c).2 c t = pl_Wa_partCount_8 p _ n (pcs L (c + 1)).1 (pcs L (c + 1)).2 (c + 1 : Nat) t' ∧ _
    rw [pl_Wa_partCount_8, c_cells C1, bsm, if_neg (by omega), c_hasBit (by omega), bsm, if1, pcs]
    by_cases y : tb (pcs L c).1 c = true
    · rw [if_pos y, if_pos y, wr_eq (by omega) (by omega)]
      exact ⟨t, rfl, f⟩
    · rw [if_neg y, if_neg y]
      obtain ⟨h', r1, r2, -⟩ := c_joined (c := c) C1 ⟨by omega, by omega⟩
      rw [r1, bsm, wr_eq (by omega) (by omega), wr_eq (by omega) (by omega)]
      exact ⟨h', rfl, fr_trans f r2⟩
  · intro n t f
    have C1 : CX t p q L W := CX_fr C f (fun b hb => by omega)
    refine ⟨t, ?_, f⟩
    show pl_Wa_partCount_8 p _ (n + 1) (pcs L (ce L).toNat).1 (pcs L (ce L).toNat).2 ((ce L).toNat : Nat) t = _
    rw [pl_Wa_partCount_8, c_cells C1, bsm, if_pos (by omega)]
end Cf
section Mi
variable {h : pH} {l w : Nat} {L W : Nat → Int}
/-- behind the first k sides of cell c of a round that began with z -/
def PP (L : Nat → Int) (x : Int) (y z : Int64) (c k : Nat) : Prop := (∀ e, e < 64 → tb z e = true → tb y e = true) ∧ (∀ e : Nat, e < 64 → tb y e = true → (e : Int) < ce L ∧ prt L x e) ∧ (∀ a j : Nat, a < c → j < 4 → 0 ≤ nr L a j → tb z a = true → tb y (nr L a j).toNat = true) ∧ (∀ j : Nat, j < k → 0 ≤ nr L c j → tb z c = true → tb y (nr L c j).toNat = true)
theorem m_po_side {x : Int} {y z : Int64} {c : Nat} {K : Int64 → Int64 → Int → Option Int64} (M : MS h l w L W) (hc : (c : Int) < ce L) (P : PP L x y z c 0) : ∃ y', pl_M_partOf_32 x h K fu_ y z c 0 = K y' z c ∧ PP L x y' z (c + 1) 0 := by
  have kL := M.2.2.2.2.2.2.1
  have zz : 4 ≤ ce L ∧ ce L ≤ 36 := sz_mul kL.1
  refine lpf (F := fun n (k : Nat) (y : Int64) => pl_M_partOf_32 x h K n y z c k) (Q := fun r => ∃ y', r = K y' z c ∧ PP L x y' z (c + 1) 0) 4 (fun k y => PP L x y z c k) ?_ ?_ fu_ 0 y (by omega) (by unfold fu_; omega) P
  · intro n k y hk P
    right
    show ∃ t', pl_M_partOf_32 x h K (n + 1) y z c k = pl_M_partOf_32 x h K n t' z c (k + 1 : Nat) ∧ _
    have hl6 : l ≤ 6000 := by have := M.2.2.1; omega
    have b0 := nr_rg kL.1 (c := (c : Int)) (k := k) (by omega) hc
    rw [pl_M_partOf_32, if_neg (by omega), M.1, m_near hl6 M.2.2.2.2.1 kL.1 (by omega) hc, bsm, wr_eq (by omega) (by omega)]
    have keep : (0 ≤ nr L c k → tb z c = true → tb y (nr L c k).toNat = true) → ∃ t', pl_M_partOf_32 x h K n y z c (k + 1 : Nat) = pl_M_partOf_32 x h K n t' z c (k + 1 : Nat) ∧ PP L x t' z c (k + 1) := fun v => ⟨y, rfl, P.1, P.2.1, P.2.2.1, fun j hj => by
      rcases Nat.lt_or_ge j k with w | w
      · exact P.2.2.2 j w
      · rw [show j = k by omega]; exact v⟩
    by_cases y1 : nr L c k < 0
    · rw [if_pos y1]
      exact keep (fun v => by omega)
    · rw [if_neg y1]
      have eb : (((nr L c k).toNat : Nat) : Int) = nr L c k := by omega
      by_cases y2 : tb y c = true
      · rw [if_pos ((shr1 (by omega)).mpr y2)]
        have nt : ∀ e, e < 64 → (tb (y ||| plshl 1 (nr L c k)) e = true ↔ tb y e = true ∨ e = (nr L c k).toNat) := fun e he => by
          rw [tb_or, ← eb, tb_bit (by omega) he, Bool.or_eq_true, decide_eq_true_eq, Int.toNat_natCast]
        refine ⟨_, rfl, fun e he v => (nt e he).mpr (Or.inl (P.1 e he v)), fun e he v => ?_, fun a j ha hj v1 v2 => ?_, fun j hj v1 v2 => ?_⟩
        · rcases (nt e he).mp v with v | v
          · exact P.2.1 e he v
          · refine ⟨by omega, ?_⟩
            obtain ⟨-, m, v2⟩ := P.2.1 c (by omega) y2
            rw [v, eb]
            exact ⟨m + 1, gw_snoc v2 ⟨trivial, by omega, k, hk, rfl⟩⟩
        · have b1 := nr_rg kL.1 (c := (a : Int)) (k := j) (by omega) (by omega)
          exact (nt _ (by omega)).mpr (Or.inl (P.2.2.1 a j ha hj v1 v2))
        · have b1 := nr_rg kL.1 (c := (c : Int)) (k := j) (by omega) hc
          rcases Nat.lt_or_ge j k with w | w
          · exact (nt _ (by omega)).mpr (Or.inl (P.2.2.2 j w v1 v2))
          · rw [show j = k by omega]; exact (nt _ (by omega)).mpr (Or.inr rfl)
      · rw [if_neg (fun v => y2 ((shr1 (by omega)).mp v))]
        exact keep (fun _ v => absurd (P.1 c (by omega) v) y2)
  · intro n y P
    refine ⟨y, ?_, P.1, P.2.1, fun a j ha hj => ?_, fun j hj => by omega⟩
    · show pl_M_partOf_32 x h K (n + 1) y z c (4 : Nat) = _
      rw [pl_M_partOf_32, if_pos (by omega)]
    · rcases Nat.lt_or_ge a c with v | v
      · exact P.2.2.1 a j v hj
      · rw [show a = c by omega]; exact P.2.2.2 j hj
theorem m_po_round {x : Int} {y : Int64} {K : Int64 → Int64 → Option Int64} (M : MS h l w L W) (s : ∀ e : Nat, e < 64 → tb y e = true → (e : Int) < ce L ∧ prt L x e) : ∃ y', pl_M_partOf_20 x h K fu_ y y 0 = K y' y ∧ PP L x y' y (ce L).toNat 0 := by
  have kL := M.2.2.2.2.2.2.1
  have zz : 4 ≤ ce L ∧ ce L ≤ 36 := sz_mul kL.1
  refine lpf (F := fun n (c : Nat) (t : Int64) => pl_M_partOf_20 x h K n t y c) (Q := fun r => ∃ y', r = K y' y ∧ PP L x y' y (ce L).toNat 0) (ce L).toNat (fun c t => PP L x t y c 0) ?_ ?_ fu_ 0 y (by omega) (by unfold fu_; omega) ⟨fun _ _ v => v, s, fun a j ha => by omega, fun j hj => by omega⟩
  · intro n c t hc P
    right
    obtain ⟨y', r1, r2⟩ := m_po_side (K := fun y2 y4 x6 => pl_M_partOf_20 x h K n y2 y4 (wr (x6 + 1))) M (by omega) P
    refine ⟨y', ?_, r2⟩
    show pl_M_partOf_20 x h K (n + 1) t y c = pl_M_partOf_20 x h K n y' y (c + 1 : Nat)
    rw [pl_M_partOf_20, m_cells M, bsm, if_neg (by omega), r1, wr_eq (by omega) (by omega)]
    rfl
  · intro n t P
    refine ⟨t, ?_, P⟩
    show pl_M_partOf_20 x h K (n + 1) t y ((ce L).toNat : Nat) = _
    rw [pl_M_partOf_20, m_cells M, bsm, if_pos (by omega)]
theorem m_partOf {x : Int} (M : MS h l w L W) (hx : inr L x) : pf_M_partOf x h = some (ptb L x) ∧ PB L x (ptb L x) := by
  have kL := M.2.2.2.2.2.2.1
  have zz : 4 ≤ ce L ∧ ce L ≤ 36 := sz_mul kL.1
  have x0 := hx.1
  have x1 := hx.2
  have ex : ((x.toNat : Nat) : Int) = x := by omega
  have b1 : ∀ e, e < 64 → (tb (plshl 1 x) e = true ↔ e = x.toNat) := fun e he => by rw [← ex, tb_bit (by omega) he, decide_eq_true_eq, Int.toNat_natCast]
  unfold pf_M_partOf
  refine lp (F := fun n (t : Int64 × Int64) => pl_M_partOf_7 x h (fun y2 => some y2) n t.1 t.2) (Q := fun r => r = some (ptb L x) ∧ PB L x (ptb L x)) (I := fun t => (∀ e, e < 64 → tb t.2 e = true → tb t.1 e = true) ∧ tb t.1 x.toNat = true ∧ (∀ e : Nat, e < 64 → tb t.1 e = true → (e : Int) < ce L ∧ prt L x e) ∧ (∀ a j : Nat, (a : Int) < ce L → j < 4 → 0 ≤ nr L a j → tb t.2 a = true → tb t.1 (nr L a j).toNat = true)) (fun t => cif (t.1 = t.2) 0 (65 - cnb (fun e => tb t.1 e = true) 64)) ?_ fu_ (plshl 1 x, 0) ⟨fun e _ v => by rw [tb_0] at v; exact absurd v (by decide), (b1 _ (by omega)).mpr rfl, fun e he v => ?_, fun a j _ _ _ v => by rw [tb_0] at v; exact absurd v (by decide)⟩ ?_
  · intro n t ⟨i1, i2, i3, i4⟩
    obtain ⟨y, z⟩ := t
    by_cases q : y = z
    · left
      subst q
      have P : PB L x y := fun e he => by
        constructor
        · intro v; exact i3 e he v
        · intro ⟨v1, m, v2⟩
          have : ∀ (m : Nat) (c d : Int), inr L c → tb y c.toNat = true → gw (rs (nrk L) tr0) m c d → tb y d.toNat = true := by
            intro m
            induction m with
            | zero => intro c d _ v w; have e : c = d := w; rw [← e]; exact v
            | succ m ih =>
              intro c d hc v ⟨f, w1, w2⟩
              have hf := prt_in kL hc w1
              obtain ⟨-, f0, k, hk, ek⟩ := w1
              have g := i4 c.toNat k (by have := hc.1; have := hc.2; omega) hk
              rw [show ((c.toNat : Nat) : Int) = c by have := hc.1; omega] at g
              have ek' : nr L c k = f := ek
              rw [ek'] at g
              exact ih f d hf (g f0 v) w2
          have v5 := this m x e hx i2 v2
          rw [Int.toNat_natCast] at v5
          exact v5
      refine ⟨?_, ptb_PB P⟩
      show pl_M_partOf_7 x h _ (n + 1) y y = _
      rw [pl_M_partOf_7, if_pos (plc_0.mpr rfl), ptb_eq P]
    · right
      obtain ⟨y', r1, r2⟩ := m_po_round (y := y) (K := fun y2 y4 => pl_M_partOf_7 x h (fun y2 => some y2) n y2 y4) M i3
      refine ⟨(y', y), ?_, ⟨r2.1, r2.1 _ (by omega) i2, r2.2.1, fun a j ha hj => r2.2.2.1 a j (by omega) hj⟩, ?_⟩
      · show pl_M_partOf_7 x h _ (n + 1) y z = pl_M_partOf_7 x h _ n y' y
        rw [pl_M_partOf_7, if_neg (fun v => q (plc_0.mp v)), r1]
      · show cif (y' = y) 0 (65 - cnb (fun e => tb y' e = true) 64) < cif (y = z) 0 (65 - cnb (fun e => tb y e = true) 64)
        rw [cif_f q]
        have le := cnb_le (P := fun e => tb y e = true) (n := 64)
        by_cases q2 : y' = y
        · rw [cif_t q2]; omega
        · rw [cif_f q2]
          have ex : ∃ e, e < 64 ∧ tb y' e = true ∧ ¬ tb y e = true := by
            refine Classical.byContradiction fun v => q2 (tb_ext fun e he => ?_)
            cases e1 : tb y' e <;> cases e2 : tb y e
            · rfl
            · exact absurd (r2.1 e he e2) (by rw [e1]; decide)
            · exact absurd ⟨e, he, e1, by rw [e2]; decide⟩ v
            · rfl
          obtain ⟨e, e1, e2, e3⟩ := ex
          have := cnb_lt (P := fun e => tb y e = true) (Q := fun e => tb y' e = true) (c := e) (n := 64) (fun c hc => r2.1 c hc) e1 e3 e2
          have le2 := cnb_le (P := fun e => tb y' e = true) (n := 64)
          omega
  · have e' := (b1 e he).mp v
    exact ⟨by omega, 0, by show x = (e : Int); omega⟩
  · show cif (plshl 1 x = 0) 0 (65 - cnb (fun e => tb (plshl 1 x) e = true) 64) < fu_
    have : cif (plshl 1 x = 0) 0 (65 - cnb (fun e => tb (plshl 1 x) e = true) 64) ≤ 65 := by
      by_cases q : plshl 1 x = 0
      · rw [cif_t q]; omega
      · rw [cif_f q]; omega
    unfold fu_
    omega
theorem m_parts (M : MS h l w L W) : pf_M_parts h = some ((pcs L (ce L).toNat).2) := by
  have kL := M.2.2.2.2.2.2.1
  have zz : 4 ≤ ce L ∧ ce L ≤ 36 := sz_mul kL.1
  unfold pf_M_parts
  refine lpf (F := fun n (c : Nat) (_ : Unit) => pl_M_parts_7 h (fun x3 => some x3) n (pcs L c).1 (pcs L c).2 c) (Q := fun r => r = some ((pcs L (ce L).toNat).2)) (ce L).toNat (fun _ _ => True) ?_ ?_ fu_ 0 () (by omega) (by unfold fu_; omega) trivial
  · intro n c _ hc _
    right
    have pb := pcs_bd (L := L) (c := c)
    refine ⟨(), ?_, trivial⟩
    show pl_M_parts_7 h _ (n + 1) (pcs L c).1 (pcs L c).2 c = pl_M_parts_7 h _ n (pcs L (c + 1)).1 (pcs L (c + 1)).2 (c + 1 : Nat)
    rw [pl_M_parts_7, m_cells M, bsm, if_neg (by omega), pcs]
    by_cases y : tb (pcs L c).1 c = true
    · rw [if_pos ((shr1 (by omega)).mpr y), if_pos y, wr_eq (by omega) (by omega)]
      rfl
    · rw [if_neg (fun v => y ((shr1 (by omega)).mp v)), if_neg y, (m_partOf M ⟨by omega, by omega⟩).1, bsm, wr_eq (by omega) (by omega), wr_eq (by omega) (by omega)]
      rfl
  · intro n _ _
    show pl_M_parts_7 h _ (n + 1) (pcs L (ce L).toNat).1 (pcs L (ce L).toNat).2 ((ce L).toNat : Nat) = _
    rw [pl_M_parts_7, m_cells M, bsm, if_pos (by omega)]
end Mi
