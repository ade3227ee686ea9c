/-! lucky ways: the class -/
theorem p64_mul {a b : Int} (a0 : 0 ≤ a) (b0 : 0 ≤ b) (ab : a * b ≤ 100000000) (a1 : a ≤ 100000000) (b1 : b ≤ 10) : p64 a * p64 b = p64 (a * b) := by
  have m0 := Int.mul_nonneg a0 b0
  apply Int64.toInt_inj.mp
  rw [Int64.toInt_mul, p64_i (by omega) (by omega), p64_i (by omega) (by omega), p64_i (by omega) (by omega)]
  rw [Int.bmod_def]
  split <;> omega
theorem plc_p {a b : Int} (a0 : -1 ≤ a) (a1 : a ≤ 100000000) (b0 : -1 ≤ b) (b1 : b ≤ 100000000) : plc (p64 a) (p64 b) = if b < a then 1 else (if a = b then 0 else -1) := by
  have ea := p64_i (a := a) (by omega) (by omega)
  have eb := p64_i (a := b) (by omega) (by omega)
  unfold plc lg_cmp
  by_cases q1 : b < a
  · rw [if_pos (show p64 a > p64 b from Int64.lt_iff_toInt_lt.mpr (by rw [ea, eb]; exact q1)), if_pos q1]; rfl
  · rw [if_neg (fun v => q1 (by have := Int64.lt_iff_toInt_lt.mp v; rw [ea, eb] at this; exact this)), if_neg q1]
    by_cases q2 : a = b
    · rw [if_pos (by rw [q2]), if_pos q2]; rfl
    · rw [if_neg (fun v => q2 (by rw [← ea, ← eb, v])), if_neg q2]; rfl
theorem pow7 : ∀ n, n ≤ 7 → (10 : Int) ^ n ≤ 10000000 ∧ (10 : Int) ^ n * 10 ^ (7 - n) = 10000000 := by decide
section Ec
variable {h : pH} {p q : Nat} {L W : Nat → Int} {O : Int → Prop} {to load : Int}
theorem c_luckBy {n : Nat} {c : Int} {k : Nat} {ki : Int} (C : CX h p q L W) (X : WX h p q) (hO : ∀ c : Nat, (c : Int) < ce L → (load ≤ pi h 313 c ↔ O c)) (hn : n < 7) (hR : ∀ c : Nat, (c : Int) < ce L → pi h (317 + n) c = lv L W O to n c) (hc : inr L c) (ek : (k : Int) = ki) (hk : k < 4) : pf_Wa_luckBy ((n + 1 : Nat) : Int) c ki load h = some (lvb L W O (lv L W O to n) c ki) := by
  have kL := C.2.2.1
  have z : 4 ≤ ce L ∧ ce L ≤ 36 := sz_mul kL.1
  have hci := hc
  obtain ⟨c0, c1⟩ := hc
  have ec : ((c.toNat : Nat) : Int) = c := by omega
  have t1 : (c * 4 + ki).toNat = 4 * c.toNat + k := by omega
  have sd := (C.1.2.2.2.2.1 c.toNat k (by omega) hk).1
  rw [ec, ek] at sd
  have b0 : -1 ≤ bs L c ki ∧ bs L c ki < ce L := ⟨be_lo kL.1 c0 c1, be_hi kL.1 c0 c1⟩
  unfold pf_Wa_luckBy
  rw [X.1]
  simp (disch := omega) only [wr_eq, gib, t1, sd]
  by_cases y1 : bs L c ki = -1
  · rw [if_pos y1]
    exact congrArg some (cif_f (fun v => by have := v.1; omega)).symm
  · rw [if_neg y1]
    try simp (disch := omega) only [gib]
    have eb : (((bs L c ki).toNat : Nat) : Int) = bs L c ki := by omega
    have ho := hO (bs L c ki).toNat (by omega)
    rw [eb] at ho
    by_cases y2 : pi h 313 (bs L c ki).toNat < load
    · rw [if_pos y2]
      exact congrArg some (cif_f (fun v => by have := ho.mpr v.2.1; omega)).symm
    · rw [if_neg y2, c_mayStep C X ⟨c0, by omega⟩ ⟨by omega, by omega⟩, bsm]
      by_cases y4 : ag W c (bs L c ki)
      · rw [cif_t y4, if_pos rfl]
        exact congrArg some (cif_f (fun v => v.2.2 y4)).symm
      · have v : vst L W O c ki := ⟨by omega, ho.mp (by omega), y4⟩
        have hin : inr L (bs L c ki) := ⟨by omega, b0.2⟩
        have wb := wkn_bd kL hin
        have lb := lv_bd (W := W) (O := O) (to := to) (n := n) kL hin
        have p7 := (pow7 n (by omega)).1
        have wk3 := (C.1.2.1 (bs L c ki).toNat (by omega)).2.2
        have r := hR (bs L c ki).toNat (by omega)
        rw [eb] at r
        have m0 : 0 ≤ wkn L (bs L c ki) * lv L W O to n (bs L c ki) := Int.mul_nonneg (by omega) lb.1
        have m1 : wkn L (bs L c ki) * lv L W O to n (bs L c ki) ≤ 10 * 10000000 := Int.mul_le_mul wb.2 (by omega) lb.1 (by decide)
        have en : (((n + 1 : Nat) : Int) - 1) = (n : Int) := by omega
        rw [cif_f y4, if_neg (by decide), lvb_e v, en, Int.toNat_natCast, show 316 + 1 + 1 * n = 317 + n by omega, r, wk3]
        have ew : 10 - L (80 + (bs L c ki).toNat) = wkn L (bs L c ki) := rfl
        rw [ew, wr_eq (x := wkn L (bs L c ki)) (by omega) (by omega), wr_eq (by omega) (by omega)]
theorem c_bestLuck {n : Nat} {c : Int} (C : CX h p q L W) (X : WX h p q) (hO : ∀ c : Nat, (c : Int) < ce L → (load ≤ pi h 313 c ↔ O c)) (hn : n < 7) (hR : ∀ c : Nat, (c : Int) < ce L → pi h (317 + n) c = lv L W O to n c) (hc : inr L c) : pf_Wa_bestLuck ((n + 1 : Nat) : Int) c load h = some (lv L W O to (n + 1) c) := by
  unfold pf_Wa_bestLuck
  have step : ∀ (m k : Nat) (ki ki' x : Int), (k : Int) = ki → ki + 1 = ki' → k < 4 → pl_Wa_bestLuck_6 ((n + 1 : Nat) : Int) c load h (fun x4 => some x4) (m + 1) x ki = pl_Wa_bestLuck_6 ((n + 1 : Nat) : Int) c load h (fun x4 => some x4) m (max x (lvb L W O (lv L W O to n) c ki)) ki' := by
    intro m k ki ki' x ek ek' hk
    rw [pl_Wa_bestLuck_6, if_neg (by omega), c_luckBy C X hO hn hR hc ek hk, bsm, wr_eq (by omega) (by omega), ek']
  rw [fu5, step _ 0 0 1 _ rfl (by decide) (by omega), step _ 1 1 2 _ rfl (by decide) (by omega), step _ 2 2 3 _ rfl (by decide) (by omega), step _ 3 3 4 _ rfl (by decide) (by omega), pl_Wa_bestLuck_6, if_pos (by decide), lv]
theorem c_inParts {v : Int} {n : Nat} (hn : n ≤ 7) (v0 : 0 ≤ v) (v1 : v ≤ 10 ^ n) : pf_Wa_inParts v n h = some (p64 (v * 10 ^ (7 - n))) := by
  unfold pf_Wa_inParts
  refine lpf (F := fun m (i : Nat) (_ : Unit) => pl_Wa_inParts_6 v n h (fun y2 => some y2) m (p64 (v * 10 ^ (i - n))) i) (Q := fun r => r = some (p64 (v * 10 ^ (7 - n)))) 7 (fun i _ => n ≤ i) ?_ ?_ fu_ n () hn (by unfold fu_; omega) (Nat.le_refl _) |> fun e => by
    have e : pl_Wa_inParts_6 v n h (fun y2 => some y2) fu_ (p64 (v * 10 ^ (n - n))) n = some (p64 (v * 10 ^ (7 - n))) := e
    rw [Nat.sub_self, Int.pow_zero, Int.mul_one] at e
    exact e
  · intro m i _ hi ni
    right
    refine ⟨(), ?_, by omega⟩
    show pl_Wa_inParts_6 v n h _ (m + 1) (p64 (v * 10 ^ (i - n))) i = pl_Wa_inParts_6 v n h _ m (p64 (v * 10 ^ (i + 1 - n))) (i + 1 : Nat)
    have pp : (10 : Int) ^ n * 10 ^ (i - n) ≤ 10000000 := by
      rw [← Int.pow_add]
      exact (pow7 _ (by omega)).1
    have p0 : (0 : Int) ≤ 10 ^ (i - n) := Int.pow_nonneg (by decide)
    have b0 := Int.mul_nonneg v0 p0
    have b1 := Int.mul_le_mul_of_nonneg_right v1 p0
    rw [pl_Wa_inParts_6, if_neg (by omega), wr_eq (by omega) (by omega), show (10 : Int64) = p64 10 from rfl, p64_mul b0 (by decide) (by omega) (by omega) (by decide), Int.mul_assoc, ← Int.pow_succ, show (i - n).succ = i + 1 - n by omega]
    rfl
  · intro m _ _
    show pl_Wa_inParts_6 v n h _ (m + 1) (p64 (v * 10 ^ (7 - n))) (7 : Nat) = _
    rw [pl_Wa_inParts_6, if_pos (by decide)]
/-- a row of luck -/
theorem c_luckRow {n : Nat} {x1 x2 st : Int} {K : Int → Int → pH → Option (Int × pH)} (C : CX h p q L W) (X : WX h p q) (hO : ∀ c : Nat, (c : Int) < ce L → (load ≤ pi h 313 c ↔ O c)) (hn : n < 7) (hR : ∀ c : Nat, (c : Int) < ce L → pi h (317 + n) c = lv L W O to n c) : ∃ h', pl_Wa_findLucky_54 load x1 x2 K fu_ st ((n + 1 : Nat) : Int) 0 h = K st ((n + 1 : Nat) : Int) h' ∧ fr (fun b => b = 317 + (n + 1)) h h' ∧ ∀ c : Nat, (c : Int) < ce L → pi h' (317 + (n + 1)) c = lv L W O to (n + 1) c := by
  have kL := C.2.2.1
  have z : 4 ≤ ce L ∧ ce L ≤ 36 := sz_mul kL.1
  refine lpf (F := fun m (i : Nat) t => pl_Wa_findLucky_54 load x1 x2 K m st ((n + 1 : Nat) : Int) i t) (Q := fun r => ∃ h', r = K st ((n + 1 : Nat) : Int) h' ∧ fr (fun b => b = 317 + (n + 1)) h h' ∧ ∀ c : Nat, (c : Int) < ce L → pi h' (317 + (n + 1)) c = lv L W O to (n + 1) c) (ce L).toNat (fun i t => fr (fun b => b = 317 + (n + 1)) h t ∧ ∀ c : Nat, c < i → pi t (317 + (n + 1)) c = lv L W O to (n + 1) c) ?_ ?_ fu_ 0 h (by omega) (by unfold fu_; omega) ⟨fr_refl, fun c hc => absurd hc (Nat.not_lt_zero _)⟩
  · intro m i t hi ⟨f, g⟩
    right
    have Ct : CX t p q L W := CX_fr C f (fun b hb => by omega)
    have Xt : WX t p q := WX_fr X f (by omega)
    have b := c_bestLuck (n := n) (c := i) (load := load) (to := to) Ct Xt (fun c hc => by rw [fr_i f (by omega)]; exact hO c hc) hn (fun c hc => by rw [fr_i f (by omega)]; exact hR c hc) ⟨by omega, by omega⟩
    refine ⟨pwI t (317 + (n + 1)) i (lv L W O to (n + 1) i), ?_, fr_wI f rfl, fun c hc => ?_⟩
    · show pl_Wa_findLucky_54 load x1 x2 K (m + 1) st _ i t = pl_Wa_findLucky_54 load x1 x2 K m st _ (i + 1 : Nat) _
      rw [pl_Wa_findLucky_54, Xt.1, c_cells Ct, bsm, if_neg (by omega), gib (by omega) (by omega), b, bsm, gib (by omega) (by omega), wr_eq (by omega) (by omega), Int.toNat_natCast, Int.toNat_natCast, show 316 + 1 + 1 * (n + 1) = 317 + (n + 1) by omega]
      rfl
    · by_cases y : c = i
      · rw [y, pi_wIs]
      · rw [pi_wIi y]; exact g c (by omega)
  · intro m t ⟨f, g⟩
    have Ct : CX t p q L W := CX_fr C f (fun b hb => by omega)
    have Xt : WX t p q := WX_fr X f (by omega)
    refine ⟨t, ?_, f, fun c hc => g c (by omega)⟩
    show pl_Wa_findLucky_54 load x1 x2 K (m + 1) st _ ((ce L).toNat : Nat) t = _
    rw [pl_Wa_findLucky_54, Xt.1, c_cells Ct, bsm, if_pos (by omega)]
/-- the side that is followed -/
theorem c_followK {n : Nat} {c x2 x3 : Int} {K : Int → Int → Int → pH → Option pH} (C : CX h p q L W) (X : WX h p q) (hO : ∀ c : Nat, (c : Int) < ce L → (load ≤ pi h 313 c ↔ O c)) (hn : n < 7) (hR : ∀ j, j ≤ 7 → ∀ c : Nat, (c : Int) < ce L → pi h (317 + j) c = lv L W O to j c) (hc : inr L c) : pl_Wa_followLuck_45 load x2 x3 K fu_ ((n + 1 : Nat) : Int) c 0 h = K ((n + 1 : Nat) : Int) c (fk L W O to n c) h := by
  have kL := C.2.2.1
  have z : 4 ≤ ce L ∧ ce L ≤ 36 := sz_mul kL.1
  have hci := hc
  obtain ⟨c0, c1⟩ := hc
  have ec : ((c.toNat : Nat) : Int) = c := by omega
  have r := hR (n + 1) (by omega) c.toNat (by omega)
  rw [ec] at r
  have step : ∀ (m k : Nat) (ki ki' : Int), (k : Int) = ki → ki + 1 = ki' → k < 3 → pl_Wa_followLuck_45 load x2 x3 K (m + 1) ((n + 1 : Nat) : Int) c ki h = cif (lvb L W O (lv L W O to n) c ki = lv L W O to (n + 1) c) (K ((n + 1 : Nat) : Int) c ki h) (pl_Wa_followLuck_45 load x2 x3 K m ((n + 1 : Nat) : Int) c ki' h) := by
    intro m k ki ki' ek ek' hk
    rw [pl_Wa_followLuck_45, if_neg (by omega), c_luckBy C X hO hn (hR n (by omega)) hci ek (by omega), bsm, gib (by omega) (by omega), gib c0 (by omega), Int.toNat_natCast, show 316 + 1 + 1 * (n + 1) = 317 + (n + 1) by omega, r, wr_eq (by omega) (by omega), ek']
    by_cases y : lvb L W O (lv L W O to n) c ki = lv L W O to (n + 1) c
    · rw [if_pos y, cif_t y]
    · rw [if_neg y, cif_f y]
  rw [fu5, step _ 0 0 1 rfl (by decide) (by omega), step _ 1 1 2 rfl (by decide) (by omega), step _ 2 2 3 rfl (by decide) (by omega), pl_Wa_followLuck_45, if_pos (by decide)]
  unfold fk
  by_cases q0 : lvb L W O (lv L W O to n) c 0 = lv L W O to (n + 1) c
  · rw [cif_t q0, cif_t q0]
  · rw [cif_f q0, cif_f q0]
    by_cases q1 : lvb L W O (lv L W O to n) c 1 = lv L W O to (n + 1) c
    · rw [cif_t q1, cif_t q1]
    · rw [cif_f q1, cif_f q1]
      by_cases q2 : lvb L W O (lv L W O to n) c 2 = lv L W O to (n + 1) c
      · rw [cif_t q2, cif_t q2]
      · rw [cif_f q2, cif_f q2]
theorem c_follow {N : Nat} {fm : Int} (C : CX h p q L W) (X : WX h p q) (hO : ∀ c : Nat, (c : Int) < ce L → (load ≤ pi h 313 c ↔ O c)) (hN : N ≤ 7) (hR : ∀ j, j ≤ 7 → ∀ c : Nat, (c : Int) < ce L → pi h (317 + j) c = lv L W O to j c) (hf : inr L fm) (pos : 0 < lv L W O to N fm) : ∃ h', pf_Wa_followLuck load fm N h = some h' ∧ fr (fun b => b = 311 ∨ b = 312) h h' ∧ pl h' 311 = pl h 311 ∧ pi h' 311 0 = N + 1 ∧ ∀ i : Nat, i ≤ N → pi h' 312 i = lpt L W O to N fm i := by
  have kL := C.2.2.1
  have z : 4 ≤ ce L ∧ ce L ≤ 36 := sz_mul kL.1
  unfold pf_Wa_followLuck
  generalize eH : pwI (pwI h 312 0 fm) 311 0 1 = H
  have fH : fr (fun b => b = 311 ∨ b = 312) h H := by rw [← eH]; exact fr_wI (fr_wI fr_refl (Or.inr rfl)) (Or.inl rfl)
  have lH : pl H 311 = pl h 311 := by rw [← eH]; rfl
  have rH : pr H 311 = pr h 311 := by rw [← eH]; rfl
  have v0 : pi H 311 0 = 1 := by rw [← eH, pi_wIs]
  have v1 : pi H 312 0 = fm := by rw [← eH, pi_wIa (by decide), pi_wIs]
  refine lpf (F := fun m (i : Nat) t => pl_Wa_followLuck_15 load fm N (fun h => some h) m ((N - i : Nat) : Int) t) (Q := fun r => ∃ h', r = some h' ∧ fr (fun b => b = 311 ∨ b = 312) h h' ∧ pl h' 311 = pl h 311 ∧ pi h' 311 0 = N + 1 ∧ ∀ i : Nat, i ≤ N → pi h' 312 i = lpt L W O to N fm i) N (fun i t => fr (fun b => b = 311 ∨ b = 312) h t ∧ pl t 311 = pl h 311 ∧ pr t 311 = pr h 311 ∧ pi t 311 0 = i + 1 ∧ ∀ j : Nat, j ≤ i → pi t 312 j = lpt L W O to N fm j) ?_ ?_ fu_ 0 H (by omega) (by unfold fu_; omega) ⟨fH, lH, rH, by rw [v0]; rfl, fun j hj => by rw [show j = 0 by omega, v1]; rfl⟩
  · intro m i t hi ⟨f, fl, frr, e0, g⟩
    right
    obtain ⟨n, en⟩ : ∃ n, N - i = n + 1 := ⟨N - i - 1, by omega⟩
    have Ct : CX t p q L W := CX_fr C f (fun b hb => by omega)
    have Xt : WX t p q := ⟨by rw [frr]; exact X.1, by rw [frr]; exact X.2⟩
    obtain ⟨a1, a2, a3, a4⟩ := lpt_ok (i := i) kL hf pos (by omega)
    obtain ⟨s1, s2, s3⟩ := lpt_st (i := i) kL hf pos (by omega)
    have sp : s4 (fk L W O to n (lpt L W O to N fm i)) := by rw [show n = N - i - 1 by omega]; exact s1
    have el : lpt L W O to N fm (i + 1) = bs L (lpt L W O to N fm i) (fk L W O to n (lpt L W O to N fm i)) := by rw [lpt, show N - i - 1 = n by omega]
    have fkb : ∃ k : Nat, (k : Int) = fk L W O to n (lpt L W O to N fm i) ∧ k < 4 := by
      unfold s4 at sp
      exact ⟨(fk L W O to n (lpt L W O to N fm i)).toNat, by omega, by omega⟩
    obtain ⟨k, ek, hk⟩ := fkb
    have sd := (Ct.1.2.2.2.2.1 (lpt L W O to N fm i).toNat k (by have := a1.1; have := a1.2; omega) hk).1
    have ec : (((lpt L W O to N fm i).toNat : Nat) : Int) = lpt L W O to N fm i := by have := a1.1; omega
    rw [ec, ek, ← el] at sd
    have a10 := a1.1
    have a11 := a1.2
    refine ⟨pwI (pwI t 311 0 ((i : Int) + 2)) 312 (i + 1) (lpt L W O to N fm (i + 1)), ?_, fr_wI (fr_wI f (Or.inl rfl)) (Or.inr rfl), fl, frr, by rw [pi_wIa (by decide), pi_wIs]; omega, fun j hj => ?_⟩
    · show pl_Wa_followLuck_15 load fm N _ (m + 1) ((N - i : Nat) : Int) t = pl_Wa_followLuck_15 load fm N _ m ((N - (i + 1) : Nat) : Int) _
      rw [pl_Wa_followLuck_15, if_neg (by omega), e0, if_neg (by omega), wr_eq (x := (i : Int) + 1 - 1) (by omega) (by omega), gib (by omega) (by omega), show ((i : Int) + 1 - 1).toNat = i by omega, g i (Nat.le_refl _), en, c_followK Ct Xt (fun c hc => by rw [fr_i f (by omega)]; exact hO c hc) (by omega) (fun j hj c hc => by rw [fr_i f (by omega)]; exact hR j hj c hc) a1]
      unfold pj_Wa_followLuck_81
      rw [← ek, wr_eq (x := lpt L W O to N fm i * 4) (by omega) (by omega), wr_eq (x := lpt L W O to N fm i * 4 + (k : Int)) (by omega) (by omega), gib (by omega) (by omega), e0, gib (by omega) (by omega), wr_eq (x := ((n + 1 : Nat) : Int) + -1) (by omega) (by omega), wr_eq (x := (i : Int) + 1 + 1) (by omega) (by omega), pr_wI, Xt.1, pi_wIa (by have := C.2.2.2.2.1; omega), show (lpt L W O to N fm i * 4 + (k : Int)).toNat = 4 * (lpt L W O to N fm i).toNat + k by omega, sd, show ((n + 1 : Nat) : Int) + -1 = ((N - (i + 1) : Nat) : Int) by omega, show ((i : Int) + 1).toNat = i + 1 by omega, show (i : Int) + 1 + 1 = (i : Int) + 2 by omega]
    · by_cases y : j = i + 1
      · rw [y, pi_wIs]
      · rw [pi_wIi y, pi_wIa (by decide)]; exact g j (by omega)
  · intro m t ⟨f, fl, frr, e0, g⟩
    refine ⟨t, ?_, f, fl, e0, g⟩
    show pl_Wa_followLuck_15 load fm N _ (m + 1) ((N - N : Nat) : Int) t = some t
    rw [pl_Wa_followLuck_15, if_pos (by omega)]
/-- the class's lucky way -/
theorem c_findLucky {fm : Int} (C : CX h p q L W) (X : WX h p q) (hO : ∀ c : Nat, (c : Int) < ce L → (load ≤ pi h 313 c ↔ O c)) (hf : inr L fm) (ht : inr L to) : ∃ h', fr (fun b => b = 311 ∨ b = 312 ∨ (317 ≤ b ∧ b ≤ 324)) h h' ∧ ((pf_Wa_findLucky load fm to h = some (0, h') ∧ ∀ n, 1 ≤ n → n ≤ 7 → lv L W O to n fm = 0) ∨ ∃ N, pf_Wa_findLucky load fm to h = some (1, h') ∧ lbest L W O to fm N ∧ pl h' 311 2 = p64 (lv L W O to N fm * 10 ^ (7 - N)) ∧ pi h' 311 0 = N + 1 ∧ ∀ i : Nat, i ≤ N → pi h' 312 i = lpt L W O to N fm i) := by
  have kL := C.2.2.1
  have z : 4 ≤ ce L ∧ ce L ≤ 36 := sz_mul kL.1
  obtain ⟨t0, t1⟩ := ht
  have et : ((to.toNat : Nat) : Int) = to := by omega
  obtain ⟨h1, p1, p2, p3⟩ := c_fill (a := 317) (N := 36) (v := 0) (h := h) (by decide +kernel) (by decide)
  have ho := hO to.toNat (by omega)
  rw [et] at ho
  have key : ∀ v : Int, v = cif (O to) 1 0 → ∃ h', fr (fun b => b = 311 ∨ b = 312 ∨ (317 ≤ b ∧ b ≤ 324)) h h' ∧ ((pj_Wa_findLucky_32 load fm to 317 to v h1 = some (0, h') ∧ ∀ n, 1 ≤ n → n ≤ 7 → lv L W O to n fm = 0) ∨ ∃ N, pj_Wa_findLucky_32 load fm to 317 to v h1 = some (1, h') ∧ lbest L W O to fm N ∧ pl h' 311 2 = p64 (lv L W O to N fm * 10 ^ (7 - N)) ∧ pi h' 311 0 = N + 1 ∧ ∀ i : Nat, i ≤ N → pi h' 312 i = lpt L W O to N fm i) := by
    intro v ev
    unfold pj_Wa_findLucky_32
    rw [gib t0 (by omega)]
    generalize eH : pwL (pwI h1 317 to.toNat v) 311 2 0 = H
    have fH : fr (fun b => b = 311 ∨ b = 312 ∨ (317 ≤ b ∧ b ≤ 324)) h H := by
      rw [← eH]
      exact fr_wL (fr_wI (fr_mono p2 (fun b hb => by omega)) (by omega)) (by omega)
    have rH : pr H 311 = pr h 311 := by
      rw [← eH]
      show pr h1 311 = _
      exact fr_fr p2 (by omega)
    have r0 : ∀ c : Nat, (c : Int) < ce L → pi H (317 + 0) c = lv L W O to 0 c := fun c hc => by
      rw [← eH, pi_wL, lv]
      by_cases y : c = to.toNat
      · rw [y, pi_wIs, ev, et]
        by_cases o : O to
        · rw [cif_t o, cif_t ⟨rfl, o⟩]
        · rw [cif_f o, cif_f (fun u => o u.2)]
      · rw [pi_wIi y, p3 c, if_pos (by omega), cif_f (fun u => y (by have := u.1; omega))]
    have l0 : pl H 311 2 = p64 0 := by rw [← eH, pl_wLs]; rfl
    clear eH p3
    refine lpf (F := fun m (i : Nat) (t : Int × pH) => pl_Wa_findLucky_44 load fm to (fun x4 h => if (plc (pl h 311 2) 0) = 0 then (some (0, h)) else ((pf_Wa_followLuck load fm x4 h).bind fun v11 => (some (1, v11)))) m t.1 ((i + 1 : Nat) : Int) t.2) (Q := fun r => ∃ h', fr (fun b => b = 311 ∨ b = 312 ∨ (317 ≤ b ∧ b ≤ 324)) h h' ∧ ((r = some (0, h') ∧ ∀ n, 1 ≤ n → n ≤ 7 → lv L W O to n fm = 0) ∨ ∃ N, r = some (1, h') ∧ lbest L W O to fm N ∧ pl h' 311 2 = p64 (lv L W O to N fm * 10 ^ (7 - N)) ∧ pi h' 311 0 = N + 1 ∧ ∀ i : Nat, i ≤ N → pi h' 312 i = lpt L W O to N fm i)) 7 (fun i t => fr (fun b => b = 311 ∨ b = 312 ∨ (317 ≤ b ∧ b ≤ 324)) h t.2 ∧ pr t.2 311 = pr h 311 ∧ (∀ j, j ≤ i → ∀ c : Nat, (c : Int) < ce L → pi t.2 (317 + j) c = lv L W O to j c) ∧ ((t.1 = 0 ∧ pl t.2 311 2 = p64 0 ∧ ∀ n, 1 ≤ n → n ≤ i → lv L W O to n fm = 0) ∨ ∃ N : Nat, t.1 = N ∧ (1 ≤ N ∧ N ≤ i) ∧ 0 < lv L W O to N fm ∧ pl t.2 311 2 = p64 (lv L W O to N fm * 10 ^ (7 - N)) ∧ ∀ n, 1 ≤ n → n ≤ i → lv L W O to n fm * 10 ^ (7 - n) ≤ lv L W O to N fm * 10 ^ (7 - N) ∧ (n < N → lv L W O to n fm * 10 ^ (7 - n) < lv L W O to N fm * 10 ^ (7 - N)))) ?_ ?_ fu_ 0 (0, H) (by omega) (by unfold fu_; omega) ⟨fH, rH, fun j hj c hc => by rw [show j = 0 by omega]; exact r0 c hc, Or.inl ⟨rfl, l0, fun n a b => by omega⟩⟩
    · intro m i ⟨x, t⟩ hi ⟨f, fr3, rows, bb⟩
      right
      have f : fr (fun b => b = 311 ∨ b = 312 ∨ (317 ≤ b ∧ b ≤ 324)) h t := f
      have fr3 : pr t 311 = pr h 311 := fr3
      have rows : ∀ j, j ≤ i → ∀ c : Nat, (c : Int) < ce L → pi t (317 + j) c = lv L W O to j c := rows
      have Ct : CX t p q L W := CX_fr C f (fun b hb => by omega)
      have Xt : WX t p q := ⟨by rw [fr3]; exact X.1, by rw [fr3]; exact X.2⟩
      obtain ⟨u, u1, u2, u3⟩ := c_luckRow (n := i) (x1 := fm) (x2 := to) (st := x) (load := load) (to := to) (O := O) (K := fun x4 x5 h => ia_gd (pib x5 8) (ia_gd (pib fm 36) ((pf_Wa_inParts (pi h ((316 + 1) + (1 * (Int.toNat x5))) (Int.toNat fm)) x5 h).bind fun v10 => (if (plc v10 (pl h 311 2)) ≤ 0 then (pl_Wa_findLucky_44 load fm to (fun x4 h => if (plc (pl h 311 2) 0) = 0 then (some (0, h)) else ((pf_Wa_followLuck load fm x4 h).bind fun v11 => (some (1, v11)))) m x4 (wr (x5 + 1)) h) else (pl_Wa_findLucky_44 load fm to (fun x4 h => if (plc (pl h 311 2) 0) = 0 then (some (0, h)) else ((pf_Wa_followLuck load fm x4 h).bind fun v11 => (some (1, v11)))) m x5 (wr (x5 + 1)) (pwL h 311 2 v10)))))) Ct Xt (fun c hc => by rw [fr_i f (by omega)]; exact hO c hc) hi (rows i (Nat.le_refl _))
      have fu : fr (fun b => b = 311 ∨ b = 312 ∨ (317 ≤ b ∧ b ≤ 324)) h u := fr_trans f (fr_mono u2 (fun b hb => by omega))
      have ru : ∀ j, j ≤ i + 1 → ∀ c : Nat, (c : Int) < ce L → pi u (317 + j) c = lv L W O to j c := fun j hj c hc => by
        by_cases y : j = i + 1
        · rw [y]; exact u3 c hc
        · rw [fr_i u2 (by omega)]; exact rows j (by omega) c hc
      have pu : pr u 311 = pr h 311 := by rw [fr_fr u2 (by omega)]; exact fr3
      have lu : pl u 311 = pl t 311 := fr_fl u2 (by omega)
      have f0 := hf.1
      have f1 := hf.2
      have ef : ((fm.toNat : Nat) : Int) = fm := by omega
      have lf := u3 fm.toNat (by omega)
      rw [ef] at lf
      have lb := lv_bd (W := W) (O := O) (to := to) (n := i + 1) kL hf
      have pp := pow7 (i + 1) (by omega)
      have p0 : (0 : Int) < 10 ^ (7 - (i + 1)) := Int.pow_pos (by decide)
      have va0 : 0 ≤ lv L W O to (i + 1) fm * 10 ^ (7 - (i + 1)) := Int.mul_nonneg lb.1 (by omega)
      have va1 : lv L W O to (i + 1) fm * 10 ^ (7 - (i + 1)) ≤ 10000000 := by
        have := Int.mul_le_mul_of_nonneg_right lb.2 (show (0 : Int) ≤ 10 ^ (7 - (i + 1)) by omega)
        omega
      have hh : pl_Wa_findLucky_44 load fm to (fun x4 h => if (plc (pl h 311 2) 0) = 0 then (some (0, h)) else ((pf_Wa_followLuck load fm x4 h).bind fun v11 => (some (1, v11)))) (m + 1) x ((i + 1 : Nat) : Int) t = (if (plc (p64 (lv L W O to (i + 1) fm * 10 ^ (7 - (i + 1)))) (pl t 311 2)) ≤ 0 then (pl_Wa_findLucky_44 load fm to (fun x4 h => if (plc (pl h 311 2) 0) = 0 then (some (0, h)) else ((pf_Wa_followLuck load fm x4 h).bind fun v11 => (some (1, v11)))) m x ((i + 1 + 1 : Nat) : Int) u) else (pl_Wa_findLucky_44 load fm to (fun x4 h => if (plc (pl h 311 2) 0) = 0 then (some (0, h)) else ((pf_Wa_followLuck load fm x4 h).bind fun v11 => (some (1, v11)))) m ((i + 1 : Nat) : Int) ((i + 1 + 1 : Nat) : Int) (pwL u 311 2 (p64 (lv L W O to (i + 1) fm * 10 ^ (7 - (i + 1))))))) := by
        rw [pl_Wa_findLucky_44, if_neg (by omega), u1]
        rw [gib (by omega) (by omega), gib f0 (by omega), Int.toNat_natCast, show 316 + 1 + 1 * (i + 1) = 317 + (i + 1) by omega, lf, c_inParts (by omega) lb.1 lb.2, bsm, lu, wr_eq (by omega) (by omega)]
        rfl
      show ∃ t' : Int × pH, pl_Wa_findLucky_44 load fm to _ (m + 1) x ((i + 1 : Nat) : Int) t = pl_Wa_findLucky_44 load fm to _ m t'.1 ((i + 1 + 1 : Nat) : Int) t'.2 ∧ _
      rw [hh]
      rcases bb with ⟨b1, b2, b3⟩ | ⟨N, b1, b2, b3, b4, b5⟩
      · have b2 : pl t 311 2 = p64 0 := b2
        have b1 : x = 0 := b1
        rw [b2, plc_p (by omega) (by omega) (by omega) (by omega)]
        by_cases y : lv L W O to (i + 1) fm = 0
        · rw [if_pos (by rw [y, Int.zero_mul]; decide)]
          refine ⟨(x, u), rfl, fu, pu, ru, Or.inl ⟨b1, by show pl u 311 2 = _; rw [lu]; exact b2, fun n n1 n2 => ?_⟩⟩
          by_cases w : n = i + 1
          · rw [w]; exact y
          · exact b3 n n1 (by omega)
        · have pos : 0 < lv L W O to (i + 1) fm * 10 ^ (7 - (i + 1)) := Int.mul_pos (by omega) p0
          rw [if_neg (by rw [if_pos pos]; decide)]
          refine ⟨(((i + 1 : Nat) : Int), pwL u 311 2 (p64 (lv L W O to (i + 1) fm * 10 ^ (7 - (i + 1))))), rfl, fr_wL fu (Or.inl rfl), pu, ru, Or.inr ⟨i + 1, rfl, by omega, by omega, pl_wLs, fun n n1 n2 => ?_⟩⟩
          by_cases w : n = i + 1
          · rw [w]; exact ⟨Int.le_refl _, fun v => by omega⟩
          · rw [b3 n n1 (by omega), Int.zero_mul]; exact ⟨by omega, fun _ => pos⟩
      · have b1 : x = N := b1
        have b4 : pl t 311 2 = p64 (lv L W O to N fm * 10 ^ (7 - N)) := b4
        have lbN := lv_bd (W := W) (O := O) (to := to) (n := N) kL hf
        have ppN := pow7 N (by omega)
        have pN : (0 : Int) < 10 ^ (7 - N) := Int.pow_pos (by decide)
        have vb0 : 0 < lv L W O to N fm * 10 ^ (7 - N) := Int.mul_pos b3 pN
        have vb1 : lv L W O to N fm * 10 ^ (7 - N) ≤ 10000000 := by
          have := Int.mul_le_mul_of_nonneg_right lbN.2 (show (0 : Int) ≤ 10 ^ (7 - N) by omega)
          omega
        rw [b4, plc_p (by omega) (by omega) (by omega) (by omega)]
        by_cases y : lv L W O to N fm * 10 ^ (7 - N) < lv L W O to (i + 1) fm * 10 ^ (7 - (i + 1))
        · have pos : 0 < lv L W O to (i + 1) fm := by
            rcases Int.lt_or_le 0 (lv L W O to (i + 1) fm) with v | v
            · exact v
            · rw [show lv L W O to (i + 1) fm = 0 by omega, Int.zero_mul] at y; omega
          rw [if_neg (by rw [if_pos y]; decide)]
          refine ⟨(((i + 1 : Nat) : Int), pwL u 311 2 (p64 (lv L W O to (i + 1) fm * 10 ^ (7 - (i + 1))))), rfl, fr_wL fu (Or.inl rfl), pu, ru, Or.inr ⟨i + 1, rfl, by omega, pos, pl_wLs, fun n n1 n2 => ?_⟩⟩
          by_cases w : n = i + 1
          · rw [w]; exact ⟨Int.le_refl _, fun v => by omega⟩
          · have := (b5 n n1 (by omega)).1
            exact ⟨by omega, fun _ => by omega⟩
        · rw [if_pos (by rw [if_neg y]; split <;> decide)]
          refine ⟨(x, u), rfl, fu, pu, ru, Or.inr ⟨N, b1, by omega, b3, by show pl u 311 2 = _; rw [lu]; exact b4, fun n n1 n2 => ?_⟩⟩
          by_cases w : n = i + 1
          · rw [w]; exact ⟨by omega, fun v => by omega⟩
          · exact b5 n n1 (by omega)
    · intro m ⟨x, t⟩ ⟨f, fr3, rows, bb⟩
      have f : fr (fun b => b = 311 ∨ b = 312 ∨ (317 ≤ b ∧ b ≤ 324)) h t := f
      have fr3 : pr t 311 = pr h 311 := fr3
      have rows : ∀ j, j ≤ 7 → ∀ c : Nat, (c : Int) < ce L → pi t (317 + j) c = lv L W O to j c := rows
      have Ct : CX t p q L W := CX_fr C f (fun b hb => by omega)
      have Xt : WX t p q := ⟨by rw [fr3]; exact X.1, by rw [fr3]; exact X.2⟩
      show ∃ h', fr _ h h' ∧ ((pl_Wa_findLucky_44 load fm to _ (m + 1) x ((7 + 1 : Nat) : Int) t = some (0, h') ∧ _) ∨ ∃ N, pl_Wa_findLucky_44 load fm to _ (m + 1) x ((7 + 1 : Nat) : Int) t = some (1, h') ∧ _)
      rw [pl_Wa_findLucky_44, if_pos (by decide)]
      rcases bb with ⟨b1, b2, b3⟩ | ⟨N, b1, b2, b3, b4, b5⟩
      · have b2 : pl t 311 2 = p64 0 := b2
        refine ⟨t, f, Or.inl ⟨?_, b3⟩⟩
        show (if plc (pl t 311 2) 0 = 0 then _ else _) = _
        rw [b2, if_pos (by decide)]
      · have b1 : x = N := b1
        have b4 : pl t 311 2 = p64 (lv L W O to N fm * 10 ^ (7 - N)) := b4
        have lbN := lv_bd (W := W) (O := O) (to := to) (n := N) kL hf
        have ppN := pow7 N (by omega)
        have pN : (0 : Int) < 10 ^ (7 - N) := Int.pow_pos (by decide)
        have vb0 : 0 < lv L W O to N fm * 10 ^ (7 - N) := Int.mul_pos b3 pN
        have vb1 : lv L W O to N fm * 10 ^ (7 - N) ≤ 10000000 := by
          have := Int.mul_le_mul_of_nonneg_right lbN.2 (show (0 : Int) ≤ 10 ^ (7 - N) by omega)
          omega
        obtain ⟨u, u1, u2, u3, u4, u5⟩ := c_follow (N := N) (fm := fm) (load := load) (to := to) (O := O) Ct Xt (fun c hc => by rw [fr_i f (by omega)]; exact hO c hc) (by omega) rows hf b3
        refine ⟨u, fr_trans f (fr_mono u2 (fun b hb => by omega)), Or.inr ⟨N, ?_, ⟨b2, b3, b5⟩, by rw [u3]; exact b4, u4, u5⟩⟩
        show (if plc (pl t 311 2) 0 = 0 then _ else _) = _
        rw [b4, show (0 : Int64) = p64 0 from rfl, plc_p (by omega) (by omega) (by omega) (by omega), if_pos vb0, if_neg (by decide), b1, u1, bsm]
  unfold pf_Wa_findLucky
  rw [p1, bsm, gib t0 (by omega), fr_i p2 (by omega)]
  by_cases y : pi h 313 to.toNat < load
  · rw [if_pos y]
    exact key 0 (cif_f (fun o => by have := ho.mpr o; omega)).symm
  · rw [if_neg y]
    exact key 1 (cif_t (ho.mp (by omega))).symm
end Ec
