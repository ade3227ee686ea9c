/-! lucky ways: the reference -/
def kp (lk bl many ln : Int) : Prop := bl < lk ∨ (lk = bl ∧ many < ln)
def mus (f : Nat → Int) (m : Nat) : Nat := match m with
  | 0 => 0
  | m + 1 => mus f m + (4 - f m).toNat * 8 ^ (9 - m)
theorem mus_c {f g : Nat → Int} : ∀ {m : Nat}, (∀ i, i < m → f i = g i) → mus f m = mus g m
  | 0, _ => rfl
  | m + 1, h => by rw [mus, mus, mus_c (m := m) (fun i hi => h i (by omega)), h m (by omega)]
section Ed
variable {h : pH} {l w : Nat} {L W : Nat → Int} {O : Int → Prop} {to fm : Int}
theorem m_isOn {b : Int} {m : Nat} (hm : m ≤ 9) : pf_M_isOn b m h = some (cif (∃ i, i < m ∧ pi h 428 i = b) 1 0) := by
  unfold pf_M_isOn
  refine lpf (F := fun n (i : Nat) (x : Int) => pl_M_isOn_5 b m h (fun x3 => ia_gd (pz1 x3) (some x3)) n x i) (Q := fun r => r = some (cif (∃ i, i < m ∧ pi h 428 i = b) 1 0)) m (fun i x => x = cif (∃ j, j < i ∧ pi h 428 j = b) 1 0) ?_ ?_ fu_ 0 0 (by omega) (by unfold fu_; omega) (cif_f (fun ⟨i, a, _⟩ => by omega)).symm
  · intro n i x hi ex
    right
    show ∃ x', pl_M_isOn_5 b m h _ (n + 1) x i = pl_M_isOn_5 b m h _ n x' (i + 1 : Nat) ∧ _
    rw [pl_M_isOn_5, if_neg (by omega), wr_eq (by omega) (by omega)]
    by_cases y : ∃ j, j < i ∧ pi h 428 j = b
    · rw [cif_t y] at ex
      rw [ex, if_neg (by decide)]
      obtain ⟨j, j1, j2⟩ := y
      exact ⟨1, rfl, (cif_t ⟨j, by omega, j2⟩).symm⟩
    · rw [cif_f y] at ex
      rw [ex, if_pos rfl, gib (by omega) (by omega), Int.toNat_natCast]
      by_cases v : pi h 428 i = b
      · rw [if_pos v]
        exact ⟨1, rfl, (cif_t ⟨i, by omega, v⟩).symm⟩
      · rw [if_neg v]
        refine ⟨0, rfl, (cif_f (fun ⟨j, j1, j2⟩ => ?_)).symm⟩
        by_cases e : j = i
        · rw [e] at j2; exact v j2
        · exact y ⟨j, by omega, j2⟩
  · intro n x ex
    show pl_M_isOn_5 b m h _ (n + 1) x (m : Nat) = _
    rw [pl_M_isOn_5, if_pos (Int.le_refl _), ex]
    by_cases y : ∃ j, j < m ∧ pi h 428 j = b
    · rw [cif_t y]; rfl
    · rw [cif_f y]; rfl
theorem m_luckOf {m : Nat} (M : MS h l w L W) (hm : m ≤ 7) (k : wok L W O to fm (pi h 428) (m + 1)) : pf_M_luckOf ((m + 1 : Nat) : Int) h = some (p64 (prw L (pi h 428) m * 10 ^ (7 - m))) := by
  obtain ⟨e1, e2, hl, hw, hL, hW, kL, kW⟩ := M
  have z : 4 ≤ ce L ∧ ce L ≤ 36 := sz_mul kL.1
  unfold pf_M_luckOf
  have key : ∀ i, i ≤ 7 → (1 ≤ prw L (pi h 428) (min i m) ∧ prw L (pi h 428) (min i m) * 10 ^ (i - m) ≤ 10 ^ i) := fun i hi => by
    obtain ⟨a1, a2, a3⟩ := k (min i m) (by omega)
    refine ⟨a2.1, ?_⟩
    have := Int.mul_le_mul_of_nonneg_right a2.2 (show (0 : Int) ≤ 10 ^ (i - m) from Int.pow_nonneg (by decide))
    rw [← Int.pow_add, show min i m + (i - m) = i by omega] at this
    exact this
  refine lpf (F := fun n (i : Nat) (_ : Unit) => pl_M_luckOf_5 ((m + 1 : Nat) : Int) h (fun y2 => some y2) n (p64 (prw L (pi h 428) (min i m) * 10 ^ (i - m))) ((i + 1 : Nat) : Int)) (Q := fun r => r = some (p64 (prw L (pi h 428) m * 10 ^ (7 - m)))) 7 (fun _ _ => True) ?_ ?_ fu_ 0 () (by omega) (by unfold fu_; omega) trivial |> fun e => by
    have e : pl_M_luckOf_5 ((m + 1 : Nat) : Int) h (fun y2 => some y2) fu_ (p64 (prw L (pi h 428) (min 0 m) * 10 ^ (0 - m))) ((0 + 1 : Nat) : Int) = some (p64 (prw L (pi h 428) m * 10 ^ (7 - m))) := e
    rw [Nat.zero_min, Nat.zero_sub, Int.pow_zero, Int.mul_one] at e
    exact e
  · intro n i _ hi _
    right
    refine ⟨(), ?_, trivial⟩
    show pl_M_luckOf_5 ((m + 1 : Nat) : Int) h _ (n + 1) (p64 (prw L (pi h 428) (min i m) * 10 ^ (i - m))) ((i + 1 : Nat) : Int) = pl_M_luckOf_5 ((m + 1 : Nat) : Int) h _ n (p64 (prw L (pi h 428) (min (i + 1) m) * 10 ^ (i + 1 - m))) ((i + 1 + 1 : Nat) : Int)
    have k1 := key i (by omega)
    have p7 := (pow7 i (by omega)).1
    have b0 : 0 ≤ prw L (pi h 428) (min i m) * 10 ^ (i - m) := Int.mul_nonneg (by omega) (Int.pow_nonneg (by decide))
    rw [pl_M_luckOf_5, if_neg (by omega)]
    unfold pj_M_luckOf_49
    by_cases y : i < m
    · obtain ⟨a1, a2, a3⟩ := k (i + 1) (by omega)
      have wb := wkn_bd kL a1
      have a10 := a1.1
      have a11 := a1.2
      have hw8 := hL (80 + (pi h 428 (i + 1)).toNat) (by omega)
      have m1 := Int.mul_le_mul (a := prw L (pi h 428) (min i m) * 10 ^ (i - m)) (c := 10000000) (b := wkn L (pi h 428 (i + 1))) (d := 10) (by omega) wb.2 (by omega) (by decide)
      rw [if_neg (by omega), Int.toNat_natCast, gib (by omega) (by omega), e1, wr_eq (x := (l : Int) + 80) (by omega) (by omega), wr_eq (x := (l : Int) + 80 + pi h 428 (i + 1)) (by omega) (by omega), gib (by omega) (by omega), show ((l : Int) + 80 + pi h 428 (i + 1)).toNat = l + (80 + (pi h 428 (i + 1)).toNat) by omega, hw8, show 10 - L (80 + (pi h 428 (i + 1)).toNat) = wkn L (pi h 428 (i + 1)) from rfl, wr_eq (x := wkn L (pi h 428 (i + 1))) (by omega) (by omega), p64_mul b0 (by omega) (by omega) (by omega) wb.2, wr_eq (by omega) (by omega), show min (i + 1) m = i + 1 by omega, show min i m = i by omega, show i - m = 0 by omega, show i + 1 - m = 0 by omega, Int.pow_zero, Int.mul_one, Int.mul_one]
      rfl
    · have m1 := Int.mul_le_mul (a := prw L (pi h 428) (min i m) * 10 ^ (i - m)) (c := 10000000) (b := 10) (d := 10) (by omega) (by decide) (by decide) (by decide)
      rw [if_pos (by omega), show (10 : Int64) = p64 10 from rfl, p64_mul b0 (by decide) (by omega) (by omega) (by decide), wr_eq (by omega) (by omega), show min (i + 1) m = min i m by omega, Int.mul_assoc, ← Int.pow_succ, show (i - m).succ = i + 1 - m by omega]
      rfl
  · intro n _ _
    show pl_M_luckOf_5 ((m + 1 : Nat) : Int) h _ (n + 1) (p64 (prw L (pi h 428) (min 7 m) * 10 ^ (7 - m))) ((7 + 1 : Nat) : Int) = _
    rw [pl_M_luckOf_5, if_pos (by decide), show min 7 m = m by omega]
theorem m_keepsLuck {m : Nat} {bl : Int} (M : MS h l w L W) (hm : m ≤ 7) (k : wok L W O to fm (pi h 428) (m + 1)) (eb : pl h 417 30 = p64 bl) (b0 : -1 ≤ bl) (b1 : bl ≤ 10000000) : ∃ h', pf_M_keepsLuck ((m + 1 : Nat) : Int) h = some h' ∧ ((kp (prw L (pi h 428) m * 10 ^ (7 - m)) bl ((m + 1 : Nat) : Int) (pi h 417 27) ∧ fr (fun b => b = 417 ∨ b = 427) h h' ∧ pl h' 417 30 = p64 (prw L (pi h 428) m * 10 ^ (7 - m)) ∧ pi h' 417 27 = ((m + 1 : Nat) : Int) ∧ (∀ j, j ≠ 27 → pi h' 417 j = pi h 417 j) ∧ ∀ i, i < m + 1 → pi h' 427 i = pi h 428 i) ∨ (¬ kp (prw L (pi h 428) m * 10 ^ (7 - m)) bl ((m + 1 : Nat) : Int) (pi h 417 27) ∧ h' = h)) := by
  have q := k m (by omega)
  have lb0 : 0 ≤ prw L (pi h 428) m * 10 ^ (7 - m) := Int.mul_nonneg (by omega) (Int.pow_nonneg (by decide))
  have lb1 : prw L (pi h 428) m * 10 ^ (7 - m) ≤ 10000000 := by
    have := Int.mul_le_mul_of_nonneg_right q.2.1.2 (show (0 : Int) ≤ 10 ^ (7 - m) from Int.pow_nonneg (by decide))
    have := (pow7 m hm).2
    omega
  unfold pf_M_keepsLuck
  rw [m_luckOf M hm k, bsm, eb, plc_p (by omega) (by omega) (by omega) (by omega)]
  generalize eL : prw L (pi h 428) m * 10 ^ (7 - m) = lk at *
  have wr1 : ∃ h', pj_M_keepsLuck_33 ((m + 1 : Nat) : Int) (p64 lk) h = some h' ∧ fr (fun b => b = 417 ∨ b = 427) h h' ∧ pl h' 417 30 = p64 lk ∧ pi h' 417 27 = ((m + 1 : Nat) : Int) ∧ (∀ j, j ≠ 27 → pi h' 417 j = pi h 417 j) ∧ ∀ i, i < m + 1 → pi h' 427 i = pi h 428 i := by
    unfold pj_M_keepsLuck_33
    generalize eH : pwI (pwL h 417 30 (p64 lk)) 417 27 ((m + 1 : Nat) : Int) = H
    have fH : fr (fun b => b = 417) h H := by rw [← eH]; exact fr_wI (fr_wL fr_refl rfl) rfl
    have a1 : pl H 417 30 = p64 lk := by rw [← eH, pl_wI, pl_wLs]
    have a2 : pi H 417 27 = ((m + 1 : Nat) : Int) := by rw [← eH, pi_wIs]
    have a3 : ∀ j, j ≠ 27 → pi H 417 j = pi h 417 j := fun j hj => by rw [← eH, pi_wIi hj, pi_wL]
    refine lpf (F := fun n (i : Nat) t => pl_M_keepsLuck_46 ((m + 1 : Nat) : Int) (fun h => some h) n i t) (Q := fun r => ∃ h', r = some h' ∧ fr (fun b => b = 417 ∨ b = 427) h h' ∧ pl h' 417 30 = p64 lk ∧ pi h' 417 27 = ((m + 1 : Nat) : Int) ∧ (∀ j, j ≠ 27 → pi h' 417 j = pi h 417 j) ∧ ∀ i, i < m + 1 → pi h' 427 i = pi h 428 i) (m + 1) (fun i t => fr (fun b => b = 427) H t ∧ ∀ j, j < i → pi t 427 j = pi h 428 j) ?_ ?_ fu_ 0 H (by omega) (by unfold fu_; omega) ⟨fr_refl, fun j hj => absurd hj (Nat.not_lt_zero _)⟩
    · intro n i t hi ⟨f, g⟩
      right
      refine ⟨pwI t 427 i (pi h 428 i), ?_, fr_wI f rfl, fun j hj => ?_⟩
      · show pl_M_keepsLuck_46 _ _ (n + 1) i t = pl_M_keepsLuck_46 _ _ n (i + 1 : Nat) _
        rw [pl_M_keepsLuck_46, if_neg (by omega), gib (by omega) (by omega), gib (by omega) (by omega), wr_eq (by omega) (by omega), Int.toNat_natCast, fr_i f (by omega), fr_i fH (by omega)]
        rfl
      · by_cases y : j = i
        · rw [y, pi_wIs]
        · rw [pi_wIi y]; exact g j (by omega)
    · intro n t ⟨f, g⟩
      refine ⟨t, ?_, fr_trans (fr_mono fH (fun b hb => Or.inl hb)) (fr_mono f (fun b hb => Or.inr hb)), by rw [fr_l f (by omega)]; exact a1, by rw [fr_i f (by omega)]; exact a2, fun j hj => by rw [fr_i f (by omega)]; exact a3 j hj, g⟩
      show pl_M_keepsLuck_46 _ _ (n + 1) ((m + 1 : Nat) : Int) t = some t
      rw [pl_M_keepsLuck_46, if_pos (Int.le_refl _)]
  unfold kp
  by_cases y1 : bl < lk
  · obtain ⟨h', r1, r2⟩ := wr1
    rw [if_pos y1, if_neg (by decide), if_neg (by decide), r1]
    exact ⟨h', rfl, Or.inl ⟨Or.inl y1, r2⟩⟩
  · rw [if_neg y1]
    by_cases y2 : lk = bl
    · rw [if_pos y2, if_neg (by decide), if_pos rfl]
      by_cases y3 : ((m + 1 : Nat) : Int) < pi h 417 27
      · obtain ⟨h', r1, r2⟩ := wr1
        rw [if_pos y3, r1]
        exact ⟨h', rfl, Or.inl ⟨Or.inr ⟨y2, y3⟩, r2⟩⟩
      · rw [if_neg y3]
        exact ⟨h, rfl, Or.inr ⟨fun v => by omega, rfl⟩⟩
    · rw [if_neg y2, if_pos (by decide)]
      exact ⟨h, rfl, Or.inr ⟨fun v => by omega, rfl⟩⟩
/-- what may come behind a push -/
def pok (L W : Nat → Int) (O : Int → Prop) (v : Nat → Int) (m : Nat) (s : Int) : Prop := vst L W O (v m) s ∧ ∀ i, i < m + 1 → v i ≠ bs L (v m) s
theorem m_luckLoop {g : pH} {wt sv : Nat → Int} {tk load : Int} (M : MC g l w L W wt sv tk) (hO : MO g L O) (ST : Nat → (Nat → Int) → (Nat → Int) → Int → Int → (Nat → Int) → Prop)
    (pop : ∀ m v sd bl ln pa, m ≤ 7 → wok L W O to fm v (m + 1) → ST (m + 1) v sd bl ln pa → (3 < sd m + 1 ∨ v m = to ∨ m = 7) → ST m v (up1 sd m (sd m + 1)) bl ln pa)
    (con : ∀ m v sd bl ln pa, m < 7 → wok L W O to fm v (m + 1) → ST (m + 1) v sd bl ln pa → 0 ≤ sd m + 1 → sd m + 1 ≤ 3 → v m ≠ to → ¬ pok L W O v m (sd m + 1) → ST (m + 1) v (up1 sd m (sd m + 1)) bl ln pa)
    (psh : ∀ m v sd bl ln pa, m < 7 → wok L W O to fm v (m + 1) → ST (m + 1) v sd bl ln pa → 0 ≤ sd m + 1 → sd m + 1 ≤ 3 → v m ≠ to → pok L W O v m (sd m + 1) → wok L W O to fm (up1 v (m + 1) (bs L (v m) (sd m + 1))) (m + 2) → bs L (v m) (sd m + 1) ≠ to → ST (m + 2) (up1 v (m + 1) (bs L (v m) (sd m + 1))) (up1 (up1 sd m (sd m + 1)) (m + 1) (-1)) bl ln pa)
    (kee : ∀ m v sd bl ln pa, m < 7 → wok L W O to fm v (m + 1) → ST (m + 1) v sd bl ln pa → 0 ≤ sd m + 1 → sd m + 1 ≤ 3 → v m ≠ to → pok L W O v m (sd m + 1) → wok L W O to fm (up1 v (m + 1) (bs L (v m) (sd m + 1))) (m + 2) → bs L (v m) (sd m + 1) = to → (kp (prw L (up1 v (m + 1) (bs L (v m) (sd m + 1))) (m + 1) * 10 ^ (7 - (m + 1))) bl ((m + 2 : Nat) : Int) ln → ∀ pa', (∀ i, i < m + 2 → pa' i = up1 v (m + 1) (bs L (v m) (sd m + 1)) i) → ST (m + 2) (up1 v (m + 1) (bs L (v m) (sd m + 1))) (up1 (up1 sd m (sd m + 1)) (m + 1) (-1)) (prw L (up1 v (m + 1) (bs L (v m) (sd m + 1))) (m + 1) * 10 ^ (7 - (m + 1))) ((m + 2 : Nat) : Int) pa') ∧ (¬ kp (prw L (up1 v (m + 1) (bs L (v m) (sd m + 1))) (m + 1) * 10 ^ (7 - (m + 1))) bl ((m + 2 : Nat) : Int) ln → ST (m + 2) (up1 v (m + 1) (bs L (v m) (sd m + 1))) (up1 (up1 sd m (sd m + 1)) (m + 1) (-1)) bl ln pa))
    {t0 : pH} (f0 : fr (fun b => b = 417 ∨ b = 427 ∨ b = 428 ∨ b = 429) g t0) (j0 : ∀ j, j ≠ 27 → pi t0 417 j = pi g 417 j) (l0 : pl t0 417 30 = p64 (-1)) (w0 : wok L W O to fm (pi t0 428) 1) (s0 : pi t0 429 0 = -1) (i0 : ST 1 (pi t0 428) (pi t0 429) (-1) (pi t0 417 27) (pi t0 427)) : ∃ h' bl, pl_M_luckyWay_37 fm to load (fun h => some h) fu_ 1 t0 = some h' ∧ fr (fun b => b = 417 ∨ b = 427 ∨ b = 428 ∨ b = 429) g h' ∧ (∀ j, j ≠ 27 → pi h' 417 j = pi g 417 j) ∧ pl h' 417 30 = p64 bl ∧ ST 0 (pi h' 428) (pi h' 429) bl (pi h' 417 27) (pi h' 427) := by
  have kL := M.1.2.2.2.2.2.2.1
  have z : 4 ≤ ce L ∧ ce L ≤ 36 := sz_mul kL.1
  refine lp (F := fun n (t : Nat × pH) => pl_M_luckyWay_37 fm to load (fun h => some h) n t.1 t.2) (Q := fun r => ∃ h' bl, r = some h' ∧ fr (fun b => b = 417 ∨ b = 427 ∨ b = 428 ∨ b = 429) g h' ∧ (∀ j, j ≠ 27 → pi h' 417 j = pi g 417 j) ∧ pl h' 417 30 = p64 bl ∧ ST 0 (pi h' 428) (pi h' 429) bl (pi h' 417 27) (pi h' 427)) (I := fun t => fr (fun b => b = 417 ∨ b = 427 ∨ b = 428 ∨ b = 429) g t.2 ∧ (∀ j, j ≠ 27 → pi t.2 417 j = pi g 417 j) ∧ t.1 ≤ 8 ∧ wok L W O to fm (pi t.2 428) t.1 ∧ (∀ i, i < t.1 → -1 ≤ pi t.2 429 i ∧ pi t.2 429 i ≤ 3) ∧ ∃ bl, pl t.2 417 30 = p64 bl ∧ (-1 ≤ bl ∧ bl ≤ 10000000) ∧ ST t.1 (pi t.2 428) (pi t.2 429) bl (pi t.2 417 27) (pi t.2 427)) (fun t => mus (pi t.2 429) t.1) ?_ fu_ (1, t0) ⟨f0, j0, by show 1 ≤ 8; decide, w0, fun i hi => ?_, -1, l0, by decide, i0⟩ ?_
  · intro n ⟨m', t⟩ ⟨f, j1, m8, wo, sds, bl, eb, bb, S⟩
    have f : fr (fun b => b = 417 ∨ b = 427 ∨ b = 428 ∨ b = 429) g t := f
    have j1 : ∀ j, j ≠ 27 → pi t 417 j = pi g 417 j := j1
    have m8 : m' ≤ 8 := m8
    have wo : wok L W O to fm (pi t 428) m' := wo
    have sds : ∀ i, i < m' → -1 ≤ pi t 429 i ∧ pi t 429 i ≤ 3 := sds
    have eb : pl t 417 30 = p64 bl := eb
    have S : ST m' (pi t 428) (pi t 429) bl (pi t 417 27) (pi t 427) := S
    show (∃ h' b, pl_M_luckyWay_37 fm to load _ (n + 1) (m' : Int) t = some h' ∧ _) ∨ ∃ t' : Nat × pH, pl_M_luckyWay_37 fm to load _ (n + 1) (m' : Int) t = pl_M_luckyWay_37 fm to load _ n (t'.1 : Int) t'.2 ∧ _ ∧ mus (pi t'.2 429) t'.1 < mus (pi t 429) m'
    cases m' with
    | zero =>
      left
      refine ⟨t, bl, ?_, f, j1, eb, S⟩
      rw [pl_M_luckyWay_37, if_pos (by decide)]
    | succ m =>
      right
      have sm := sds m (by omega)
      have e1 : wr (((m + 1 : Nat) : Int) - 1) = (m : Int) := by rw [wr_eq (by omega) (by omega)]; omega
      have e2 : wr (((m + 1 : Nat) : Int) + -1) = (m : Int) := by rw [wr_eq (by omega) (by omega)]; omega
      have e3 : wr (((m + 1 : Nat) : Int) + 1) = ((m + 2 : Nat) : Int) := by rw [wr_eq (by omega) (by omega)]; omega
      rw [pl_M_luckyWay_37, if_neg (by omega), e1, e2, e3, gib (by omega) (by omega), gib (by omega) (by omega), gib (by omega) (by omega), gib (by omega) (by omega), Int.toNat_natCast, Int.toNat_natCast, wr_eq (x := pi t 429 m + 1) (by omega) (by omega), pi_wIs]
      generalize eH : pwI t 429 m (pi t 429 m + 1) = H
      have a29 : pi H 429 = up1 (pi t 429) m (pi t 429 m + 1) := by rw [← eH, up1_pi]
      have a28 : pi H 428 = pi t 428 := by rw [← eH, pi_wIf (by decide)]
      have a27 : pi H 427 = pi t 427 := by rw [← eH, pi_wIf (by decide)]
      have a17 : pi H 417 = pi t 417 := by rw [← eH, pi_wIf (by decide)]
      have a30 : pl H 417 = pl t 417 := by rw [← eH]; rfl
      have fH : fr (fun b => b = 417 ∨ b = 427 ∨ b = 428 ∨ b = 429) g H := by rw [← eH]; exact fr_wI f (by omega)
      have jH : ∀ j, j ≠ 27 → pi H 417 j = pi g 417 j := fun j hj => by rw [a17]; exact j1 j hj
      have MH : MC H l w L W wt sv tk := MC_c M (fun j x y => jH j (by omega)) (fr_fi fH (by omega))
      have p8 : 0 < 8 ^ (9 - m) := Nat.pow_pos (by decide)
      have muH : ∀ k, k ≤ m → mus (pi H 429) k = mus (pi t 429) k := fun k hk => by rw [a29]; exact mus_c (fun i hi => up1_n (by omega))
      have muT : mus (pi t 429) (m + 1) = mus (pi t 429) m + (4 - pi t 429 m).toNat * 8 ^ (9 - m) := rfl
      have sdH : ∀ i, i < m → -1 ≤ pi H 429 i ∧ pi H 429 i ≤ 3 := fun i hi => by rw [a29, up1_n (by omega)]; exact sds i (by omega)
      have popt : (3 < pi t 429 m + 1 ∨ pi t 428 m = to ∨ m = 7) → ∃ t' : Nat × pH, pl_M_luckyWay_37 fm to load (fun h => some h) n (m : Int) H = pl_M_luckyWay_37 fm to load (fun h => some h) n (t'.1 : Int) t'.2 ∧ (fr (fun b => b = 417 ∨ b = 427 ∨ b = 428 ∨ b = 429) g t'.2 ∧ (∀ j, j ≠ 27 → pi t'.2 417 j = pi g 417 j) ∧ t'.1 ≤ 8 ∧ wok L W O to fm (pi t'.2 428) t'.1 ∧ (∀ i, i < t'.1 → -1 ≤ pi t'.2 429 i ∧ pi t'.2 429 i ≤ 3) ∧ ∃ bl, pl t'.2 417 30 = p64 bl ∧ (-1 ≤ bl ∧ bl ≤ 10000000) ∧ ST t'.1 (pi t'.2 428) (pi t'.2 429) bl (pi t'.2 417 27) (pi t'.2 427)) ∧ mus (pi t'.2 429) t'.1 < mus (pi t 429) (m + 1) := by
        intro pc
        refine ⟨(m, H), rfl, ⟨fH, jH, by show m ≤ 8; omega, ?_, sdH, bl, by show pl H 417 30 = _; rw [a30]; exact eb, bb, ?_⟩, ?_⟩
        · show wok L W O to fm (pi H 428) m
          rw [a28]
          exact fun i hi => wo i (by omega)
        · show ST m (pi H 428) (pi H 429) bl (pi H 417 27) (pi H 427)
          rw [a28, a29, a17, a27]
          exact pop m _ _ _ _ _ (by omega) wo S pc
        · show mus (pi H 429) m < _
          rw [muH m (Nat.le_refl _), muT]
          have : 1 * 8 ^ (9 - m) ≤ (4 - pi t 429 m).toNat * 8 ^ (9 - m) := Nat.mul_le_mul_right _ (by omega)
          omega
      by_cases y1 : 3 < pi t 429 m + 1
      · rw [if_pos y1]; exact popt (Or.inl y1)
      · rw [if_neg y1]
        by_cases y2 : pi t 428 m = to
        · rw [if_pos y2]; exact popt (Or.inr (Or.inl y2))
        · rw [if_neg y2]
          by_cases y3 : ((m + 1 : Nat) : Int) = 8
          · rw [if_pos y3]; exact popt (Or.inr (Or.inr (by omega)))
          · rw [if_neg y3]
            obtain ⟨wm1, wm2, wm3⟩ := wo m (by omega)
            have c0 := wm1.1
            have c1 := wm1.2
            have eb1 : (pi t 429 m + 1) = up1 (pi t 429) m (pi t 429 m + 1) m := up1_s.symm
            have e14 := MH.1.1
            have hL := MH.1.2.2.2.2.1
            have bsd := m_beside (h := H) (l := l) (L := L) (c := pi t 428 m) (s := pi t 429 m + 1) (by have := MH.1.2.2.1; omega) hL kL.1 c0 (by omega)
            have cont : ¬ pok L W O (pi t 428) m (pi t 429 m + 1) → ∃ t' : Nat × pH, pl_M_luckyWay_37 fm to load (fun h => some h) n ((m + 1 : Nat) : Int) H = pl_M_luckyWay_37 fm to load (fun h => some h) n (t'.1 : Int) t'.2 ∧ (fr (fun b => b = 417 ∨ b = 427 ∨ b = 428 ∨ b = 429) g t'.2 ∧ (∀ j, j ≠ 27 → pi t'.2 417 j = pi g 417 j) ∧ t'.1 ≤ 8 ∧ wok L W O to fm (pi t'.2 428) t'.1 ∧ (∀ i, i < t'.1 → -1 ≤ pi t'.2 429 i ∧ pi t'.2 429 i ≤ 3) ∧ ∃ bl, pl t'.2 417 30 = p64 bl ∧ (-1 ≤ bl ∧ bl ≤ 10000000) ∧ ST t'.1 (pi t'.2 428) (pi t'.2 429) bl (pi t'.2 417 27) (pi t'.2 427)) ∧ mus (pi t'.2 429) t'.1 < mus (pi t 429) (m + 1) := by
              intro np
              refine ⟨(m + 1, H), rfl, ⟨fH, jH, m8, by show wok L W O to fm (pi H 428) (m + 1); rw [a28]; exact wo, fun i hi => ?_, bl, by show pl H 417 30 = _; rw [a30]; exact eb, bb, ?_⟩, ?_⟩
              · show -1 ≤ pi H 429 i ∧ pi H 429 i ≤ 3
                have hi : i < m + 1 := hi
                by_cases v : i = m
                · rw [v, a29, up1_s]; omega
                · exact sdH i (by omega)
              · show ST (m + 1) (pi H 428) (pi H 429) bl (pi H 417 27) (pi H 427)
                rw [a28, a29, a17, a27]
                exact con m _ _ _ _ _ (by omega) wo S (by omega) (by omega) y2 np
              · show mus (pi H 429) m + (4 - pi H 429 m).toNat * 8 ^ (9 - m) < _
                rw [muH m (Nat.le_refl _), muT, a29, up1_s]
                have : ((4 - (pi t 429 m + 1)).toNat + 1) * 8 ^ (9 - m) = (4 - pi t 429 m).toNat * 8 ^ (9 - m) := congrArg (· * 8 ^ (9 - m)) (by omega)
                rw [Nat.add_mul] at this
                omega
            rw [e14, bsd, bsm]
            by_cases y4 : bs L (pi t 428 m) (pi t 429 m + 1) < 0
            · rw [if_pos y4]; exact cont (fun v => by have := v.1.1; omega)
            · have bhi : bs L (pi t 428 m) (pi t 429 m + 1) < ce L := be_hi kL.1 c0 c1
              have hoB := hO (bs L (pi t 428 m) (pi t 429 m + 1)).toNat (by omega)
              have ebb : (((bs L (pi t 428 m) (pi t 429 m + 1)).toNat : Nat) : Int) = bs L (pi t 428 m) (pi t 429 m + 1) := by omega
              rw [ebb] at hoB
              rw [if_neg y4, gib (by omega) (by omega), fr_i fH (by omega)]
              by_cases y5 : O (bs L (pi t 428 m) (pi t 429 m + 1))
              · rw [hoB.1 y5, if_neg (by decide)]
                obtain ⟨ag1, ag2, ag3, ag4, ag5⟩ := m_against (a := pi t 428 m) (b := bs L (pi t 428 m) (pi t 429 m + 1)) MH.1
                rw [ag2, bsm]
                by_cases y6 : ag W (pi t 428 m) (bs L (pi t 428 m) (pi t 429 m + 1))
                · rw [if_pos (by have : ag1 ≠ 0 := fun v => ag5.mp v y6; omega)]
                  exact cont (fun v => v.1.2.2 y6)
                · rw [if_neg (by have := ag5.mpr y6; omega), m_isOn (by omega), bsm, a28]
                  by_cases y7 : ∃ i, i < m + 1 ∧ pi t 428 i = bs L (pi t 428 m) (pi t 429 m + 1)
                  · rw [cif_t y7, if_neg (by decide)]
                    obtain ⟨i, i1, i2⟩ := y7
                    exact cont (fun v => v.2 i i1 i2)
                  · have vs : vst L W O (pi t 428 m) (pi t 429 m + 1) := ⟨by omega, y5, y6⟩
                    have pk : pok L W O (pi t 428) m (pi t 429 m + 1) := ⟨vs, fun i hi e => y7 ⟨i, hi, e⟩⟩
                    have wo2 := wok_s kL wo (by unfold s4; omega) vs
                    rw [cif_f y7, if_pos rfl, gib (by omega) (by omega), gib (by omega) (by omega)]
                    generalize eG : pwI (pwI H 428 (m + 1) (bs L (pi t 428 m) (pi t 429 m + 1))) 429 (m + 1) (-1) = G
                    have b29 : pi G 429 = up1 (up1 (pi t 429) m (pi t 429 m + 1)) (m + 1) (-1) := by rw [← eG, up1_pi, pi_wIf (by decide), a29]
                    have b28 : pi G 428 = up1 (pi t 428) (m + 1) (bs L (pi t 428 m) (pi t 429 m + 1)) := by rw [← eG, pi_wIf (by decide), up1_pi, a28]
                    have b27 : pi G 427 = pi t 427 := by rw [← eG, pi_wIf (by decide), pi_wIf (by decide), a27]
                    have b17 : pi G 417 = pi t 417 := by rw [← eG, pi_wIf (by decide), pi_wIf (by decide), a17]
                    have b30 : pl G 417 = pl t 417 := by rw [← eG]; exact a30
                    have fG : fr (fun b => b = 417 ∨ b = 427 ∨ b = 428 ∨ b = 429) g G := by rw [← eG]; exact fr_wI (fr_wI fH (by omega)) (by omega)
                    have jG : ∀ j, j ≠ 27 → pi G 417 j = pi g 417 j := fun j hj => by rw [b17]; exact j1 j hj
                    have MG_ : MC G l w L W wt sv tk := MC_c M (fun j x y => jG j (by omega)) (fr_fi fG (by omega))
                    have sdG : ∀ i, i < m + 2 → -1 ≤ up1 (up1 (pi t 429) m (pi t 429 m + 1)) (m + 1) (-1) i ∧ up1 (up1 (pi t 429) m (pi t 429 m + 1)) (m + 1) (-1) i ≤ 3 := fun i hi => by
                      by_cases v : i = m + 1
                      · rw [v, up1_s]; decide
                      · rw [up1_n v]
                        by_cases v2 : i = m
                        · rw [v2, up1_s]; omega
                        · rw [up1_n v2]; exact sds i (by omega)
                    have muG : mus (up1 (up1 (pi t 429) m (pi t 429 m + 1)) (m + 1) (-1)) (m + 2) < mus (pi t 429) (m + 1) := by
                      have u1 : mus (up1 (up1 (pi t 429) m (pi t 429 m + 1)) (m + 1) (-1)) m = mus (pi t 429) m := mus_c (fun i hi => by rw [up1_n (by omega), up1_n (by omega)])
                      rw [muT, mus, mus, u1, up1_s, up1_n (by omega), up1_s]
                      have q1 : ((4 - (pi t 429 m + 1)).toNat + 1) * 8 ^ (9 - m) = (4 - pi t 429 m).toNat * 8 ^ (9 - m) := congrArg (· * 8 ^ (9 - m)) (by omega)
                      rw [Nat.add_mul] at q1
                      have q2 : 8 ^ (9 - m) = 8 ^ (9 - (m + 1)) * 8 := by rw [← Nat.pow_succ]; exact congrArg _ (by omega)
                      have q3 : 0 < 8 ^ (9 - (m + 1)) := Nat.pow_pos (by decide)
                      have q4 : ((4 : Int) - -1).toNat = 5 := rfl
                      rw [q4]
                      omega
                    by_cases y8 : bs L (pi t 428 m) (pi t 429 m + 1) = to
                    · rw [if_pos y8]
                      have wo3 : wok L W O to fm (pi G 428) (m + 1 + 1) := by rw [b28]; exact wo2
                      obtain ⟨K, k1, k2⟩ := m_keepsLuck (m := m + 1) (bl := bl) (O := O) (to := to) (fm := fm) MG_.1 (by omega) wo3 (by rw [b30]; exact eb) bb.1 bb.2
                      have k1 : pf_M_keepsLuck ((m + 2 : Nat) : Int) G = some K := k1
                      rw [k1, bsm]
                      rw [b28, b17] at k2
                      obtain ⟨z1, z2⟩ := kee m _ _ _ _ _ (by omega) wo S (by omega) (by omega) y2 pk wo2 y8
                      rcases k2 with ⟨k3, k4, k5, k6, k7, k8⟩ | ⟨k3, k4⟩
                      · have f28 : pi K 428 = up1 (pi t 428) (m + 1) (bs L (pi t 428 m) (pi t 429 m + 1)) := by rw [fr_fi k4 (by omega), b28]
                        have f29 : pi K 429 = up1 (up1 (pi t 429) m (pi t 429 m + 1)) (m + 1) (-1) := by rw [fr_fi k4 (by omega), b29]
                        have q := wo3 (m + 1) (by omega)
                        rw [b28] at q
                        refine ⟨(m + 2, K), rfl, ⟨fr_trans fG (fr_mono k4 (fun b hb => by omega)), fun j hj => ?_, by show m + 2 ≤ 8; omega, ?_, ?_, prw L (up1 (pi t 428) (m + 1) (bs L (pi t 428 m) (pi t 429 m + 1))) (m + 1) * 10 ^ (7 - (m + 1)), k5, ⟨?_, ?_⟩, ?_⟩, ?_⟩
                        · show pi K 417 j = _
                          rw [k7 j hj]; exact j1 j hj
                        · show wok L W O to fm (pi K 428) (m + 2)
                          rw [f28]; exact wo2
                        · show ∀ i, i < m + 2 → -1 ≤ pi K 429 i ∧ pi K 429 i ≤ 3
                          rw [f29]; exact sdG
                        · have : 0 ≤ prw L (up1 (pi t 428) (m + 1) (bs L (pi t 428 m) (pi t 429 m + 1))) (m + 1) * 10 ^ (7 - (m + 1)) := Int.mul_nonneg (by omega) (Int.pow_nonneg (by decide))
                          omega
                        · have := Int.mul_le_mul_of_nonneg_right q.2.1.2 (show (0 : Int) ≤ 10 ^ (7 - (m + 1)) from Int.pow_nonneg (by decide))
                          have := (pow7 (m + 1) (by omega)).2
                          omega
                        · show ST (m + 2) (pi K 428) (pi K 429) _ (pi K 417 27) (pi K 427)
                          rw [f28, f29, k6]
                          exact z1 k3 _ k8
                        · show mus (pi K 429) (m + 2) < _
                          rw [f29]; exact muG
                      · rw [k4]
                        refine ⟨(m + 2, G), rfl, ⟨fG, jG, by show m + 2 ≤ 8; omega, by show wok L W O to fm (pi G 428) (m + 2); rw [b28]; exact wo2, ?_, bl, by show pl G 417 30 = _; rw [b30]; exact eb, bb, ?_⟩, ?_⟩
                        · show ∀ i, i < m + 2 → -1 ≤ pi G 429 i ∧ pi G 429 i ≤ 3
                          rw [b29]; exact sdG
                        · show ST (m + 2) (pi G 428) (pi G 429) bl (pi G 417 27) (pi G 427)
                          rw [b28, b29, b17, b27]
                          exact z2 k3
                        · show mus (pi G 429) (m + 2) < _
                          rw [b29]; exact muG
                    · rw [if_neg y8]
                      refine ⟨(m + 2, G), rfl, ⟨fG, jG, by show m + 2 ≤ 8; omega, by show wok L W O to fm (pi G 428) (m + 2); rw [b28]; exact wo2, ?_, bl, by show pl G 417 30 = _; rw [b30]; exact eb, bb, ?_⟩, ?_⟩
                      · show ∀ i, i < m + 2 → -1 ≤ pi G 429 i ∧ pi G 429 i ≤ 3
                        rw [b29]; exact sdG
                      · show ST (m + 2) (pi G 428) (pi G 429) bl (pi G 417 27) (pi G 427)
                        rw [b28, b29, b17, b27]
                        exact psh m _ _ _ _ _ (by omega) wo S (by omega) (by omega) y2 pk wo2 y8
                      · show mus (pi G 429) (m + 2) < _
                        rw [b29]; exact muG
              · rw [hoB.2 y5, if_pos rfl]; exact cont (fun v => y5 v.1.2.1)
  · have hi : i < 1 := hi
    show -1 ≤ pi t0 429 i ∧ pi t0 429 i ≤ 3
    rw [show i = 0 by omega, s0]; decide
  · show mus (pi t0 429) 1 < fu_
    rw [mus, mus, s0]
    unfold fu_
    decide
end Ed
