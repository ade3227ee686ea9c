/-! which line a word begins -/
def OC (h : pH) : Prop := (pi h 2 0 = 2 ∧ pi h 2 1 = 2 ∧ pi h 2 2 = 3) ∧ (pi h 3 0 = 0 ∧ pi h 3 1 = 10 ∧ pi h 3 2 = 16 ∧ pi h 3 3 = 21)
theorem sl_w : ∀ l, l < 21 → sl_n (8 + l) = lnw l ∧ ∀ i, i < lnw l → psc (8 + l) i = chw l i := by decide +kernel
theorem chw_r : ∀ l, l < 21 → ∀ i, i < lnw l → 97 ≤ chw l i ∧ chw l i ≤ 122 := by decide
theorem lnw_r : ∀ l, l < 21 → lnw l ≤ 5 := by decide
section Tf
variable {h : pH} {B : Nat → Int} {n s : Nat}
theorem wl_w {v : Int} {l : Nat} (hl : l < 21) : wl v = l ↔ v = cdW l := by
  constructor
  · intro e
    rcases wl_c (v := v) with q | ⟨k, k1, k2, k3⟩
    · omega
    · have : k = l := by omega
      rw [← this]; exact k3
  · intro e
    rw [e]; exact wl_l l hl
theorem wd_eq {m : Nat} (m1 : 1 ≤ m) (m5 : m ≤ 5) (hh : ∀ i, i < m → 97 ≤ B (s + i) ∧ B (s + i) ≤ 122) : ∀ l, l < 21 → (wv B s m = cdW l ↔ (m = lnw l ∧ ∀ i, i < lnw l → B (s + i) = chw l i)) := by
  intro l hl
  rcases (show l = 0 ∨ l = 1 ∨ l = 2 ∨ l = 3 ∨ l = 4 ∨ l = 5 ∨ l = 6 ∨ l = 7 ∨ l = 8 ∨ l = 9 ∨ l = 10 ∨ l = 11 ∨ l = 12 ∨ l = 13 ∨ l = 14 ∨ l = 15 ∨ l = 16 ∨ l = 17 ∨ l = 18 ∨ l = 19 ∨ l = 20 by omega) with rfl | rfl | rfl | rfl | rfl | rfl | rfl | rfl | rfl | rfl | rfl | rfl | rfl | rfl | rfl | rfl | rfl | rfl | rfl | rfl | rfl
  · refine (wd_0 m1 m5 hh).trans ⟨fun ⟨e, b0, b1, b2, b3⟩ => ⟨e, fun i hi => ?_⟩, fun ⟨e, q⟩ => ⟨e, q 0 (by decide), q 1 (by decide), q 2 (by decide), q 3 (by decide)⟩⟩
    have hi : i < 4 := hi
    rcases (show i = 0 ∨ i = 1 ∨ i = 2 ∨ i = 3 by omega) with rfl | rfl | rfl | rfl
    · exact b0
    · exact b1
    · exact b2
    · exact b3
  · refine (wd_1 m1 m5 hh).trans ⟨fun ⟨e, b0, b1, b2⟩ => ⟨e, fun i hi => ?_⟩, fun ⟨e, q⟩ => ⟨e, q 0 (by decide), q 1 (by decide), q 2 (by decide)⟩⟩
    have hi : i < 3 := hi
    rcases (show i = 0 ∨ i = 1 ∨ i = 2 by omega) with rfl | rfl | rfl
    · exact b0
    · exact b1
    · exact b2
  · refine (wd_2 m1 m5 hh).trans ⟨fun ⟨e, b0, b1, b2⟩ => ⟨e, fun i hi => ?_⟩, fun ⟨e, q⟩ => ⟨e, q 0 (by decide), q 1 (by decide), q 2 (by decide)⟩⟩
    have hi : i < 3 := hi
    rcases (show i = 0 ∨ i = 1 ∨ i = 2 by omega) with rfl | rfl | rfl
    · exact b0
    · exact b1
    · exact b2
  · refine (wd_3 m1 m5 hh).trans ⟨fun ⟨e, b0, b1, b2, b3⟩ => ⟨e, fun i hi => ?_⟩, fun ⟨e, q⟩ => ⟨e, q 0 (by decide), q 1 (by decide), q 2 (by decide), q 3 (by decide)⟩⟩
    have hi : i < 4 := hi
    rcases (show i = 0 ∨ i = 1 ∨ i = 2 ∨ i = 3 by omega) with rfl | rfl | rfl | rfl
    · exact b0
    · exact b1
    · exact b2
    · exact b3
  · refine (wd_4 m1 m5 hh).trans ⟨fun ⟨e, b0, b1, b2, b3⟩ => ⟨e, fun i hi => ?_⟩, fun ⟨e, q⟩ => ⟨e, q 0 (by decide), q 1 (by decide), q 2 (by decide), q 3 (by decide)⟩⟩
    have hi : i < 4 := hi
    rcases (show i = 0 ∨ i = 1 ∨ i = 2 ∨ i = 3 by omega) with rfl | rfl | rfl | rfl
    · exact b0
    · exact b1
    · exact b2
    · exact b3
  · refine (wd_5 m1 m5 hh).trans ⟨fun ⟨e, b0, b1, b2, b3, b4⟩ => ⟨e, fun i hi => ?_⟩, fun ⟨e, q⟩ => ⟨e, q 0 (by decide), q 1 (by decide), q 2 (by decide), q 3 (by decide), q 4 (by decide)⟩⟩
    have hi : i < 5 := hi
    rcases (show i = 0 ∨ i = 1 ∨ i = 2 ∨ i = 3 ∨ i = 4 by omega) with rfl | rfl | rfl | rfl | rfl
    · exact b0
    · exact b1
    · exact b2
    · exact b3
    · exact b4
  · refine (wd_6 m1 m5 hh).trans ⟨fun ⟨e, b0, b1, b2, b3, b4⟩ => ⟨e, fun i hi => ?_⟩, fun ⟨e, q⟩ => ⟨e, q 0 (by decide), q 1 (by decide), q 2 (by decide), q 3 (by decide), q 4 (by decide)⟩⟩
    have hi : i < 5 := hi
    rcases (show i = 0 ∨ i = 1 ∨ i = 2 ∨ i = 3 ∨ i = 4 by omega) with rfl | rfl | rfl | rfl | rfl
    · exact b0
    · exact b1
    · exact b2
    · exact b3
    · exact b4
  · refine (wd_7 m1 m5 hh).trans ⟨fun ⟨e, b0, b1, b2, b3⟩ => ⟨e, fun i hi => ?_⟩, fun ⟨e, q⟩ => ⟨e, q 0 (by decide), q 1 (by decide), q 2 (by decide), q 3 (by decide)⟩⟩
    have hi : i < 4 := hi
    rcases (show i = 0 ∨ i = 1 ∨ i = 2 ∨ i = 3 by omega) with rfl | rfl | rfl | rfl
    · exact b0
    · exact b1
    · exact b2
    · exact b3
  · refine (wd_8 m1 m5 hh).trans ⟨fun ⟨e, b0, b1, b2, b3, b4⟩ => ⟨e, fun i hi => ?_⟩, fun ⟨e, q⟩ => ⟨e, q 0 (by decide), q 1 (by decide), q 2 (by decide), q 3 (by decide), q 4 (by decide)⟩⟩
    have hi : i < 5 := hi
    rcases (show i = 0 ∨ i = 1 ∨ i = 2 ∨ i = 3 ∨ i = 4 by omega) with rfl | rfl | rfl | rfl | rfl
    · exact b0
    · exact b1
    · exact b2
    · exact b3
    · exact b4
  · refine (wd_9 m1 m5 hh).trans ⟨fun ⟨e, b0, b1, b2, b3⟩ => ⟨e, fun i hi => ?_⟩, fun ⟨e, q⟩ => ⟨e, q 0 (by decide), q 1 (by decide), q 2 (by decide), q 3 (by decide)⟩⟩
    have hi : i < 4 := hi
    rcases (show i = 0 ∨ i = 1 ∨ i = 2 ∨ i = 3 by omega) with rfl | rfl | rfl | rfl
    · exact b0
    · exact b1
    · exact b2
    · exact b3
  · refine (wd_10 m1 m5 hh).trans ⟨fun ⟨e, b0, b1, b2, b3, b4⟩ => ⟨e, fun i hi => ?_⟩, fun ⟨e, q⟩ => ⟨e, q 0 (by decide), q 1 (by decide), q 2 (by decide), q 3 (by decide), q 4 (by decide)⟩⟩
    have hi : i < 5 := hi
    rcases (show i = 0 ∨ i = 1 ∨ i = 2 ∨ i = 3 ∨ i = 4 by omega) with rfl | rfl | rfl | rfl | rfl
    · exact b0
    · exact b1
    · exact b2
    · exact b3
    · exact b4
  · refine (wd_11 m1 m5 hh).trans ⟨fun ⟨e, b0, b1, b2, b3, b4⟩ => ⟨e, fun i hi => ?_⟩, fun ⟨e, q⟩ => ⟨e, q 0 (by decide), q 1 (by decide), q 2 (by decide), q 3 (by decide), q 4 (by decide)⟩⟩
    have hi : i < 5 := hi
    rcases (show i = 0 ∨ i = 1 ∨ i = 2 ∨ i = 3 ∨ i = 4 by omega) with rfl | rfl | rfl | rfl | rfl
    · exact b0
    · exact b1
    · exact b2
    · exact b3
    · exact b4
  · refine (wd_12 m1 m5 hh).trans ⟨fun ⟨e, b0, b1, b2, b3, b4⟩ => ⟨e, fun i hi => ?_⟩, fun ⟨e, q⟩ => ⟨e, q 0 (by decide), q 1 (by decide), q 2 (by decide), q 3 (by decide), q 4 (by decide)⟩⟩
    have hi : i < 5 := hi
    rcases (show i = 0 ∨ i = 1 ∨ i = 2 ∨ i = 3 ∨ i = 4 by omega) with rfl | rfl | rfl | rfl | rfl
    · exact b0
    · exact b1
    · exact b2
    · exact b3
    · exact b4
  · refine (wd_13 m1 m5 hh).trans ⟨fun ⟨e, b0, b1, b2, b3⟩ => ⟨e, fun i hi => ?_⟩, fun ⟨e, q⟩ => ⟨e, q 0 (by decide), q 1 (by decide), q 2 (by decide), q 3 (by decide)⟩⟩
    have hi : i < 4 := hi
    rcases (show i = 0 ∨ i = 1 ∨ i = 2 ∨ i = 3 by omega) with rfl | rfl | rfl | rfl
    · exact b0
    · exact b1
    · exact b2
    · exact b3
  · refine (wd_14 m1 m5 hh).trans ⟨fun ⟨e, b0, b1, b2, b3⟩ => ⟨e, fun i hi => ?_⟩, fun ⟨e, q⟩ => ⟨e, q 0 (by decide), q 1 (by decide), q 2 (by decide), q 3 (by decide)⟩⟩
    have hi : i < 4 := hi
    rcases (show i = 0 ∨ i = 1 ∨ i = 2 ∨ i = 3 by omega) with rfl | rfl | rfl | rfl
    · exact b0
    · exact b1
    · exact b2
    · exact b3
  · refine (wd_15 m1 m5 hh).trans ⟨fun ⟨e, b0, b1, b2⟩ => ⟨e, fun i hi => ?_⟩, fun ⟨e, q⟩ => ⟨e, q 0 (by decide), q 1 (by decide), q 2 (by decide)⟩⟩
    have hi : i < 3 := hi
    rcases (show i = 0 ∨ i = 1 ∨ i = 2 by omega) with rfl | rfl | rfl
    · exact b0
    · exact b1
    · exact b2
  · refine (wd_16 m1 m5 hh).trans ⟨fun ⟨e, b0, b1, b2⟩ => ⟨e, fun i hi => ?_⟩, fun ⟨e, q⟩ => ⟨e, q 0 (by decide), q 1 (by decide), q 2 (by decide)⟩⟩
    have hi : i < 3 := hi
    rcases (show i = 0 ∨ i = 1 ∨ i = 2 by omega) with rfl | rfl | rfl
    · exact b0
    · exact b1
    · exact b2
  · refine (wd_17 m1 m5 hh).trans ⟨fun ⟨e, b0, b1, b2, b3⟩ => ⟨e, fun i hi => ?_⟩, fun ⟨e, q⟩ => ⟨e, q 0 (by decide), q 1 (by decide), q 2 (by decide), q 3 (by decide)⟩⟩
    have hi : i < 4 := hi
    rcases (show i = 0 ∨ i = 1 ∨ i = 2 ∨ i = 3 by omega) with rfl | rfl | rfl | rfl
    · exact b0
    · exact b1
    · exact b2
    · exact b3
  · refine (wd_18 m1 m5 hh).trans ⟨fun ⟨e, b0, b1, b2⟩ => ⟨e, fun i hi => ?_⟩, fun ⟨e, q⟩ => ⟨e, q 0 (by decide), q 1 (by decide), q 2 (by decide)⟩⟩
    have hi : i < 3 := hi
    rcases (show i = 0 ∨ i = 1 ∨ i = 2 by omega) with rfl | rfl | rfl
    · exact b0
    · exact b1
    · exact b2
  · refine (wd_19 m1 m5 hh).trans ⟨fun ⟨e, b0, b1⟩ => ⟨e, fun i hi => ?_⟩, fun ⟨e, q⟩ => ⟨e, q 0 (by decide), q 1 (by decide)⟩⟩
    have hi : i < 2 := hi
    rcases (show i = 0 ∨ i = 1 by omega) with rfl | rfl
    · exact b0
    · exact b1
  · refine (wd_20 m1 m5 hh).trans ⟨fun ⟨e, b0, b1, b2, b3, b4⟩ => ⟨e, fun i hi => ?_⟩, fun ⟨e, q⟩ => ⟨e, q 0 (by decide), q 1 (by decide), q 2 (by decide), q 3 (by decide), q 4 (by decide)⟩⟩
    have hi : i < 5 := hi
    rcases (show i = 0 ∨ i = 1 ∨ i = 2 ∨ i = 3 ∨ i = 4 by omega) with rfl | rfl | rfl | rfl | rfl
    · exact b0
    · exact b1
    · exact b2
    · exact b3
    · exact b4
theorem wdl_i (sn : s ≤ n) (k : kd B n s = 1) {l : Nat} (hl : l < 21) : wdl B n s = l ↔ (af B n s - s = lnw l ∧ ∀ i, i < lnw l → B (s + i) = chw l i) := by
  have hs : s < n := (af_ok (B := B) sn).2.2.2.2.2 (by omega)
  have lt1 : lt_ (B s) = true := by
    unfold kd at k
    rw [if_neg (by omega)] at k
    by_cases q : lt_ (B s) = true
    · exact q
    · rw [if_neg q] at k
      exfalso
      split at k
      · split at k <;> omega
      · split at k
        · omega
        · split at k <;> omega
  have ea : af B n s = rnn B n lt_ s := by unfold af; rw [if_neg (by omega), if_pos lt1]
  obtain ⟨o1, o2, o3, o4⟩ := rnn_ok (B := B) (n := n) (P := lt_) (p := s) rfl
  have a3 := (af_ok (B := B) sn).2.2.1 hs
  have l5 := lnw_r l hl
  unfold wdl
  rw [← ea]
  by_cases m5 : af B n s - s ≤ 5
  · rw [if_pos m5, wl_w hl]
    exact wd_eq (by omega) m5 (fun i hi => lt_i.mp (o3 (s + i) (by omega) (by omega))) l hl
  · rw [if_neg m5]
    exact ⟨fun e => by omega, fun e => by omega⟩
theorem c_isWord {l : Nat} (c : CTx h B n s) (k : kd B n s = 1) (hl : l < 21) : pf_Re_isWord (8 + l) h = some (if wdl B n s = l then 1 else 0) := by
  obtain ⟨cb, sn, e11, e12, e9, e10⟩ := c
  have n6 := cb.2.2.1
  obtain ⟨w1, w2⟩ := sl_w l hl
  have w3 := chw_r l hl
  have w5 := lnw_r l hl
  have a := af_ok (B := B) sn
  have wi := wdl_i sn k hl
  unfold pf_Re_isWord
  rw [w1, e11, e12, wr_eq (x := ((lnw l : Nat) : Int)) (by omega) (by omega), wr_eq (by omega) (by omega)]
  by_cases y : af B n s - s = lnw l
  · rw [if_pos (by omega)]
    have main : pl_Re_isWord_20 (8 + l) h (some 0) (some 1) fu_ 0 = some (cif (∀ i, i < lnw l → B (s + i) = chw l i) 1 0) := by
      refine lpf (F := fun m (i : Nat) (_ : Unit) => pl_Re_isWord_20 (8 + l) h (some 0) (some 1) m i) (Q := fun r => r = some (cif (∀ i, i < lnw l → B (s + i) = chw l i) 1 0)) (lnw l) (fun i _ => ∀ j, j < i → B (s + j) = chw l j) ?_ ?_ fu_ 0 () (by omega) (by unfold fu_; omega) (fun j hj => by omega)
      · intro m i _ hi all
        have q := cb.2.2.2 (s + i) (by omega)
        have r := w3 i hi
        show (pl_Re_isWord_20 (8 + l) h (some 0) (some 1) (m + 1) i = _) ∨ ∃ t' : Unit, pl_Re_isWord_20 (8 + l) h (some 0) (some 1) (m + 1) i = pl_Re_isWord_20 (8 + l) h (some 0) (some 1) m (i + 1 : Nat) ∧ _
        rw [pl_Re_isWord_20, w1, wr_eq (x := ((lnw l : Nat) : Int)) (by omega) (by omega), if_neg (by omega), gib (by omega) (by omega), cb.1, gd_t (show ((66 : Nat) == 66) = true from rfl), e11, wr_eq (x := (s : Int) + i) (by omega) (by omega), gib (by omega) (by omega), Int.toNat_natCast, w2 i hi, show ((s : Int) + i).toNat = s + i by omega]
        by_cases u : chw l i = pi h 66 (s + i)
        · right
          rw [if_pos u, wr_eq (by omega) (by omega)]
          refine ⟨(), rfl, fun j hj => ?_⟩
          by_cases e : j = i
          · rw [e]; omega
          · exact all j (by omega)
        · left
          rw [if_neg u, cif_f (fun v => by have := v i hi; omega)]
      · intro m _ all
        show pl_Re_isWord_20 (8 + l) h (some 0) (some 1) (m + 1) (lnw l : Nat) = _
        rw [pl_Re_isWord_20, w1, wr_eq (x := ((lnw l : Nat) : Int)) (by omega) (by omega), if_pos (Int.le_refl _), cif_t all]
    rw [main]
    by_cases u : ∀ i, i < lnw l → B (s + i) = chw l i
    · rw [cif_t u, if_pos (wi.mpr ⟨y, u⟩)]
    · rw [cif_f u, if_neg (fun v => u (wi.mp v).2)]
  · rw [if_neg (by omega), if_neg (fun v => y (wi.mp v).1)]
theorem c_wordOf : ∀ l, l < 21 → pf_Re_wordOf (l : Nat) h = some (8 + l) := by
  intro l hl
  unfold pf_Re_wordOf
  revert l
  decide
def loS (t : Nat) : Nat := if t = 0 then 0 else (if t = 1 then 10 else 16)
def hiS (t : Nat) : Nat := if t = 0 then 10 else (if t = 1 then 16 else 21)
theorem wdl_r : -1 ≤ wdl B n s ∧ wdl B n s < 21 := by
  unfold wdl
  split
  · rcases wl_c (v := wv B s (rnn B n lt_ s - s)) with e | ⟨l, l1, l2, l3⟩ <;> omega
  · omega
theorem c_line {t : Nat} (o : OC h) (c : CTx h B n s) (ht : t < 3) (e8 : pi h 279 8 = t) : pf_Re_lineOfWord h = some (if kd B n s = 1 ∧ loS t ≤ wdl B n s ∧ wdl B n s < hiS t then wdl B n s else -1) := by
  obtain ⟨o1, o2, o3, o4, o5⟩ := o
  have cc := c
  obtain ⟨cb, sn, e11, e12, e9, e10⟩ := c
  unfold pf_Re_lineOfWord
  rw [e9]
  by_cases k : kd B n s = 1
  · rw [if_pos k, e8, gib (by omega) (by omega), Int.toNat_natCast]
    have lo : pi h 3 t = loS t := by
      unfold loS
      rcases (show t = 0 ∨ t = 1 ∨ t = 2 by omega) with rfl | rfl | rfl
      · exact o2
      · exact o3
      · exact o4
    have hi : pi h 3 (t + 1) = hiS t := by
      unfold hiS
      rcases (show t = 0 ∨ t = 1 ∨ t = 2 by omega) with rfl | rfl | rfl
      · exact o3
      · exact o4
      · exact o5
    have bd : loS t ≤ hiS t ∧ hiS t ≤ 21 := by
      unfold loS hiS
      rcases (show t = 0 ∨ t = 1 ∨ t = 2 by omega) with rfl | rfl | rfl <;> decide
    rw [lo]
    refine lpf (F := fun m (i : Nat) (_ : Unit) => pl_Re_lineOfWord_17 h (fun x1 => some x1) (some (-1)) m i) (Q := fun r => r = some (if kd B n s = 1 ∧ loS t ≤ wdl B n s ∧ wdl B n s < hiS t then wdl B n s else -1)) (hiS t) (fun i _ => loS t ≤ i ∧ ∀ j : Nat, loS t ≤ j → j < i → wdl B n s ≠ j) ?_ ?_ fu_ (loS t) () bd.1 (by unfold fu_; omega) ⟨Nat.le_refl _, fun j a b => by omega⟩
    · intro m i _ ii ⟨i1, all⟩
      show (pl_Re_lineOfWord_17 h _ _ (m + 1) i = _) ∨ ∃ t' : Unit, pl_Re_lineOfWord_17 h _ _ (m + 1) i = pl_Re_lineOfWord_17 h _ _ m (i + 1 : Nat) ∧ _
      rw [pl_Re_lineOfWord_17, e8, wr_eq (x := (t : Int) + 1) (by omega) (by omega), gib (by omega) (by omega), show ((t : Int) + 1).toNat = t + 1 by omega, hi, if_neg (by omega), c_wordOf i (by omega), bsm, c_isWord cc k (by omega), bsm, if1]
      by_cases u : wdl B n s = i
      · left
        rw [if_pos u, if_pos ⟨k, by omega, by omega⟩, u]
      · right
        rw [if_neg u, wr_eq (by omega) (by omega)]
        refine ⟨(), rfl, by omega, fun j a b => ?_⟩
        by_cases e : j = i
        · rw [e]; exact u
        · exact all j a (by omega)
    · intro m _ ⟨i1, all⟩
      show pl_Re_lineOfWord_17 h _ _ (m + 1) (hiS t : Nat) = _
      rw [pl_Re_lineOfWord_17, e8, wr_eq (x := (t : Int) + 1) (by omega) (by omega), gib (by omega) (by omega), show ((t : Int) + 1).toNat = t + 1 by omega, hi, if_pos (Int.le_refl _), if_neg (fun v => ?_)]
      have := all (wdl B n s).toNat (by omega) (by omega)
      omega
  · rw [if_neg k, if_neg (fun v => k v.1)]
end Tf
