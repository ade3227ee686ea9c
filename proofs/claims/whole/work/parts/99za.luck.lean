/-! lucky ways: the words -/
section Ea
variable (L W : Nat → Int) (O : Int → Prop)
def vst (c k : Int) : Prop := 0 ≤ bs L c k ∧ O (bs L c k) ∧ ¬ ag W c (bs L c k)
def wkn (c : Int) : Int := 10 - L (80 + c.toNat)
noncomputable def lvb (V : Int → Int) (c k : Int) : Int := cif (vst L W O c k) (wkn L (bs L c k) * V (bs L c k)) 0
noncomputable def lv (to : Int) (n : Nat) (c : Int) : Int := match n with
  | 0 => cif (c = to ∧ O to) 1 0
  | n + 1 => max (max (max (max 0 (lvb L W O (lv to n) c 0)) (lvb L W O (lv to n) c 1)) (lvb L W O (lv to n) c 2)) (lvb L W O (lv to n) c 3)
/-- the first side by which it is best, with n steps to go behind it -/
noncomputable def fk (to : Int) (n : Nat) (c : Int) : Int := cif (lvb L W O (lv L W O to n) c 0 = lv L W O to (n + 1) c) 0 (cif (lvb L W O (lv L W O to n) c 1 = lv L W O to (n + 1) c) 1 (cif (lvb L W O (lv L W O to n) c 2 = lv L W O to (n + 1) c) 2 3))
noncomputable def lpt (to : Int) (N : Nat) (c : Int) (i : Nat) : Int := match i with
  | 0 => c
  | i + 1 => bs L (lpt to N c i) (fk L W O to (N - i - 1) (lpt to N c i))
/-- the product along a row of cells -/
def prw (w : Nat → Int) (i : Nat) : Int := match i with
  | 0 => 1
  | i + 1 => prw w i * wkn L (w (i + 1))
end Ea
section Eb
variable {L W : Nat → Int} {O : Int → Prop} {to fm c : Int}
theorem wkn_bd (kL : LK L) (hc : inr L c) : 1 ≤ wkn L c ∧ wkn L c ≤ 10 := by
  have z : 4 ≤ ce L ∧ ce L ≤ 36 := sz_mul kL.1
  obtain ⟨c0, c1⟩ := hc
  have := kL.2.2.2.2.2.2.1 c.toNat (by omega)
  unfold wkn
  omega
theorem vst_in (kL : LK L) {k : Int} (hc : inr L c) (v : vst L W O c k) : inr L (bs L c k) := ⟨v.1, be_hi kL.1 hc.1 hc.2⟩
theorem lv_bd (kL : LK L) : ∀ {n : Nat} {c : Int}, inr L c → 0 ≤ lv L W O to n c ∧ lv L W O to n c ≤ 10 ^ n
  | 0, c, _ => by
    rw [lv]
    by_cases q : c = to ∧ O to
    · rw [cif_t q]; decide
    · rw [cif_f q]; decide
  | n + 1, c, hc => by
    have b : ∀ k, 0 ≤ lvb L W O (lv L W O to n) c k ∧ lvb L W O (lv L W O to n) c k ≤ 10 ^ (n + 1) := fun k => by
      unfold lvb
      have p0 : (0 : Int) ≤ 10 ^ n := Int.pow_nonneg (by decide)
      by_cases q : vst L W O c k
      · have i := lv_bd (n := n) kL (vst_in kL hc q)
        have w := wkn_bd kL (vst_in kL hc q)
        rw [cif_t q]
        refine ⟨Int.mul_nonneg (by omega) i.1, ?_⟩
        rw [Int.pow_succ, Int.mul_comm (10 ^ n) 10]
        exact Int.mul_le_mul w.2 i.2 i.1 (by decide)
      · rw [cif_f q, Int.pow_succ]; omega
    have b0 := b 0
    have b1 := b 1
    have b2 := b 2
    have b3 := b 3
    rw [lv]
    omega
theorem lv_ge {n : Nat} {k : Int} (hk : s4 k) : lvb L W O (lv L W O to n) c k ≤ lv L W O to (n + 1) c := by
  rw [lv]
  rcases hk with rfl | rfl | rfl | rfl <;> omega
theorem fk_ok {n : Nat} (h : 0 < lv L W O to (n + 1) c) : s4 (fk L W O to n c) ∧ lvb L W O (lv L W O to n) c (fk L W O to n c) = lv L W O to (n + 1) c ∧ ∀ k, s4 k → k < fk L W O to n c → lvb L W O (lv L W O to n) c k < lv L W O to (n + 1) c := by
  have g0 := lv_ge (L := L) (W := W) (O := O) (to := to) (c := c) (n := n) (k := 0) (Or.inl rfl)
  have g1 := lv_ge (L := L) (W := W) (O := O) (to := to) (c := c) (n := n) (k := 1) (Or.inr (Or.inl rfl))
  have g2 := lv_ge (L := L) (W := W) (O := O) (to := to) (c := c) (n := n) (k := 2) (Or.inr (Or.inr (Or.inl rfl)))
  have e : lv L W O to (n + 1) c = max (max (max (max 0 (lvb L W O (lv L W O to n) c 0)) (lvb L W O (lv L W O to n) c 1)) (lvb L W O (lv L W O to n) c 2)) (lvb L W O (lv L W O to n) c 3) := by rw [lv]
  unfold fk s4
  by_cases q0 : lvb L W O (lv L W O to n) c 0 = lv L W O to (n + 1) c
  · rw [cif_t q0]
    exact ⟨by omega, q0, fun k hk hl => by omega⟩
  · rw [cif_f q0]
    by_cases q1 : lvb L W O (lv L W O to n) c 1 = lv L W O to (n + 1) c
    · rw [cif_t q1]
      refine ⟨by omega, q1, fun k hk hl => ?_⟩
      rw [show k = 0 by omega]; omega
    · rw [cif_f q1]
      by_cases q2 : lvb L W O (lv L W O to n) c 2 = lv L W O to (n + 1) c
      · rw [cif_t q2]
        refine ⟨by omega, q2, fun k hk hl => ?_⟩
        rcases (show k = 0 ∨ k = 1 by omega) with v | v <;> rw [v] <;> omega
      · rw [cif_f q2]
        refine ⟨by omega, by omega, fun k hk hl => ?_⟩
        rcases (show k = 0 ∨ k = 1 ∨ k = 2 by omega) with v | v | v <;> rw [v] <;> omega
theorem lvb_v {V : Int → Int} {k : Int} (h : 0 < lvb L W O V c k) : vst L W O c k := by
  unfold lvb at h
  by_cases q : vst L W O c k
  · exact q
  · rw [cif_f q] at h; omega
theorem lvb_e {V : Int → Int} {k : Int} (h : vst L W O c k) : lvb L W O V c k = wkn L (bs L c k) * V (bs L c k) := cif_t h
/-- the way that is followed -/
theorem lpt_ok (kL : LK L) {N : Nat} (hf : inr L fm) (h : 0 < lv L W O to N fm) : ∀ {i : Nat}, i ≤ N → inr L (lpt L W O to N fm i) ∧ 0 < lv L W O to (N - i) (lpt L W O to N fm i) ∧ 1 ≤ prw L (lpt L W O to N fm) i ∧ prw L (lpt L W O to N fm) i * lv L W O to (N - i) (lpt L W O to N fm i) = lv L W O to N fm
  | 0, _ => ⟨hf, h, Int.le_refl _, by show 1 * _ = _; rw [Int.one_mul]; rfl⟩
  | i + 1, hi => by
    obtain ⟨a1, a2, a3, a4⟩ := lpt_ok (i := i) kL hf h (by omega)
    obtain ⟨n, en⟩ : ∃ n, N - i = n + 1 := ⟨N - i - 1, by omega⟩
    have en1 : N - i - 1 = n := by omega
    have en2 : N - (i + 1) = n := by omega
    rw [en] at a2 a4
    obtain ⟨f1, f2, f3⟩ := fk_ok a2
    have v : vst L W O (lpt L W O to N fm i) (fk L W O to n (lpt L W O to N fm i)) := lvb_v (by rw [f2]; exact a2)
    rw [lvb_e v] at f2
    have el : lpt L W O to N fm (i + 1) = bs L (lpt L W O to N fm i) (fk L W O to n (lpt L W O to N fm i)) := by rw [lpt, en1]
    have ep : prw L (lpt L W O to N fm) (i + 1) = prw L (lpt L W O to N fm) i * wkn L (lpt L W O to N fm (i + 1)) := rfl
    have hin := vst_in kL a1 v
    have wb := wkn_bd kL hin
    rw [en2, ep, el]
    refine ⟨hin, ?_, ?_, by rw [Int.mul_assoc, f2]; exact a4⟩
    · rw [← f2] at a2
      rcases Int.lt_or_le 0 (lv L W O to n (bs L (lpt L W O to N fm i) (fk L W O to n (lpt L W O to N fm i)))) with y | y
      · exact y
      · have := Int.mul_nonpos_of_nonneg_of_nonpos (a := wkn L (bs L (lpt L W O to N fm i) (fk L W O to n (lpt L W O to N fm i)))) (by omega) y
        omega
    · have := Int.mul_le_mul a3 wb.1 (by decide) (by omega)
      omega
theorem lpt_st (kL : LK L) {N : Nat} (hf : inr L fm) (h : 0 < lv L W O to N fm) {i : Nat} (hi : i < N) : s4 (fk L W O to (N - i - 1) (lpt L W O to N fm i)) ∧ vst L W O (lpt L W O to N fm i) (fk L W O to (N - i - 1) (lpt L W O to N fm i)) ∧ ∀ k, s4 k → k < fk L W O to (N - i - 1) (lpt L W O to N fm i) → lvb L W O (lv L W O to (N - i - 1)) (lpt L W O to N fm i) k < lv L W O to (N - i) (lpt L W O to N fm i) := by
  obtain ⟨a1, a2, a3, a4⟩ := lpt_ok (i := i) kL hf h (by omega)
  obtain ⟨n, en⟩ : ∃ n, N - i = n + 1 := ⟨N - i - 1, by omega⟩
  have en1 : N - i - 1 = n := by omega
  rw [en] at a2
  rw [en1, en]
  obtain ⟨f1, f2, f3⟩ := fk_ok a2
  exact ⟨f1, lvb_v (by rw [f2]; exact a2), f3⟩
theorem lpt_end (kL : LK L) {N : Nat} (hf : inr L fm) (h : 0 < lv L W O to N fm) : lpt L W O to N fm N = to ∧ O to := by
  have a := (lpt_ok (i := N) kL hf h (Nat.le_refl _)).2.1
  rw [Nat.sub_self, lv] at a
  by_cases q : lpt L W O to N fm N = to ∧ O to
  · exact q
  · rw [cif_f q] at a; omega
/-- rows of cells that are walked: what may come of them -/
def wok (L W : Nat → Int) (O : Int → Prop) (to fm : Int) (w : Nat → Int) (m : Nat) : Prop := ∀ i, i < m → inr L (w i) ∧ (1 ≤ prw L w i ∧ prw L w i ≤ 10 ^ i) ∧ ∀ s, prw L w i * lv L W O to s (w i) ≤ lv L W O to (i + s) fm
theorem prw_c {w v : Nat → Int} : ∀ {i : Nat}, (∀ j, j ≤ i → w j = v j) → prw L w i = prw L v i
  | 0, _ => rfl
  | i + 1, h => by rw [prw, prw, prw_c (i := i) (fun j hj => h j (by omega)), h (i + 1) (Nat.le_refl _)]
theorem wok_c {w v : Nat → Int} {m : Nat} (k : wok L W O to fm w m) (h : ∀ j, j < m → v j = w j) : wok L W O to fm v m := fun i hi => by
  have e : prw L v i = prw L w i := prw_c (fun j hj => h j (by omega))
  rw [e, h i hi]
  exact k i hi
theorem wok_0 (hf : inr L fm) {w : Nat → Int} (h : w 0 = fm) : wok L W O to fm w 1 := fun i hi => by
  have e : i = 0 := by omega
  subst e
  rw [h]
  refine ⟨hf, ⟨Int.le_refl _, Int.le_refl _⟩, fun s => ?_⟩
  show 1 * _ ≤ _
  rw [Int.one_mul, Nat.zero_add]
  exact Int.le_refl _
theorem wok_s (kL : LK L) {w : Nat → Int} {m : Nat} {k : Int} (q : wok L W O to fm w (m + 1)) (hk : s4 k) (v : vst L W O (w m) k) : wok L W O to fm (up1 w (m + 1) (bs L (w m) k)) (m + 2) := fun i hi => by
  obtain ⟨a1, a2, a3⟩ := q m (by omega)
  by_cases y : i < m + 1
  · exact wok_c (m := m + 1) q (fun j hj => up1_n (by omega)) i y
  · have e : i = m + 1 := by omega
    subst e
    have ep : prw L (up1 w (m + 1) (bs L (w m) k)) (m + 1) = prw L w m * wkn L (bs L (w m) k) := by
      rw [prw, up1_s, prw_c (fun j hj => up1_n (by omega))]
    have hin := vst_in kL a1 v
    have wb := wkn_bd kL hin
    rw [ep, up1_s]
    refine ⟨hin, ⟨?_, ?_⟩, fun s => ?_⟩
    · have := Int.mul_le_mul a2.1 wb.1 (by decide) (by omega)
      omega
    · rw [Int.pow_succ]
      exact Int.mul_le_mul a2.2 wb.2 (by omega) (Int.pow_nonneg (by decide))
    · have g := lv_ge (L := L) (W := W) (O := O) (to := to) (c := w m) (n := s) hk
      rw [lvb_e v] at g
      have g2 := Int.mul_le_mul_of_nonneg_left g (show 0 ≤ prw L w m by omega)
      have g3 := a3 (s + 1)
      rw [Int.mul_assoc, show m + 1 + s = m + (s + 1) by omega]
      exact Int.le_trans g2 g3
theorem prw_grow (kL : LK L) {w : Nat → Int} {i : Nat} : ∀ {d : Nat}, (∀ j, j ≤ i + d → inr L (w j) ∧ 0 ≤ prw L w j) → prw L w (i + d) ≤ prw L w i * 10 ^ d
  | 0, _ => by rw [Int.pow_zero, Int.mul_one]; exact Int.le_refl _
  | d + 1, h => by
    have a := prw_grow (i := i) (d := d) kL (fun j hj => h j (by omega))
    have wb := wkn_bd kL (h (i + (d + 1)) (Nat.le_refl _)).1
    have h0 := (h (i + d) (by omega)).2
    have ep : prw L w (i + (d + 1)) = prw L w (i + d) * wkn L (w (i + (d + 1))) := rfl
    rw [ep, Int.pow_succ, ← Int.mul_assoc]
    exact Int.mul_le_mul a wb.2 (by omega) (Int.le_trans h0 a)
/-- N is the first with the most of it -/
def lbest (L W : Nat → Int) (O : Int → Prop) (to fm : Int) (N : Nat) : Prop := (1 ≤ N ∧ N ≤ 7) ∧ 0 < lv L W O to N fm ∧ ∀ n, 1 ≤ n → n ≤ 7 → lv L W O to n fm * 10 ^ (7 - n) ≤ lv L W O to N fm * 10 ^ (7 - N) ∧ (n < N → lv L W O to n fm * 10 ^ (7 - n) < lv L W O to N fm * 10 ^ (7 - N))
theorem lpt_wok (kL : LK L) {N : Nat} (hf : inr L fm) (h : 0 < lv L W O to N fm) : ∀ {m : Nat}, m ≤ N → wok L W O to fm (lpt L W O to N fm) (m + 1)
  | 0, _ => wok_0 hf rfl
  | m + 1, hm => by
    have i := lpt_wok (m := m) kL hf h (by omega)
    obtain ⟨s1, s2, s3⟩ := lpt_st (i := m) kL hf h (by omega)
    refine wok_c (wok_s kL i s1 s2) (fun j hj => ?_)
    by_cases y : j = m + 1
    · rw [y, up1_s]; rfl
    · rw [up1_n y]
theorem lpt_simple (kL : LK L) {N : Nat} (hf : inr L fm) (ne : fm ≠ to) (b : lbest L W O to fm N) {i j : Nat} (hij : i < j) (hj : j ≤ N) : lpt L W O to N fm i ≠ lpt L W O to N fm j := by
  intro e
  obtain ⟨⟨n1, n7⟩, pos, all⟩ := b
  obtain ⟨i1, i2, i3, i4⟩ := lpt_ok (i := i) kL hf pos (by omega)
  obtain ⟨j1, j2, j3, j4⟩ := lpt_ok (i := j) kL hf pos hj
  obtain ⟨d, rfl⟩ : ∃ d, j = i + d := ⟨j - i, by omega⟩
  have g := prw_grow (w := lpt L W O to N fm) (i := i) (d := d) kL (fun k hk => by
    obtain ⟨k1, k2, k3, k4⟩ := lpt_ok (i := k) kL hf pos (by omega)
    exact ⟨k1, by omega⟩)
  have wo := (lpt_wok (m := N) kL hf pos (Nat.le_refl _) i (by omega)).2.2 (N - (i + d))
  rw [← e] at j2 j4
  have p0 : (0 : Int) ≤ 10 ^ d := Int.pow_nonneg (by decide)
  have p1 : (0 : Int) < 10 ^ (7 - N) := Int.pow_pos (by decide)
  have h1 : lv L W O to N fm ≤ lv L W O to (i + (N - (i + d))) fm * 10 ^ d := by
    rw [← j4]
    refine Int.le_trans (Int.mul_le_mul_of_nonneg_right g (by omega)) ?_
    rw [Int.mul_assoc, Int.mul_comm (10 ^ d), ← Int.mul_assoc]
    exact Int.mul_le_mul_of_nonneg_right wo p0
  have h2 := Int.mul_le_mul_of_nonneg_right h1 (show (0 : Int) ≤ 10 ^ (7 - N) by omega)
  rw [Int.mul_assoc, ← Int.pow_add] at h2
  by_cases y : i + (N - (i + d)) = 0
  · rw [y, lv, cif_f (fun v => ne v.1), Int.zero_mul] at h2
    have := Int.mul_pos pos p1
    omega
  · have a := (all (i + (N - (i + d))) (by omega) (by omega)).2 (by omega)
    rw [show 7 - (i + (N - (i + d))) = d + (7 - N) by omega] at a
    omega
end Eb
