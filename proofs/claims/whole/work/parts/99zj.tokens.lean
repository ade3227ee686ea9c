/-! tokens -/
section Ta
variable (B : Nat → Int) (n : Nat)
def rnf (P : Int → Bool) (p f : Nat) : Nat := match f with
  | 0 => p
  | f + 1 => if P (B p) = true then rnf P (p + 1) f else p
def rnn (P : Int → Bool) (p : Nat) : Nat := rnf B P p (n - p)
def bl (x : Int) : Bool := decide (x = 32) || decide (x = 10)
def lt_ (x : Int) : Bool := decide (97 ≤ x) && decide (x ≤ 122)
def dg (x : Int) : Bool := decide (48 ≤ x) && decide (x ≤ 57)
def wv (s k : Nat) : Int := match k with
  | 0 => 0
  | k + 1 => 32 * wv s k + B (s + k) - 96
def skb (p : Nat) : Nat := rnn B n bl p
def af (s : Nat) : Nat := if n ≤ s then n else (if lt_ (B s) = true then rnn B n lt_ s else (if dg (B s) = true then rnn B n dg s else s + 1))
def kd (s : Nat) : Int := if n ≤ s then 0 else (if lt_ (B s) = true then 1 else (if dg (B s) = true then (if rnn B n dg s ≤ s + 2 then 2 else 5) else (if B s = 45 then 3 else (if B s = 59 then 4 else 5))))
def vl (s : Nat) : Int := if af B n s = s + 1 then B s - 48 else 10 * (B s - 48) + B (s + 1) - 48
end Ta
def cdW (l : Nat) : Int := [632645, 1420, 9317, 637431, 758827, 3736683, 6897268, 70706, 20201029, 631280, 12748404, 1574484, 20186693, 595412, 394693, 2098, 4153, 442053, 15558, 239, 20681904].getD l 0
def wl (v : Int) : Int := if v = 632645 then 0 else (if v = 1420 then 1 else (if v = 9317 then 2 else (if v = 637431 then 3 else (if v = 758827 then 4 else (if v = 3736683 then 5 else (if v = 6897268 then 6 else (if v = 70706 then 7 else (if v = 20201029 then 8 else (if v = 631280 then 9 else (if v = 12748404 then 10 else (if v = 1574484 then 11 else (if v = 20186693 then 12 else (if v = 595412 then 13 else (if v = 394693 then 14 else (if v = 2098 then 15 else (if v = 4153 then 16 else (if v = 442053 then 17 else (if v = 15558 then 18 else (if v = 239 then 19 else (if v = 20681904 then 20 else (-1)))))))))))))))))))))
def wdl (B : Nat → Int) (n s : Nat) : Int := if rnn B n lt_ s - s ≤ 5 then wl (wv B s (rnn B n lt_ s - s)) else -1
theorem wl_c {v : Int} : wl v = -1 ∨ ∃ l : Nat, l < 21 ∧ wl v = l ∧ v = cdW l := by
  unfold wl
  by_cases q0 : v = 632645
  · right; exact ⟨0, by decide, by rw [if_pos q0]; rfl, q0⟩
  by_cases q1 : v = 1420
  · right; exact ⟨1, by decide, by rw [if_neg q0, if_pos q1]; rfl, q1⟩
  by_cases q2 : v = 9317
  · right; exact ⟨2, by decide, by rw [if_neg q0, if_neg q1, if_pos q2]; rfl, q2⟩
  by_cases q3 : v = 637431
  · right; exact ⟨3, by decide, by rw [if_neg q0, if_neg q1, if_neg q2, if_pos q3]; rfl, q3⟩
  by_cases q4 : v = 758827
  · right; exact ⟨4, by decide, by rw [if_neg q0, if_neg q1, if_neg q2, if_neg q3, if_pos q4]; rfl, q4⟩
  by_cases q5 : v = 3736683
  · right; exact ⟨5, by decide, by rw [if_neg q0, if_neg q1, if_neg q2, if_neg q3, if_neg q4, if_pos q5]; rfl, q5⟩
  by_cases q6 : v = 6897268
  · right; exact ⟨6, by decide, by rw [if_neg q0, if_neg q1, if_neg q2, if_neg q3, if_neg q4, if_neg q5, if_pos q6]; rfl, q6⟩
  by_cases q7 : v = 70706
  · right; exact ⟨7, by decide, by rw [if_neg q0, if_neg q1, if_neg q2, if_neg q3, if_neg q4, if_neg q5, if_neg q6, if_pos q7]; rfl, q7⟩
  by_cases q8 : v = 20201029
  · right; exact ⟨8, by decide, by rw [if_neg q0, if_neg q1, if_neg q2, if_neg q3, if_neg q4, if_neg q5, if_neg q6, if_neg q7, if_pos q8]; rfl, q8⟩
  by_cases q9 : v = 631280
  · right; exact ⟨9, by decide, by rw [if_neg q0, if_neg q1, if_neg q2, if_neg q3, if_neg q4, if_neg q5, if_neg q6, if_neg q7, if_neg q8, if_pos q9]; rfl, q9⟩
  by_cases q10 : v = 12748404
  · right; exact ⟨10, by decide, by rw [if_neg q0, if_neg q1, if_neg q2, if_neg q3, if_neg q4, if_neg q5, if_neg q6, if_neg q7, if_neg q8, if_neg q9, if_pos q10]; rfl, q10⟩
  by_cases q11 : v = 1574484
  · right; exact ⟨11, by decide, by rw [if_neg q0, if_neg q1, if_neg q2, if_neg q3, if_neg q4, if_neg q5, if_neg q6, if_neg q7, if_neg q8, if_neg q9, if_neg q10, if_pos q11]; rfl, q11⟩
  by_cases q12 : v = 20186693
  · right; exact ⟨12, by decide, by rw [if_neg q0, if_neg q1, if_neg q2, if_neg q3, if_neg q4, if_neg q5, if_neg q6, if_neg q7, if_neg q8, if_neg q9, if_neg q10, if_neg q11, if_pos q12]; rfl, q12⟩
  by_cases q13 : v = 595412
  · right; exact ⟨13, by decide, by rw [if_neg q0, if_neg q1, if_neg q2, if_neg q3, if_neg q4, if_neg q5, if_neg q6, if_neg q7, if_neg q8, if_neg q9, if_neg q10, if_neg q11, if_neg q12, if_pos q13]; rfl, q13⟩
  by_cases q14 : v = 394693
  · right; exact ⟨14, by decide, by rw [if_neg q0, if_neg q1, if_neg q2, if_neg q3, if_neg q4, if_neg q5, if_neg q6, if_neg q7, if_neg q8, if_neg q9, if_neg q10, if_neg q11, if_neg q12, if_neg q13, if_pos q14]; rfl, q14⟩
  by_cases q15 : v = 2098
  · right; exact ⟨15, by decide, by rw [if_neg q0, if_neg q1, if_neg q2, if_neg q3, if_neg q4, if_neg q5, if_neg q6, if_neg q7, if_neg q8, if_neg q9, if_neg q10, if_neg q11, if_neg q12, if_neg q13, if_neg q14, if_pos q15]; rfl, q15⟩
  by_cases q16 : v = 4153
  · right; exact ⟨16, by decide, by rw [if_neg q0, if_neg q1, if_neg q2, if_neg q3, if_neg q4, if_neg q5, if_neg q6, if_neg q7, if_neg q8, if_neg q9, if_neg q10, if_neg q11, if_neg q12, if_neg q13, if_neg q14, if_neg q15, if_pos q16]; rfl, q16⟩
  by_cases q17 : v = 442053
  · right; exact ⟨17, by decide, by rw [if_neg q0, if_neg q1, if_neg q2, if_neg q3, if_neg q4, if_neg q5, if_neg q6, if_neg q7, if_neg q8, if_neg q9, if_neg q10, if_neg q11, if_neg q12, if_neg q13, if_neg q14, if_neg q15, if_neg q16, if_pos q17]; rfl, q17⟩
  by_cases q18 : v = 15558
  · right; exact ⟨18, by decide, by rw [if_neg q0, if_neg q1, if_neg q2, if_neg q3, if_neg q4, if_neg q5, if_neg q6, if_neg q7, if_neg q8, if_neg q9, if_neg q10, if_neg q11, if_neg q12, if_neg q13, if_neg q14, if_neg q15, if_neg q16, if_neg q17, if_pos q18]; rfl, q18⟩
  by_cases q19 : v = 239
  · right; exact ⟨19, by decide, by rw [if_neg q0, if_neg q1, if_neg q2, if_neg q3, if_neg q4, if_neg q5, if_neg q6, if_neg q7, if_neg q8, if_neg q9, if_neg q10, if_neg q11, if_neg q12, if_neg q13, if_neg q14, if_neg q15, if_neg q16, if_neg q17, if_neg q18, if_pos q19]; rfl, q19⟩
  by_cases q20 : v = 20681904
  · right; exact ⟨20, by decide, by rw [if_neg q0, if_neg q1, if_neg q2, if_neg q3, if_neg q4, if_neg q5, if_neg q6, if_neg q7, if_neg q8, if_neg q9, if_neg q10, if_neg q11, if_neg q12, if_neg q13, if_neg q14, if_neg q15, if_neg q16, if_neg q17, if_neg q18, if_neg q19, if_pos q20]; rfl, q20⟩
  left
  rw [if_neg q0, if_neg q1, if_neg q2, if_neg q3, if_neg q4, if_neg q5, if_neg q6, if_neg q7, if_neg q8, if_neg q9, if_neg q10, if_neg q11, if_neg q12, if_neg q13, if_neg q14, if_neg q15, if_neg q16, if_neg q17, if_neg q18, if_neg q19, if_neg q20]
theorem wl_l : ∀ l, l < 21 → wl (cdW l) = l := by decide
section Tb
variable {B : Nat → Int} {n : Nat} {P : Int → Bool}
theorem rnn_s {p : Nat} (h : p < n) (k : P (B p) = true) : rnn B n P p = rnn B n P (p + 1) := by
  unfold rnn
  rw [show n - p = (n - (p + 1)) + 1 by omega, rnf, if_pos k]
theorem rnn_e1 {p : Nat} (h : n ≤ p) : rnn B n P p = p := by
  unfold rnn
  rw [show n - p = 0 by omega]; rfl
theorem rnn_e2 {p : Nat} (k : P (B p) = false) : rnn B n P p = p := by
  by_cases h : n ≤ p
  · exact rnn_e1 h
  · unfold rnn
    rw [show n - p = (n - (p + 1)) + 1 by omega, rnf, if_neg (by rw [k]; decide)]
theorem rnn_ok : ∀ {d p : Nat}, n - p = d → p ≤ rnn B n P p ∧ (p ≤ n → rnn B n P p ≤ n) ∧ (∀ i, p ≤ i → i < rnn B n P p → P (B i) = true) ∧ (rnn B n P p < n → P (B (rnn B n P p)) = false)
  | 0, p, h => by
    rw [rnn_e1 (by omega)]
    exact ⟨Nat.le_refl _, fun h => h, fun i a b => by omega, fun a => by omega⟩
  | d + 1, p, h => by
    cases k : P (B p) with
    | false =>
      rw [rnn_e2 k]
      exact ⟨Nat.le_refl _, fun h => h, fun i a b => by omega, fun _ => k⟩
    | true =>
      rw [rnn_s (by omega) k]
      obtain ⟨i1, i2, i3, i4⟩ := rnn_ok (d := d) (p := p + 1) (by omega)
      refine ⟨by omega, fun _ => i2 (by omega), fun i a b => ?_, i4⟩
      by_cases e : i = p
      · rw [e]; exact k
      · exact i3 i (by omega) b
theorem bl_i {x : Int} : bl x = true ↔ x = 32 ∨ x = 10 := by unfold bl; simp
theorem lt_i {x : Int} : lt_ x = true ↔ 97 ≤ x ∧ x ≤ 122 := by unfold lt_; simp
theorem dg_i {x : Int} : dg x = true ↔ 48 ≤ x ∧ x ≤ 57 := by unfold dg; simp
theorem bf {b : Bool} : b = false ↔ ¬ b = true := by cases b <;> simp
theorem skb_ok {p : Nat} (h : p ≤ n) : p ≤ skb B n p ∧ skb B n p ≤ n ∧ (skb B n p < n → ¬ (B (skb B n p) = 32 ∨ B (skb B n p) = 10)) := by
  obtain ⟨a, b, c, d⟩ := rnn_ok (B := B) (n := n) (P := bl) (p := p) rfl
  exact ⟨a, b h, fun y => by have := d y; rw [bf, bl_i] at this; exact this⟩
/-- where a token ends -/
theorem af_ok {s : Nat} (h : s ≤ n) : af B n s ≤ n ∧ s ≤ af B n s ∧ (s < n → s < af B n s) ∧ (kd B n s = 0 → s = n) ∧ (kd B n s = 2 → (af B n s = s + 1 ∨ af B n s = s + 2) ∧ dg (B s) = true ∧ (af B n s < n → dg (B (af B n s)) = false)) ∧ (kd B n s ≠ 0 → s < n) := by
  unfold af kd
  by_cases q : n ≤ s
  · rw [if_pos q, if_pos q]
    exact ⟨Nat.le_refl _, h, fun y => by omega, fun _ => by omega, fun y => by omega, fun y => absurd rfl y⟩
  · rw [if_neg q, if_neg q]
    by_cases q1 : lt_ (B s) = true
    · rw [if_pos q1, if_pos q1, rnn_s (by omega) q1]
      obtain ⟨a, b, c, d⟩ := rnn_ok (B := B) (n := n) (P := lt_) (p := s + 1) rfl
      exact ⟨b (by omega), by omega, fun _ => by omega, fun y => by omega, fun y => by omega, fun _ => by omega⟩
    · rw [if_neg q1, if_neg q1]
      by_cases q2 : dg (B s) = true
      · rw [if_pos q2, if_pos q2, rnn_s (by omega) q2]
        obtain ⟨a, b, c, d⟩ := rnn_ok (B := B) (n := n) (P := dg) (p := s + 1) rfl
        refine ⟨b (by omega), by omega, fun _ => by omega, fun y => ?_, fun y => ⟨?_, q2, d⟩, fun _ => by omega⟩
        · split at y <;> omega
        · split at y <;> omega
      · rw [if_neg q2, if_neg q2]
        refine ⟨by omega, by omega, fun _ => by omega, fun y => ?_, fun y => ?_, fun _ => by omega⟩
        · split at y
          · omega
          · split at y <;> omega
        · split at y
          · omega
          · split at y <;> omega
/-- the next token's place -/
def nx (B : Nat → Int) (n s : Nat) : Nat := skb B n (af B n s)
theorem nx_ok {s : Nat} (h : s ≤ n) : nx B n s ≤ n ∧ s ≤ nx B n s ∧ (kd B n s ≠ 0 → s < nx B n s) ∧ (kd B n s = 2 → kd B n (nx B n s) = 2 → s + 2 ≤ nx B n s) ∧ af B n s ≤ nx B n s := by
  obtain ⟨a1, a2, a3, a4, a5, a6⟩ := af_ok (B := B) h
  obtain ⟨b1, b2, b3⟩ := skb_ok (B := B) a1
  unfold nx
  refine ⟨b2, by omega, fun y => by have := a3 (a6 y); omega, fun y y2 => ?_, b1⟩
  obtain ⟨c1, c2, c3⟩ := a5 y
  obtain ⟨d1, d2, d3, d4, d5, d6⟩ := af_ok (B := B) b2
  obtain ⟨e1, e2, e3⟩ := d5 y2
  by_cases e : skb B n (af B n s) = af B n s
  · rw [e] at e2 d6
    have := c3 (d6 (by rw [e] at y2; omega))
    rw [this] at e2; cases e2
  · omega
theorem vl_r {s : Nat} (h : s ≤ n) (k : kd B n s = 2) : 0 ≤ vl B n s ∧ vl B n s ≤ 99 := by
  obtain ⟨a1, a2, a3, a4, a5, a6⟩ := af_ok (B := B) h
  obtain ⟨c1, c2, c3⟩ := a5 k
  have c2' := dg_i.mp c2
  unfold vl
  split
  · omega
  · rename_i q
    have e : af B n s = rnn B n dg s := by
      have hk := k
      unfold kd at hk
      unfold af
      by_cases q0 : n ≤ s
      · rw [if_pos q0] at hk; omega
      · rw [if_neg q0] at hk ⊢
        by_cases q1 : lt_ (B s) = true
        · rw [if_pos q1] at hk; omega
        · rw [if_neg q1, if_pos c2]
    have := (rnn_ok (B := B) (n := n) (P := dg) (p := s) rfl).2.2.1 (s + 1) (by omega) (by omega)
    have := dg_i.mp this
    omega
end Tb
