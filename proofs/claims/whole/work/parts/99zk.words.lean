/-! words -/
section Tc
variable {B : Nat → Int} {n s : Nat}
def lnw (l : Nat) : Nat := [4, 3, 3, 4, 4, 5, 5, 4, 5, 4, 5, 5, 5, 4, 4, 3, 3, 4, 3, 2, 5].getD l 0
def chw (l i : Nat) : Int := ([[115, 105, 122, 101], [97, 108, 108], [105, 99, 101], [115, 110, 111, 119], [119, 101, 97, 107], [99, 114, 97, 99, 107], [102, 114, 111, 115, 116], [98, 101, 97, 114], [115, 104, 111, 114, 101], [115, 104, 111, 112], [108, 101, 97, 115, 116], [97, 112, 97, 114, 116], [115, 104, 97, 114, 101], [114, 101, 110, 116], [108, 97, 110, 101], [98, 97, 114], [100, 97, 121], [109, 111, 118, 101], [111, 102, 102], [103, 111], [115, 119, 101, 101, 112]].getD l []).getD i 0
theorem wv_s {k : Nat} : wv B s (k + 1) = 32 * wv B s k + B (s + k) - 96 := rfl
theorem wv_0 : wv B s 0 = 0 := rfl
theorem wd_0 {m : Nat} (m1 : 1 ≤ m) (m5 : m ≤ 5) (h : ∀ i, i < m → 97 ≤ B (s + i) ∧ B (s + i) ≤ 122) : wv B s m = 632645 ↔ (m = 4 ∧ B (s + 0) = 115 ∧ B (s + 1) = 105 ∧ B (s + 2) = 122 ∧ B (s + 3) = 101) := by
  have e0 : wv B s 1 = 32 * wv B s 0 + B (s + 0) - 96 := rfl
  have e1 : wv B s 2 = 32 * wv B s 1 + B (s + 1) - 96 := rfl
  have e2 : wv B s 3 = 32 * wv B s 2 + B (s + 2) - 96 := rfl
  have e3 : wv B s 4 = 32 * wv B s 3 + B (s + 3) - 96 := rfl
  have e4 : wv B s 5 = 32 * wv B s 4 + B (s + 4) - 96 := rfl
  have z := wv_0 (B := B) (s := s)
  constructor
  · intro q
    rcases (show m = 1 ∨ m = 2 ∨ m = 3 ∨ m = 4 ∨ m = 5 by omega) with rfl | rfl | rfl | rfl | rfl
    · have q1 : wv B s 1 = 632645 := q
      have h0 := h 0 (by omega)
      have q0 : wv B s 0 = 19770 := by clear e1 e2 e3 e4; omega
      have b0 : B (s + 0) = 101 := by clear e1 e2 e3 e4; omega
      exfalso; omega
    · have q2 : wv B s 2 = 632645 := q
      have h1 := h 1 (by omega)
      have q1 : wv B s 1 = 19770 := by clear e0 e2 e3 e4; omega
      have b1 : B (s + 1) = 101 := by clear e0 e2 e3 e4; omega
      have h0 := h 0 (by omega)
      have q0 : wv B s 0 = 617 := by clear e1 e2 e3 e4; omega
      have b0 : B (s + 0) = 122 := by clear e1 e2 e3 e4; omega
      exfalso; omega
    · have q3 : wv B s 3 = 632645 := q
      have h2 := h 2 (by omega)
      have q2 : wv B s 2 = 19770 := by clear e0 e1 e3 e4; omega
      have b2 : B (s + 2) = 101 := by clear e0 e1 e3 e4; omega
      have h1 := h 1 (by omega)
      have q1 : wv B s 1 = 617 := by clear e0 e2 e3 e4; omega
      have b1 : B (s + 1) = 122 := by clear e0 e2 e3 e4; omega
      have h0 := h 0 (by omega)
      have q0 : wv B s 0 = 19 := by clear e1 e2 e3 e4; omega
      have b0 : B (s + 0) = 105 := by clear e1 e2 e3 e4; omega
      exfalso; omega
    · have q4 : wv B s 4 = 632645 := q
      have h3 := h 3 (by omega)
      have q3 : wv B s 3 = 19770 := by clear e0 e1 e2 e4; omega
      have b3 : B (s + 3) = 101 := by clear e0 e1 e2 e4; omega
      have h2 := h 2 (by omega)
      have q2 : wv B s 2 = 617 := by clear e0 e1 e3 e4; omega
      have b2 : B (s + 2) = 122 := by clear e0 e1 e3 e4; omega
      have h1 := h 1 (by omega)
      have q1 : wv B s 1 = 19 := by clear e0 e2 e3 e4; omega
      have b1 : B (s + 1) = 105 := by clear e0 e2 e3 e4; omega
      have h0 := h 0 (by omega)
      have q0 : wv B s 0 = 0 := by clear e1 e2 e3 e4; omega
      have b0 : B (s + 0) = 115 := by clear e1 e2 e3 e4; omega
      exact ⟨rfl, b0, b1, b2, b3⟩
    · have q5 : wv B s 5 = 632645 := q
      have h4 := h 4 (by omega)
      have q4 : wv B s 4 = 19770 := by clear e0 e1 e2 e3; omega
      have b4 : B (s + 4) = 101 := by clear e0 e1 e2 e3; omega
      have h3 := h 3 (by omega)
      have q3 : wv B s 3 = 617 := by clear e0 e1 e2 e4; omega
      have b3 : B (s + 3) = 122 := by clear e0 e1 e2 e4; omega
      have h2 := h 2 (by omega)
      have q2 : wv B s 2 = 19 := by clear e0 e1 e3 e4; omega
      have b2 : B (s + 2) = 105 := by clear e0 e1 e3 e4; omega
      have h1 := h 1 (by omega)
      have q1 : wv B s 1 = 0 := by clear e0 e2 e3 e4; omega
      have b1 : B (s + 1) = 115 := by clear e0 e2 e3 e4; omega
      have h0 := h 0 (by omega)
      exfalso; clear e1 e2 e3 e4; omega
  · intro ⟨q, b0, b1, b2, b3⟩
    subst q
    rw [e3, e2, e1, e0, z, b0, b1, b2, b3]
    rfl
theorem wd_1 {m : Nat} (m1 : 1 ≤ m) (m5 : m ≤ 5) (h : ∀ i, i < m → 97 ≤ B (s + i) ∧ B (s + i) ≤ 122) : wv B s m = 1420 ↔ (m = 3 ∧ B (s + 0) = 97 ∧ B (s + 1) = 108 ∧ B (s + 2) = 108) := by
  have e0 : wv B s 1 = 32 * wv B s 0 + B (s + 0) - 96 := rfl
  have e1 : wv B s 2 = 32 * wv B s 1 + B (s + 1) - 96 := rfl
  have e2 : wv B s 3 = 32 * wv B s 2 + B (s + 2) - 96 := rfl
  have e3 : wv B s 4 = 32 * wv B s 3 + B (s + 3) - 96 := rfl
  have e4 : wv B s 5 = 32 * wv B s 4 + B (s + 4) - 96 := rfl
  have z := wv_0 (B := B) (s := s)
  constructor
  · intro q
    rcases (show m = 1 ∨ m = 2 ∨ m = 3 ∨ m = 4 ∨ m = 5 by omega) with rfl | rfl | rfl | rfl | rfl
    · have q1 : wv B s 1 = 1420 := q
      have h0 := h 0 (by omega)
      have q0 : wv B s 0 = 44 := by clear e1 e2 e3 e4; omega
      have b0 : B (s + 0) = 108 := by clear e1 e2 e3 e4; omega
      exfalso; omega
    · have q2 : wv B s 2 = 1420 := q
      have h1 := h 1 (by omega)
      have q1 : wv B s 1 = 44 := by clear e0 e2 e3 e4; omega
      have b1 : B (s + 1) = 108 := by clear e0 e2 e3 e4; omega
      have h0 := h 0 (by omega)
      have q0 : wv B s 0 = 1 := by clear e1 e2 e3 e4; omega
      have b0 : B (s + 0) = 108 := by clear e1 e2 e3 e4; omega
      exfalso; omega
    · have q3 : wv B s 3 = 1420 := q
      have h2 := h 2 (by omega)
      have q2 : wv B s 2 = 44 := by clear e0 e1 e3 e4; omega
      have b2 : B (s + 2) = 108 := by clear e0 e1 e3 e4; omega
      have h1 := h 1 (by omega)
      have q1 : wv B s 1 = 1 := by clear e0 e2 e3 e4; omega
      have b1 : B (s + 1) = 108 := by clear e0 e2 e3 e4; omega
      have h0 := h 0 (by omega)
      have q0 : wv B s 0 = 0 := by clear e1 e2 e3 e4; omega
      have b0 : B (s + 0) = 97 := by clear e1 e2 e3 e4; omega
      exact ⟨rfl, b0, b1, b2⟩
    · have q4 : wv B s 4 = 1420 := q
      have h3 := h 3 (by omega)
      have q3 : wv B s 3 = 44 := by clear e0 e1 e2 e4; omega
      have b3 : B (s + 3) = 108 := by clear e0 e1 e2 e4; omega
      have h2 := h 2 (by omega)
      have q2 : wv B s 2 = 1 := by clear e0 e1 e3 e4; omega
      have b2 : B (s + 2) = 108 := by clear e0 e1 e3 e4; omega
      have h1 := h 1 (by omega)
      have q1 : wv B s 1 = 0 := by clear e0 e2 e3 e4; omega
      have b1 : B (s + 1) = 97 := by clear e0 e2 e3 e4; omega
      have h0 := h 0 (by omega)
      exfalso; clear e1 e2 e3 e4; omega
    · have q5 : wv B s 5 = 1420 := q
      have h4 := h 4 (by omega)
      have q4 : wv B s 4 = 44 := by clear e0 e1 e2 e3; omega
      have b4 : B (s + 4) = 108 := by clear e0 e1 e2 e3; omega
      have h3 := h 3 (by omega)
      have q3 : wv B s 3 = 1 := by clear e0 e1 e2 e4; omega
      have b3 : B (s + 3) = 108 := by clear e0 e1 e2 e4; omega
      have h2 := h 2 (by omega)
      have q2 : wv B s 2 = 0 := by clear e0 e1 e3 e4; omega
      have b2 : B (s + 2) = 97 := by clear e0 e1 e3 e4; omega
      have h1 := h 1 (by omega)
      exfalso; clear e0 e2 e3 e4; omega
  · intro ⟨q, b0, b1, b2⟩
    subst q
    rw [e2, e1, e0, z, b0, b1, b2]
    rfl
theorem wd_2 {m : Nat} (m1 : 1 ≤ m) (m5 : m ≤ 5) (h : ∀ i, i < m → 97 ≤ B (s + i) ∧ B (s + i) ≤ 122) : wv B s m = 9317 ↔ (m = 3 ∧ B (s + 0) = 105 ∧ B (s + 1) = 99 ∧ B (s + 2) = 101) := by
  have e0 : wv B s 1 = 32 * wv B s 0 + B (s + 0) - 96 := rfl
  have e1 : wv B s 2 = 32 * wv B s 1 + B (s + 1) - 96 := rfl
  have e2 : wv B s 3 = 32 * wv B s 2 + B (s + 2) - 96 := rfl
  have e3 : wv B s 4 = 32 * wv B s 3 + B (s + 3) - 96 := rfl
  have e4 : wv B s 5 = 32 * wv B s 4 + B (s + 4) - 96 := rfl
  have z := wv_0 (B := B) (s := s)
  constructor
  · intro q
    rcases (show m = 1 ∨ m = 2 ∨ m = 3 ∨ m = 4 ∨ m = 5 by omega) with rfl | rfl | rfl | rfl | rfl
    · have q1 : wv B s 1 = 9317 := q
      have h0 := h 0 (by omega)
      have q0 : wv B s 0 = 291 := by clear e1 e2 e3 e4; omega
      have b0 : B (s + 0) = 101 := by clear e1 e2 e3 e4; omega
      exfalso; omega
    · have q2 : wv B s 2 = 9317 := q
      have h1 := h 1 (by omega)
      have q1 : wv B s 1 = 291 := by clear e0 e2 e3 e4; omega
      have b1 : B (s + 1) = 101 := by clear e0 e2 e3 e4; omega
      have h0 := h 0 (by omega)
      have q0 : wv B s 0 = 9 := by clear e1 e2 e3 e4; omega
      have b0 : B (s + 0) = 99 := by clear e1 e2 e3 e4; omega
      exfalso; omega
    · have q3 : wv B s 3 = 9317 := q
      have h2 := h 2 (by omega)
      have q2 : wv B s 2 = 291 := by clear e0 e1 e3 e4; omega
      have b2 : B (s + 2) = 101 := by clear e0 e1 e3 e4; omega
      have h1 := h 1 (by omega)
      have q1 : wv B s 1 = 9 := by clear e0 e2 e3 e4; omega
      have b1 : B (s + 1) = 99 := by clear e0 e2 e3 e4; omega
      have h0 := h 0 (by omega)
      have q0 : wv B s 0 = 0 := by clear e1 e2 e3 e4; omega
      have b0 : B (s + 0) = 105 := by clear e1 e2 e3 e4; omega
      exact ⟨rfl, b0, b1, b2⟩
    · have q4 : wv B s 4 = 9317 := q
      have h3 := h 3 (by omega)
      have q3 : wv B s 3 = 291 := by clear e0 e1 e2 e4; omega
      have b3 : B (s + 3) = 101 := by clear e0 e1 e2 e4; omega
      have h2 := h 2 (by omega)
      have q2 : wv B s 2 = 9 := by clear e0 e1 e3 e4; omega
      have b2 : B (s + 2) = 99 := by clear e0 e1 e3 e4; omega
      have h1 := h 1 (by omega)
      have q1 : wv B s 1 = 0 := by clear e0 e2 e3 e4; omega
      have b1 : B (s + 1) = 105 := by clear e0 e2 e3 e4; omega
      have h0 := h 0 (by omega)
      exfalso; clear e1 e2 e3 e4; omega
    · have q5 : wv B s 5 = 9317 := q
      have h4 := h 4 (by omega)
      have q4 : wv B s 4 = 291 := by clear e0 e1 e2 e3; omega
      have b4 : B (s + 4) = 101 := by clear e0 e1 e2 e3; omega
      have h3 := h 3 (by omega)
      have q3 : wv B s 3 = 9 := by clear e0 e1 e2 e4; omega
      have b3 : B (s + 3) = 99 := by clear e0 e1 e2 e4; omega
      have h2 := h 2 (by omega)
      have q2 : wv B s 2 = 0 := by clear e0 e1 e3 e4; omega
      have b2 : B (s + 2) = 105 := by clear e0 e1 e3 e4; omega
      have h1 := h 1 (by omega)
      exfalso; clear e0 e2 e3 e4; omega
  · intro ⟨q, b0, b1, b2⟩
    subst q
    rw [e2, e1, e0, z, b0, b1, b2]
    rfl
theorem wd_3 {m : Nat} (m1 : 1 ≤ m) (m5 : m ≤ 5) (h : ∀ i, i < m → 97 ≤ B (s + i) ∧ B (s + i) ≤ 122) : wv B s m = 637431 ↔ (m = 4 ∧ B (s + 0) = 115 ∧ B (s + 1) = 110 ∧ B (s + 2) = 111 ∧ B (s + 3) = 119) := by
  have e0 : wv B s 1 = 32 * wv B s 0 + B (s + 0) - 96 := rfl
  have e1 : wv B s 2 = 32 * wv B s 1 + B (s + 1) - 96 := rfl
  have e2 : wv B s 3 = 32 * wv B s 2 + B (s + 2) - 96 := rfl
  have e3 : wv B s 4 = 32 * wv B s 3 + B (s + 3) - 96 := rfl
  have e4 : wv B s 5 = 32 * wv B s 4 + B (s + 4) - 96 := rfl
  have z := wv_0 (B := B) (s := s)
  constructor
  · intro q
    rcases (show m = 1 ∨ m = 2 ∨ m = 3 ∨ m = 4 ∨ m = 5 by omega) with rfl | rfl | rfl | rfl | rfl
    · have q1 : wv B s 1 = 637431 := q
      have h0 := h 0 (by omega)
      have q0 : wv B s 0 = 19919 := by clear e1 e2 e3 e4; omega
      have b0 : B (s + 0) = 119 := by clear e1 e2 e3 e4; omega
      exfalso; omega
    · have q2 : wv B s 2 = 637431 := q
      have h1 := h 1 (by omega)
      have q1 : wv B s 1 = 19919 := by clear e0 e2 e3 e4; omega
      have b1 : B (s + 1) = 119 := by clear e0 e2 e3 e4; omega
      have h0 := h 0 (by omega)
      have q0 : wv B s 0 = 622 := by clear e1 e2 e3 e4; omega
      have b0 : B (s + 0) = 111 := by clear e1 e2 e3 e4; omega
      exfalso; omega
    · have q3 : wv B s 3 = 637431 := q
      have h2 := h 2 (by omega)
      have q2 : wv B s 2 = 19919 := by clear e0 e1 e3 e4; omega
      have b2 : B (s + 2) = 119 := by clear e0 e1 e3 e4; omega
      have h1 := h 1 (by omega)
      have q1 : wv B s 1 = 622 := by clear e0 e2 e3 e4; omega
      have b1 : B (s + 1) = 111 := by clear e0 e2 e3 e4; omega
      have h0 := h 0 (by omega)
      have q0 : wv B s 0 = 19 := by clear e1 e2 e3 e4; omega
      have b0 : B (s + 0) = 110 := by clear e1 e2 e3 e4; omega
      exfalso; omega
    · have q4 : wv B s 4 = 637431 := q
      have h3 := h 3 (by omega)
      have q3 : wv B s 3 = 19919 := by clear e0 e1 e2 e4; omega
      have b3 : B (s + 3) = 119 := by clear e0 e1 e2 e4; omega
      have h2 := h 2 (by omega)
      have q2 : wv B s 2 = 622 := by clear e0 e1 e3 e4; omega
      have b2 : B (s + 2) = 111 := by clear e0 e1 e3 e4; omega
      have h1 := h 1 (by omega)
      have q1 : wv B s 1 = 19 := by clear e0 e2 e3 e4; omega
      have b1 : B (s + 1) = 110 := by clear e0 e2 e3 e4; omega
      have h0 := h 0 (by omega)
      have q0 : wv B s 0 = 0 := by clear e1 e2 e3 e4; omega
      have b0 : B (s + 0) = 115 := by clear e1 e2 e3 e4; omega
      exact ⟨rfl, b0, b1, b2, b3⟩
    · have q5 : wv B s 5 = 637431 := q
      have h4 := h 4 (by omega)
      have q4 : wv B s 4 = 19919 := by clear e0 e1 e2 e3; omega
      have b4 : B (s + 4) = 119 := by clear e0 e1 e2 e3; omega
      have h3 := h 3 (by omega)
      have q3 : wv B s 3 = 622 := by clear e0 e1 e2 e4; omega
      have b3 : B (s + 3) = 111 := by clear e0 e1 e2 e4; omega
      have h2 := h 2 (by omega)
      have q2 : wv B s 2 = 19 := by clear e0 e1 e3 e4; omega
      have b2 : B (s + 2) = 110 := by clear e0 e1 e3 e4; omega
      have h1 := h 1 (by omega)
      have q1 : wv B s 1 = 0 := by clear e0 e2 e3 e4; omega
      have b1 : B (s + 1) = 115 := by clear e0 e2 e3 e4; omega
      have h0 := h 0 (by omega)
      exfalso; clear e1 e2 e3 e4; omega
  · intro ⟨q, b0, b1, b2, b3⟩
    subst q
    rw [e3, e2, e1, e0, z, b0, b1, b2, b3]
    rfl
theorem wd_4 {m : Nat} (m1 : 1 ≤ m) (m5 : m ≤ 5) (h : ∀ i, i < m → 97 ≤ B (s + i) ∧ B (s + i) ≤ 122) : wv B s m = 758827 ↔ (m = 4 ∧ B (s + 0) = 119 ∧ B (s + 1) = 101 ∧ B (s + 2) = 97 ∧ B (s + 3) = 107) := by
  have e0 : wv B s 1 = 32 * wv B s 0 + B (s + 0) - 96 := rfl
  have e1 : wv B s 2 = 32 * wv B s 1 + B (s + 1) - 96 := rfl
  have e2 : wv B s 3 = 32 * wv B s 2 + B (s + 2) - 96 := rfl
  have e3 : wv B s 4 = 32 * wv B s 3 + B (s + 3) - 96 := rfl
  have e4 : wv B s 5 = 32 * wv B s 4 + B (s + 4) - 96 := rfl
  have z := wv_0 (B := B) (s := s)
  constructor
  · intro q
    rcases (show m = 1 ∨ m = 2 ∨ m = 3 ∨ m = 4 ∨ m = 5 by omega) with rfl | rfl | rfl | rfl | rfl
    · have q1 : wv B s 1 = 758827 := q
      have h0 := h 0 (by omega)
      have q0 : wv B s 0 = 23713 := by clear e1 e2 e3 e4; omega
      have b0 : B (s + 0) = 107 := by clear e1 e2 e3 e4; omega
      exfalso; omega
    · have q2 : wv B s 2 = 758827 := q
      have h1 := h 1 (by omega)
      have q1 : wv B s 1 = 23713 := by clear e0 e2 e3 e4; omega
      have b1 : B (s + 1) = 107 := by clear e0 e2 e3 e4; omega
      have h0 := h 0 (by omega)
      have q0 : wv B s 0 = 741 := by clear e1 e2 e3 e4; omega
      have b0 : B (s + 0) = 97 := by clear e1 e2 e3 e4; omega
      exfalso; omega
    · have q3 : wv B s 3 = 758827 := q
      have h2 := h 2 (by omega)
      have q2 : wv B s 2 = 23713 := by clear e0 e1 e3 e4; omega
      have b2 : B (s + 2) = 107 := by clear e0 e1 e3 e4; omega
      have h1 := h 1 (by omega)
      have q1 : wv B s 1 = 741 := by clear e0 e2 e3 e4; omega
      have b1 : B (s + 1) = 97 := by clear e0 e2 e3 e4; omega
      have h0 := h 0 (by omega)
      have q0 : wv B s 0 = 23 := by clear e1 e2 e3 e4; omega
      have b0 : B (s + 0) = 101 := by clear e1 e2 e3 e4; omega
      exfalso; omega
    · have q4 : wv B s 4 = 758827 := q
      have h3 := h 3 (by omega)
      have q3 : wv B s 3 = 23713 := by clear e0 e1 e2 e4; omega
      have b3 : B (s + 3) = 107 := by clear e0 e1 e2 e4; omega
      have h2 := h 2 (by omega)
      have q2 : wv B s 2 = 741 := by clear e0 e1 e3 e4; omega
      have b2 : B (s + 2) = 97 := by clear e0 e1 e3 e4; omega
      have h1 := h 1 (by omega)
      have q1 : wv B s 1 = 23 := by clear e0 e2 e3 e4; omega
      have b1 : B (s + 1) = 101 := by clear e0 e2 e3 e4; omega
      have h0 := h 0 (by omega)
      have q0 : wv B s 0 = 0 := by clear e1 e2 e3 e4; omega
      have b0 : B (s + 0) = 119 := by clear e1 e2 e3 e4; omega
      exact ⟨rfl, b0, b1, b2, b3⟩
    · have q5 : wv B s 5 = 758827 := q
      have h4 := h 4 (by omega)
      have q4 : wv B s 4 = 23713 := by clear e0 e1 e2 e3; omega
      have b4 : B (s + 4) = 107 := by clear e0 e1 e2 e3; omega
      have h3 := h 3 (by omega)
      have q3 : wv B s 3 = 741 := by clear e0 e1 e2 e4; omega
      have b3 : B (s + 3) = 97 := by clear e0 e1 e2 e4; omega
      have h2 := h 2 (by omega)
      have q2 : wv B s 2 = 23 := by clear e0 e1 e3 e4; omega
      have b2 : B (s + 2) = 101 := by clear e0 e1 e3 e4; omega
      have h1 := h 1 (by omega)
      have q1 : wv B s 1 = 0 := by clear e0 e2 e3 e4; omega
      have b1 : B (s + 1) = 119 := by clear e0 e2 e3 e4; omega
      have h0 := h 0 (by omega)
      exfalso; clear e1 e2 e3 e4; omega
  · intro ⟨q, b0, b1, b2, b3⟩
    subst q
    rw [e3, e2, e1, e0, z, b0, b1, b2, b3]
    rfl
theorem wd_5 {m : Nat} (m1 : 1 ≤ m) (m5 : m ≤ 5) (h : ∀ i, i < m → 97 ≤ B (s + i) ∧ B (s + i) ≤ 122) : wv B s m = 3736683 ↔ (m = 5 ∧ B (s + 0) = 99 ∧ B (s + 1) = 114 ∧ B (s + 2) = 97 ∧ B (s + 3) = 99 ∧ B (s + 4) = 107) := by
  have e0 : wv B s 1 = 32 * wv B s 0 + B (s + 0) - 96 := rfl
  have e1 : wv B s 2 = 32 * wv B s 1 + B (s + 1) - 96 := rfl
  have e2 : wv B s 3 = 32 * wv B s 2 + B (s + 2) - 96 := rfl
  have e3 : wv B s 4 = 32 * wv B s 3 + B (s + 3) - 96 := rfl
  have e4 : wv B s 5 = 32 * wv B s 4 + B (s + 4) - 96 := rfl
  have z := wv_0 (B := B) (s := s)
  constructor
  · intro q
    rcases (show m = 1 ∨ m = 2 ∨ m = 3 ∨ m = 4 ∨ m = 5 by omega) with rfl | rfl | rfl | rfl | rfl
    · have q1 : wv B s 1 = 3736683 := q
      have h0 := h 0 (by omega)
      have q0 : wv B s 0 = 116771 := by clear e1 e2 e3 e4; omega
      have b0 : B (s + 0) = 107 := by clear e1 e2 e3 e4; omega
      exfalso; omega
    · have q2 : wv B s 2 = 3736683 := q
      have h1 := h 1 (by omega)
      have q1 : wv B s 1 = 116771 := by clear e0 e2 e3 e4; omega
      have b1 : B (s + 1) = 107 := by clear e0 e2 e3 e4; omega
      have h0 := h 0 (by omega)
      have q0 : wv B s 0 = 3649 := by clear e1 e2 e3 e4; omega
      have b0 : B (s + 0) = 99 := by clear e1 e2 e3 e4; omega
      exfalso; omega
    · have q3 : wv B s 3 = 3736683 := q
      have h2 := h 2 (by omega)
      have q2 : wv B s 2 = 116771 := by clear e0 e1 e3 e4; omega
      have b2 : B (s + 2) = 107 := by clear e0 e1 e3 e4; omega
      have h1 := h 1 (by omega)
      have q1 : wv B s 1 = 3649 := by clear e0 e2 e3 e4; omega
      have b1 : B (s + 1) = 99 := by clear e0 e2 e3 e4; omega
      have h0 := h 0 (by omega)
      have q0 : wv B s 0 = 114 := by clear e1 e2 e3 e4; omega
      have b0 : B (s + 0) = 97 := by clear e1 e2 e3 e4; omega
      exfalso; omega
    · have q4 : wv B s 4 = 3736683 := q
      have h3 := h 3 (by omega)
      have q3 : wv B s 3 = 116771 := by clear e0 e1 e2 e4; omega
      have b3 : B (s + 3) = 107 := by clear e0 e1 e2 e4; omega
      have h2 := h 2 (by omega)
      have q2 : wv B s 2 = 3649 := by clear e0 e1 e3 e4; omega
      have b2 : B (s + 2) = 99 := by clear e0 e1 e3 e4; omega
      have h1 := h 1 (by omega)
      have q1 : wv B s 1 = 114 := by clear e0 e2 e3 e4; omega
      have b1 : B (s + 1) = 97 := by clear e0 e2 e3 e4; omega
      have h0 := h 0 (by omega)
      have q0 : wv B s 0 = 3 := by clear e1 e2 e3 e4; omega
      have b0 : B (s + 0) = 114 := by clear e1 e2 e3 e4; omega
      exfalso; omega
    · have q5 : wv B s 5 = 3736683 := q
      have h4 := h 4 (by omega)
      have q4 : wv B s 4 = 116771 := by clear e0 e1 e2 e3; omega
      have b4 : B (s + 4) = 107 := by clear e0 e1 e2 e3; omega
      have h3 := h 3 (by omega)
      have q3 : wv B s 3 = 3649 := by clear e0 e1 e2 e4; omega
      have b3 : B (s + 3) = 99 := by clear e0 e1 e2 e4; omega
      have h2 := h 2 (by omega)
      have q2 : wv B s 2 = 114 := by clear e0 e1 e3 e4; omega
      have b2 : B (s + 2) = 97 := by clear e0 e1 e3 e4; omega
      have h1 := h 1 (by omega)
      have q1 : wv B s 1 = 3 := by clear e0 e2 e3 e4; omega
      have b1 : B (s + 1) = 114 := by clear e0 e2 e3 e4; omega
      have h0 := h 0 (by omega)
      have q0 : wv B s 0 = 0 := by clear e1 e2 e3 e4; omega
      have b0 : B (s + 0) = 99 := by clear e1 e2 e3 e4; omega
      exact ⟨rfl, b0, b1, b2, b3, b4⟩
  · intro ⟨q, b0, b1, b2, b3, b4⟩
    subst q
    rw [e4, e3, e2, e1, e0, z, b0, b1, b2, b3, b4]
    rfl
theorem wd_6 {m : Nat} (m1 : 1 ≤ m) (m5 : m ≤ 5) (h : ∀ i, i < m → 97 ≤ B (s + i) ∧ B (s + i) ≤ 122) : wv B s m = 6897268 ↔ (m = 5 ∧ B (s + 0) = 102 ∧ B (s + 1) = 114 ∧ B (s + 2) = 111 ∧ B (s + 3) = 115 ∧ B (s + 4) = 116) := by
  have e0 : wv B s 1 = 32 * wv B s 0 + B (s + 0) - 96 := rfl
  have e1 : wv B s 2 = 32 * wv B s 1 + B (s + 1) - 96 := rfl
  have e2 : wv B s 3 = 32 * wv B s 2 + B (s + 2) - 96 := rfl
  have e3 : wv B s 4 = 32 * wv B s 3 + B (s + 3) - 96 := rfl
  have e4 : wv B s 5 = 32 * wv B s 4 + B (s + 4) - 96 := rfl
  have z := wv_0 (B := B) (s := s)
  constructor
  · intro q
    rcases (show m = 1 ∨ m = 2 ∨ m = 3 ∨ m = 4 ∨ m = 5 by omega) with rfl | rfl | rfl | rfl | rfl
    · have q1 : wv B s 1 = 6897268 := q
      have h0 := h 0 (by omega)
      have q0 : wv B s 0 = 215539 := by clear e1 e2 e3 e4; omega
      have b0 : B (s + 0) = 116 := by clear e1 e2 e3 e4; omega
      exfalso; omega
    · have q2 : wv B s 2 = 6897268 := q
      have h1 := h 1 (by omega)
      have q1 : wv B s 1 = 215539 := by clear e0 e2 e3 e4; omega
      have b1 : B (s + 1) = 116 := by clear e0 e2 e3 e4; omega
      have h0 := h 0 (by omega)
      have q0 : wv B s 0 = 6735 := by clear e1 e2 e3 e4; omega
      have b0 : B (s + 0) = 115 := by clear e1 e2 e3 e4; omega
      exfalso; omega
    · have q3 : wv B s 3 = 6897268 := q
      have h2 := h 2 (by omega)
      have q2 : wv B s 2 = 215539 := by clear e0 e1 e3 e4; omega
      have b2 : B (s + 2) = 116 := by clear e0 e1 e3 e4; omega
      have h1 := h 1 (by omega)
      have q1 : wv B s 1 = 6735 := by clear e0 e2 e3 e4; omega
      have b1 : B (s + 1) = 115 := by clear e0 e2 e3 e4; omega
      have h0 := h 0 (by omega)
      have q0 : wv B s 0 = 210 := by clear e1 e2 e3 e4; omega
      have b0 : B (s + 0) = 111 := by clear e1 e2 e3 e4; omega
      exfalso; omega
    · have q4 : wv B s 4 = 6897268 := q
      have h3 := h 3 (by omega)
      have q3 : wv B s 3 = 215539 := by clear e0 e1 e2 e4; omega
      have b3 : B (s + 3) = 116 := by clear e0 e1 e2 e4; omega
      have h2 := h 2 (by omega)
      have q2 : wv B s 2 = 6735 := by clear e0 e1 e3 e4; omega
      have b2 : B (s + 2) = 115 := by clear e0 e1 e3 e4; omega
      have h1 := h 1 (by omega)
      have q1 : wv B s 1 = 210 := by clear e0 e2 e3 e4; omega
      have b1 : B (s + 1) = 111 := by clear e0 e2 e3 e4; omega
      have h0 := h 0 (by omega)
      have q0 : wv B s 0 = 6 := by clear e1 e2 e3 e4; omega
      have b0 : B (s + 0) = 114 := by clear e1 e2 e3 e4; omega
      exfalso; omega
    · have q5 : wv B s 5 = 6897268 := q
      have h4 := h 4 (by omega)
      have q4 : wv B s 4 = 215539 := by clear e0 e1 e2 e3; omega
      have b4 : B (s + 4) = 116 := by clear e0 e1 e2 e3; omega
      have h3 := h 3 (by omega)
      have q3 : wv B s 3 = 6735 := by clear e0 e1 e2 e4; omega
      have b3 : B (s + 3) = 115 := by clear e0 e1 e2 e4; omega
      have h2 := h 2 (by omega)
      have q2 : wv B s 2 = 210 := by clear e0 e1 e3 e4; omega
      have b2 : B (s + 2) = 111 := by clear e0 e1 e3 e4; omega
      have h1 := h 1 (by omega)
      have q1 : wv B s 1 = 6 := by clear e0 e2 e3 e4; omega
      have b1 : B (s + 1) = 114 := by clear e0 e2 e3 e4; omega
      have h0 := h 0 (by omega)
      have q0 : wv B s 0 = 0 := by clear e1 e2 e3 e4; omega
      have b0 : B (s + 0) = 102 := by clear e1 e2 e3 e4; omega
      exact ⟨rfl, b0, b1, b2, b3, b4⟩
  · intro ⟨q, b0, b1, b2, b3, b4⟩
    subst q
    rw [e4, e3, e2, e1, e0, z, b0, b1, b2, b3, b4]
    rfl
theorem wd_7 {m : Nat} (m1 : 1 ≤ m) (m5 : m ≤ 5) (h : ∀ i, i < m → 97 ≤ B (s + i) ∧ B (s + i) ≤ 122) : wv B s m = 70706 ↔ (m = 4 ∧ B (s + 0) = 98 ∧ B (s + 1) = 101 ∧ B (s + 2) = 97 ∧ B (s + 3) = 114) := by
  have e0 : wv B s 1 = 32 * wv B s 0 + B (s + 0) - 96 := rfl
  have e1 : wv B s 2 = 32 * wv B s 1 + B (s + 1) - 96 := rfl
  have e2 : wv B s 3 = 32 * wv B s 2 + B (s + 2) - 96 := rfl
  have e3 : wv B s 4 = 32 * wv B s 3 + B (s + 3) - 96 := rfl
  have e4 : wv B s 5 = 32 * wv B s 4 + B (s + 4) - 96 := rfl
  have z := wv_0 (B := B) (s := s)
  constructor
  · intro q
    rcases (show m = 1 ∨ m = 2 ∨ m = 3 ∨ m = 4 ∨ m = 5 by omega) with rfl | rfl | rfl | rfl | rfl
    · have q1 : wv B s 1 = 70706 := q
      have h0 := h 0 (by omega)
      have q0 : wv B s 0 = 2209 := by clear e1 e2 e3 e4; omega
      have b0 : B (s + 0) = 114 := by clear e1 e2 e3 e4; omega
      exfalso; omega
    · have q2 : wv B s 2 = 70706 := q
      have h1 := h 1 (by omega)
      have q1 : wv B s 1 = 2209 := by clear e0 e2 e3 e4; omega
      have b1 : B (s + 1) = 114 := by clear e0 e2 e3 e4; omega
      have h0 := h 0 (by omega)
      have q0 : wv B s 0 = 69 := by clear e1 e2 e3 e4; omega
      have b0 : B (s + 0) = 97 := by clear e1 e2 e3 e4; omega
      exfalso; omega
    · have q3 : wv B s 3 = 70706 := q
      have h2 := h 2 (by omega)
      have q2 : wv B s 2 = 2209 := by clear e0 e1 e3 e4; omega
      have b2 : B (s + 2) = 114 := by clear e0 e1 e3 e4; omega
      have h1 := h 1 (by omega)
      have q1 : wv B s 1 = 69 := by clear e0 e2 e3 e4; omega
      have b1 : B (s + 1) = 97 := by clear e0 e2 e3 e4; omega
      have h0 := h 0 (by omega)
      have q0 : wv B s 0 = 2 := by clear e1 e2 e3 e4; omega
      have b0 : B (s + 0) = 101 := by clear e1 e2 e3 e4; omega
      exfalso; omega
    · have q4 : wv B s 4 = 70706 := q
      have h3 := h 3 (by omega)
      have q3 : wv B s 3 = 2209 := by clear e0 e1 e2 e4; omega
      have b3 : B (s + 3) = 114 := by clear e0 e1 e2 e4; omega
      have h2 := h 2 (by omega)
      have q2 : wv B s 2 = 69 := by clear e0 e1 e3 e4; omega
      have b2 : B (s + 2) = 97 := by clear e0 e1 e3 e4; omega
      have h1 := h 1 (by omega)
      have q1 : wv B s 1 = 2 := by clear e0 e2 e3 e4; omega
      have b1 : B (s + 1) = 101 := by clear e0 e2 e3 e4; omega
      have h0 := h 0 (by omega)
      have q0 : wv B s 0 = 0 := by clear e1 e2 e3 e4; omega
      have b0 : B (s + 0) = 98 := by clear e1 e2 e3 e4; omega
      exact ⟨rfl, b0, b1, b2, b3⟩
    · have q5 : wv B s 5 = 70706 := q
      have h4 := h 4 (by omega)
      have q4 : wv B s 4 = 2209 := by clear e0 e1 e2 e3; omega
      have b4 : B (s + 4) = 114 := by clear e0 e1 e2 e3; omega
      have h3 := h 3 (by omega)
      have q3 : wv B s 3 = 69 := by clear e0 e1 e2 e4; omega
      have b3 : B (s + 3) = 97 := by clear e0 e1 e2 e4; omega
      have h2 := h 2 (by omega)
      have q2 : wv B s 2 = 2 := by clear e0 e1 e3 e4; omega
      have b2 : B (s + 2) = 101 := by clear e0 e1 e3 e4; omega
      have h1 := h 1 (by omega)
      have q1 : wv B s 1 = 0 := by clear e0 e2 e3 e4; omega
      have b1 : B (s + 1) = 98 := by clear e0 e2 e3 e4; omega
      have h0 := h 0 (by omega)
      exfalso; clear e1 e2 e3 e4; omega
  · intro ⟨q, b0, b1, b2, b3⟩
    subst q
    rw [e3, e2, e1, e0, z, b0, b1, b2, b3]
    rfl
theorem wd_8 {m : Nat} (m1 : 1 ≤ m) (m5 : m ≤ 5) (h : ∀ i, i < m → 97 ≤ B (s + i) ∧ B (s + i) ≤ 122) : wv B s m = 20201029 ↔ (m = 5 ∧ B (s + 0) = 115 ∧ B (s + 1) = 104 ∧ B (s + 2) = 111 ∧ B (s + 3) = 114 ∧ B (s + 4) = 101) := by
  have e0 : wv B s 1 = 32 * wv B s 0 + B (s + 0) - 96 := rfl
  have e1 : wv B s 2 = 32 * wv B s 1 + B (s + 1) - 96 := rfl
  have e2 : wv B s 3 = 32 * wv B s 2 + B (s + 2) - 96 := rfl
  have e3 : wv B s 4 = 32 * wv B s 3 + B (s + 3) - 96 := rfl
  have e4 : wv B s 5 = 32 * wv B s 4 + B (s + 4) - 96 := rfl
  have z := wv_0 (B := B) (s := s)
  constructor
  · intro q
    rcases (show m = 1 ∨ m = 2 ∨ m = 3 ∨ m = 4 ∨ m = 5 by omega) with rfl | rfl | rfl | rfl | rfl
    · have q1 : wv B s 1 = 20201029 := q
      have h0 := h 0 (by omega)
      have q0 : wv B s 0 = 631282 := by clear e1 e2 e3 e4; omega
      have b0 : B (s + 0) = 101 := by clear e1 e2 e3 e4; omega
      exfalso; omega
    · have q2 : wv B s 2 = 20201029 := q
      have h1 := h 1 (by omega)
      have q1 : wv B s 1 = 631282 := by clear e0 e2 e3 e4; omega
      have b1 : B (s + 1) = 101 := by clear e0 e2 e3 e4; omega
      have h0 := h 0 (by omega)
      have q0 : wv B s 0 = 19727 := by clear e1 e2 e3 e4; omega
      have b0 : B (s + 0) = 114 := by clear e1 e2 e3 e4; omega
      exfalso; omega
    · have q3 : wv B s 3 = 20201029 := q
      have h2 := h 2 (by omega)
      have q2 : wv B s 2 = 631282 := by clear e0 e1 e3 e4; omega
      have b2 : B (s + 2) = 101 := by clear e0 e1 e3 e4; omega
      have h1 := h 1 (by omega)
      have q1 : wv B s 1 = 19727 := by clear e0 e2 e3 e4; omega
      have b1 : B (s + 1) = 114 := by clear e0 e2 e3 e4; omega
      have h0 := h 0 (by omega)
      have q0 : wv B s 0 = 616 := by clear e1 e2 e3 e4; omega
      have b0 : B (s + 0) = 111 := by clear e1 e2 e3 e4; omega
      exfalso; omega
    · have q4 : wv B s 4 = 20201029 := q
      have h3 := h 3 (by omega)
      have q3 : wv B s 3 = 631282 := by clear e0 e1 e2 e4; omega
      have b3 : B (s + 3) = 101 := by clear e0 e1 e2 e4; omega
      have h2 := h 2 (by omega)
      have q2 : wv B s 2 = 19727 := by clear e0 e1 e3 e4; omega
      have b2 : B (s + 2) = 114 := by clear e0 e1 e3 e4; omega
      have h1 := h 1 (by omega)
      have q1 : wv B s 1 = 616 := by clear e0 e2 e3 e4; omega
      have b1 : B (s + 1) = 111 := by clear e0 e2 e3 e4; omega
      have h0 := h 0 (by omega)
      have q0 : wv B s 0 = 19 := by clear e1 e2 e3 e4; omega
      have b0 : B (s + 0) = 104 := by clear e1 e2 e3 e4; omega
      exfalso; omega
    · have q5 : wv B s 5 = 20201029 := q
      have h4 := h 4 (by omega)
      have q4 : wv B s 4 = 631282 := by clear e0 e1 e2 e3; omega
      have b4 : B (s + 4) = 101 := by clear e0 e1 e2 e3; omega
      have h3 := h 3 (by omega)
      have q3 : wv B s 3 = 19727 := by clear e0 e1 e2 e4; omega
      have b3 : B (s + 3) = 114 := by clear e0 e1 e2 e4; omega
      have h2 := h 2 (by omega)
      have q2 : wv B s 2 = 616 := by clear e0 e1 e3 e4; omega
      have b2 : B (s + 2) = 111 := by clear e0 e1 e3 e4; omega
      have h1 := h 1 (by omega)
      have q1 : wv B s 1 = 19 := by clear e0 e2 e3 e4; omega
      have b1 : B (s + 1) = 104 := by clear e0 e2 e3 e4; omega
      have h0 := h 0 (by omega)
      have q0 : wv B s 0 = 0 := by clear e1 e2 e3 e4; omega
      have b0 : B (s + 0) = 115 := by clear e1 e2 e3 e4; omega
      exact ⟨rfl, b0, b1, b2, b3, b4⟩
  · intro ⟨q, b0, b1, b2, b3, b4⟩
    subst q
    rw [e4, e3, e2, e1, e0, z, b0, b1, b2, b3, b4]
    rfl
theorem wd_9 {m : Nat} (m1 : 1 ≤ m) (m5 : m ≤ 5) (h : ∀ i, i < m → 97 ≤ B (s + i) ∧ B (s + i) ≤ 122) : wv B s m = 631280 ↔ (m = 4 ∧ B (s + 0) = 115 ∧ B (s + 1) = 104 ∧ B (s + 2) = 111 ∧ B (s + 3) = 112) := by
  have e0 : wv B s 1 = 32 * wv B s 0 + B (s + 0) - 96 := rfl
  have e1 : wv B s 2 = 32 * wv B s 1 + B (s + 1) - 96 := rfl
  have e2 : wv B s 3 = 32 * wv B s 2 + B (s + 2) - 96 := rfl
  have e3 : wv B s 4 = 32 * wv B s 3 + B (s + 3) - 96 := rfl
  have e4 : wv B s 5 = 32 * wv B s 4 + B (s + 4) - 96 := rfl
  have z := wv_0 (B := B) (s := s)
  constructor
  · intro q
    rcases (show m = 1 ∨ m = 2 ∨ m = 3 ∨ m = 4 ∨ m = 5 by omega) with rfl | rfl | rfl | rfl | rfl
    · have q1 : wv B s 1 = 631280 := q
      have h0 := h 0 (by omega)
      have q0 : wv B s 0 = 19727 := by clear e1 e2 e3 e4; omega
      have b0 : B (s + 0) = 112 := by clear e1 e2 e3 e4; omega
      exfalso; omega
    · have q2 : wv B s 2 = 631280 := q
      have h1 := h 1 (by omega)
      have q1 : wv B s 1 = 19727 := by clear e0 e2 e3 e4; omega
      have b1 : B (s + 1) = 112 := by clear e0 e2 e3 e4; omega
      have h0 := h 0 (by omega)
      have q0 : wv B s 0 = 616 := by clear e1 e2 e3 e4; omega
      have b0 : B (s + 0) = 111 := by clear e1 e2 e3 e4; omega
      exfalso; omega
    · have q3 : wv B s 3 = 631280 := q
      have h2 := h 2 (by omega)
      have q2 : wv B s 2 = 19727 := by clear e0 e1 e3 e4; omega
      have b2 : B (s + 2) = 112 := by clear e0 e1 e3 e4; omega
      have h1 := h 1 (by omega)
      have q1 : wv B s 1 = 616 := by clear e0 e2 e3 e4; omega
      have b1 : B (s + 1) = 111 := by clear e0 e2 e3 e4; omega
      have h0 := h 0 (by omega)
      have q0 : wv B s 0 = 19 := by clear e1 e2 e3 e4; omega
      have b0 : B (s + 0) = 104 := by clear e1 e2 e3 e4; omega
      exfalso; omega
    · have q4 : wv B s 4 = 631280 := q
      have h3 := h 3 (by omega)
      have q3 : wv B s 3 = 19727 := by clear e0 e1 e2 e4; omega
      have b3 : B (s + 3) = 112 := by clear e0 e1 e2 e4; omega
      have h2 := h 2 (by omega)
      have q2 : wv B s 2 = 616 := by clear e0 e1 e3 e4; omega
      have b2 : B (s + 2) = 111 := by clear e0 e1 e3 e4; omega
      have h1 := h 1 (by omega)
      have q1 : wv B s 1 = 19 := by clear e0 e2 e3 e4; omega
      have b1 : B (s + 1) = 104 := by clear e0 e2 e3 e4; omega
      have h0 := h 0 (by omega)
      have q0 : wv B s 0 = 0 := by clear e1 e2 e3 e4; omega
      have b0 : B (s + 0) = 115 := by clear e1 e2 e3 e4; omega
      exact ⟨rfl, b0, b1, b2, b3⟩
    · have q5 : wv B s 5 = 631280 := q
      have h4 := h 4 (by omega)
      have q4 : wv B s 4 = 19727 := by clear e0 e1 e2 e3; omega
      have b4 : B (s + 4) = 112 := by clear e0 e1 e2 e3; omega
      have h3 := h 3 (by omega)
      have q3 : wv B s 3 = 616 := by clear e0 e1 e2 e4; omega
      have b3 : B (s + 3) = 111 := by clear e0 e1 e2 e4; omega
      have h2 := h 2 (by omega)
      have q2 : wv B s 2 = 19 := by clear e0 e1 e3 e4; omega
      have b2 : B (s + 2) = 104 := by clear e0 e1 e3 e4; omega
      have h1 := h 1 (by omega)
      have q1 : wv B s 1 = 0 := by clear e0 e2 e3 e4; omega
      have b1 : B (s + 1) = 115 := by clear e0 e2 e3 e4; omega
      have h0 := h 0 (by omega)
      exfalso; clear e1 e2 e3 e4; omega
  · intro ⟨q, b0, b1, b2, b3⟩
    subst q
    rw [e3, e2, e1, e0, z, b0, b1, b2, b3]
    rfl
theorem wd_10 {m : Nat} (m1 : 1 ≤ m) (m5 : m ≤ 5) (h : ∀ i, i < m → 97 ≤ B (s + i) ∧ B (s + i) ≤ 122) : wv B s m = 12748404 ↔ (m = 5 ∧ B (s + 0) = 108 ∧ B (s + 1) = 101 ∧ B (s + 2) = 97 ∧ B (s + 3) = 115 ∧ B (s + 4) = 116) := by
  have e0 : wv B s 1 = 32 * wv B s 0 + B (s + 0) - 96 := rfl
  have e1 : wv B s 2 = 32 * wv B s 1 + B (s + 1) - 96 := rfl
  have e2 : wv B s 3 = 32 * wv B s 2 + B (s + 2) - 96 := rfl
  have e3 : wv B s 4 = 32 * wv B s 3 + B (s + 3) - 96 := rfl
  have e4 : wv B s 5 = 32 * wv B s 4 + B (s + 4) - 96 := rfl
  have z := wv_0 (B := B) (s := s)
  constructor
  · intro q
    rcases (show m = 1 ∨ m = 2 ∨ m = 3 ∨ m = 4 ∨ m = 5 by omega) with rfl | rfl | rfl | rfl | rfl
    · have q1 : wv B s 1 = 12748404 := q
      have h0 := h 0 (by omega)
      have q0 : wv B s 0 = 398387 := by clear e1 e2 e3 e4; omega
      have b0 : B (s + 0) = 116 := by clear e1 e2 e3 e4; omega
      exfalso; omega
    · have q2 : wv B s 2 = 12748404 := q
      have h1 := h 1 (by omega)
      have q1 : wv B s 1 = 398387 := by clear e0 e2 e3 e4; omega
      have b1 : B (s + 1) = 116 := by clear e0 e2 e3 e4; omega
      have h0 := h 0 (by omega)
      have q0 : wv B s 0 = 12449 := by clear e1 e2 e3 e4; omega
      have b0 : B (s + 0) = 115 := by clear e1 e2 e3 e4; omega
      exfalso; omega
    · have q3 : wv B s 3 = 12748404 := q
      have h2 := h 2 (by omega)
      have q2 : wv B s 2 = 398387 := by clear e0 e1 e3 e4; omega
      have b2 : B (s + 2) = 116 := by clear e0 e1 e3 e4; omega
      have h1 := h 1 (by omega)
      have q1 : wv B s 1 = 12449 := by clear e0 e2 e3 e4; omega
      have b1 : B (s + 1) = 115 := by clear e0 e2 e3 e4; omega
      have h0 := h 0 (by omega)
      have q0 : wv B s 0 = 389 := by clear e1 e2 e3 e4; omega
      have b0 : B (s + 0) = 97 := by clear e1 e2 e3 e4; omega
      exfalso; omega
    · have q4 : wv B s 4 = 12748404 := q
      have h3 := h 3 (by omega)
      have q3 : wv B s 3 = 398387 := by clear e0 e1 e2 e4; omega
      have b3 : B (s + 3) = 116 := by clear e0 e1 e2 e4; omega
      have h2 := h 2 (by omega)
      have q2 : wv B s 2 = 12449 := by clear e0 e1 e3 e4; omega
      have b2 : B (s + 2) = 115 := by clear e0 e1 e3 e4; omega
      have h1 := h 1 (by omega)
      have q1 : wv B s 1 = 389 := by clear e0 e2 e3 e4; omega
      have b1 : B (s + 1) = 97 := by clear e0 e2 e3 e4; omega
      have h0 := h 0 (by omega)
      have q0 : wv B s 0 = 12 := by clear e1 e2 e3 e4; omega
      have b0 : B (s + 0) = 101 := by clear e1 e2 e3 e4; omega
      exfalso; omega
    · have q5 : wv B s 5 = 12748404 := q
      have h4 := h 4 (by omega)
      have q4 : wv B s 4 = 398387 := by clear e0 e1 e2 e3; omega
      have b4 : B (s + 4) = 116 := by clear e0 e1 e2 e3; omega
      have h3 := h 3 (by omega)
      have q3 : wv B s 3 = 12449 := by clear e0 e1 e2 e4; omega
      have b3 : B (s + 3) = 115 := by clear e0 e1 e2 e4; omega
      have h2 := h 2 (by omega)
      have q2 : wv B s 2 = 389 := by clear e0 e1 e3 e4; omega
      have b2 : B (s + 2) = 97 := by clear e0 e1 e3 e4; omega
      have h1 := h 1 (by omega)
      have q1 : wv B s 1 = 12 := by clear e0 e2 e3 e4; omega
      have b1 : B (s + 1) = 101 := by clear e0 e2 e3 e4; omega
      have h0 := h 0 (by omega)
      have q0 : wv B s 0 = 0 := by clear e1 e2 e3 e4; omega
      have b0 : B (s + 0) = 108 := by clear e1 e2 e3 e4; omega
      exact ⟨rfl, b0, b1, b2, b3, b4⟩
  · intro ⟨q, b0, b1, b2, b3, b4⟩
    subst q
    rw [e4, e3, e2, e1, e0, z, b0, b1, b2, b3, b4]
    rfl
theorem wd_11 {m : Nat} (m1 : 1 ≤ m) (m5 : m ≤ 5) (h : ∀ i, i < m → 97 ≤ B (s + i) ∧ B (s + i) ≤ 122) : wv B s m = 1574484 ↔ (m = 5 ∧ B (s + 0) = 97 ∧ B (s + 1) = 112 ∧ B (s + 2) = 97 ∧ B (s + 3) = 114 ∧ B (s + 4) = 116) := by
  have e0 : wv B s 1 = 32 * wv B s 0 + B (s + 0) - 96 := rfl
  have e1 : wv B s 2 = 32 * wv B s 1 + B (s + 1) - 96 := rfl
  have e2 : wv B s 3 = 32 * wv B s 2 + B (s + 2) - 96 := rfl
  have e3 : wv B s 4 = 32 * wv B s 3 + B (s + 3) - 96 := rfl
  have e4 : wv B s 5 = 32 * wv B s 4 + B (s + 4) - 96 := rfl
  have z := wv_0 (B := B) (s := s)
  constructor
  · intro q
    rcases (show m = 1 ∨ m = 2 ∨ m = 3 ∨ m = 4 ∨ m = 5 by omega) with rfl | rfl | rfl | rfl | rfl
    · have q1 : wv B s 1 = 1574484 := q
      have h0 := h 0 (by omega)
      have q0 : wv B s 0 = 49202 := by clear e1 e2 e3 e4; omega
      have b0 : B (s + 0) = 116 := by clear e1 e2 e3 e4; omega
      exfalso; omega
    · have q2 : wv B s 2 = 1574484 := q
      have h1 := h 1 (by omega)
      have q1 : wv B s 1 = 49202 := by clear e0 e2 e3 e4; omega
      have b1 : B (s + 1) = 116 := by clear e0 e2 e3 e4; omega
      have h0 := h 0 (by omega)
      have q0 : wv B s 0 = 1537 := by clear e1 e2 e3 e4; omega
      have b0 : B (s + 0) = 114 := by clear e1 e2 e3 e4; omega
      exfalso; omega
    · have q3 : wv B s 3 = 1574484 := q
      have h2 := h 2 (by omega)
      have q2 : wv B s 2 = 49202 := by clear e0 e1 e3 e4; omega
      have b2 : B (s + 2) = 116 := by clear e0 e1 e3 e4; omega
      have h1 := h 1 (by omega)
      have q1 : wv B s 1 = 1537 := by clear e0 e2 e3 e4; omega
      have b1 : B (s + 1) = 114 := by clear e0 e2 e3 e4; omega
      have h0 := h 0 (by omega)
      have q0 : wv B s 0 = 48 := by clear e1 e2 e3 e4; omega
      have b0 : B (s + 0) = 97 := by clear e1 e2 e3 e4; omega
      exfalso; omega
    · have q4 : wv B s 4 = 1574484 := q
      have h3 := h 3 (by omega)
      have q3 : wv B s 3 = 49202 := by clear e0 e1 e2 e4; omega
      have b3 : B (s + 3) = 116 := by clear e0 e1 e2 e4; omega
      have h2 := h 2 (by omega)
      have q2 : wv B s 2 = 1537 := by clear e0 e1 e3 e4; omega
      have b2 : B (s + 2) = 114 := by clear e0 e1 e3 e4; omega
      have h1 := h 1 (by omega)
      have q1 : wv B s 1 = 48 := by clear e0 e2 e3 e4; omega
      have b1 : B (s + 1) = 97 := by clear e0 e2 e3 e4; omega
      have h0 := h 0 (by omega)
      have q0 : wv B s 0 = 1 := by clear e1 e2 e3 e4; omega
      have b0 : B (s + 0) = 112 := by clear e1 e2 e3 e4; omega
      exfalso; omega
    · have q5 : wv B s 5 = 1574484 := q
      have h4 := h 4 (by omega)
      have q4 : wv B s 4 = 49202 := by clear e0 e1 e2 e3; omega
      have b4 : B (s + 4) = 116 := by clear e0 e1 e2 e3; omega
      have h3 := h 3 (by omega)
      have q3 : wv B s 3 = 1537 := by clear e0 e1 e2 e4; omega
      have b3 : B (s + 3) = 114 := by clear e0 e1 e2 e4; omega
      have h2 := h 2 (by omega)
      have q2 : wv B s 2 = 48 := by clear e0 e1 e3 e4; omega
      have b2 : B (s + 2) = 97 := by clear e0 e1 e3 e4; omega
      have h1 := h 1 (by omega)
      have q1 : wv B s 1 = 1 := by clear e0 e2 e3 e4; omega
      have b1 : B (s + 1) = 112 := by clear e0 e2 e3 e4; omega
      have h0 := h 0 (by omega)
      have q0 : wv B s 0 = 0 := by clear e1 e2 e3 e4; omega
      have b0 : B (s + 0) = 97 := by clear e1 e2 e3 e4; omega
      exact ⟨rfl, b0, b1, b2, b3, b4⟩
  · intro ⟨q, b0, b1, b2, b3, b4⟩
    subst q
    rw [e4, e3, e2, e1, e0, z, b0, b1, b2, b3, b4]
    rfl
theorem wd_12 {m : Nat} (m1 : 1 ≤ m) (m5 : m ≤ 5) (h : ∀ i, i < m → 97 ≤ B (s + i) ∧ B (s + i) ≤ 122) : wv B s m = 20186693 ↔ (m = 5 ∧ B (s + 0) = 115 ∧ B (s + 1) = 104 ∧ B (s + 2) = 97 ∧ B (s + 3) = 114 ∧ B (s + 4) = 101) := by
  have e0 : wv B s 1 = 32 * wv B s 0 + B (s + 0) - 96 := rfl
  have e1 : wv B s 2 = 32 * wv B s 1 + B (s + 1) - 96 := rfl
  have e2 : wv B s 3 = 32 * wv B s 2 + B (s + 2) - 96 := rfl
  have e3 : wv B s 4 = 32 * wv B s 3 + B (s + 3) - 96 := rfl
  have e4 : wv B s 5 = 32 * wv B s 4 + B (s + 4) - 96 := rfl
  have z := wv_0 (B := B) (s := s)
  constructor
  · intro q
    rcases (show m = 1 ∨ m = 2 ∨ m = 3 ∨ m = 4 ∨ m = 5 by omega) with rfl | rfl | rfl | rfl | rfl
    · have q1 : wv B s 1 = 20186693 := q
      have h0 := h 0 (by omega)
      have q0 : wv B s 0 = 630834 := by clear e1 e2 e3 e4; omega
      have b0 : B (s + 0) = 101 := by clear e1 e2 e3 e4; omega
      exfalso; omega
    · have q2 : wv B s 2 = 20186693 := q
      have h1 := h 1 (by omega)
      have q1 : wv B s 1 = 630834 := by clear e0 e2 e3 e4; omega
      have b1 : B (s + 1) = 101 := by clear e0 e2 e3 e4; omega
      have h0 := h 0 (by omega)
      have q0 : wv B s 0 = 19713 := by clear e1 e2 e3 e4; omega
      have b0 : B (s + 0) = 114 := by clear e1 e2 e3 e4; omega
      exfalso; omega
    · have q3 : wv B s 3 = 20186693 := q
      have h2 := h 2 (by omega)
      have q2 : wv B s 2 = 630834 := by clear e0 e1 e3 e4; omega
      have b2 : B (s + 2) = 101 := by clear e0 e1 e3 e4; omega
      have h1 := h 1 (by omega)
      have q1 : wv B s 1 = 19713 := by clear e0 e2 e3 e4; omega
      have b1 : B (s + 1) = 114 := by clear e0 e2 e3 e4; omega
      have h0 := h 0 (by omega)
      have q0 : wv B s 0 = 616 := by clear e1 e2 e3 e4; omega
      have b0 : B (s + 0) = 97 := by clear e1 e2 e3 e4; omega
      exfalso; omega
    · have q4 : wv B s 4 = 20186693 := q
      have h3 := h 3 (by omega)
      have q3 : wv B s 3 = 630834 := by clear e0 e1 e2 e4; omega
      have b3 : B (s + 3) = 101 := by clear e0 e1 e2 e4; omega
      have h2 := h 2 (by omega)
      have q2 : wv B s 2 = 19713 := by clear e0 e1 e3 e4; omega
      have b2 : B (s + 2) = 114 := by clear e0 e1 e3 e4; omega
      have h1 := h 1 (by omega)
      have q1 : wv B s 1 = 616 := by clear e0 e2 e3 e4; omega
      have b1 : B (s + 1) = 97 := by clear e0 e2 e3 e4; omega
      have h0 := h 0 (by omega)
      have q0 : wv B s 0 = 19 := by clear e1 e2 e3 e4; omega
      have b0 : B (s + 0) = 104 := by clear e1 e2 e3 e4; omega
      exfalso; omega
    · have q5 : wv B s 5 = 20186693 := q
      have h4 := h 4 (by omega)
      have q4 : wv B s 4 = 630834 := by clear e0 e1 e2 e3; omega
      have b4 : B (s + 4) = 101 := by clear e0 e1 e2 e3; omega
      have h3 := h 3 (by omega)
      have q3 : wv B s 3 = 19713 := by clear e0 e1 e2 e4; omega
      have b3 : B (s + 3) = 114 := by clear e0 e1 e2 e4; omega
      have h2 := h 2 (by omega)
      have q2 : wv B s 2 = 616 := by clear e0 e1 e3 e4; omega
      have b2 : B (s + 2) = 97 := by clear e0 e1 e3 e4; omega
      have h1 := h 1 (by omega)
      have q1 : wv B s 1 = 19 := by clear e0 e2 e3 e4; omega
      have b1 : B (s + 1) = 104 := by clear e0 e2 e3 e4; omega
      have h0 := h 0 (by omega)
      have q0 : wv B s 0 = 0 := by clear e1 e2 e3 e4; omega
      have b0 : B (s + 0) = 115 := by clear e1 e2 e3 e4; omega
      exact ⟨rfl, b0, b1, b2, b3, b4⟩
  · intro ⟨q, b0, b1, b2, b3, b4⟩
    subst q
    rw [e4, e3, e2, e1, e0, z, b0, b1, b2, b3, b4]
    rfl
theorem wd_13 {m : Nat} (m1 : 1 ≤ m) (m5 : m ≤ 5) (h : ∀ i, i < m → 97 ≤ B (s + i) ∧ B (s + i) ≤ 122) : wv B s m = 595412 ↔ (m = 4 ∧ B (s + 0) = 114 ∧ B (s + 1) = 101 ∧ B (s + 2) = 110 ∧ B (s + 3) = 116) := by
  have e0 : wv B s 1 = 32 * wv B s 0 + B (s + 0) - 96 := rfl
  have e1 : wv B s 2 = 32 * wv B s 1 + B (s + 1) - 96 := rfl
  have e2 : wv B s 3 = 32 * wv B s 2 + B (s + 2) - 96 := rfl
  have e3 : wv B s 4 = 32 * wv B s 3 + B (s + 3) - 96 := rfl
  have e4 : wv B s 5 = 32 * wv B s 4 + B (s + 4) - 96 := rfl
  have z := wv_0 (B := B) (s := s)
  constructor
  · intro q
    rcases (show m = 1 ∨ m = 2 ∨ m = 3 ∨ m = 4 ∨ m = 5 by omega) with rfl | rfl | rfl | rfl | rfl
    · have q1 : wv B s 1 = 595412 := q
      have h0 := h 0 (by omega)
      have q0 : wv B s 0 = 18606 := by clear e1 e2 e3 e4; omega
      have b0 : B (s + 0) = 116 := by clear e1 e2 e3 e4; omega
      exfalso; omega
    · have q2 : wv B s 2 = 595412 := q
      have h1 := h 1 (by omega)
      have q1 : wv B s 1 = 18606 := by clear e0 e2 e3 e4; omega
      have b1 : B (s + 1) = 116 := by clear e0 e2 e3 e4; omega
      have h0 := h 0 (by omega)
      have q0 : wv B s 0 = 581 := by clear e1 e2 e3 e4; omega
      have b0 : B (s + 0) = 110 := by clear e1 e2 e3 e4; omega
      exfalso; omega
    · have q3 : wv B s 3 = 595412 := q
      have h2 := h 2 (by omega)
      have q2 : wv B s 2 = 18606 := by clear e0 e1 e3 e4; omega
      have b2 : B (s + 2) = 116 := by clear e0 e1 e3 e4; omega
      have h1 := h 1 (by omega)
      have q1 : wv B s 1 = 581 := by clear e0 e2 e3 e4; omega
      have b1 : B (s + 1) = 110 := by clear e0 e2 e3 e4; omega
      have h0 := h 0 (by omega)
      have q0 : wv B s 0 = 18 := by clear e1 e2 e3 e4; omega
      have b0 : B (s + 0) = 101 := by clear e1 e2 e3 e4; omega
      exfalso; omega
    · have q4 : wv B s 4 = 595412 := q
      have h3 := h 3 (by omega)
      have q3 : wv B s 3 = 18606 := by clear e0 e1 e2 e4; omega
      have b3 : B (s + 3) = 116 := by clear e0 e1 e2 e4; omega
      have h2 := h 2 (by omega)
      have q2 : wv B s 2 = 581 := by clear e0 e1 e3 e4; omega
      have b2 : B (s + 2) = 110 := by clear e0 e1 e3 e4; omega
      have h1 := h 1 (by omega)
      have q1 : wv B s 1 = 18 := by clear e0 e2 e3 e4; omega
      have b1 : B (s + 1) = 101 := by clear e0 e2 e3 e4; omega
      have h0 := h 0 (by omega)
      have q0 : wv B s 0 = 0 := by clear e1 e2 e3 e4; omega
      have b0 : B (s + 0) = 114 := by clear e1 e2 e3 e4; omega
      exact ⟨rfl, b0, b1, b2, b3⟩
    · have q5 : wv B s 5 = 595412 := q
      have h4 := h 4 (by omega)
      have q4 : wv B s 4 = 18606 := by clear e0 e1 e2 e3; omega
      have b4 : B (s + 4) = 116 := by clear e0 e1 e2 e3; omega
      have h3 := h 3 (by omega)
      have q3 : wv B s 3 = 581 := by clear e0 e1 e2 e4; omega
      have b3 : B (s + 3) = 110 := by clear e0 e1 e2 e4; omega
      have h2 := h 2 (by omega)
      have q2 : wv B s 2 = 18 := by clear e0 e1 e3 e4; omega
      have b2 : B (s + 2) = 101 := by clear e0 e1 e3 e4; omega
      have h1 := h 1 (by omega)
      have q1 : wv B s 1 = 0 := by clear e0 e2 e3 e4; omega
      have b1 : B (s + 1) = 114 := by clear e0 e2 e3 e4; omega
      have h0 := h 0 (by omega)
      exfalso; clear e1 e2 e3 e4; omega
  · intro ⟨q, b0, b1, b2, b3⟩
    subst q
    rw [e3, e2, e1, e0, z, b0, b1, b2, b3]
    rfl
theorem wd_14 {m : Nat} (m1 : 1 ≤ m) (m5 : m ≤ 5) (h : ∀ i, i < m → 97 ≤ B (s + i) ∧ B (s + i) ≤ 122) : wv B s m = 394693 ↔ (m = 4 ∧ B (s + 0) = 108 ∧ B (s + 1) = 97 ∧ B (s + 2) = 110 ∧ B (s + 3) = 101) := by
  have e0 : wv B s 1 = 32 * wv B s 0 + B (s + 0) - 96 := rfl
  have e1 : wv B s 2 = 32 * wv B s 1 + B (s + 1) - 96 := rfl
  have e2 : wv B s 3 = 32 * wv B s 2 + B (s + 2) - 96 := rfl
  have e3 : wv B s 4 = 32 * wv B s 3 + B (s + 3) - 96 := rfl
  have e4 : wv B s 5 = 32 * wv B s 4 + B (s + 4) - 96 := rfl
  have z := wv_0 (B := B) (s := s)
  constructor
  · intro q
    rcases (show m = 1 ∨ m = 2 ∨ m = 3 ∨ m = 4 ∨ m = 5 by omega) with rfl | rfl | rfl | rfl | rfl
    · have q1 : wv B s 1 = 394693 := q
      have h0 := h 0 (by omega)
      have q0 : wv B s 0 = 12334 := by clear e1 e2 e3 e4; omega
      have b0 : B (s + 0) = 101 := by clear e1 e2 e3 e4; omega
      exfalso; omega
    · have q2 : wv B s 2 = 394693 := q
      have h1 := h 1 (by omega)
      have q1 : wv B s 1 = 12334 := by clear e0 e2 e3 e4; omega
      have b1 : B (s + 1) = 101 := by clear e0 e2 e3 e4; omega
      have h0 := h 0 (by omega)
      have q0 : wv B s 0 = 385 := by clear e1 e2 e3 e4; omega
      have b0 : B (s + 0) = 110 := by clear e1 e2 e3 e4; omega
      exfalso; omega
    · have q3 : wv B s 3 = 394693 := q
      have h2 := h 2 (by omega)
      have q2 : wv B s 2 = 12334 := by clear e0 e1 e3 e4; omega
      have b2 : B (s + 2) = 101 := by clear e0 e1 e3 e4; omega
      have h1 := h 1 (by omega)
      have q1 : wv B s 1 = 385 := by clear e0 e2 e3 e4; omega
      have b1 : B (s + 1) = 110 := by clear e0 e2 e3 e4; omega
      have h0 := h 0 (by omega)
      have q0 : wv B s 0 = 12 := by clear e1 e2 e3 e4; omega
      have b0 : B (s + 0) = 97 := by clear e1 e2 e3 e4; omega
      exfalso; omega
    · have q4 : wv B s 4 = 394693 := q
      have h3 := h 3 (by omega)
      have q3 : wv B s 3 = 12334 := by clear e0 e1 e2 e4; omega
      have b3 : B (s + 3) = 101 := by clear e0 e1 e2 e4; omega
      have h2 := h 2 (by omega)
      have q2 : wv B s 2 = 385 := by clear e0 e1 e3 e4; omega
      have b2 : B (s + 2) = 110 := by clear e0 e1 e3 e4; omega
      have h1 := h 1 (by omega)
      have q1 : wv B s 1 = 12 := by clear e0 e2 e3 e4; omega
      have b1 : B (s + 1) = 97 := by clear e0 e2 e3 e4; omega
      have h0 := h 0 (by omega)
      have q0 : wv B s 0 = 0 := by clear e1 e2 e3 e4; omega
      have b0 : B (s + 0) = 108 := by clear e1 e2 e3 e4; omega
      exact ⟨rfl, b0, b1, b2, b3⟩
    · have q5 : wv B s 5 = 394693 := q
      have h4 := h 4 (by omega)
      have q4 : wv B s 4 = 12334 := by clear e0 e1 e2 e3; omega
      have b4 : B (s + 4) = 101 := by clear e0 e1 e2 e3; omega
      have h3 := h 3 (by omega)
      have q3 : wv B s 3 = 385 := by clear e0 e1 e2 e4; omega
      have b3 : B (s + 3) = 110 := by clear e0 e1 e2 e4; omega
      have h2 := h 2 (by omega)
      have q2 : wv B s 2 = 12 := by clear e0 e1 e3 e4; omega
      have b2 : B (s + 2) = 97 := by clear e0 e1 e3 e4; omega
      have h1 := h 1 (by omega)
      have q1 : wv B s 1 = 0 := by clear e0 e2 e3 e4; omega
      have b1 : B (s + 1) = 108 := by clear e0 e2 e3 e4; omega
      have h0 := h 0 (by omega)
      exfalso; clear e1 e2 e3 e4; omega
  · intro ⟨q, b0, b1, b2, b3⟩
    subst q
    rw [e3, e2, e1, e0, z, b0, b1, b2, b3]
    rfl
theorem wd_15 {m : Nat} (m1 : 1 ≤ m) (m5 : m ≤ 5) (h : ∀ i, i < m → 97 ≤ B (s + i) ∧ B (s + i) ≤ 122) : wv B s m = 2098 ↔ (m = 3 ∧ B (s + 0) = 98 ∧ B (s + 1) = 97 ∧ B (s + 2) = 114) := by
  have e0 : wv B s 1 = 32 * wv B s 0 + B (s + 0) - 96 := rfl
  have e1 : wv B s 2 = 32 * wv B s 1 + B (s + 1) - 96 := rfl
  have e2 : wv B s 3 = 32 * wv B s 2 + B (s + 2) - 96 := rfl
  have e3 : wv B s 4 = 32 * wv B s 3 + B (s + 3) - 96 := rfl
  have e4 : wv B s 5 = 32 * wv B s 4 + B (s + 4) - 96 := rfl
  have z := wv_0 (B := B) (s := s)
  constructor
  · intro q
    rcases (show m = 1 ∨ m = 2 ∨ m = 3 ∨ m = 4 ∨ m = 5 by omega) with rfl | rfl | rfl | rfl | rfl
    · have q1 : wv B s 1 = 2098 := q
      have h0 := h 0 (by omega)
      have q0 : wv B s 0 = 65 := by clear e1 e2 e3 e4; omega
      have b0 : B (s + 0) = 114 := by clear e1 e2 e3 e4; omega
      exfalso; omega
    · have q2 : wv B s 2 = 2098 := q
      have h1 := h 1 (by omega)
      have q1 : wv B s 1 = 65 := by clear e0 e2 e3 e4; omega
      have b1 : B (s + 1) = 114 := by clear e0 e2 e3 e4; omega
      have h0 := h 0 (by omega)
      have q0 : wv B s 0 = 2 := by clear e1 e2 e3 e4; omega
      have b0 : B (s + 0) = 97 := by clear e1 e2 e3 e4; omega
      exfalso; omega
    · have q3 : wv B s 3 = 2098 := q
      have h2 := h 2 (by omega)
      have q2 : wv B s 2 = 65 := by clear e0 e1 e3 e4; omega
      have b2 : B (s + 2) = 114 := by clear e0 e1 e3 e4; omega
      have h1 := h 1 (by omega)
      have q1 : wv B s 1 = 2 := by clear e0 e2 e3 e4; omega
      have b1 : B (s + 1) = 97 := by clear e0 e2 e3 e4; omega
      have h0 := h 0 (by omega)
      have q0 : wv B s 0 = 0 := by clear e1 e2 e3 e4; omega
      have b0 : B (s + 0) = 98 := by clear e1 e2 e3 e4; omega
      exact ⟨rfl, b0, b1, b2⟩
    · have q4 : wv B s 4 = 2098 := q
      have h3 := h 3 (by omega)
      have q3 : wv B s 3 = 65 := by clear e0 e1 e2 e4; omega
      have b3 : B (s + 3) = 114 := by clear e0 e1 e2 e4; omega
      have h2 := h 2 (by omega)
      have q2 : wv B s 2 = 2 := by clear e0 e1 e3 e4; omega
      have b2 : B (s + 2) = 97 := by clear e0 e1 e3 e4; omega
      have h1 := h 1 (by omega)
      have q1 : wv B s 1 = 0 := by clear e0 e2 e3 e4; omega
      have b1 : B (s + 1) = 98 := by clear e0 e2 e3 e4; omega
      have h0 := h 0 (by omega)
      exfalso; clear e1 e2 e3 e4; omega
    · have q5 : wv B s 5 = 2098 := q
      have h4 := h 4 (by omega)
      have q4 : wv B s 4 = 65 := by clear e0 e1 e2 e3; omega
      have b4 : B (s + 4) = 114 := by clear e0 e1 e2 e3; omega
      have h3 := h 3 (by omega)
      have q3 : wv B s 3 = 2 := by clear e0 e1 e2 e4; omega
      have b3 : B (s + 3) = 97 := by clear e0 e1 e2 e4; omega
      have h2 := h 2 (by omega)
      have q2 : wv B s 2 = 0 := by clear e0 e1 e3 e4; omega
      have b2 : B (s + 2) = 98 := by clear e0 e1 e3 e4; omega
      have h1 := h 1 (by omega)
      exfalso; clear e0 e2 e3 e4; omega
  · intro ⟨q, b0, b1, b2⟩
    subst q
    rw [e2, e1, e0, z, b0, b1, b2]
    rfl
theorem wd_16 {m : Nat} (m1 : 1 ≤ m) (m5 : m ≤ 5) (h : ∀ i, i < m → 97 ≤ B (s + i) ∧ B (s + i) ≤ 122) : wv B s m = 4153 ↔ (m = 3 ∧ B (s + 0) = 100 ∧ B (s + 1) = 97 ∧ B (s + 2) = 121) := by
  have e0 : wv B s 1 = 32 * wv B s 0 + B (s + 0) - 96 := rfl
  have e1 : wv B s 2 = 32 * wv B s 1 + B (s + 1) - 96 := rfl
  have e2 : wv B s 3 = 32 * wv B s 2 + B (s + 2) - 96 := rfl
  have e3 : wv B s 4 = 32 * wv B s 3 + B (s + 3) - 96 := rfl
  have e4 : wv B s 5 = 32 * wv B s 4 + B (s + 4) - 96 := rfl
  have z := wv_0 (B := B) (s := s)
  constructor
  · intro q
    rcases (show m = 1 ∨ m = 2 ∨ m = 3 ∨ m = 4 ∨ m = 5 by omega) with rfl | rfl | rfl | rfl | rfl
    · have q1 : wv B s 1 = 4153 := q
      have h0 := h 0 (by omega)
      have q0 : wv B s 0 = 129 := by clear e1 e2 e3 e4; omega
      have b0 : B (s + 0) = 121 := by clear e1 e2 e3 e4; omega
      exfalso; omega
    · have q2 : wv B s 2 = 4153 := q
      have h1 := h 1 (by omega)
      have q1 : wv B s 1 = 129 := by clear e0 e2 e3 e4; omega
      have b1 : B (s + 1) = 121 := by clear e0 e2 e3 e4; omega
      have h0 := h 0 (by omega)
      have q0 : wv B s 0 = 4 := by clear e1 e2 e3 e4; omega
      have b0 : B (s + 0) = 97 := by clear e1 e2 e3 e4; omega
      exfalso; omega
    · have q3 : wv B s 3 = 4153 := q
      have h2 := h 2 (by omega)
      have q2 : wv B s 2 = 129 := by clear e0 e1 e3 e4; omega
      have b2 : B (s + 2) = 121 := by clear e0 e1 e3 e4; omega
      have h1 := h 1 (by omega)
      have q1 : wv B s 1 = 4 := by clear e0 e2 e3 e4; omega
      have b1 : B (s + 1) = 97 := by clear e0 e2 e3 e4; omega
      have h0 := h 0 (by omega)
      have q0 : wv B s 0 = 0 := by clear e1 e2 e3 e4; omega
      have b0 : B (s + 0) = 100 := by clear e1 e2 e3 e4; omega
      exact ⟨rfl, b0, b1, b2⟩
    · have q4 : wv B s 4 = 4153 := q
      have h3 := h 3 (by omega)
      have q3 : wv B s 3 = 129 := by clear e0 e1 e2 e4; omega
      have b3 : B (s + 3) = 121 := by clear e0 e1 e2 e4; omega
      have h2 := h 2 (by omega)
      have q2 : wv B s 2 = 4 := by clear e0 e1 e3 e4; omega
      have b2 : B (s + 2) = 97 := by clear e0 e1 e3 e4; omega
      have h1 := h 1 (by omega)
      have q1 : wv B s 1 = 0 := by clear e0 e2 e3 e4; omega
      have b1 : B (s + 1) = 100 := by clear e0 e2 e3 e4; omega
      have h0 := h 0 (by omega)
      exfalso; clear e1 e2 e3 e4; omega
    · have q5 : wv B s 5 = 4153 := q
      have h4 := h 4 (by omega)
      have q4 : wv B s 4 = 129 := by clear e0 e1 e2 e3; omega
      have b4 : B (s + 4) = 121 := by clear e0 e1 e2 e3; omega
      have h3 := h 3 (by omega)
      have q3 : wv B s 3 = 4 := by clear e0 e1 e2 e4; omega
      have b3 : B (s + 3) = 97 := by clear e0 e1 e2 e4; omega
      have h2 := h 2 (by omega)
      have q2 : wv B s 2 = 0 := by clear e0 e1 e3 e4; omega
      have b2 : B (s + 2) = 100 := by clear e0 e1 e3 e4; omega
      have h1 := h 1 (by omega)
      exfalso; clear e0 e2 e3 e4; omega
  · intro ⟨q, b0, b1, b2⟩
    subst q
    rw [e2, e1, e0, z, b0, b1, b2]
    rfl
theorem wd_17 {m : Nat} (m1 : 1 ≤ m) (m5 : m ≤ 5) (h : ∀ i, i < m → 97 ≤ B (s + i) ∧ B (s + i) ≤ 122) : wv B s m = 442053 ↔ (m = 4 ∧ B (s + 0) = 109 ∧ B (s + 1) = 111 ∧ B (s + 2) = 118 ∧ B (s + 3) = 101) := by
  have e0 : wv B s 1 = 32 * wv B s 0 + B (s + 0) - 96 := rfl
  have e1 : wv B s 2 = 32 * wv B s 1 + B (s + 1) - 96 := rfl
  have e2 : wv B s 3 = 32 * wv B s 2 + B (s + 2) - 96 := rfl
  have e3 : wv B s 4 = 32 * wv B s 3 + B (s + 3) - 96 := rfl
  have e4 : wv B s 5 = 32 * wv B s 4 + B (s + 4) - 96 := rfl
  have z := wv_0 (B := B) (s := s)
  constructor
  · intro q
    rcases (show m = 1 ∨ m = 2 ∨ m = 3 ∨ m = 4 ∨ m = 5 by omega) with rfl | rfl | rfl | rfl | rfl
    · have q1 : wv B s 1 = 442053 := q
      have h0 := h 0 (by omega)
      have q0 : wv B s 0 = 13814 := by clear e1 e2 e3 e4; omega
      have b0 : B (s + 0) = 101 := by clear e1 e2 e3 e4; omega
      exfalso; omega
    · have q2 : wv B s 2 = 442053 := q
      have h1 := h 1 (by omega)
      have q1 : wv B s 1 = 13814 := by clear e0 e2 e3 e4; omega
      have b1 : B (s + 1) = 101 := by clear e0 e2 e3 e4; omega
      have h0 := h 0 (by omega)
      have q0 : wv B s 0 = 431 := by clear e1 e2 e3 e4; omega
      have b0 : B (s + 0) = 118 := by clear e1 e2 e3 e4; omega
      exfalso; omega
    · have q3 : wv B s 3 = 442053 := q
      have h2 := h 2 (by omega)
      have q2 : wv B s 2 = 13814 := by clear e0 e1 e3 e4; omega
      have b2 : B (s + 2) = 101 := by clear e0 e1 e3 e4; omega
      have h1 := h 1 (by omega)
      have q1 : wv B s 1 = 431 := by clear e0 e2 e3 e4; omega
      have b1 : B (s + 1) = 118 := by clear e0 e2 e3 e4; omega
      have h0 := h 0 (by omega)
      have q0 : wv B s 0 = 13 := by clear e1 e2 e3 e4; omega
      have b0 : B (s + 0) = 111 := by clear e1 e2 e3 e4; omega
      exfalso; omega
    · have q4 : wv B s 4 = 442053 := q
      have h3 := h 3 (by omega)
      have q3 : wv B s 3 = 13814 := by clear e0 e1 e2 e4; omega
      have b3 : B (s + 3) = 101 := by clear e0 e1 e2 e4; omega
      have h2 := h 2 (by omega)
      have q2 : wv B s 2 = 431 := by clear e0 e1 e3 e4; omega
      have b2 : B (s + 2) = 118 := by clear e0 e1 e3 e4; omega
      have h1 := h 1 (by omega)
      have q1 : wv B s 1 = 13 := by clear e0 e2 e3 e4; omega
      have b1 : B (s + 1) = 111 := by clear e0 e2 e3 e4; omega
      have h0 := h 0 (by omega)
      have q0 : wv B s 0 = 0 := by clear e1 e2 e3 e4; omega
      have b0 : B (s + 0) = 109 := by clear e1 e2 e3 e4; omega
      exact ⟨rfl, b0, b1, b2, b3⟩
    · have q5 : wv B s 5 = 442053 := q
      have h4 := h 4 (by omega)
      have q4 : wv B s 4 = 13814 := by clear e0 e1 e2 e3; omega
      have b4 : B (s + 4) = 101 := by clear e0 e1 e2 e3; omega
      have h3 := h 3 (by omega)
      have q3 : wv B s 3 = 431 := by clear e0 e1 e2 e4; omega
      have b3 : B (s + 3) = 118 := by clear e0 e1 e2 e4; omega
      have h2 := h 2 (by omega)
      have q2 : wv B s 2 = 13 := by clear e0 e1 e3 e4; omega
      have b2 : B (s + 2) = 111 := by clear e0 e1 e3 e4; omega
      have h1 := h 1 (by omega)
      have q1 : wv B s 1 = 0 := by clear e0 e2 e3 e4; omega
      have b1 : B (s + 1) = 109 := by clear e0 e2 e3 e4; omega
      have h0 := h 0 (by omega)
      exfalso; clear e1 e2 e3 e4; omega
  · intro ⟨q, b0, b1, b2, b3⟩
    subst q
    rw [e3, e2, e1, e0, z, b0, b1, b2, b3]
    rfl
theorem wd_18 {m : Nat} (m1 : 1 ≤ m) (m5 : m ≤ 5) (h : ∀ i, i < m → 97 ≤ B (s + i) ∧ B (s + i) ≤ 122) : wv B s m = 15558 ↔ (m = 3 ∧ B (s + 0) = 111 ∧ B (s + 1) = 102 ∧ B (s + 2) = 102) := by
  have e0 : wv B s 1 = 32 * wv B s 0 + B (s + 0) - 96 := rfl
  have e1 : wv B s 2 = 32 * wv B s 1 + B (s + 1) - 96 := rfl
  have e2 : wv B s 3 = 32 * wv B s 2 + B (s + 2) - 96 := rfl
  have e3 : wv B s 4 = 32 * wv B s 3 + B (s + 3) - 96 := rfl
  have e4 : wv B s 5 = 32 * wv B s 4 + B (s + 4) - 96 := rfl
  have z := wv_0 (B := B) (s := s)
  constructor
  · intro q
    rcases (show m = 1 ∨ m = 2 ∨ m = 3 ∨ m = 4 ∨ m = 5 by omega) with rfl | rfl | rfl | rfl | rfl
    · have q1 : wv B s 1 = 15558 := q
      have h0 := h 0 (by omega)
      have q0 : wv B s 0 = 486 := by clear e1 e2 e3 e4; omega
      have b0 : B (s + 0) = 102 := by clear e1 e2 e3 e4; omega
      exfalso; omega
    · have q2 : wv B s 2 = 15558 := q
      have h1 := h 1 (by omega)
      have q1 : wv B s 1 = 486 := by clear e0 e2 e3 e4; omega
      have b1 : B (s + 1) = 102 := by clear e0 e2 e3 e4; omega
      have h0 := h 0 (by omega)
      have q0 : wv B s 0 = 15 := by clear e1 e2 e3 e4; omega
      have b0 : B (s + 0) = 102 := by clear e1 e2 e3 e4; omega
      exfalso; omega
    · have q3 : wv B s 3 = 15558 := q
      have h2 := h 2 (by omega)
      have q2 : wv B s 2 = 486 := by clear e0 e1 e3 e4; omega
      have b2 : B (s + 2) = 102 := by clear e0 e1 e3 e4; omega
      have h1 := h 1 (by omega)
      have q1 : wv B s 1 = 15 := by clear e0 e2 e3 e4; omega
      have b1 : B (s + 1) = 102 := by clear e0 e2 e3 e4; omega
      have h0 := h 0 (by omega)
      have q0 : wv B s 0 = 0 := by clear e1 e2 e3 e4; omega
      have b0 : B (s + 0) = 111 := by clear e1 e2 e3 e4; omega
      exact ⟨rfl, b0, b1, b2⟩
    · have q4 : wv B s 4 = 15558 := q
      have h3 := h 3 (by omega)
      have q3 : wv B s 3 = 486 := by clear e0 e1 e2 e4; omega
      have b3 : B (s + 3) = 102 := by clear e0 e1 e2 e4; omega
      have h2 := h 2 (by omega)
      have q2 : wv B s 2 = 15 := by clear e0 e1 e3 e4; omega
      have b2 : B (s + 2) = 102 := by clear e0 e1 e3 e4; omega
      have h1 := h 1 (by omega)
      have q1 : wv B s 1 = 0 := by clear e0 e2 e3 e4; omega
      have b1 : B (s + 1) = 111 := by clear e0 e2 e3 e4; omega
      have h0 := h 0 (by omega)
      exfalso; clear e1 e2 e3 e4; omega
    · have q5 : wv B s 5 = 15558 := q
      have h4 := h 4 (by omega)
      have q4 : wv B s 4 = 486 := by clear e0 e1 e2 e3; omega
      have b4 : B (s + 4) = 102 := by clear e0 e1 e2 e3; omega
      have h3 := h 3 (by omega)
      have q3 : wv B s 3 = 15 := by clear e0 e1 e2 e4; omega
      have b3 : B (s + 3) = 102 := by clear e0 e1 e2 e4; omega
      have h2 := h 2 (by omega)
      have q2 : wv B s 2 = 0 := by clear e0 e1 e3 e4; omega
      have b2 : B (s + 2) = 111 := by clear e0 e1 e3 e4; omega
      have h1 := h 1 (by omega)
      exfalso; clear e0 e2 e3 e4; omega
  · intro ⟨q, b0, b1, b2⟩
    subst q
    rw [e2, e1, e0, z, b0, b1, b2]
    rfl
theorem wd_19 {m : Nat} (m1 : 1 ≤ m) (m5 : m ≤ 5) (h : ∀ i, i < m → 97 ≤ B (s + i) ∧ B (s + i) ≤ 122) : wv B s m = 239 ↔ (m = 2 ∧ B (s + 0) = 103 ∧ B (s + 1) = 111) := by
  have e0 : wv B s 1 = 32 * wv B s 0 + B (s + 0) - 96 := rfl
  have e1 : wv B s 2 = 32 * wv B s 1 + B (s + 1) - 96 := rfl
  have e2 : wv B s 3 = 32 * wv B s 2 + B (s + 2) - 96 := rfl
  have e3 : wv B s 4 = 32 * wv B s 3 + B (s + 3) - 96 := rfl
  have e4 : wv B s 5 = 32 * wv B s 4 + B (s + 4) - 96 := rfl
  have z := wv_0 (B := B) (s := s)
  constructor
  · intro q
    rcases (show m = 1 ∨ m = 2 ∨ m = 3 ∨ m = 4 ∨ m = 5 by omega) with rfl | rfl | rfl | rfl | rfl
    · have q1 : wv B s 1 = 239 := q
      have h0 := h 0 (by omega)
      have q0 : wv B s 0 = 7 := by clear e1 e2 e3 e4; omega
      have b0 : B (s + 0) = 111 := by clear e1 e2 e3 e4; omega
      exfalso; omega
    · have q2 : wv B s 2 = 239 := q
      have h1 := h 1 (by omega)
      have q1 : wv B s 1 = 7 := by clear e0 e2 e3 e4; omega
      have b1 : B (s + 1) = 111 := by clear e0 e2 e3 e4; omega
      have h0 := h 0 (by omega)
      have q0 : wv B s 0 = 0 := by clear e1 e2 e3 e4; omega
      have b0 : B (s + 0) = 103 := by clear e1 e2 e3 e4; omega
      exact ⟨rfl, b0, b1⟩
    · have q3 : wv B s 3 = 239 := q
      have h2 := h 2 (by omega)
      have q2 : wv B s 2 = 7 := by clear e0 e1 e3 e4; omega
      have b2 : B (s + 2) = 111 := by clear e0 e1 e3 e4; omega
      have h1 := h 1 (by omega)
      have q1 : wv B s 1 = 0 := by clear e0 e2 e3 e4; omega
      have b1 : B (s + 1) = 103 := by clear e0 e2 e3 e4; omega
      have h0 := h 0 (by omega)
      exfalso; clear e1 e2 e3 e4; omega
    · have q4 : wv B s 4 = 239 := q
      have h3 := h 3 (by omega)
      have q3 : wv B s 3 = 7 := by clear e0 e1 e2 e4; omega
      have b3 : B (s + 3) = 111 := by clear e0 e1 e2 e4; omega
      have h2 := h 2 (by omega)
      have q2 : wv B s 2 = 0 := by clear e0 e1 e3 e4; omega
      have b2 : B (s + 2) = 103 := by clear e0 e1 e3 e4; omega
      have h1 := h 1 (by omega)
      exfalso; clear e0 e2 e3 e4; omega
    · have q5 : wv B s 5 = 239 := q
      have h4 := h 4 (by omega)
      have q4 : wv B s 4 = 7 := by clear e0 e1 e2 e3; omega
      have b4 : B (s + 4) = 111 := by clear e0 e1 e2 e3; omega
      have h3 := h 3 (by omega)
      have q3 : wv B s 3 = 0 := by clear e0 e1 e2 e4; omega
      have b3 : B (s + 3) = 103 := by clear e0 e1 e2 e4; omega
      have h2 := h 2 (by omega)
      exfalso; clear e0 e1 e3 e4; omega
  · intro ⟨q, b0, b1⟩
    subst q
    rw [e1, e0, z, b0, b1]
    rfl
theorem wd_20 {m : Nat} (m1 : 1 ≤ m) (m5 : m ≤ 5) (h : ∀ i, i < m → 97 ≤ B (s + i) ∧ B (s + i) ≤ 122) : wv B s m = 20681904 ↔ (m = 5 ∧ B (s + 0) = 115 ∧ B (s + 1) = 119 ∧ B (s + 2) = 101 ∧ B (s + 3) = 101 ∧ B (s + 4) = 112) := by
  have e0 : wv B s 1 = 32 * wv B s 0 + B (s + 0) - 96 := rfl
  have e1 : wv B s 2 = 32 * wv B s 1 + B (s + 1) - 96 := rfl
  have e2 : wv B s 3 = 32 * wv B s 2 + B (s + 2) - 96 := rfl
  have e3 : wv B s 4 = 32 * wv B s 3 + B (s + 3) - 96 := rfl
  have e4 : wv B s 5 = 32 * wv B s 4 + B (s + 4) - 96 := rfl
  have z := wv_0 (B := B) (s := s)
  constructor
  · intro q
    rcases (show m = 1 ∨ m = 2 ∨ m = 3 ∨ m = 4 ∨ m = 5 by omega) with rfl | rfl | rfl | rfl | rfl
    · have q1 : wv B s 1 = 20681904 := q
      have h0 := h 0 (by omega)
      have q0 : wv B s 0 = 646309 := by clear e1 e2 e3 e4; omega
      have b0 : B (s + 0) = 112 := by clear e1 e2 e3 e4; omega
      exfalso; omega
    · have q2 : wv B s 2 = 20681904 := q
      have h1 := h 1 (by omega)
      have q1 : wv B s 1 = 646309 := by clear e0 e2 e3 e4; omega
      have b1 : B (s + 1) = 112 := by clear e0 e2 e3 e4; omega
      have h0 := h 0 (by omega)
      have q0 : wv B s 0 = 20197 := by clear e1 e2 e3 e4; omega
      have b0 : B (s + 0) = 101 := by clear e1 e2 e3 e4; omega
      exfalso; omega
    · have q3 : wv B s 3 = 20681904 := q
      have h2 := h 2 (by omega)
      have q2 : wv B s 2 = 646309 := by clear e0 e1 e3 e4; omega
      have b2 : B (s + 2) = 112 := by clear e0 e1 e3 e4; omega
      have h1 := h 1 (by omega)
      have q1 : wv B s 1 = 20197 := by clear e0 e2 e3 e4; omega
      have b1 : B (s + 1) = 101 := by clear e0 e2 e3 e4; omega
      have h0 := h 0 (by omega)
      have q0 : wv B s 0 = 631 := by clear e1 e2 e3 e4; omega
      have b0 : B (s + 0) = 101 := by clear e1 e2 e3 e4; omega
      exfalso; omega
    · have q4 : wv B s 4 = 20681904 := q
      have h3 := h 3 (by omega)
      have q3 : wv B s 3 = 646309 := by clear e0 e1 e2 e4; omega
      have b3 : B (s + 3) = 112 := by clear e0 e1 e2 e4; omega
      have h2 := h 2 (by omega)
      have q2 : wv B s 2 = 20197 := by clear e0 e1 e3 e4; omega
      have b2 : B (s + 2) = 101 := by clear e0 e1 e3 e4; omega
      have h1 := h 1 (by omega)
      have q1 : wv B s 1 = 631 := by clear e0 e2 e3 e4; omega
      have b1 : B (s + 1) = 101 := by clear e0 e2 e3 e4; omega
      have h0 := h 0 (by omega)
      have q0 : wv B s 0 = 19 := by clear e1 e2 e3 e4; omega
      have b0 : B (s + 0) = 119 := by clear e1 e2 e3 e4; omega
      exfalso; omega
    · have q5 : wv B s 5 = 20681904 := q
      have h4 := h 4 (by omega)
      have q4 : wv B s 4 = 646309 := by clear e0 e1 e2 e3; omega
      have b4 : B (s + 4) = 112 := by clear e0 e1 e2 e3; omega
      have h3 := h 3 (by omega)
      have q3 : wv B s 3 = 20197 := by clear e0 e1 e2 e4; omega
      have b3 : B (s + 3) = 101 := by clear e0 e1 e2 e4; omega
      have h2 := h 2 (by omega)
      have q2 : wv B s 2 = 631 := by clear e0 e1 e3 e4; omega
      have b2 : B (s + 2) = 101 := by clear e0 e1 e3 e4; omega
      have h1 := h 1 (by omega)
      have q1 : wv B s 1 = 19 := by clear e0 e2 e3 e4; omega
      have b1 : B (s + 1) = 119 := by clear e0 e2 e3 e4; omega
      have h0 := h 0 (by omega)
      have q0 : wv B s 0 = 0 := by clear e1 e2 e3 e4; omega
      have b0 : B (s + 0) = 115 := by clear e1 e2 e3 e4; omega
      exact ⟨rfl, b0, b1, b2, b3, b4⟩
  · intro ⟨q, b0, b1, b2, b3, b4⟩
    subst q
    rw [e4, e3, e2, e1, e0, z, b0, b1, b2, b3, b4]
    rfl
end Tc
