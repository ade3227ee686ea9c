/-! the words of the document: cells, what lies beside, cracks, loads -/
def up1 (S : Nat → Int) (i : Nat) (v : Int) : Nat → Int := fun j => if j = i then v else S j
theorem up1_s {S : Nat → Int} {i : Nat} {v : Int} : up1 S i v i = v := if_pos rfl
theorem up1_n {S : Nat → Int} {i j : Nat} {v : Int} (h : j ≠ i) : up1 S i v j = S j := if_neg h
theorem up1_pi {h : pH} {a i : Nat} {x : Int} : pi (pwI h a i x) a = up1 (pi h a) i x := by
  funext j
  rw [pi_wI]
  unfold up1
  by_cases q : j = i
  · rw [if_pos ⟨rfl, q⟩, if_pos q]
  · rw [if_neg (fun z => q z.2), if_neg q]
theorem pi_wIf {h : pH} {a i b : Nat} {x : Int} (hb : b ≠ a) : pi (pwI h a i x) b = pi h b := funext fun _ => pi_wIa hb
theorem pi_wLf {h : pH} {a i b : Nat} {x : Int64} : pi (pwL h a i x) b = pi h b := rfl
theorem pi_wRf {h : pH} {a i b x : Nat} : pi (pwR h a i x) b = pi h b := rfl
/-- beside a cell c by the side s, in a lake so wide and so high -/
def be (w h c s : Int) : Int :=
  if s = 0 then (if c < w then -1 else c - w)
  else if s = 1 then (if c % w = 0 then -1 else c - 1)
  else if s = 2 then (if c % w = w - 1 then -1 else c + 1)
  else (if c + w < w * h then c + w else -1)
def sz (w h : Int) : Prop := 2 ≤ w ∧ w ≤ 6 ∧ 2 ≤ h ∧ h ≤ 6
theorem sz_cases {w h : Int} (q : sz w h) : (w = 2 ∨ w = 3 ∨ w = 4 ∨ w = 5 ∨ w = 6) ∧ 2 ≤ h ∧ h ≤ 6 := by
  obtain ⟨a, b, c, d⟩ := q
  omega
theorem sz_mul {w h : Int} (q : sz w h) : 4 ≤ w * h ∧ w * h ≤ 36 := by
  obtain ⟨hw, a, b⟩ := sz_cases q
  rcases hw with rfl | rfl | rfl | rfl | rfl <;> omega
theorem be_range {w h c s : Int} (q : sz w h) (h0 : 0 ≤ c) (h1 : c < w * h) : be w h c s = -1 ∨ (0 ≤ be w h c s ∧ be w h c s < w * h) := by
  obtain ⟨hw, a, b⟩ := sz_cases q
  unfold be
  rcases hw with rfl | rfl | rfl | rfl | rfl <;> (split; split <;> omega; split; split <;> omega; split; split <;> omega; split <;> omega)
theorem be_lo {w h c s : Int} (q : sz w h) (h0 : 0 ≤ c) (h1 : c < w * h) : -1 ≤ be w h c s := by
  rcases be_range (s := s) q h0 h1 with e | e <;> omega
theorem be_hi {w h c s : Int} (q : sz w h) (h0 : 0 ≤ c) (h1 : c < w * h) : be w h c s < w * h := by
  have := sz_mul q
  rcases be_range (s := s) q h0 h1 with e | e <;> omega
def s4 (s : Int) : Prop := s = 0 ∨ s = 1 ∨ s = 2 ∨ s = 3
theorem be_sym {w h c s : Int} (q : sz w h) (h0 : 0 ≤ c) (h1 : c < w * h) (hs : s4 s) (hb : 0 ≤ be w h c s) : be w h (be w h c s) (3 - s) = c := by
  obtain ⟨hw, a, b⟩ := sz_cases q
  rcases hs with rfl | rfl | rfl | rfl
  · have e : be w h c 0 = if c < w then -1 else c - w := rfl
    rw [e] at hb ⊢
    split at hb
    · omega
    · rename_i z
      rw [if_neg z]
      show (if c - w + w < w * h then c - w + w else -1) = c
      rw [if_pos (by omega)]
      omega
  · have e : be w h c 1 = if c % w = 0 then -1 else c - 1 := rfl
    rw [e] at hb ⊢
    split at hb
    · omega
    · rename_i z
      rw [if_neg z]
      show (if (c - 1) % w = w - 1 then -1 else c - 1 + 1) = c
      rw [if_neg (by rcases hw with rfl | rfl | rfl | rfl | rfl <;> omega)]
      omega
  · have e : be w h c 2 = if c % w = w - 1 then -1 else c + 1 := rfl
    rw [e] at hb ⊢
    split at hb
    · omega
    · rename_i z
      rw [if_neg z]
      show (if (c + 1) % w = 0 then -1 else c + 1 - 1) = c
      rw [if_neg (by rcases hw with rfl | rfl | rfl | rfl | rfl <;> omega)]
      omega
  · have e : be w h c 3 = if c + w < w * h then c + w else -1 := rfl
    rw [e] at hb ⊢
    split at hb
    · rename_i z
      rw [if_pos z]
      show (if c + w < w then -1 else c + w - w) = c
      rw [if_neg (by omega)]
      omega
    · omega
theorem be_0 {w h c : Int} : be w h c 0 = if c < w then -1 else c - w := rfl
theorem be_1 {w h c : Int} : be w h c 1 = if c % w = 0 then -1 else c - 1 := rfl
theorem be_2 {w h c : Int} : be w h c 2 = if c % w = w - 1 then -1 else c + 1 := rfl
theorem be_3 {w h c : Int} : be w h c 3 = if c + w < w * h then c + w else -1 := rfl
theorem be_inj {w h c s t : Int} (q : sz w h) (h0 : 0 ≤ c) (hs : s4 s) (ht : s4 t) (hb : 0 ≤ be w h c s) (e : be w h c s = be w h c t) : s = t := by
  obtain ⟨a, b, c', d⟩ := q
  rcases hs with rfl | rfl | rfl | rfl <;> rcases ht with rfl | rfl | rfl | rfl <;> first | rfl | (exfalso; simp only [be_0, be_1, be_2, be_3] at hb e; split at hb <;> split at e <;> omega)
theorem be_ne {w h c s : Int} (q : sz w h) (h0 : 0 ≤ c) (hs : s4 s) : be w h c s ≠ c := by
  obtain ⟨a, b, c', d⟩ := q
  rcases hs with rfl | rfl | rfl | rfl <;> simp only [be_0, be_1, be_2, be_3] <;> split <;> omega
/-- how many steps lie between two cells -/
def stp (w a b : Int) : Int := (a % w - b % w).natAbs + (a / w - b / w).natAbs
theorem stp_1 {w h a b : Int} (q : sz w h) (a0 : 0 ≤ a) (a1 : a < w * h) (b0 : 0 ≤ b) (b1 : b < w * h) : stp w a b = 1 ↔ ∃ s, s4 s ∧ be w h a s = b := by
  obtain ⟨hw, c, d⟩ := sz_cases q
  constructor
  · intro e
    unfold stp at e
    have : (b = a - w) ∨ (b = a - 1 ∧ a % w ≠ 0) ∨ (b = a + 1 ∧ a % w ≠ w - 1) ∨ b = a + w := by
      rcases hw with rfl | rfl | rfl | rfl | rfl <;> omega
    rcases this with e | e | e | e
    · exact ⟨0, Or.inl rfl, by rw [be_0, if_neg (by omega)]; omega⟩
    · exact ⟨1, Or.inr (Or.inl rfl), by rw [be_1, if_neg (by omega)]; omega⟩
    · exact ⟨2, Or.inr (Or.inr (Or.inl rfl)), by rw [be_2, if_neg (by omega)]; omega⟩
    · exact ⟨3, Or.inr (Or.inr (Or.inr rfl)), by rw [be_3, if_pos (by omega)]; omega⟩
  · rintro ⟨s, hs, e⟩
    unfold stp
    rcases hs with rfl | rfl | rfl | rfl
    · rw [be_0] at e; split at e
      · omega
      · rcases hw with rfl | rfl | rfl | rfl | rfl <;> omega
    · rw [be_1] at e; split at e
      · omega
      · rcases hw with rfl | rfl | rfl | rfl | rfl <;> omega
    · rw [be_2] at e; split at e
      · omega
      · rcases hw with rfl | rfl | rfl | rfl | rfl <;> omega
    · rw [be_3] at e; split at e
      · rcases hw with rfl | rfl | rfl | rfl | rfl <;> omega
      · omega
/-- a lake as the reference keeps it -/
def ce (L : Nat → Int) : Int := L 0 * L 1
def bs (L : Nat → Int) (c s : Int) : Int := be (L 0) (L 1) c s
def ck (L : Nat → Int) (c s : Int) : Prop := L ((if s = 0 then 188 + bs L c 0 else if s = 1 then 152 + bs L c 1 else if s = 2 then 152 + c else 188 + c).toNat) = 1
theorem ck_dec (L : Nat → Int) (c s : Int) : ck L c s ∨ ¬ ck L c s := Classical.em _
noncomputable def nr (L : Nat → Int) (c s : Int) : Int := if bs L c s < 0 then -1 else if L ((if s = 0 then 188 + bs L c 0 else if s = 1 then 152 + bs L c 1 else if s = 2 then 152 + c else 188 + c).toNat) = 1 then -1 else bs L c s
