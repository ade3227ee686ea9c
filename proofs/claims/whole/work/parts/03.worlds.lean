/-! the world of the small machine over the large one -/
abbrev ia_G : Type := va_G × (Nat → ClassId) × Nat × (Nat → Nat) × (Nat → Nat × Nat) × (Nat → Nat → Int32)
abbrev ia_D (g : ia_G) : va_G := g.1
abbrev ia_cA (g : ia_G) : Nat → ClassId := g.2.1
abbrev ia_z (g : ia_G) : Nat := g.2.2.1
abbrev ia_o (g : ia_G) : Nat → Nat := g.2.2.2.1
abbrev ia_ok (g : ia_G) : Nat → Nat × Nat := g.2.2.2.2.1
abbrev ia_oi (g : ia_G) : Nat → Nat → Int32 := g.2.2.2.2.2
def ia_ro (g : ia_G) (r : Nat) : Option Nat := if r = 0 then none else if r < 64 then some (ia_o g r) else some (ia_z g + (r - 64))
def ia_rv (g : ia_G) (v : ia_V) : Value := match v with
  | .inl x => .int x
  | .inr (.inl x) => .long x
  | .inr (.inr r) => va_rf (ia_ro g r)
def ia_fv (g : ia_G) (h : ia_H) (a ci k : Nat) : Value := match ia_ft ci k with
  | 0 => .int (ia_i h a k)
  | 1 => .long (ia_l h a k)
  | 4 => .int (ia_i h a k)
  | 5 => .int (ia_i h a k)
  | _ => va_rf (ia_ro g (ia_r h a k))
def ia_en (g : ia_G) (h : ia_H) (a : Nat) : va_E :=
  if (ia_k h a).1 < 13 then .inr ((ia_k h a).1, (List.range (ia_N (ia_k h a).1)).map (ia_fv g h a (ia_k h a).1))
  else if (ia_k h a).1 < 103 then .inl (ia_cA g (ia_k h a).1, (ia_k h a).2, .inl (ia_i h a))
  else if (ia_k h a).1 = 103 then .inl (ia_cA g 103, (ia_k h a).2, .inr (.inl (ia_l h a)))
  else .inl (ia_cA g (ia_k h a).1, (ia_k h a).2, .inr (.inr (.inr (.inr fun j => ia_ro g (ia_r h a j)))))
def ia_w (g : ia_G) (h : ia_H) : va_W := (List.range (ia_n h)).map fun i => (ia_z g + i, ia_en g h (64 + i))
theorem ia_w_at {g : ia_G} {h : ia_H} {a : Nat} (h1 : 64 ≤ a) (h2 : a < 64 + ia_n h) : (ia_w g h)[a - 64]? = some (ia_z g + (a - 64), ia_en g h a) := by
  unfold ia_w
  have e : 64 + (a - 64) = a := by omega
  simp [show a - 64 < ia_n h by omega, e]
theorem ia_w_lt {g : ia_G} {h : ia_H} {i : Nat} {q : Nat × va_E} (e : (ia_w g h)[i]? = some q) : i < ia_n h ∧ q = (ia_z g + i, ia_en g h (64 + i)) := by
  unfold ia_w at e
  rw [List.getElem?_map] at e
  rcases Nat.lt_or_ge i (ia_n h) with hi | hi
  · rw [List.getElem?_range hi] at e
    exact ⟨hi, (Option.some.inj e).symm⟩
  · rw [List.getElem?_eq_none (by simpa using hi)] at e
    cases e
theorem ia_w_D (g : ia_G) (h : ia_H) : va_D (fun q => ia_z g ≤ q) (ia_w g h) := by
  refine ⟨fun i j p q hp hq e => ?_, fun k q hq => ?_⟩
  · obtain ⟨h1, rfl⟩ := ia_w_lt hp
    obtain ⟨h2, rfl⟩ := ia_w_lt hq
    simp only at e
    omega
  · obtain ⟨h1, rfl⟩ := ia_w_lt hq
    exact Nat.le_add_right _ _
/-- one cell changed -/
theorem ia_w_set {g : ia_G} {h h' : ia_H} {a : Nat} {e : va_E} (h1 : 64 ≤ a) (hn : ia_n h' = ia_n h) (he : ia_en g h' a = e) (ho : ∀ b, b ≠ a → ia_en g h' b = ia_en g h b) : (ia_w g h).set (a - 64) (ia_z g + (a - 64), e) = ia_w g h' := by
  apply List.ext_getElem?
  intro i
  rw [List.getElem?_set]
  by_cases hi : a - 64 = i
  · subst hi
    rw [if_pos rfl]
    by_cases hl : a - 64 < (ia_w g h).length
    · rw [if_pos hl]
      have hl2 : a - 64 < ia_n h := by simpa [ia_w] using hl
      rw [ia_w_at h1 (by omega), he]
    · rw [if_neg hl]
      have hl2 : ¬ a - 64 < ia_n h := by simpa [ia_w] using hl
      rw [List.getElem?_eq_none]
      simp only [ia_w, List.length_map, List.length_range]
      omega
  · rw [if_neg hi]
    unfold ia_w
    rw [List.getElem?_map, List.getElem?_map, hn]
    rcases Nat.lt_or_ge i (ia_n h) with hj | hj
    · rw [List.getElem?_range hj]
      simp only [Option.map_some]
      rw [ho (64 + i) (by omega)]
    · rw [List.getElem?_eq_none (by simpa using hj)]
      rfl
/-- the locals that are known -/
def ia_al (g : ia_G) (k : Nat) (lv : ia_L) : List (Nat × Value) := match lv with
  | [] => []
  | none :: t => ia_al g (k + 1) t
  | some v :: t => (k, ia_rv g v) :: ia_al g (k + 1) t
theorem ia_al_mem {g : ia_G} {q : Nat × Value} : ∀ (lv : ia_L) (k : Nat), q ∈ ia_al g k lv ↔ ∃ (i : Nat) (v : ia_V), lv[i]? = some (some v) ∧ q = (k + i, ia_rv g v)
  | [], k => by simp [ia_al]
  | none :: t, k => by
    rw [ia_al, ia_al_mem t (k + 1)]
    constructor
    · rintro ⟨i, v, h1, h2⟩
      exact ⟨i + 1, v, by simpa using h1, by rw [h2]; simp only [Prod.mk.injEq, and_true]; omega⟩
    · rintro ⟨i, v, h1, h2⟩
      cases i with
      | zero => simp at h1
      | succ i => exact ⟨i, v, by simpa using h1, by rw [h2]; simp only [Prod.mk.injEq, and_true]; omega⟩
  | some w :: t, k => by
    rw [ia_al, List.mem_cons, ia_al_mem t (k + 1)]
    constructor
    · rintro (h | ⟨i, v, h1, h2⟩)
      · exact ⟨0, w, rfl, h⟩
      · exact ⟨i + 1, v, by simpa using h1, by rw [h2]; simp only [Prod.mk.injEq, and_true]; omega⟩
    · rintro ⟨i, v, h1, h2⟩
      cases i with
      | zero => left; simp only [List.getElem?_cons_zero, Option.some.injEq] at h1; subst h1; exact h2
      | succ i => right; exact ⟨i, v, by simpa using h1, by rw [h2]; simp only [Prod.mk.injEq, and_true]; omega⟩
theorem ia_has_at {g : ia_G} {ls : Array Slot} {nL i : Nat} {lv : ia_L} {v : ia_V} (h : lv_has ls nL (ia_al g 0 lv)) (hv : lv[i]? = some (some v)) : ls[i]? = some (.val (ia_rv g v)) := by
  have h1 := h.2.2 (0 + i, ia_rv g v) ((ia_al_mem lv 0).mpr ⟨i, v, hv, rfl⟩)
  simpa using h1
theorem ia_has_sub {ls : Array Slot} {nL : Nat} {l l' : List (Nat × Value)} (h : lv_has ls nL l) (hs : ∀ q ∈ l', q ∈ l) : lv_has ls nL l' := ⟨h.1, h.2.1, fun q hq => h.2.2 q (hs q hq)⟩
theorem ia_cat (g : ia_G) (v : ia_V) : (ia_rv g v).category = match v with
  | .inr (.inl _) => 2
  | _ => 1 := by
  rcases v with x | x | r
  · rfl
  · rfl
  · simp only [ia_rv, va_rf]
    cases ia_ro g r <;> rfl
theorem ia_clr_at {lv : ia_L} {i j : Nat} {v : ia_V} (h : (ia_clr lv i)[j]? = some (some v)) : lv[j]? = some (some v) ∧ (j + 1 = i → ∀ x, v ≠ .inr (.inl x)) := by
  cases i with
  | zero => exact ⟨h, fun e => by omega⟩
  | succ i =>
    simp only [ia_clr] at h
    split at h
    · rename_i y hy
      rw [List.getElem?_set] at h
      by_cases hij : i = j
      · rw [if_pos hij] at h
        split at h <;> cases h
      · rw [if_neg hij] at h
        exact ⟨h, fun e => by omega⟩
    · rename_i hn
      refine ⟨h, fun e x hx => ?_⟩
      have : i = j := by omega
      subst this
      exact hn x (by rw [h, hx])
theorem ia_clr_len (lv : ia_L) (i : Nat) : (ia_clr lv i).length = lv.length := by
  cases i with
  | zero => rfl
  | succ i =>
    simp only [ia_clr]
    split
    · simp
    · rfl
theorem ia_s1_len (lv : ia_L) (i : Nat) (v : ia_V) : (ia_s1 lv i v).length = lv.length := by simp [ia_s1, ia_clr_len]
theorem ia_s2_len (lv : ia_L) (i : Nat) (x : Int64) : (ia_s2 lv i x).length = lv.length := by simp [ia_s2, ia_clr_len]
theorem ia_s1_sub {g : ia_G} {lv : ia_L} {i : Nat} {v : ia_V} : ∀ q ∈ ia_al g 0 (ia_s1 lv i v), q ∈ (i, ia_rv g v) :: (ia_al g 0 lv).filter (fun q => !(q.1 == i) && !(q.1 + 1 == i && q.2.category == 2)) := by
  intro q hq
  obtain ⟨j, w, h1, rfl⟩ := (ia_al_mem _ 0).mp hq
  rw [ia_s1, List.getElem?_set] at h1
  by_cases hij : i = j
  · subst hij
    rw [if_pos rfl] at h1
    split at h1
    · cases h1
      simp
    · cases h1
  · rw [if_neg hij] at h1
    obtain ⟨h2, h3⟩ := ia_clr_at h1
    apply List.mem_cons_of_mem
    rw [List.mem_filter]
    refine ⟨(ia_al_mem _ 0).mpr ⟨j, w, h2, rfl⟩, ?_⟩
    have e1 : ((0 + j) == i) = false := by simp; omega
    simp only [e1, Bool.not_false, Bool.true_and, Bool.not_eq_true']
    by_cases hj : j + 1 = i
    · have h4 := h3 hj
      have : (ia_rv g w).category = 1 := by
        rw [ia_cat]
        rcases w with x | x | r
        · rfl
        · exact absurd rfl (h4 x)
        · rfl
      simp [this]
    · simp [hj]
theorem ia_s2_sub {g : ia_G} {lv : ia_L} {i : Nat} {x : Int64} : ∀ q ∈ ia_al g 0 (ia_s2 lv i x), q ∈ (i, Value.long x) :: (ia_al g 0 lv).filter (fun q => !(q.1 == i) && (!(q.1 == i + 1) && !(q.1 + 1 == i && q.2.category == 2))) := by
  intro q hq
  obtain ⟨j, w, h1, rfl⟩ := (ia_al_mem _ 0).mp hq
  rw [ia_s2, List.getElem?_set] at h1
  by_cases hi1 : i + 1 = j
  · rw [if_pos hi1] at h1
    split at h1 <;> cases h1
  rw [if_neg hi1, List.getElem?_set] at h1
  by_cases hij : i = j
  · subst hij
    rw [if_pos rfl] at h1
    split at h1
    · cases h1
      simp [ia_rv]
    · cases h1
  · rw [if_neg hij] at h1
    obtain ⟨h2, h3⟩ := ia_clr_at h1
    apply List.mem_cons_of_mem
    rw [List.mem_filter]
    refine ⟨(ia_al_mem _ 0).mpr ⟨j, w, h2, rfl⟩, ?_⟩
    have e1 : ((0 + j) == i) = false := by simp; omega
    have e2 : ((0 + j) == i + 1) = false := by simp; omega
    simp only [e1, e2, Bool.not_false, Bool.true_and, Bool.not_eq_true']
    by_cases hj : j + 1 = i
    · have h4 := h3 hj
      have : (ia_rv g w).category = 1 := by
        rw [ia_cat]
        rcases w with x | x | r
        · rfl
        · exact absurd rfl (h4 x)
        · rfl
      simp [this]
    · simp [hj]
