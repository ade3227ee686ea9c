/-! the reference's leaves -/
theorem tn_l2 {a : Nat} {b c : Int} (h : 0 ≤ b + c) : ((a : Int) + b + c).toNat = a + (b + c).toNat := by omega
theorem tn_l3 {a : Nat} {b c d : Int} (h : 0 ≤ b + c + d) : ((a : Int) + b + c + d).toNat = a + (b + c + d).toNat := by omega
theorem gib {α : Type} {a : Int} {n : Nat} {x : Option α} (h1 : 0 ≤ a) (h2 : a < n) : ia_gd (pib a n) x = x := gd_t (ibt h1 h2)
theorem gnz {α : Type} {a : Int} {x : Option α} (h : a ≠ 0) : ia_gd (pnz a) x = x := gd_t (nzt h)
theorem gz1 {α : Type} {c : Prop} [Decidable c] {x : Option α} : ia_gd (pz1 (if c then 1 else 0)) x = x := gd_t (z1b c)
theorem bsm {α β : Type} {a : α} {f : α → Option β} : (some a).bind f = f a := rfl
/-- a lake that was told -/
def LK (L : Nat → Int) : Prop :=
  sz (L 0) (L 1) ∧ (1 ≤ L 2 ∧ L 2 ≤ 99) ∧ (1 ≤ L 3 ∧ L 3 ≤ 12) ∧ (0 ≤ L 4 ∧ L 4 ≤ 6) ∧ (∀ c, c < 36 → 0 ≤ L (8 + c) ∧ L (8 + c) ≤ 99) ∧ (∀ c, c < 36 → 0 ≤ L (44 + c) ∧ L (44 + c) ≤ 9) ∧ (∀ c, c < 36 → 0 ≤ L (80 + c) ∧ L (80 + c) ≤ 9) ∧ (∀ c, c < 108 → L (116 + c) = 0 ∨ L (116 + c) = 1) ∧ (∀ k, k < 12 → -20 ≤ L (224 + k) ∧ L (224 + k) ≤ 20) ∧ (∀ s : Nat, (s : Int) < L 4 → (0 ≤ L (236 + 4 * s) ∧ L (236 + 4 * s) < L 0 * L 1) ∧ (1 ≤ L (237 + 4 * s) ∧ L (237 + 4 * s) ≤ 99) ∧ (0 ≤ L (238 + 4 * s) ∧ L (238 + 4 * s) ≤ 9) ∧ (0 ≤ L (239 + 4 * s) ∧ L (239 + 4 * s) ≤ 99)) ∧ (∀ s t : Nat, s < t → (t : Int) < L 4 → L (236 + 4 * s) ≠ L (236 + 4 * t))
/-- a law that was told -/
def WK (W : Nat → Int) : Prop :=
  (0 ≤ W 0 ∧ W 0 ≤ 99) ∧ (0 ≤ W 1 ∧ W 1 ≤ 9) ∧ (0 ≤ W 2 ∧ W 2 ≤ 10) ∧ (0 ≤ W 3 ∧ W 3 ≤ 99) ∧ (0 ≤ W 4 ∧ W 4 ≤ 12) ∧ (∀ k : Nat, (k : Int) < W 4 → (0 ≤ W (6 + 2 * k) ∧ W (6 + 2 * k) ≤ 35) ∧ (0 ≤ W (7 + 2 * k) ∧ W (7 + 2 * k) ≤ 35)) ∧ (∀ c, c < 36 → W (30 + c) = 0 ∨ W (30 + c) = 1)
/-- the reference looks at this lake and this law -/
def MS (h : pH) (l w : Nat) (L W : Nat → Int) : Prop :=
  pi h 417 14 = l ∧ pi h 417 15 = w ∧ (l ≤ 870) ∧ (w ≤ 1198) ∧ (∀ j, j < 260 → pi h 418 (l + j) = L j) ∧ (∀ j, j < 68 → pi h 418 (w + j) = W j) ∧ LK L ∧ WK W
section Ma
variable {h : pH} {l : Nat} {L : Nat → Int}
theorem m_isIn {v a b : Int} : pf_M_isIn v a b h = some (if a ≤ v ∧ v ≤ b then 1 else 0) := by
  unfold pf_M_isIn
  repeat' split
  all_goals first | rfl | (exfalso; omega)
theorem m_beside {c s : Int} (hl : l ≤ 6000) (hL : ∀ j, j < 260 → pi h 418 (l + j) = L j) (hz : sz (L 0) (L 1)) (c0 : 0 ≤ c) (c1 : c < 100) : pf_M_beside l c s h = some (bs L c s) := by
  have z := sz_mul hz
  obtain ⟨z1, z2, z3, z4⟩ := hz
  unfold pf_M_beside bs be
  simp (disch := omega) only [wr_eq, tn_l, gib, gnz, hL, tm_p, Int.toNat_zero, Int.toNat_one, Int.reduceToNat]
  repeat' split
  all_goals first | rfl | omega | (exfalso; omega)
theorem m_isCracked {c s : Int} (hl : l ≤ 6000) (hL : ∀ j, j < 260 → pi h 418 (l + j) = L j) (hz : sz (L 0) (L 1)) (c0 : 0 ≤ c) (c1 : c < L 0 * L 1) : pf_M_isCracked l c s h = some (if L ((if s = 0 then 188 + bs L c 0 else if s = 1 then 152 + bs L c 1 else if s = 2 then 152 + c else 188 + c).toNat) = 1 then 1 else 0) := by
  have z := sz_mul hz
  have b0 : -1 ≤ bs L c s ∧ bs L c s < 36 := ⟨be_lo hz c0 c1, by have := be_hi (s := s) hz c0 c1; unfold bs; omega⟩
  unfold pf_M_isCracked pj_M_isCracked_87
  rw [m_beside hl hL hz c0 (by omega), bsm]
  by_cases s0 : s = 0
  · subst s0
    simp (disch := omega) only [wr_eq, tn_l, tn_l2, gib, hL, if_true]
    split <;> rfl
  · by_cases s1 : s = 1
    · subst s1
      simp (disch := omega) only [wr_eq, tn_l, tn_l2, gib, hL, if_true, if_neg s0]
      split <;> rfl
    · by_cases s2 : s = 2
      · subst s2
        simp (disch := omega) only [wr_eq, tn_l, tn_l2, gib, hL, if_true, if_neg s0, if_neg s1]
        split <;> rfl
      · simp (disch := omega) only [wr_eq, tn_l, tn_l2, gib, hL, if_true, if_neg s0, if_neg s1, if_neg s2]
        split <;> rfl
theorem m_near {c s : Int} (hl : l ≤ 6000) (hL : ∀ j, j < 260 → pi h 418 (l + j) = L j) (hz : sz (L 0) (L 1)) (c0 : 0 ≤ c) (c1 : c < L 0 * L 1) : pf_M_near l c s h = some (nr L c s) := by
  have z := sz_mul hz
  unfold pf_M_near nr
  rw [m_beside hl hL hz c0 (by omega), m_isCracked hl hL hz c0 c1, bsm, bsm, bsm]
  split
  · rfl
  · by_cases q : L ((if s = 0 then 188 + bs L c 0 else if s = 1 then 152 + bs L c 1 else if s = 2 then 152 + c else 188 + c).toNat) = 1
    · rw [if_pos q, if_pos q]; rfl
    · rw [if_neg q, if_neg q]; rfl
theorem m_isCell {c : Int} (hl : l ≤ 6000) (hL : ∀ j, j < 260 → pi h 418 (l + j) = L j) (hz : sz (L 0) (L 1)) : pf_M_isCell l c h = some (if 0 ≤ c ∧ c < ce L then 1 else 0) := by
  have z := sz_mul hz
  unfold pf_M_isCell ce
  simp (disch := omega) only [wr_eq, tn_l, gib, hL, m_isIn, bsm, gz1, Int.toNat_zero, Int.toNat_one, Int.reduceToNat]
  congr 1
  split <;> split <;> first | rfl | (exfalso; omega)
theorem m_isShop {s : Int} (hl : l ≤ 6000) (hL : ∀ j, j < 260 → pi h 418 (l + j) = L j) (hz : 0 ≤ L 4 ∧ L 4 ≤ 6) : pf_M_isShop l s h = some (if 0 ≤ s ∧ s < L 4 then 1 else 0) := by
  unfold pf_M_isShop
  simp (disch := omega) only [wr_eq, tn_l, gib, hL, m_isIn, bsm, gz1, Int.reduceToNat]
  congr 1
  split <;> split <;> first | rfl | (exfalso; omega)
theorem m_shopOf {s k : Int} (hl : l ≤ 6000) (hL : ∀ j, j < 260 → pi h 418 (l + j) = L j) (s0 : 0 ≤ s) (s1 : s < 6) (k0 : 0 ≤ k) (k1 : k < 4) : pf_M_shopOf l s k h = some (L ((236 + 4 * s + k).toNat)) := by
  unfold pf_M_shopOf
  simp (disch := omega) only [wr_eq, tn_l, tn_l2, tn_l3, gib, hL]
end Ma
section Mb
variable {h : pH} {l w : Nat} {L W : Nat → Int}
theorem m_cells (M : MS h l w L W) : pf_M_cells h = some (ce L) := by
  obtain ⟨e1, e2, hl, hw, hL, hW, kL, kW⟩ := M
  have z := sz_mul kL.1
  unfold pf_M_cells ce
  simp (disch := omega) only [e1, wr_eq, tn_l, gib, hL, Int.toNat_zero, Int.toNat_one]
theorem m_stands {s : Int} (M : MS h l w L W) : pf_M_stands s h = some (if (0 ≤ s ∧ s < L 4) ∧ 0 ≤ pi h 422 (72 + s.toNat) then 1 else 0) := by
  obtain ⟨e1, e2, hl, hw, hL, hW, kL, kW⟩ := M
  have n4 := kL.2.2.2.1
  unfold pf_M_stands
  rw [e1, m_isShop (by omega) hL n4, bsm]
  by_cases q : 0 ≤ s ∧ s < L 4
  · have t : (72 + s).toNat = 72 + s.toNat := by omega
    rw [if_pos q, if_neg (by decide)]
    simp (disch := omega) only [wr_eq, gib, t]
    by_cases z : pi h 422 (72 + s.toNat) < 0
    · rw [if_pos z, if_neg (by omega)]
    · rw [if_neg z, if_pos ⟨q, by omega⟩]
  · rw [if_neg q, if_pos rfl, if_neg (fun z => q z.1)]
/-- what a shop weighs, and its stove, as the reference has it -/
def wtM (h : pH) (L : Nat → Int) (s : Nat) : Int := L (237 + 4 * s) + (if (s : Int) = pi h 417 17 then pi h 417 18 else 0)
def svM (h : pH) (L : Nat → Int) (s : Nat) : Int := if (s : Int) = pi h 417 16 then 0 else L (238 + 4 * s)
theorem m_weightOf {s : Nat} (M : MS h l w L W) (s1 : (s : Int) < L 4) (hm : 0 ≤ pi h 417 18 ∧ pi h 417 18 ≤ 100) : pf_M_weightOf s h = some (wtM h L s) := by
  obtain ⟨e1, e2, hl, hw, hL, hW, kL, kW⟩ := M
  have n4 := kL.2.2.2.1
  have r := (kL.2.2.2.2.2.2.2.2.2.1 s s1).2.1
  unfold pf_M_weightOf wtM
  rw [e1, m_shopOf (by omega) hL (by omega) (by omega) (by omega) (by omega), bsm, show (236 + 4 * (s : Int) + 1).toNat = 237 + 4 * s by omega]
  split <;> rw [wr_eq (by omega) (by omega)]
theorem m_stoveOf {s : Nat} (M : MS h l w L W) (s1 : (s : Int) < L 4) : pf_M_stoveOf s h = some (svM h L s) := by
  obtain ⟨e1, e2, hl, hw, hL, hW, kL, kW⟩ := M
  have n4 := kL.2.2.2.1
  unfold pf_M_stoveOf svM
  split
  · rfl
  · rw [e1, m_shopOf (by omega) hL (by omega) (by omega) (by omega) (by omega), bsm, show (236 + 4 * (s : Int) + 2).toNat = 238 + 4 * s by omega]
/-- the last of n shops in a cell -/
def shI (S : Nat → Int) (c : Int) (n : Nat) : Int := match n with
  | 0 => -1
  | n + 1 => if S (72 + n) = c then n else shI S c n
theorem m_shopIn_l {c : Int} {k : Int → Option Int} (M : MS h l w L W) : ∀ (n : Nat) (i : Nat), (i : Int) ≤ L 4 → L 4 - i < n → pl_M_shopIn_4 c h k n (shI (pi h 422) c i) i = k (shI (pi h 422) c (L 4).toNat) := by
  obtain ⟨e1, e2, hl, hw, hL, hW, kL, kW⟩ := M
  have n4 := kL.2.2.2.1
  intro n
  induction n with
  | zero => intro i h1 h2; omega
  | succ n ih =>
    intro i h1 h2
    rw [pl_M_shopIn_4]
    simp (disch := omega) only [e1, wr_eq, tn_l, gib, hL, Int.reduceToNat]
    by_cases q : L 4 ≤ i
    · rw [if_pos q, show (L 4).toNat = i by omega]
    · rw [if_neg q]
      have e := ih (i + 1) (by omega) (by omega)
      have t : (72 + (i : Int)).toNat = 72 + i := by omega
      simp (disch := omega) only [gib, t]
      rw [shI] at e
      by_cases z : pi h 422 (72 + i) = c
      · rw [if_pos z] at e ⊢; exact e
      · rw [if_neg z] at e ⊢; exact e
theorem m_shopIn {c : Int} (M : MS h l w L W) : pf_M_shopIn c h = some (shI (pi h 422) c (L 4).toNat) := by
  have n4 := M.2.2.2.2.2.2.1.2.2.2.1
  unfold pf_M_shopIn
  exact m_shopIn_l M fu_ 0 (by omega) (by unfold fu_; omega)
end Mb
