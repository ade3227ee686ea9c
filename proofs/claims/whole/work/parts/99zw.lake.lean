/-! lakes: what is read -/
def D0a (h : pH) (R : Nat → Int) : Prop := (pi h 280 0 = R 0 ∧ pi h 280 1 = R 1 ∧ pi h 280 2 = R 2) ∧ sz (R 0) (R 1) ∧ (1 ≤ R 2 ∧ R 2 ≤ 99)
def D0t (h : pH) (R : Nat → Int) : Prop := (∀ c, c < 36 → pi h 281 c = R (8 + c) ∧ 0 ≤ R (8 + c) ∧ R (8 + c) ≤ 99) ∧ (∀ c, c < 36 → pi h 282 c = R (44 + c) ∧ 0 ≤ R (44 + c) ∧ R (44 + c) ≤ 9) ∧ (∀ c, c < 36 → pi h 283 c = R (80 + c) ∧ 0 ≤ R (80 + c) ∧ R (80 + c) ≤ 9) ∧ ∀ c, c < 72 → R (152 + c) = 0
def D0s (h : pH) (R : Nat → Int) : Prop := ∀ c, c < 36 → (tb (pl h 280 7) c = true ↔ R (116 + c) = 1) ∧ (R (116 + c) = 0 ∨ R (116 + c) = 1)
def D0f (h : pH) (R : Nat → Int) : Prop := pi h 280 10 = R 3 ∧ (1 ≤ R 3 ∧ R 3 ≤ 12) ∧ (∀ k, k < 12 → -20 ≤ R (224 + k) ∧ R (224 + k) ≤ 20) ∧ ∀ k : Nat, (k : Int) < R 3 → pi h 285 k = R (224 + k)
def D0p (h : pH) (R : Nat → Int) : Prop := pi h 280 11 = R 4 ∧ (0 ≤ R 4 ∧ R 4 ≤ 6) ∧ ∀ t : Nat, (t : Int) < R 4 → (pi h 286 t = R (236 + 4 * t) ∧ 0 ≤ R (236 + 4 * t) ∧ R (236 + 4 * t) ≤ 35) ∧ (pi h 287 t = R (237 + 4 * t) ∧ 1 ≤ R (237 + 4 * t) ∧ R (237 + 4 * t) ≤ 99) ∧ (pi h 288 t = R (238 + 4 * t) ∧ 0 ≤ R (238 + 4 * t) ∧ R (238 + 4 * t) ≤ 9) ∧ (pi h 289 t = R (239 + 4 * t) ∧ 0 ≤ R (239 + 4 * t) ∧ R (239 + 4 * t) ≤ 99)
/-- a crack between a and b among the first m -/
def crk (C : Nat → Int) (m a b : Nat) : Prop := ∃ k, k < m ∧ ((C (2 * k) = a ∧ C (2 * k + 1) = b) ∨ (C (2 * k) = b ∧ C (2 * k + 1) = a))
def D0c (h g : pH) : Prop := 0 ≤ pi g 417 11 ∧ (∀ a b : Nat, a < 36 → b < 64 → (tb (pl h 284 a) b = true ↔ crk (pi g 421) (pi g 417 11).toNat a b)) ∧ ∀ k : Nat, (k : Int) < pi g 417 11 → (0 ≤ pi g 421 (2 * k) ∧ pi g 421 (2 * k) ≤ 35) ∧ (0 ≤ pi g 421 (2 * k + 1) ∧ pi g 421 (2 * k + 1) ≤ 35) ∧ pi g 421 (2 * k) ≠ pi g 421 (2 * k + 1)
/-- the cells of shops and of cracks are no further than the furthest cell -/
def EXg (g : pH) : Prop := (∀ t : Nat, (t : Int) < pi g 420 4 → pi g 420 (236 + 4 * t) ≤ pi g 417 9) ∧ ∀ k : Nat, (k : Int) < pi g 417 11 → pi g 421 (2 * k) ≤ pi g 417 9 ∧ pi g 421 (2 * k + 1) ≤ pi g 417 9
theorem EX_c {g g' : pH} (x : EXg g) (r46 : 0 ≤ pi g 420 4 ∧ pi g 420 4 ≤ 6) (r4 : pi g' 420 4 = pi g 420 4) (r : ∀ j, 236 ≤ j → j < 260 → pi g' 420 j = pi g 420 j) (e21 : pi g' 421 = pi g 421) (e11 : pi g' 417 11 = pi g 417 11) (le : pi g 417 9 ≤ pi g' 417 9) : EXg g' := by
  refine ⟨fun t ht => ?_, fun k hk => ?_⟩
  · rw [r4] at ht
    rw [r _ (by omega) (by omega)]
    exact Int.le_trans (x.1 t ht) le
  · rw [e11] at hk
    rw [e21]
    exact ⟨Int.le_trans (x.2 k hk).1 le, Int.le_trans (x.2 k hk).2 le⟩
def D0n (h g : pH) : Prop := (0 ≤ pi g 417 9 ∧ pi g 417 9 ≤ 35) ∧ (∀ c : Nat, c < 64 → tb (pl h 280 8) c = true → (c : Int) ≤ pi g 417 9) ∧ (pi g 417 9 = 0 ∨ tb (pl h 280 8) (pi g 417 9).toNat = true) ∧ EXg g
def DR0 (h g : pH) : Prop := D0a h (pi g 420) ∧ D0t h (pi g 420) ∧ D0s h (pi g 420) ∧ D0f h (pi g 420) ∧ D0p h (pi g 420) ∧ D0c h g ∧ D0n h g
section Ts
variable {h g h' g' : pH} {B : Nat → Int} {n s : Nat} {f q : Int}
theorem D0a_c (d : D0a h (pi g 420)) (e : ∀ j, j < 3 → pi h' 280 j = pi h 280 j) (r : ∀ j, j < 3 → pi g' 420 j = pi g 420 j) : D0a h' (pi g' 420) := by
  unfold D0a at *
  rw [e 0 (by decide), e 1 (by decide), e 2 (by decide), r 0 (by decide), r 1 (by decide), r 2 (by decide)]
  exact d
theorem D0t_c (d : D0t h (pi g 420)) (e : pi h' 281 = pi h 281 ∧ pi h' 282 = pi h 282 ∧ pi h' 283 = pi h 283) (r : ∀ j, 8 ≤ j → j < 116 → pi g' 420 j = pi g 420 j) (r2 : ∀ j, 152 ≤ j → j < 224 → pi g' 420 j = pi g 420 j) : D0t h' (pi g' 420) := by
  obtain ⟨d1, d2, d3, d4⟩ := d
  refine ⟨fun c hc => by rw [e.1, r _ (by omega) (by omega)]; exact d1 c hc, fun c hc => by rw [e.2.1, r _ (by omega) (by omega)]; exact d2 c hc, fun c hc => by rw [e.2.2, r _ (by omega) (by omega)]; exact d3 c hc, fun c hc => by rw [r2 _ (by omega) (by omega)]; exact d4 c hc⟩
theorem D0s_c (d : D0s h (pi g 420)) (e : pl h' 280 7 = pl h 280 7) (r : ∀ j, 116 ≤ j → j < 152 → pi g' 420 j = pi g 420 j) : D0s h' (pi g' 420) := fun c hc => by rw [e, r _ (by omega) (by omega)]; exact d c hc
theorem D0f_c (d : D0f h (pi g 420)) (e : pi h' 280 10 = pi h 280 10) (e5 : pi h' 285 = pi h 285) (r3 : pi g' 420 3 = pi g 420 3) (r : ∀ j, 224 ≤ j → j < 236 → pi g' 420 j = pi g 420 j) : D0f h' (pi g' 420) := by
  obtain ⟨d1, d2, d3, d4⟩ := d
  refine ⟨by rw [e, r3]; exact d1, by rw [r3]; exact d2, fun k hk => by rw [r _ (by omega) (by omega)]; exact d3 k hk, fun k hk => ?_⟩
  rw [r3] at hk
  rw [e5, r _ (by omega) (by omega)]
  exact d4 k hk
theorem D0p_c (d : D0p h (pi g 420)) (e : pi h' 280 11 = pi h 280 11) (e6 : pi h' 286 = pi h 286 ∧ pi h' 287 = pi h 287 ∧ pi h' 288 = pi h 288 ∧ pi h' 289 = pi h 289) (r4 : pi g' 420 4 = pi g 420 4) (r : ∀ j, 236 ≤ j → j < 260 → pi g' 420 j = pi g 420 j) : D0p h' (pi g' 420) := by
  obtain ⟨d1, d2, d3⟩ := d
  refine ⟨by rw [e, r4]; exact d1, by rw [r4]; exact d2, fun t ht => ?_⟩
  rw [r4] at ht
  rw [e6.1, e6.2.1, e6.2.2.1, e6.2.2.2, r (236 + 4 * t) (by omega) (by omega), r (237 + 4 * t) (by omega) (by omega), r (238 + 4 * t) (by omega) (by omega), r (239 + 4 * t) (by omega) (by omega)]
  exact d3 t ht
theorem D0c_c (d : D0c h g) (e : pl h' 284 = pl h 284) (r : pi g' 421 = pi g 421) (r11 : pi g' 417 11 = pi g 417 11) : D0c h' g' := by
  unfold D0c at *
  rw [e, r, r11]
  exact d
theorem D0n_c (d : D0n h g) (e : pl h' 280 8 = pl h 280 8) (r9 : pi g' 417 9 = pi g 417 9) (ex : EXg g') : D0n h' g' := by
  obtain ⟨d1, d2, d3, _⟩ := d
  unfold D0n
  rw [e, r9]
  exact ⟨d1, d2, d3, ex⟩
theorem D0n_1 {v : Int} (d : D0n h g) (v0 : 0 ≤ v ∧ v ≤ 35) (e : pl h' 280 8 = pl h 280 8 ||| plshl 1 v) (r9 : pi g' 417 9 = max (pi g 417 9) v) (ex : EXg g') : D0n h' g' := by
  obtain ⟨d1, d2, d3, _⟩ := d
  obtain ⟨w, rfl⟩ : ∃ w : Nat, v = w := ⟨v.toNat, by omega⟩
  have tt : ∀ c, c < 64 → (tb (pl h' 280 8) c = true ↔ tb (pl h 280 8) c = true ∨ c = w) := fun c hc => by
    rw [e, tb_or, tb_bit (by omega) hc, Bool.or_eq_true, decide_eq_true_eq]
  refine ⟨by rw [r9]; omega, fun c hc u => ?_, ?_, ex⟩
  · rw [r9]
    rcases (tt c hc).mp u with u | u
    · have := d2 c hc u; omega
    · omega
  · rw [r9]
    by_cases y : pi g 417 9 ≤ w
    · right
      rw [show max (pi g 417 9) (w : Int) = w by omega, Int.toNat_natCast]
      exact (tt w (by omega)).mpr (Or.inr rfl)
    · rw [show max (pi g 417 9) (w : Int) = pi g 417 9 by omega]
      rcases d3 with d3 | d3
      · omega
      · right
        exact (tt _ (by omega)).mpr (Or.inl d3)
theorem lake_ov {l : Nat} (I : LIs 0 DR0 h g B n s f q) (l9 : l ≠ 9) (l14 : l ≠ 14) (l16 : l < 16) : ¬ (f = 0 ∧ ovr h l) := fun v => by
  obtain ⟨c, ef, eq, e8, ms, CNN, dr⟩ := I
  have w4 := (dr v.1).2.2.2.2.1.2.1
  have a := (CNN.2.2.2.1 rfl).1
  have b := CNN.2.2.2.2.2.2.2.1 (by decide)
  have d := CNN.2.2.2.2.2.2.2.2 (by decide)
  have ov := v.2
  unfold ovr at ov
  rw [if_neg l9, if_neg l14, if_neg (by omega)] at ov
  clear CNN
  omega
/-! stages of a lake's line that are passed by -/
theorem k44 {x1 x2 : Int} (e : x2 ≠ 2) : pj_M_lakeLine_44 x1 x2 g = pj_M_lakeLine_84 x1 x2 g := by
  unfold pj_M_lakeLine_44
  rw [if_neg e]
theorem k84 {x1 x2 : Int} (e : x2 < 3 ∨ 5 < x2) : pj_M_lakeLine_84 x1 x2 g = pj_M_lakeLine_152 x1 x2 g := by
  unfold pj_M_lakeLine_84
  rw [m_isIn, bsm, if1, if_neg (by omega)]
theorem k152 {x1 x2 : Int} (e : x2 ≠ 6) : pj_M_lakeLine_152 x1 x2 g = pj_M_lakeLine_162 x1 x2 g := by
  unfold pj_M_lakeLine_152
  rw [if_neg e]
theorem k162 {x1 x2 : Int} (e : x2 ≠ 7) : pj_M_lakeLine_162 x1 x2 g = pj_M_lakeLine_172 x1 x2 g := by
  unfold pj_M_lakeLine_162
  rw [if_neg e]
theorem k172 {x1 x2 : Int} (e : x2 ≠ 8) : pj_M_lakeLine_172 x1 x2 g = pj_M_lakeLine_191 x1 x2 g := by
  unfold pj_M_lakeLine_172
  rw [if_neg e]
theorem k191 {x1 x2 : Int} (e : x2 ≠ 9) : pj_M_lakeLine_191 x1 x2 g = pj_M_lakeLine_203 x1 x2 g := by
  unfold pj_M_lakeLine_191
  rw [if_neg e]
theorem k203 {x1 x2 : Int} (e : x2 ≠ 10) : pj_M_lakeLine_203 x1 x2 g = pf_M_endsLine g := by
  unfold pj_M_lakeLine_203 pj_M_lakeLine_214
  rw [if_neg e]
  cases pf_M_endsLine g <;> rfl
/-- the reference's first step -/
theorem lake_takes {l : Nat} (I : LIs 0 DR0 h g B n s f q) (k1 : kd B n s = 1) (wl_ : wdl B n s = l) (l10 : l < 10) : ∃ g1, pf_M_takes 1 10 g = some (((l : Nat) : Int) + 1, g1) ∧ MA g g1 ∧ MST g1 B n (0, nx B n s, f, q) ∧ pi g 417 4 = s := by
  obtain ⟨c, ef, eq, e8, ms, _, _⟩ := I
  rcases ms with ⟨_, m2, m3, m4, m5, m6⟩ | ⟨m1, _⟩
  · have m2 : MT g B n s := m2
    have m4 : pi g 418 4 = f := m4
    have m5 : pi g 418 5 = q := m5
    have m6 : FOK s f q := m6
    obtain ⟨g1, t1, t2, t3⟩ := (m_takes (lo := 1) (hi := 10) m2 m3 m4 m5 (by unfold FOK at m6; omega) (by decide)).1 ⟨k1, by omega, by omega⟩
    rw [wl_] at t1
    exact ⟨g1, t1, t2, t3, m2.2.2.1⟩
  · have m1 : (0 : Nat) = 1 := m1
    omega
theorem nXs_nm {ls : Nat → Int} {k : Nat} : pl (nXs B n 0 ls s h (k + 1)) 280 8 = (if ls k = 99 ∨ ls k = 111 then pl (nXs B n 0 ls s h k) 280 8 ||| plshl 1 (vl B n (skp B n s k)) else pl (nXs B n 0 ls s h k) 280 8) := by
  have e : pl (NHp (nXs B n 0 ls s h k) k (vl B n (skp B n s k))) 280 8 = pl (nXs B n 0 ls s h k) 280 8 := by
    unfold NHp
    split
    · rfl
    · rfl
  rw [nXs]
  unfold tel
  by_cases y : ls k = 99 ∨ ls k = 111
  · rw [if_pos ⟨rfl, y⟩, if_pos y, pl_wLs, e]
  · rw [if_neg (fun u => y u.2), if_neg y, e]
theorem nXs_l {ls : Nat → Int} {sr : Nat} : ∀ {k : Nat}, ∀ b j, b ≠ 280 ∨ j ≠ 8 → pl (nXs B n sr ls s h k) b j = pl h b j
  | 0, _, _, _ => rfl
  | k + 1, b, j, hb => by
    rw [nXs]
    have e : pl (NHp (nXs B n sr ls s h k) k (vl B n (skp B n s k))) b j = pl (nXs B n sr ls s h k) b j := by
      unfold NHp
      split
      · rfl
      · rfl
    unfold tel
    split
    · rw [pl_wL, if_neg (by omega), e]
      exact nXs_l (k := k) b j hb
    · rw [e]
      exact nXs_l (k := k) b j hb
/-- what the class has read before it tells a line -/
theorem h4_of {ls : Nat → Int} {k : Nat} {h4 : pH} (k4 : k ≤ 4) (z : F2 (nXs B n 0 ls (nx B n s) h k) h4) : (∀ j, j < k → pi h4 301 j = vl B n (skp B n (nx B n s) j)) ∧ (∀ b, 280 ≤ b → b ≤ 300 → pi h4 b = pi h b) ∧ (∀ b j, 280 ≤ b → b ≤ 300 → (b ≠ 280 ∨ j ≠ 8) → pl h4 b j = pl h b j) ∧ pl h4 280 8 = pl (nXs B n 0 ls (nx B n s) h k) 280 8 := by
  refine ⟨fun j hj => by rw [fr_i z (by omega)]; exact nXs_i hj k4, fun b b1 b2 => ?_, fun b j b1 b2 hb => by rw [fr_l z (by omega)]; exact nXs_l b j hb, by rw [fr_l z (by omega)]⟩
  rw [fr_fi z (by omega)]
  by_cases e : b = 280
  · rw [e]; exact nXs_fr.2
  · exact fr_fi nXs_fr.1 (by omega)
end Ts
