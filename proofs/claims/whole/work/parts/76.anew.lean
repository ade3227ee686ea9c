/-! the reference begins a state anew, and copies one -/
def an0 (L S : Nat → Int) : Nat → Int := fun i =>
  if 80 ≤ i then S i else if (i : Int) < ce L then L (8 + i) else if 36 ≤ i ∧ ((i - 36 : Nat) : Int) < ce L then L (44 + (i - 36)) else if 72 ≤ i ∧ i < 78 then (if i - 72 < NS L then L (236 + 4 * (i - 72)) else -1) else 0
noncomputable def anw (L W wt : Nat → Int) (tk : Int) (S : Nat → Int) : Nat → Int := fl L W wt tk 6 (an0 L S)
section Mf
variable {h : pH} {l w : Nat} {L W wt sv : Nat → Int} {tk : Int} {d : Nat}
theorem SV_an0 {S : Nat → Int} (kL : LK L) : SV L (an0 L S) 0 := by
  have z : 4 ≤ ce L ∧ ce L ≤ 36 := sz_mul kL.1
  have n6 := NS_le kL
  have en := NS_eq kL
  have at_ : ∀ s, s < NS L → an0 L S (72 + s) = L (236 + 4 * s) := fun s hs => by
    unfold an0
    rw [if_neg (by omega), if_neg (by omega), if_neg (by omega), if_pos (by omega), show 72 + s - 72 = s by omega, if_pos hs]
  refine ⟨fun c hc => ?_, fun c hc => ?_, fun t ht => ?_, ?_, ?_, ?_⟩
  · unfold an0
    rw [if_neg (by omega), if_pos hc]
    exact kL.2.2.2.2.1 c (by omega)
  · unfold an0
    rw [if_neg (by omega), if_neg (by omega), if_pos (by omega), show 36 + c - 36 = c by omega]
    exact kL.2.2.2.2.2.1 c (by omega)
  · rw [at_ t ht]
    have := kL.2.2.2.2.2.2.2.2.2.1 t (by omega)
    have e : ce L = L 0 * L 1 := rfl
    omega
  · intro s t h1 h2 h3
    rw [at_ s (by omega), at_ t h2]
    exact kL.2.2.2.2.2.2.2.2.2.2 s t h1 (by omega)
  · unfold an0
    rw [if_neg (by omega), if_neg (by omega), if_neg (by omega), if_neg (by omega)]
    omega
  · unfold an0
    rw [if_neg (by omega), if_neg (by omega), if_neg (by omega), if_neg (by omega)]
    omega
theorem m_an_2 {k : pH → Option pH} : ∀ (n i : Nat) (h : pH), i ≤ 80 → 80 - i < n → ∃ h', pl_M_anew_2 k n i h = k h' ∧ fr (fun a => a = 422) h h' ∧ ∀ j, pi h' 422 j = if i ≤ j ∧ j < 80 then 0 else pi h 422 j := by
  intro n
  induction n with
  | zero => intro i h h1 h2; omega
  | succ n ih =>
    intro i h h1 h2
    rw [pl_M_anew_2]
    by_cases q : (80 : Int) ≤ i
    · exact ⟨h, by rw [if_pos q], fr_refl, fun j => by rw [if_neg (by omega)]⟩
    · rw [if_neg q]
      simp (disch := omega) only [wr_eq, gib, Int.toNat_natCast]
      obtain ⟨h', p1, p2, p3⟩ := ih (i + 1) (pwI h 422 i 0) (by omega) (by omega)
      refine ⟨h', p1, fr_trans (fr_wI fr_refl rfl) p2, fun j => ?_⟩
      rw [p3 j]
      by_cases y : j = i
      · rw [y, if_neg (by omega), pi_wIs, if_pos (by omega)]
      · rw [pi_wIi y]
        by_cases y2 : i + 1 ≤ j ∧ j < 80
        · rw [if_pos y2, if_pos (by omega)]
        · rw [if_neg y2, if_neg (by omega)]
theorem m_an_23 {k : pH → Option pH} : ∀ (n c : Nat) (h : pH), MS h l w L W → (c : Int) ≤ ce L → ce L - c < n → ∃ h', pl_M_anew_23 k n c h = k h' ∧ fr (fun a => a = 422) h h' ∧ ∀ j : Nat, pi h' 422 j = if c ≤ j ∧ (j : Int) < ce L then L (8 + j) else if 36 + c ≤ j ∧ ((j - 36 : Nat) : Int) < ce L then L (44 + (j - 36)) else pi h 422 j := by
  intro n
  induction n with
  | zero => intro i h M h1 h2; omega
  | succ n ih =>
    intro c h M h1 h2
    have kL := M.2.2.2.2.2.2.1
    have z : 4 ≤ ce L ∧ ce L ≤ 36 := sz_mul kL.1
    rw [pl_M_anew_23, m_cells M, bsm]
    by_cases q : ce L ≤ c
    · exact ⟨h, by rw [if_pos q], fr_refl, fun j => by rw [if_neg (by omega), if_neg (by omega)]⟩
    · rw [if_neg q]
      obtain ⟨e1, e2, hl, hw, hL, hW, -, kW⟩ := M
      have e1' : ∀ i x, pi (pwI h 422 i x) 417 14 = l := fun i x => by rw [pi_wIa (by decide)]; exact e1
      have hL' : ∀ i x j, j < 260 → pi (pwI h 422 i x) 418 (l + j) = L j := fun i x j hj => by rw [pi_wIa (by decide)]; exact hL j hj
      have t1 : (8 + (c : Int)).toNat = 8 + c := by omega
      have t2 : (44 + (c : Int)).toNat = 44 + c := by omega
      have t3 : (36 + (c : Int)).toNat = 36 + c := by omega
      unfold pj_M_anew_74
      simp (disch := omega) only [e1, e1', wr_eq, tn_l, tn_l2, gib, hL, hL', Int.toNat_natCast, t1, t2, t3]
      obtain ⟨h', p1, p2, p3⟩ := ih (c + 1) (pwI (pwI h 422 c (L (8 + c))) 422 (36 + c) (L (44 + c))) (by
        refine ⟨?_, ?_, hl, hw, fun j hj => ?_, fun j hj => ?_, kL, kW⟩
        · rw [pi_wIa (by decide), pi_wIa (by decide)]; exact e1
        · rw [pi_wIa (by decide), pi_wIa (by decide)]; exact e2
        · rw [pi_wIa (by decide), pi_wIa (by decide)]; exact hL j hj
        · rw [pi_wIa (by decide), pi_wIa (by decide)]; exact hW j hj) (by omega) (by omega)
      refine ⟨h', p1, fr_trans (fr_wI (fr_wI fr_refl rfl) rfl) p2, fun j => ?_⟩
      rw [p3 j]
      by_cases y1 : j = c
      · rw [y1, if_neg (by omega), if_neg (by omega), if_pos (by omega), pi_wIi (by omega), pi_wIs]
      · by_cases y2 : j = 36 + c
        · rw [y2, if_neg (by omega), if_neg (by omega), if_neg (by omega), if_pos (by omega), pi_wIs, show 36 + c - 36 = c by omega]
        · rw [pi_wIi y2, pi_wIi y1]
          by_cases y3 : c + 1 ≤ j ∧ (j : Int) < ce L
          · rw [if_pos y3, if_pos (by omega)]
          · rw [if_neg y3, if_neg (show ¬ (c ≤ j ∧ (j : Int) < ce L) by omega)]
            by_cases y4 : 36 + (c + 1) ≤ j ∧ ((j - 36 : Nat) : Int) < ce L
            · rw [if_pos y4, if_pos (by omega)]
            · rw [if_neg y4, if_neg (by omega)]
theorem m_an_82 {k : pH → Option pH} : ∀ (n s : Nat) (h : pH), MS h l w L W → s ≤ 6 → 6 - s < n → ∃ h', pl_M_anew_82 k n s h = k h' ∧ fr (fun a => a = 422) h h' ∧ ∀ j : Nat, pi h' 422 j = if 72 + s ≤ j ∧ j < 78 then (if j - 72 < NS L then L (236 + 4 * (j - 72)) else -1) else pi h 422 j := by
  intro n
  induction n with
  | zero => intro i h M h1 h2; omega
  | succ n ih =>
    intro s h M h1 h2
    have kL := M.2.2.2.2.2.2.1
    have en := NS_eq kL
    have n4 := kL.2.2.2.1
    rw [pl_M_anew_82]
    by_cases q : (6 : Int) ≤ s
    · exact ⟨h, by rw [if_pos q], fr_refl, fun j => by rw [if_neg (by omega)]⟩
    · rw [if_neg q]
      obtain ⟨e1, e2, hl, hw, hL, hW, -, kW⟩ := M
      have t1 : (72 + (s : Int)).toNat = 72 + s := by omega
      rw [e1, m_isShop (by omega) hL n4, bsm, if1]
      have step : ∀ x : Int, x = (if s < NS L then L (236 + 4 * s) else -1) → ∃ h', pl_M_anew_82 k n (s + 1 : Nat) (pwI h 422 (72 + s) x) = k h' ∧ fr (fun a => a = 422) h h' ∧ ∀ j : Nat, pi h' 422 j = if 72 + s ≤ j ∧ j < 78 then (if j - 72 < NS L then L (236 + 4 * (j - 72)) else -1) else pi h 422 j := by
        intro x ex
        obtain ⟨h', p1, p2, p3⟩ := ih (s + 1) (pwI h 422 (72 + s) x) (by
          refine ⟨?_, ?_, hl, hw, fun j hj => ?_, fun j hj => ?_, kL, kW⟩
          · rw [pi_wIa (by decide)]; exact e1
          · rw [pi_wIa (by decide)]; exact e2
          · rw [pi_wIa (by decide)]; exact hL j hj
          · rw [pi_wIa (by decide)]; exact hW j hj) (by omega) (by omega)
        refine ⟨h', p1, fr_trans (fr_wI fr_refl rfl) p2, fun j => ?_⟩
        rw [p3 j]
        by_cases y : j = 72 + s
        · rw [y, if_neg (by omega), pi_wIs, if_pos (by omega), ex, show 72 + s - 72 = s by omega]
        · rw [pi_wIi y]
          by_cases y2 : 72 + (s + 1) ≤ j ∧ j < 78
          · rw [if_pos y2, if_pos (show 72 + s ≤ j ∧ j < 78 by omega)]
          · rw [if_neg y2, if_neg (by omega)]
      by_cases q2 : 0 ≤ (s : Int) ∧ (s : Int) < L 4
      · rw [if_pos q2, m_shopOf (by omega) hL (by omega) (by omega) (by omega) (by omega), bsm, show (236 + 4 * (s : Int) + 0).toNat = 236 + 4 * s by omega]
        simp (disch := omega) only [wr_eq, gib, t1]
        exact step _ (by rw [if_pos (by omega)])
      · rw [if_neg q2]
        simp (disch := omega) only [wr_eq, gib, t1]
        exact step _ (by rw [if_neg (by omega)])
theorem MS_fr {h h' : pH} (M : MS h l w L W) (p : fr (fun a => a = 422) h h') : MS h' l w L W := by
  have e1 : pi h' 417 = pi h 417 := funext fun k => fr_i p (by decide)
  have e2 : pi h' 418 = pi h 418 := funext fun k => fr_i p (by decide)
  unfold MS at *
  rw [e1, e2]
  exact M
theorem m_anew (M : MC h l w L W wt sv tk) : ∃ h', pf_M_anew h = some h' ∧ fr (fun a => a = 422) h h' ∧ pi h' 422 = anw L W wt tk (pi h 422) := by
  have kL := M.1.2.2.2.2.2.2.1
  have z : 4 ≤ ce L ∧ ce L ≤ 36 := sz_mul kL.1
  unfold pf_M_anew
  obtain ⟨h1, p1, p2, p3⟩ := m_an_2 (k := fun h => pl_M_anew_23 (fun h => pl_M_anew_82 (fun h => (pf_M_falls h).bind fun v11 => (some v11)) fu_ 0 h) fu_ 0 h) fu_ 0 h (by omega) (by unfold fu_; omega)
  rw [show ((0 : Nat) : Int) = 0 from rfl] at p1
  rw [p1]
  obtain ⟨h2, q1, q2, q3⟩ := m_an_23 (k := fun h => pl_M_anew_82 (fun h => (pf_M_falls h).bind fun v11 => (some v11)) fu_ 0 h) fu_ 0 h1 (MS_fr M.1 p2) (by omega) (by unfold fu_; omega)
  rw [show ((0 : Nat) : Int) = 0 from rfl] at q1
  rw [q1]
  obtain ⟨h3, r1, r2, r3⟩ := m_an_82 (k := fun h => (pf_M_falls h).bind fun v11 => (some v11)) fu_ 0 h2 (MS_fr (MS_fr M.1 p2) q2) (by omega) (by unfold fu_; omega)
  rw [show ((0 : Nat) : Int) = 0 from rfl] at r1
  rw [r1]
  have f3 := fr_trans p2 (fr_trans q2 r2)
  have M3 : MC h3 l w L W wt sv tk := MC_fr M (funext fun k => fr_i f3 (by decide)) (funext fun k => fr_i f3 (by decide))
  have e3 : pi h3 422 = an0 L (pi h 422) := by
    funext j
    rw [r3 j, q3 j, p3 j]
    unfold an0
    by_cases y0 : 80 ≤ j
    · rw [if_neg (by omega), if_neg (by omega), if_neg (by omega), if_neg (by omega), if_pos y0]
    · rw [if_neg y0]
      by_cases y1 : (j : Int) < ce L
      · rw [if_neg (by omega), if_pos (by omega), if_pos y1]
      · rw [if_neg y1]
        by_cases y2 : 36 ≤ j ∧ ((j - 36 : Nat) : Int) < ce L
        · rw [if_neg (by omega), if_neg (by omega), if_pos (by omega), if_pos y2]
        · rw [if_neg y2]
          by_cases y3 : 72 ≤ j ∧ j < 78
          · rw [if_pos (show 72 + 0 ≤ j ∧ j < 78 by omega), if_pos y3, if_neg y2]
          · rw [if_neg (show ¬ (72 + 0 ≤ j ∧ j < 78) by omega), if_neg y3, if_neg (show ¬ (0 ≤ j ∧ (j : Int) < ce L) by omega), if_neg (show ¬ (36 + 0 ≤ j ∧ ((j - 36 : Nat) : Int) < ce L) by omega), if_pos (show 0 ≤ j ∧ j < 80 by omega)]
  obtain ⟨h4, s1, s2, s3⟩ := m_falls (d := 0) M3 (by rw [e3]; exact SV_an0 kL)
  exact ⟨h4, by rw [s1]; rfl, fr_trans f3 s2, by rw [s3, e3]; rfl⟩
theorem m_cp_l {a b : Nat} {k : pH → Option pH} (ha : a ≤ 13) (hb : b ≤ 13) (hab : a ≠ b) : ∀ (n i : Nat) (h : pH), i ≤ 80 → 80 - i < n → ∃ h', pl_M_copies_2 a b k n i h = k h' ∧ fr (fun a => a = 422) h h' ∧ ∀ j, pi h' 422 j = if 80 * b + i ≤ j ∧ j < 80 * b + 80 then pi h 422 (80 * a + (j - 80 * b)) else pi h 422 j := by
  intro n
  induction n with
  | zero => intro i h h1 h2; omega
  | succ n ih =>
    intro i h h1 h2
    rw [pl_M_copies_2]
    by_cases q : (80 : Int) ≤ i
    · exact ⟨h, by rw [if_pos q], fr_refl, fun j => by rw [if_neg (by omega)]⟩
    · rw [if_neg q]
      have t1 : (80 * (a : Int) + (i : Int)).toNat = 80 * a + i := by omega
      have t2 : (80 * (b : Int) + (i : Int)).toNat = 80 * b + i := by omega
      simp (disch := omega) only [wr_eq, gib, t1, t2]
      obtain ⟨h', p1, p2, p3⟩ := ih (i + 1) (pwI h 422 (80 * b + i) (pi h 422 (80 * a + i))) (by omega) (by omega)
      refine ⟨h', p1, fr_trans (fr_wI fr_refl rfl) p2, fun j => ?_⟩
      rw [p3 j]
      by_cases y : j = 80 * b + i
      · rw [y, if_neg (by omega), pi_wIs, if_pos (by omega), show 80 * b + i - 80 * b = i by omega]
      · rw [pi_wIi y]
        by_cases y2 : 80 * b + (i + 1) ≤ j ∧ j < 80 * b + 80
        · rw [if_pos y2, if_pos (by omega), pi_wIi (by omega)]
        · rw [if_neg y2, if_neg (by omega)]
theorem m_copies {a b : Nat} (ha : a ≤ 13) (hb : b ≤ 13) (hab : a ≠ b) : ∃ h', pf_M_copies a b h = some h' ∧ fr (fun a => a = 422) h h' ∧ ∀ j, pi h' 422 j = if 80 * b ≤ j ∧ j < 80 * b + 80 then pi h 422 (80 * a + (j - 80 * b)) else pi h 422 j := by
  unfold pf_M_copies
  exact m_cp_l ha hb hab fu_ 0 h (by omega) (by unfold fu_; omega)
end Mf
