/-! text: the place, and what is kept -/
def bse (sr k : Nat) : Nat := if sr = 0 then 610 + 260 * k else (if sr = 1 then 1130 + 68 * k else 1266 + 122 * k)
def lnS (sr : Nat) : Nat := if sr = 0 then 260 else (if sr = 1 then 68 else 122)
def mxS (sr : Nat) : Int := if sr = 2 then 3 else 2
theorem m_cpyT {sr k : Nat} {x2 : Int} {t : pH} (ht : sr < 3) (hk : (k : Int) < mxS sr) : ∃ t', pl_M_text_240 sr x2 (fun x3 h => some (x3, h)) fu_ k (lnS sr) 0 t = some ((k : Int), t') ∧ fr (fun b => b = 418) t t' ∧ ∀ j, pi t' 418 j = if bse sr k ≤ j ∧ j < bse sr k + lnS sr then pi t 420 (j - bse sr k) else pi t 418 j := by
  have hb : bse sr k + lnS sr ≤ 1632 ∧ lnS sr ≤ 260 ∧ 610 ≤ bse sr k := by
    unfold bse lnS
    unfold mxS at hk
    rcases (show sr = 0 ∨ sr = 1 ∨ sr = 2 by omega) with rfl | rfl | rfl
    · rw [if_neg (by decide)] at hk; rw [if_pos rfl, if_pos rfl]; omega
    · rw [if_neg (by decide)] at hk; rw [if_neg (by decide), if_pos rfl, if_neg (by decide), if_pos rfl]; omega
    · rw [if_pos rfl] at hk; rw [if_neg (by decide), if_neg (by decide), if_neg (by decide), if_neg (by decide)]; omega
  have pl : ∀ H, pf_M_placeOf sr k H = some ((bse sr k : Nat) : Int) := fun H => by
    unfold pf_M_placeOf bse
    unfold mxS at hk
    rcases (show sr = 0 ∨ sr = 1 ∨ sr = 2 by omega) with rfl | rfl | rfl
    · rw [if_neg (by decide)] at hk
      rw [if_pos (by decide), if_pos rfl, wr_eq (x := 260 * (k : Int)) (by omega) (by omega), wr_eq (by omega) (by omega)]; congr 1
    · rw [if_neg (by decide)] at hk
      rw [if_neg (by decide), if_pos (by decide), if_neg (by decide), if_pos rfl, wr_eq (x := 68 * (k : Int)) (by omega) (by omega), wr_eq (by omega) (by omega)]; congr 1
    · rw [if_pos rfl] at hk
      rw [if_neg (by decide), if_neg (by decide), if_neg (by decide), if_neg (by decide), wr_eq (x := 122 * (k : Int)) (by omega) (by omega), wr_eq (by omega) (by omega)]; congr 1
  generalize bse sr k = b0 at *
  generalize lnS sr = N at *
  refine lpf (F := fun n (i : Nat) u => pl_M_text_240 sr x2 (fun x3 h => some (x3, h)) n k N i u) (Q := fun r => ∃ t', r = some ((k : Int), t') ∧ fr (fun b => b = 418) t t' ∧ ∀ j, pi t' 418 j = if b0 ≤ j ∧ j < b0 + N then pi t 420 (j - b0) else pi t 418 j) N (fun i u => fr (fun b => b = 418) t u ∧ ∀ j, pi u 418 j = if b0 ≤ j ∧ j < b0 + i then pi t 420 (j - b0) else pi t 418 j) ?_ ?_ fu_ 0 t (by omega) (by unfold fu_; omega) ⟨fr_refl, fun j => by rw [if_neg (by omega)]⟩
  · intro n i u hi ⟨a, b⟩
    right
    refine ⟨pwI u 418 (b0 + i) (pi u 420 i), ?_, fr_wI a rfl, fun j => ?_⟩
    · show pl_M_text_240 sr x2 _ (n + 1) k N i u = pl_M_text_240 sr x2 _ n k N (i + 1 : Nat) _
      rw [pl_M_text_240, if_neg (by omega), pl, bsm, wr_eq (x := (b0 : Int) + i) (by omega) (by omega), gib (by omega) (by omega), gib (by omega) (by omega), wr_eq (x := (i : Int) + 1) (by omega) (by omega), show ((b0 : Int) + i).toNat = b0 + i by omega, Int.toNat_natCast]; rfl
    · by_cases e : j = b0 + i
      · rw [e, pi_wIs, if_pos (by omega), fr_i a (by decide), show b0 + i - b0 = i by omega]
      · rw [pi_wIi e, b j]
        by_cases v : b0 ≤ j ∧ j < b0 + i
        · rw [if_pos v, if_pos (by omega)]
        · rw [if_neg v, if_neg (by omega)]
  · intro n u ⟨a, b⟩
    refine ⟨u, ?_, a, b⟩
    show pl_M_text_240 sr x2 _ (n + 1) k N (N : Nat) u = _
    rw [pl_M_text_240, if_pos (Int.le_refl _)]
/-- the reference keeps what it read -/
theorem m_kepT {sr k : Nat} {x2 : Int} {g : pH} (ht : sr < 3) (hk : (k : Int) < mxS sr) (f0 : pi g 418 4 = 0) (hx : (x2 = -1 ∧ pi g 418 sr = k) ∨ (x2 ≠ -1 ∧ x2 = k)) : ∃ g', pj_M_text_171 sr x2 g = some ((k : Int), g') ∧ fr (fun b => b = 418) g g' ∧ ∀ j, pi g' 418 j = if bse sr k ≤ j ∧ j < bse sr k + lnS sr then pi g 420 (j - bse sr k) else (if j = sr ∧ x2 = -1 then (k : Int) + 1 else pi g 418 j) := by
  have k3 : (k : Int) < 3 := by unfold mxS at hk; split at hk <;> omega
  have s213 : ∀ t, pj_M_text_213 sr x2 k t = pl_M_text_240 sr x2 (fun x3 h => some (x3, h)) fu_ k (lnS sr) 0 t := fun t => by
    unfold pj_M_text_213 lnS
    rcases (show sr = 0 ∨ sr = 1 ∨ sr = 2 by omega) with rfl | rfl | rfl
    · rw [if_pos (by decide), if_pos rfl]; rfl
    · rw [if_neg (by decide), if_pos (by decide), if_neg (by decide), if_pos rfl]; rfl
    · rw [if_neg (by decide), if_neg (by decide), if_neg (by decide), if_neg (by decide)]; rfl
  unfold pj_M_text_171 pj_M_text_197
  rw [if_pos f0]
  rcases hx with ⟨x1, c1⟩ | ⟨x1, c1⟩
  · obtain ⟨t', a1, a2, a3⟩ := m_cpyT (t := pwI g 418 sr ((k : Int) + 1)) (x2 := x2) ht hk
    rw [if_pos x1, gib (by omega) (by omega), if_pos x1, gib (by omega) (by omega), gib (by omega) (by omega), Int.toNat_natCast, c1, wr_eq (by omega) (by omega), s213, a1]
    refine ⟨t', rfl, fr_trans (fr_wI fr_refl rfl) a2, fun j => ?_⟩
    rw [a3]
    by_cases u : bse sr k ≤ j ∧ j < bse sr k + lnS sr
    · rw [if_pos u, if_pos u, pi_wIa (by decide)]
    · rw [if_neg u, if_neg u, pi_wI]
      by_cases v : j = sr
      · rw [if_pos ⟨rfl, v⟩, if_pos ⟨v, x1⟩]
      · rw [if_neg (fun y => v y.2), if_neg (fun y => v y.1)]
  · obtain ⟨t', a1, a2, a3⟩ := m_cpyT (t := g) (x2 := x2) ht hk
    have e : pj_M_text_213 sr x2 x2 g = pj_M_text_213 sr x2 k g := by rw [c1]
    rw [if_neg x1, if_neg x1, e, s213, a1]
    refine ⟨t', rfl, a2, fun j => ?_⟩
    rw [a3, if_neg (show ¬ (j = sr ∧ x2 = -1) from fun y => x1 y.2)]
/-- the class keeps what it read -/
theorem c_kepT {sr k : Nat} {h g : pH} (ht : sr < 3) (hk : (k : Int) < mxS sr) (G : GOT sr h g) : ∃ h', pf_I_keepDraft sr k h = some h' ∧ fr (fun c => (sr = 0 ∧ 69 + 12 * k ≤ c ∧ c ≤ 80 + 12 * k) ∨ (sr = 1 ∧ 94 + 4 * k ≤ c ∧ c ≤ 97 + 4 * k) ∨ (sr = 2 ∧ 103 + 5 * k ≤ c ∧ c ≤ 107 + 5 * k)) h h' ∧ (sr = 0 → LR h' (69 + 12 * k) (pi g 420) ∧ LK (pi g 420)) ∧ (sr = 1 → WR h' (94 + 4 * k) (pi g 420) ∧ WK (pi g 420)) ∧ (sr = 2 → PR h' (103 + 5 * k) (pi g 420) ∧ PK (pi g 420)) := by
  obtain ⟨G0, G1, G2⟩ := G
  unfold pf_I_keepDraft
  unfold mxS at hk
  rcases (show sr = 0 ∨ sr = 1 ∨ sr = 2 by omega) with rfl | rfl | rfl
  · rw [if_neg (by decide)] at hk
    obtain ⟨R, kL⟩ := G0 rfl
    obtain ⟨h', a1, a2, a3⟩ := c_LaB (a := 69 + 12 * k) (b := 280) R kL (by omega)
    have a1 : pf_La_become (68 + 1 + 12 * k) 280 h = some h' := a1
    rw [if_pos (by decide), gib (by omega) (by omega), Int.toNat_natCast, a1, bsm]
    exact ⟨h', rfl, fr_mono a2 (fun b hb => by omega), fun _ => ⟨a3, kL⟩, fun v => absurd v (by decide), fun v => absurd v (by decide)⟩
  · rw [if_neg (by decide)] at hk
    obtain ⟨R, kW⟩ := G1 rfl
    obtain ⟨h', a1, a2, a3⟩ := c_LwB (a := 94 + 4 * k) (b := 292) R kW (by omega)
    have a1 : pf_Lw_become (93 + 1 + 4 * k) 292 h = some h' := a1
    rw [if_neg (by decide), if_pos (by decide), gib (by omega) (by omega), Int.toNat_natCast, a1, bsm]
    exact ⟨h', rfl, fr_mono a2 (fun b hb => by omega), fun v => absurd v (by decide), fun _ => ⟨a3, kW⟩, fun v => absurd v (by decide)⟩
  · rw [if_pos rfl] at hk
    obtain ⟨R, kP⟩ := G2 rfl
    obtain ⟨h', a1, a2, a3⟩ := c_PlB (a := 103 + 5 * k) (b := 296) R kP (by omega)
    have a1 : pf_Pl_become (102 + 1 + 5 * k) 296 h = some h' := a1
    rw [if_neg (by decide), if_neg (by decide), gib (by omega) (by omega), Int.toNat_natCast, a1, bsm]
    exact ⟨h', rfl, fr_mono a2 (fun b hb => by omega), fun v => absurd v (by decide), fun v => absurd v (by decide), fun _ => ⟨a3, kP⟩⟩
