/-! lines: the reference's numbers by their letters -/
section Tk
variable {g : pH} {B : Nat → Int} {n s : Nat} {ls : Nat → Int} {T : Nat × Nat × Int × Int}
theorem nTs_m {k m : Nat} : k ≤ m → (nTs B n ls T m).1 = 0 → (nTs B n ls T k).1 = 0 ∧ ((nTs B n ls T m).2.2.1 = 0 → (nTs B n ls T k).2.2.1 = 0) := by
  induction m with
  | zero => intro h w; rw [show k = 0 by omega]; exact ⟨w, fun v => v⟩
  | succ m ih =>
    intro h w
    by_cases e : k = m + 1
    · rw [e]; exact ⟨w, fun v => v⟩
    · obtain ⟨a1, a2, a3, a4⟩ := nstp_w w
      obtain ⟨b1, b2⟩ := ih (by omega) a1
      exact ⟨b1, fun v => b2 (a4 v).1⟩
theorem bdL_p {l v p : Int} {i : Nat} (h : l ≠ 111) : bdL l v p i ↔ ¬ (loL l ≤ v ∧ v ≤ hiL l) := ⟨fun u => by rcases u with u | u; exact u; exact absurd u.1 h, Or.inl⟩
theorem nTs_s {k : Nat} {b : Prop} (h : (nTs B n ls T k).1 = 0 → (nTs B n ls T k).2.2.1 = 0 → (nTs B n ls T k).2.1 = skp B n T.2.1 k → (b ↔ bdL (ls k) (vl B n (skp B n T.2.1 k)) (vl B n (skp B n T.2.1 (k - 1))) k)) : nstp B n b (nTs B n ls T k) = nTs B n ls T (k + 1) := nstp_c (fun a _ c => h a c (nTs_w a).2.1)
theorem m_nk {k : Nat} {lo hi : Int} (c : MST g B n (nTs B n ls T k)) (l111 : ls k ≠ 111) (el : loL (ls k) = lo) (eh : hiL (ls k) = hi) : ∃ g', pf_M_numbered lo hi g = some (nvl B n lo hi (nTs B n ls T k), g') ∧ MST g' B n (nTs B n ls T (k + 1)) ∧ MN g g' ∧ pi g' 417 9 = pi g 417 9 := by
  obtain ⟨g', a1, a2, a3, a4⟩ := m_numbered (lo := lo) (hi := hi) c
  refine ⟨g', a1, ?_, a3, a4⟩
  rw [nTs_s (fun _ _ e => by rw [e, bdL_p l111, el, eh])] at a2
  exact a2
theorem m_ck {k : Nat} (c : MST g B n (nTs B n ls T k)) (l99 : ls k = 99) : ∃ g', pf_M_cellOf g = some (nvl B n 0 35 (nTs B n ls T k), g') ∧ MST g' B n (nTs B n ls T (k + 1)) ∧ MN g g' ∧ pi g' 417 9 = max (pi g 417 9) (nvl B n 0 35 (nTs B n ls T k)) := by
  obtain ⟨g', a1, a2, a3, a4⟩ := m_cellOf c
  refine ⟨g', a1, ?_, a3, a4⟩
  rw [nTs_s (fun _ _ e => by rw [e, l99, bdL_p (by decide)]; exact Iff.rfl)] at a2
  exact a2
theorem nvl_ok {k m : Nat} {lo hi : Int} (km : k < m) (w : (nTs B n ls T m).1 = 0) (f0 : (nTs B n ls T m).2.2.1 = 0) (l : ls k = 111 ∨ ls k ≠ 111) (el : loL (ls k) = lo) (eh : hiL (ls k) = hi) : nvl B n lo hi (nTs B n ls T k) = vl B n (skp B n T.2.1 k) ∧ lo ≤ vl B n (skp B n T.2.1 k) ∧ vl B n (skp B n T.2.1 k) ≤ hi := by
  obtain ⟨a1, a2⟩ := nTs_m (k := k) (by omega) w
  have b := nTs_w a1
  obtain ⟨c1, c2⟩ := (nTs_w w).2.2.2 k km
  have nb := c2 f0
  have rg : loL (ls k) ≤ vl B n (skp B n T.2.1 k) ∧ vl B n (skp B n T.2.1 k) ≤ hiL (ls k) := by
    rcases Classical.em (loL (ls k) ≤ vl B n (skp B n T.2.1 k) ∧ vl B n (skp B n T.2.1 k) ≤ hiL (ls k)) with u | u
    · exact u
    · exact absurd (Or.inl u) nb
  rw [el, eh] at rg
  unfold nvl
  rw [b.2.1, cif_t ⟨a1, c1, rg⟩]
  exact ⟨rfl, rg⟩
theorem m_ok {k : Nat} (c : MST g B n (nTs B n ls T k)) (k1 : 1 ≤ k) (k4 : k ≤ 4) (l99 : ls (k - 1) = 99) (l111 : ls k = 111) : ∃ g', pf_M_otherCell (nvl B n 0 35 (nTs B n ls T (k - 1))) g = some (nvl B n 0 35 (nTs B n ls T k), g') ∧ MST g' B n (nTs B n ls T (k + 1)) ∧ MN g g' ∧ pi g' 417 9 = max (pi g 417 9) (nvl B n 0 35 (nTs B n ls T k)) := by
  obtain ⟨g', a1, a2, a3, a4⟩ := m_otherCell (x := nvl B n 0 35 (nTs B n ls T (k - 1))) c
  refine ⟨g', a1, ?_, a3, a4⟩
  rw [nTs_s (fun w f0 e => ?_)] at a2
  · exact a2
  · have nv := (nvl_ok (k := k - 1) (m := k) (lo := 0) (hi := 35) (by omega) w f0 (Or.inr (by rw [l99]; decide)) (by rw [l99]; rfl) (by rw [l99]; rfl)).1
    rw [nv, e, l111]
    unfold bdL
    constructor
    · intro u
      rcases u with u | u
      · exact Or.inl u
      · exact Or.inr ⟨rfl, by omega, k4, u⟩
    · intro u
      rcases u with u | u
      · exact Or.inl u
      · exact Or.inr u.2.2.2
theorem m_takes {f q lo hi : Int} (c : MT g B n s) (w : pi g 417 8 = 0) (ef : pi g 418 4 = f) (eq : pi g 418 5 = q) (ok : (f = 0 ∧ q = -1) ∨ ((f = 2 ∨ f = 3) ∧ q ≤ s)) (lo1 : 1 ≤ lo) : (kd B n s = 1 ∧ lo ≤ wdl B n s + 1 ∧ wdl B n s + 1 ≤ hi → ∃ g', pf_M_takes lo hi g = some (wdl B n s + 1, g') ∧ MA g g' ∧ MST g' B n (0, nx B n s, f, q)) ∧ (¬ (kd B n s = 1 ∧ lo ≤ wdl B n s + 1 ∧ wdl B n s + 1 ≤ hi) → ∃ g', pf_M_takes lo hi g = some (0, g') ∧ MN g g' ∧ pi g' 417 9 = pi g 417 9 ∧ MST g' B n (1, s, 1, (s : Int))) := by
  unfold pf_M_takes pj_M_takes_27
  rw [if_pos w, c.2.2.2.2.1]
  refine ⟨fun k => ?_, fun k => ?_⟩
  · have nw : wdl B n s ≠ -1 := by omega
    obtain ⟨g', a1, a2, a3⟩ := m_go c (by omega) w ef eq ok
    have e7 := c.2.2.2.2.2.2 k.1 nw
    rw [if_pos (tkm_3.mpr ⟨k.1, nw⟩), e7, m_isIn, bsm, if1, if_pos ⟨k.2.1, k.2.2⟩, a1, bsm]
    exact ⟨g', rfl, a2, a3⟩
  · obtain ⟨g', a1, a2, a3, a4⟩ := m_ends0 w c.1 c.2.2.1
    rw [a1, bsm]
    by_cases u : kd B n s = 1 ∧ wdl B n s ≠ -1
    · have e7 := c.2.2.2.2.2.2 u.1 u.2
      rw [if_pos (tkm_3.mpr u), e7, m_isIn, bsm, if1, if_neg (fun v => k ⟨u.1, v.1, v.2⟩)]
      exact ⟨g', rfl, a2, a3, a4⟩
    · rw [if_neg (fun v => u (tkm_3.mp v))]
      exact ⟨g', rfl, a2, a3, a4⟩
end Tk
/-! lines: what holds between them -/
def CN (sr : Nat) (h g : pH) (s : Nat) : Prop := (0 ≤ pi h 279 13 ∧ pi h 279 13 ≤ s) ∧ (0 ≤ pi h 279 14 ∧ pi h 279 14 ≤ s) ∧ (0 ≤ pi h 279 15 ∧ pi h 279 15 ≤ s) ∧ (sr = 0 → pi g 420 4 = pi h 279 13 ∧ 0 ≤ pi g 417 11 ∧ 9 * pi g 417 11 ≤ s) ∧ (sr = 1 → pi g 420 4 = pi h 279 14) ∧ (sr = 2 → pi g 420 0 = pi h 279 15) ∧ (sr ≠ 0 → pi h 279 13 = 0) ∧ (sr ≠ 1 → pi h 279 14 = 0) ∧ (sr ≠ 2 → pi h 279 15 = 0)
def FMT (g g' : pH) : Prop := fr (fun b => b = 417 ∨ b = 418 ∨ b = 420 ∨ b = 421) g g' ∧ (∀ j, (j < 3 ∨ 12 ≤ j) → pi g' 417 j = pi g 417 j) ∧ ∀ j, j ≠ 4 → j ≠ 5 → pi g' 418 j = pi g 418 j
theorem FMT_refl {h : pH} : FMT h h := ⟨fr_refl, fun _ _ => rfl, fun _ _ _ => rfl⟩
theorem FMT_trans {h h1 h2 : pH} (a : FMT h h1) (b : FMT h1 h2) : FMT h h2 := ⟨fr_trans a.1 b.1, fun j hj => by rw [b.2.1 j hj, a.2.1 j hj], fun j x y => by rw [b.2.2 j x y, a.2.2 j x y]⟩
theorem MN_FMT {h h1 : pH} (a : MN h h1) : FMT h h1 := ⟨fr_mono a.1 (fun b hb => by omega), fun j hj => a.2.1 j (by omega), a.2.2⟩
theorem FMT_w {h : pH} {b i : Nat} {x : Int} (hb : b = 420 ∨ b = 421) : FMT h (pwI h b i x) := ⟨fr_wI fr_refl (by omega), fun j _ => pi_wIa (by omega), fun j _ _ => pi_wIa (by omega)⟩
theorem FMT_11 {h : pH} {x : Int} : FMT h (pwI h 417 11 x) := ⟨fr_wI fr_refl (by omega), fun j hj => pi_wIi (by omega), fun j _ _ => pi_wIa (by decide)⟩
/-- what is read so far -/
def LIs (sr : Nat) (DR : pH → pH → Prop) (h g : pH) (B : Nat → Int) (n s : Nat) (f q : Int) : Prop := CTx h B n s ∧ pi h 279 3 = f ∧ pi h 279 4 = q ∧ pi h 279 8 = sr ∧ MST g B n (0, s, f, q) ∧ CN sr h g s ∧ (f = 0 → DR h g)
/-- what a line does -/
def LNs (sr : Nat) (DR : pH → pH → Prop) (B : Nat → Int) (n : Nat) (h g : pH) (s : Nat) (x : Option (Int × pH)) (y : Option pH) : Prop := ∃ r h' g', x = some (r, h') ∧ y = some g' ∧ fr (fun b => 279 ≤ b ∧ b ≤ 302) h h' ∧ FMT g g' ∧ ((r = 0 ∧ pi h' 279 3 = 1 ∧ pi g' 417 8 = 1 ∧ pi g' 418 4 = 1 ∧ pi h' 279 4 = pi g' 418 5) ∨ (r = 1 ∧ ∃ s' f' q', s < s' ∧ LIs sr DR h' g' B n s' f' q'))
/-- a word of which no line is -/
theorem c_noLine {h : pH} {B : Nat → Int} {n s sr : Nat} (o : OC h) (ht : sr < 3) (e8 : pi h 279 8 = sr) (c : CTx h B n s) (no : ¬ (kd B n s = 1 ∧ loS sr ≤ wdl B n s ∧ wdl B n s < hiS sr)) : ∃ h', pf_Re_readLine h = some (0, h') ∧ KP h h' ∧ CSx h' B n (1, s, 1, (s : Int)) := by
  obtain ⟨h', a1, a2, a3⟩ := c_refuse c
  unfold pf_Re_readLine
  rw [c_line o c ht e8, bsm, if_neg no, if_pos rfl, a1, bsm]
  exact ⟨h', rfl, a2, a3⟩
/-! plans -/
def DR2 (h g : pH) : Prop := PR h 296 (pi g 420) ∧ PK (pi g 420)
section Tl
variable {h g : pH} {B : Nat → Int} {n s : Nat} {f q : Int}
theorem bnd_skp {s k : Nat} (sn : s ≤ n) : skp B n s k ≤ n ∧ s ≤ skp B n s k := by
  induction k with
  | zero => exact ⟨sn, Nat.le_refl _⟩
  | succ k ih =>
    have := nx_ok (B := B) ih.1
    exact ⟨this.1, by show s ≤ nx B n (skp B n s k); omega⟩
/-- the acts' store -/
theorem m_store {x2 x3 x4 x5 : Int} {T : Nat × Nat × Int × Int} (c : MST g B n T) (c0 : 0 ≤ pi g 420 0 ∧ pi g 420 0 ≤ 1000) : ∃ g', pj_M_planLine_107 x2 x3 x4 x5 g = some g' ∧ MST g' B n (estp B n T) ∧ FMT g g' ∧ pi g' 420 0 = pi g 420 0 + 1 ∧ (pi g 420 0 < 30 → ∀ j, 1 ≤ j → pi g' 420 j = if j = 1 + 4 * (pi g 420 0).toNat then x2 else (if j = 2 + 4 * (pi g 420 0).toNat then x3 else (if j = 3 + 4 * (pi g 420 0).toNat then x4 else (if j = 4 + 4 * (pi g 420 0).toNat then x5 else pi g 420 j)))) := by
  unfold pj_M_planLine_107 pj_M_planLine_170
  by_cases y : 30 ≤ pi g 420 0
  · rw [if_pos y, wr_eq (by omega) (by omega)]
    obtain ⟨g', a1, a2, a3, a4⟩ := m_endsLine (g := pwI g 420 0 (pi g 420 0 + 1)) (MST_n c (fun j _ => pi_wIa (by decide)) (fun j _ => pi_wIa (by decide)))
    rw [a1, bsm]
    exact ⟨g', rfl, a2, FMT_trans (FMT_w (Or.inl rfl)) (MN_FMT a3), by rw [MN_i a3 (by decide), pi_wIs], fun v => by omega⟩
  · obtain ⟨k, ek⟩ : ∃ k : Nat, pi g 420 0 = k := ⟨(pi g 420 0).toNat, by omega⟩
    rw [if_neg y, ek]
    simp (disch := omega) only [wr_eq, gib]
    rw [show (1 + 4 * (k : Int)).toNat = 1 + 4 * k by omega, show (1 + 4 * (k : Int) + 1).toNat = 2 + 4 * k by omega, show (1 + 4 * (k : Int) + 2).toNat = 3 + 4 * k by omega, show (1 + 4 * (k : Int) + 3).toNat = 4 + 4 * k by omega]
    generalize eG : pwI (pwI (pwI (pwI g 420 (1 + 4 * k) x2) 420 (2 + 4 * k) x3) 420 (3 + 4 * k) x4) 420 (4 + 4 * k) x5 = G
    have g0 : pi G 420 0 = k := by rw [← eG, pi_wIi (by omega), pi_wIi (by omega), pi_wIi (by omega), pi_wIi (by omega)]; exact ek
    have gj : ∀ j, pi G 420 j = if j = 1 + 4 * k then x2 else (if j = 2 + 4 * k then x3 else (if j = 3 + 4 * k then x4 else (if j = 4 + 4 * k then x5 else pi g 420 j))) := fun j => by
      rw [← eG]
      by_cases j1 : j = 1 + 4 * k
      · rw [if_pos j1, j1, pi_wIi (by omega), pi_wIi (by omega), pi_wIi (by omega), pi_wIs]
      · rw [if_neg j1]
        by_cases j2 : j = 2 + 4 * k
        · rw [if_pos j2, j2, pi_wIi (by omega), pi_wIi (by omega), pi_wIs]
        · rw [if_neg j2]
          by_cases j3 : j = 3 + 4 * k
          · rw [if_pos j3, j3, pi_wIi (by omega), pi_wIs]
          · rw [if_neg j3]
            by_cases j4 : j = 4 + 4 * k
            · rw [if_pos j4, j4, pi_wIs]
            · rw [if_neg j4, pi_wIi j4, pi_wIi j3, pi_wIi j2, pi_wIi j1]
    have fG : FMT g G := by rw [← eG]; exact FMT_trans (FMT_trans (FMT_trans (FMT_w (Or.inl rfl)) (FMT_w (Or.inl rfl))) (FMT_w (Or.inl rfl))) (FMT_w (Or.inl rfl))
    have e7 : pi G 417 = pi g 417 := by rw [← eG, pi_wIf (by decide), pi_wIf (by decide), pi_wIf (by decide), pi_wIf (by decide)]
    have e8 : pi G 418 = pi g 418 := by rw [← eG, pi_wIf (by decide), pi_wIf (by decide), pi_wIf (by decide), pi_wIf (by decide)]
    rw [g0, wr_eq (by omega) (by omega)]
    obtain ⟨g', a1, a2, a3, a4⟩ := m_endsLine (g := pwI G 420 0 ((k : Int) + 1)) (MST_n c (fun j _ => by rw [pi_wIa (by decide), e7]) (fun j _ => by rw [pi_wIa (by decide), e8]))
    rw [a1, bsm]
    refine ⟨g', rfl, a2, FMT_trans fG (FMT_trans (FMT_w (Or.inl rfl)) (MN_FMT a3)), by rw [MN_i a3 (by decide), pi_wIs], fun _ j hj => ?_⟩
    rw [MN_i a3 (by decide), pi_wIi (by omega), gj j, Int.toNat_natCast]
end Tl
