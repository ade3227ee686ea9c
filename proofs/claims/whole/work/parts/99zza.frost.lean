/-! lakes: frosts -/
theorem F2_wI {h h1 : pH} {b i : Nat} {x : Int} (a : F2 h h1) : F2 (pwI h b i x) (pwI h1 b i x) := fun c hc k => by
  obtain ⟨x1, x2, x3⟩ := a c hc k
  refine ⟨?_, x2, x3⟩
  rw [pi_wI, pi_wI, x1]
def FRM (u u' : pH) : Prop := FMT u u' ∧ pi u' 417 9 = pi u 417 9 ∧ pi u' 417 11 = pi u 417 11 ∧ pi u' 421 = pi u 421 ∧ ∀ j, (j < 224 ∨ 236 ≤ j) → pi u' 420 j = pi u 420 j
theorem FRM_refl {u : pH} : FRM u u := ⟨FMT_refl, rfl, rfl, rfl, fun _ _ => rfl⟩
theorem FRM_trans {u u1 u2 : pH} (a : FRM u u1) (b : FRM u1 u2) : FRM u u2 := ⟨FMT_trans a.1 b.1, by rw [b.2.1, a.2.1], by rw [b.2.2.1, a.2.2.1], by rw [b.2.2.2.1, a.2.2.2.1], fun j hj => by rw [b.2.2.2.2 j hj, a.2.2.2.2 j hj]⟩
theorem MN_FRM {u u' : pH} (a : MN u u') (e9 : pi u' 417 9 = pi u 417 9) : FRM u u' := ⟨MN_FMT a, e9, a.2.1 11 (by omega), MN_i a (by decide), fun j _ => by rw [MN_i a (by decide)]⟩
section Tw
variable {h g : pH} {B : Nat → Int} {n s : Nat} {f q : Int}
theorem c_fnum {i : Nat} {x4 x5 : Int} (c : CTx h B n s) (ef : pi h 279 3 = f) (eq : pi h 279 4 = q) (e8 : pi h 279 8 = 0) (ii : i < 1000) (k : kd B n s = 2) (x5v : x5 = 0 ∨ x5 = 1) (cn : f = 0 → x4 = 0 → 0 ≤ pi h 280 10 ∧ pi h 280 10 < 12) : ∃ h', pj_Re_readNumber_63 6 102 i x4 x5 h = some (1, h') ∧ KP h h' ∧ CTx h' B n (nx B n s) ∧ pi h' 279 3 = (if f = 0 then (if 20 < vl B n s then 2 else (if x4 = 0 then 0 else 3)) else f) ∧ pi h' 279 4 = (if f = 0 then (if 20 < vl B n s then (s : Int) else (if x4 = 0 then q else s)) else q) ∧ (f = 0 → ¬ 20 < vl B n s → x4 = 0 → F2 (pwI (pwI (NHp h i (vl B n s)) 280 10 (pi h 280 10 + 1)) 285 (pi h 280 10).toNat (if x5 = 0 then vl B n s else -vl B n s)) h') := by
  have vr := vl_r c.2.1 k
  have ev := c.2.2.2.2.2 k
  have tail : ∀ Hm f2 q2, fr (fun b => b = 279) h Hm → (∀ j, j ≠ 3 → j ≠ 4 → pi Hm 279 j = pi h 279 j) → pr Hm 279 = pr h 279 → pi Hm 279 3 = f2 → pi Hm 279 4 = q2 → (f2 = 0 → f = 0 ∧ x4 = 0 ∧ Hm = h) → ∃ h', pj_Re_readNumber_167 6 102 i x5 Hm = some (1, h') ∧ KP h h' ∧ CTx h' B n (nx B n s) ∧ pi h' 279 3 = f2 ∧ pi h' 279 4 = q2 ∧ (f2 = 0 → F2 (pwI (pwI (NHp h i (vl B n s)) 280 10 (pi h 280 10 + 1)) 285 (pi h 280 10).toNat (if x5 = 0 then vl B n s else -vl B n s)) h') := by
    intro Hm f2 q2 m1 m2 m3 m4 m5 m6
    have cm : CTx Hm B n s := CT_n c m1 (fun j hj => m2 j (by omega) (by omega)) m3
    have e1 : pj_Re_readNumber_167 6 102 i x5 Hm = pj_Re_readNumber_186 6 102 i x5 (NHp Hm i (vl B n s)) := by
      unfold pj_Re_readNumber_167 NHp
      by_cases u : i < 4
      · rw [if_neg (by omega), gib (by omega) (by omega), if_pos u, Int.toNat_natCast, m2 10 (by omega) (by omega), ev]
      · rw [if_pos (by omega), if_neg u]
    have tn := NHp_TF (h := Hm) (i := i) (v := vl B n s)
    have kpm : KP h Hm := ⟨fr_mono m1 (fun b hb => by omega), fun j hj => m2 j (by omega) (by omega), m3⟩
    rw [e1]
    unfold pj_Re_readNumber_186 pj_Re_readNumber_213 pj_Re_readNumber_216
    have e3 : pi (NHp Hm i (vl B n s)) 279 3 = f2 := by rw [fr_i tn (by omega)]; exact m4
    have e4 : pi (NHp Hm i (vl B n s)) 279 4 = q2 := by rw [fr_i tn (by omega)]; exact m5
    have e10 : pi (NHp Hm i (vl B n s)) 279 10 = vl B n s := by rw [fr_i tn (by omega), m2 10 (by omega) (by omega), ev]
    rw [e3, e10]
    by_cases f0 : f2 = 0
    · obtain ⟨z1, z2, z3⟩ := m6 f0
      have c12 := cn z1 z2
      subst z3
      have e80 : pi (NHp Hm i (vl B n s)) 280 10 = pi Hm 280 10 := by
        unfold NHp
        split
        · exact pi_wIa (by decide)
        · rfl
      have e88 : pi (NHp Hm i (vl B n s)) 279 8 = 0 := by rw [fr_i tn (by omega)]; exact e8
      have tel6 : ∀ v, pf_Re_tellNumber 6 102 v (NHp Hm i (vl B n s)) = some (pwI (pwI (NHp Hm i (vl B n s)) 280 10 (pi Hm 280 10 + 1)) 285 (pi Hm 280 10).toNat v) := fun v => by
        unfold pf_Re_tellNumber pj_Re_tellNumber_35 pf_La_addFrost
        rw [e88, if_pos rfl, if_neg (by decide), if_neg (by decide), if_pos rfl, e80, if_neg (by omega), gib c12.1 (by omega), wr_eq (by omega) (by omega), bsm]
      have tf2 : ∀ v, TF (NHp Hm i (vl B n s)) (pwI (pwI (NHp Hm i (vl B n s)) 280 10 (pi Hm 280 10 + 1)) 285 (pi Hm 280 10).toNat v) := fun v => fr_wI (fr_wI fr_refl (by omega)) (by omega)
      have fin : ∀ v, v = (if x5 = 0 then vl B n s else -vl B n s) → ∃ h', ((pf_Re_tellNumber 6 102 v (NHp Hm i (vl B n s))).bind fun v4 => (pf_Re_advance v4).bind fun v3 => some ((1 : Int), v3)) = some (1, h') ∧ KP Hm h' ∧ CTx h' B n (nx B n s) ∧ pi h' 279 3 = f2 ∧ pi h' 279 4 = q2 ∧ (f2 = 0 → F2 (pwI (pwI (NHp Hm i (vl B n s)) 280 10 (pi Hm 280 10 + 1)) 285 (pi Hm 280 10).toNat (if x5 = 0 then vl B n s else -vl B n s)) h') := fun v hv => by
        obtain ⟨h', a1, a2, a3⟩ := c_go (CT_TF (CT_TF cm tn) (tf2 v))
        rw [tel6 v, bsm, a1, bsm]
        refine ⟨h', rfl, KP_trans (TF_KP tn) (KP_trans (TF_KP (tf2 v)) (CA_KP a2)), a3, ?_, ?_, fun _ => by rw [← hv]; exact a2.1⟩
        · rw [a2.2.1 3 (by omega), fr_i (tf2 v) (by omega), e3]
        · rw [a2.2.1 4 (by omega), fr_i (tf2 v) (by omega), e4]
      rw [if_pos f0]
      rcases x5v with x5v | x5v
      · rw [if_pos x5v]
        exact fin _ (by rw [if_pos x5v])
      · rw [if_neg (by omega), wr_eq (by omega) (by omega)]
        exact fin _ (by rw [if_neg (by omega)])
    · obtain ⟨h', a1, a2, a3⟩ := c_go (CT_TF cm tn)
      rw [if_neg f0, a1, bsm]
      exact ⟨h', rfl, KP_trans kpm (KP_trans (TF_KP tn) (CA_KP a2)), a3, by rw [a2.2.1 3 (by omega)]; exact e3, by rw [a2.2.1 4 (by omega)]; exact e4, fun v => absurd v f0⟩
  have mid : ∀ Hm f1 q1, fr (fun b => b = 279) h Hm → (∀ j, j ≠ 3 → j ≠ 4 → pi Hm 279 j = pi h 279 j) → pr Hm 279 = pr h 279 → pi Hm 279 3 = f1 → pi Hm 279 4 = q1 → (f1 = 0 → f = 0 ∧ Hm = h) → ∃ h', pj_Re_readNumber_153 6 102 i x4 x5 Hm = some (1, h') ∧ KP h h' ∧ CTx h' B n (nx B n s) ∧ pi h' 279 3 = (if x4 = 0 then f1 else (if f1 = 0 then 3 else f1)) ∧ pi h' 279 4 = (if x4 = 0 then q1 else (if f1 = 0 then (s : Int) else q1)) ∧ (f1 = 0 → x4 = 0 → F2 (pwI (pwI (NHp h i (vl B n s)) 280 10 (pi h 280 10 + 1)) 285 (pi h 280 10).toNat (if x5 = 0 then vl B n s else -vl B n s)) h') := by
    intro Hm f1 q1 m1 m2 m3 m4 m5 m6
    unfold pj_Re_readNumber_153
    by_cases x0 : x4 = 0
    · rw [if_pos x0, if_pos x0, if_pos x0]
      obtain ⟨h', a1, a2, a3, a4, a5, a6⟩ := tail Hm f1 q1 m1 m2 m3 m4 m5 (fun v => ⟨(m6 v).1, x0, (m6 v).2⟩)
      exact ⟨h', a1, a2, a3, a4, a5, fun v _ => a6 v⟩
    · rw [if_neg x0, if_neg x0, if_neg x0]
      obtain ⟨H2, b1, b2, b3, b4, b5, b6, b7⟩ := c_note (k := 3) (a := pi Hm 279 11) m4 m5
      have e11 : pi Hm 279 11 = s := by rw [m2 11 (by omega) (by omega)]; exact c.2.2.1
      rw [b1, bsm]
      obtain ⟨h', a1, a2, a3, a4, a5, a6⟩ := tail H2 _ _ (fr_trans m1 b2) (fun j x y => by rw [b3 j x y, m2 j x y]) (by rw [b5, m3]) b6 b7 (fun v => by exfalso; split at v <;> omega)
      rw [e11] at a5
      exact ⟨h', a1, a2, a3, a4, a5, fun _ v => absurd v x0⟩
  unfold pj_Re_readNumber_63 pj_Re_readNumber_115
  rw [c.2.2.2.2.1, if_pos k, if_neg (by decide), c_least, bsm, ev, if_neg (show ¬ vl B n s < loL 102 from by show ¬ vl B n s < 0; omega), c_greatest_, bsm, show hiL 102 = 20 from rfl]
  by_cases bad : 20 < vl B n s
  · rw [if_pos bad]
    unfold pj_Re_readNumber_144
    obtain ⟨H2, b1, b2, b3, b4, b5, b6, b7⟩ := c_note (k := 2) (a := pi h 279 11) ef eq
    rw [c.2.2.1] at b1 b7
    rw [c.2.2.1, b1, bsm]
    obtain ⟨h', a1, a2, a3, a4, a5, a6⟩ := mid H2 _ _ b2 b3 b5 b6 b7 (fun v => by exfalso; split at v <;> omega)
    refine ⟨h', a1, a2, a3, ?_, ?_, fun _ v => absurd bad v⟩
    · rw [a4, if_pos bad]
      by_cases f0 : f = 0
      · rw [if_pos f0]
        by_cases x0 : x4 = 0
        · rw [if_pos x0]
        · rw [if_neg x0, if_neg (by decide)]
      · rw [if_neg f0, if_neg f0]; split <;> rfl
    · rw [a5, if_pos bad]
      by_cases f0 : f = 0
      · rw [if_pos f0, if_pos f0]
        by_cases x0 : x4 = 0
        · rw [if_pos x0]
        · rw [if_neg x0, if_neg (by decide)]
      · rw [if_neg f0, if_neg f0, if_neg f0]; split <;> rfl
  · rw [if_neg bad, if_pos rfl]
    obtain ⟨h', a1, a2, a3, a4, a5, a6⟩ := mid h f q fr_refl (fun _ _ _ => rfl) rfl ef eq (fun v => ⟨v, rfl⟩)
    refine ⟨h', a1, a2, a3, ?_, ?_, fun f0 _ x0 => a6 f0 x0⟩
    · rw [a4, if_neg bad]
      by_cases f0 : f = 0
      · rw [if_pos f0, if_pos f0]; split <;> first | exact f0 | rfl
      · rw [if_neg f0, if_neg f0]; split <;> rfl
    · rw [a5, if_neg bad]
      by_cases f0 : f = 0
      · rw [if_pos f0, if_pos f0]
      · rw [if_neg f0, if_neg f0]; split <;> rfl
/-- the reference's: its fault may stand at this very place -/
theorem m_fnum (c : MT g B n s) (w0 : pi g 417 8 = 0) (e4 : pi g 418 4 = f) (e5 : pi g 418 5 = q) (ok : FOK s f q ∨ (f = 3 ∧ q = s)) : (kd B n s = 2 → ∃ v g', pf_M_numbered 0 20 g = some (v, g') ∧ MN g g' ∧ pi g' 417 9 = pi g 417 9 ∧ (¬ 20 < vl B n s → v = vl B n s) ∧ (-1 ≤ v ∧ v ≤ 20) ∧ MST g' B n (0, nx B n s, (if 20 < vl B n s ∧ (f = 0 ∨ q = s) then 2 else f), (if 20 < vl B n s ∧ (f = 0 ∨ q = s) then (s : Int) else q))) ∧ (kd B n s ≠ 2 → ∃ g', pf_M_numbered 0 20 g = some (-1, g') ∧ MN g g' ∧ pi g' 417 9 = pi g 417 9 ∧ MST g' B n (1, s, 1, (s : Int))) := by
  have okk : (f = 0 ∧ q = -1) ∨ ((f = 2 ∨ f = 3) ∧ q ≤ s) := by unfold FOK at ok; omega
  unfold pf_M_numbered pj_M_numbered_15 pj_M_numbered_44
  refine ⟨fun k => ?_, fun k => ?_⟩
  · have vr := vl_r c.2.1 k
    rw [if_pos w0, c.2.2.2.2.1, if_pos (tkm_1.mpr k), c.2.2.2.2.2.1 k, c.2.2.1, m_isIn, bsm, if1]
    by_cases r : 0 ≤ vl B n s ∧ vl B n s ≤ 20
    · obtain ⟨g1, a1, a2, a3⟩ := m_go c (by omega) w0 e4 e5 okk
      rw [if_pos r, a1, bsm, m_isIn, bsm, if1, if_pos r]
      refine ⟨_, g1, rfl, MA_MN a2, a2.2 9 (by omega), fun _ => rfl, by omega, ?_⟩
      rw [if_neg (by omega), if_neg (by omega)]
      exact a3
    · have also : ∃ g0, pf_M_also 2 s g = some g0 ∧ MN g g0 ∧ (∀ j, pi g0 417 j = pi g 417 j) ∧ pi g0 418 4 = (if f = 0 ∨ q = s then 2 else f) ∧ pi g0 418 5 = (if f = 0 ∨ q = s then (s : Int) else q) := by
        by_cases y : f ≠ 0 ∧ q = s
        · unfold pf_M_also pj_M_also_47
          rw [if_pos w0, e4, e5, if_neg y.1, if_neg (by omega), if_pos y.2, if_pos (by unfold FOK at ok; omega), if_pos (Or.inr y.2), if_pos (Or.inr y.2)]
          refine ⟨_, rfl, ⟨fr_wI (fr_wI fr_refl (Or.inr rfl)) (Or.inr rfl), fun j hj => by rw [pi_wIa (by decide), pi_wIa (by decide)], fun j a b => by rw [pi_wIi b, pi_wIi a]⟩, fun j => by rw [pi_wIa (by decide), pi_wIa (by decide)], by rw [pi_wIi (by decide), pi_wIs], pi_wIs⟩
        · obtain ⟨g0, b1, b2, b3, b4, b5⟩ := m_also (k := 2) (at_ := (s : Int)) w0 e4 e5 (by unfold FOK at ok; omega)
          refine ⟨g0, b1, b2, b3, ?_, ?_⟩
          · rw [b4]
            by_cases f0 : f = 0
            · rw [if_pos f0, if_pos (Or.inl f0)]
            · rw [if_neg f0, if_neg (by omega)]
          · rw [b5]
            by_cases f0 : f = 0
            · rw [if_pos f0, if_pos (Or.inl f0)]
            · rw [if_neg f0, if_neg (by omega)]
      obtain ⟨g0, b1, b2, b3, b4, b5⟩ := also
      obtain ⟨g1, a1, a2, a3⟩ := m_go (MT_n c (fun j _ => b3 j) (fun j hj => b2.2.2 j (by omega) (by omega))) (by omega) (by rw [b3]; exact w0) b4 b5 (by split <;> omega)
      rw [if_neg r, b1, bsm, a1, bsm, m_isIn, bsm, if1, if_neg r]
      refine ⟨_, g1, rfl, MN_trans b2 (MA_MN a2), by rw [a2.2 9 (by omega), b3], fun v => by omega, by decide, ?_⟩
      by_cases y : f = 0 ∨ q = s
      · rw [if_pos ⟨by omega, y⟩, if_pos ⟨by omega, y⟩]
        rw [if_pos y, if_pos y] at a3
        exact a3
      · rw [if_neg (fun u => y u.2), if_neg (fun u => y u.2)]
        rw [if_neg y, if_neg y] at a3
        exact a3
  · obtain ⟨g1, a1, a2, a3, a4⟩ := m_ends0 w0 c.1 c.2.2.1
    rw [if_pos w0, c.2.2.2.2.1, if_neg (fun v => k (tkm_1.mp v)), a1, bsm]
    exact ⟨g1, rfl, a2, a3, a4⟩
end Tw
