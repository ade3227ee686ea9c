/-! a line: the class -/
def F2 (h h' : pH) : Prop := fr (fun b => b = 279) h h'
theorem F2_tel {h h1 : pH} {sr : Nat} {l v : Int} (a : F2 h h1) : F2 (tel sr l v h) (tel sr l v h1) := by
  unfold tel
  split
  · have e : pl h1 280 8 = pl h 280 8 := fr_l a (by decide)
    rw [e]
    intro b hb k
    obtain ⟨x1, x2, x3⟩ := a b hb k
    refine ⟨x1, ?_, x3⟩
    rw [pl_wL, pl_wL, x2]
  · exact a
theorem F2_NHp {h h1 : pH} {i : Nat} {v : Int} (a : F2 h h1) : F2 (NHp h i v) (NHp h1 i v) := by
  unfold NHp
  split
  · intro b hb k
    obtain ⟨x1, x2, x3⟩ := a b hb k
    refine ⟨?_, x2, x3⟩
    rw [pi_wI, pi_wI, x1]
  · exact a
theorem F2_nXs {h h1 : pH} {B : Nat → Int} {n sr s : Nat} {ls : Nat → Int} (a : F2 h h1) : ∀ {k : Nat}, F2 (nXs B n sr ls s h k) (nXs B n sr ls s h1 k)
  | 0 => a
  | k + 1 => F2_tel (F2_NHp (F2_nXs (k := k) a))
/-- too many of a kind -/
def ovr (h : pH) (l : Nat) : Prop := 6 < pi h 279 13 + (if l = 9 then 1 else 0) ∨ 12 < pi h 279 14 + (if l = 14 then 1 else 0) ∨ 30 < pi h 279 15 + (if 16 ≤ l then 1 else 0)
section Tj
variable {h : pH} {B : Nat → Int} {n s : Nat} {f q : Int}
theorem c_open {l : Nat} (l6 : l ≠ 6) (c : CTx h B n s) (ef : pi h 279 3 = f) (eq : pi h 279 4 = q) (b13 : 0 ≤ pi h 279 13 ∧ pi h 279 13 ≤ 1000) (b14 : 0 ≤ pi h 279 14 ∧ pi h 279 14 ≤ 1000) (b15 : 0 ≤ pi h 279 15 ∧ pi h 279 15 ≤ 1000) : ∃ h', pf_Re_openLine l h = some h' ∧ F2 h h' ∧ pl h' 279 = pl h 279 ∧ pr h' 279 = pr h 279 ∧ CTx h' B n s ∧ pi h' 279 8 = pi h 279 8 ∧ pi h' 279 13 = pi h 279 13 + (if l = 9 then 1 else 0) ∧ pi h' 279 14 = pi h 279 14 + (if l = 14 then 1 else 0) ∧ pi h' 279 15 = pi h 279 15 + (if 16 ≤ l then 1 else 0) ∧ pi h' 279 3 = cif (f = 0 ∧ ovr h l) 3 f ∧ pi h' 279 4 = cif (f = 0 ∧ ovr h l) (s : Int) q := by
  -- behind the count
  have behind : ∀ H, F2 h H → pl H 279 = pl h 279 → pr H 279 = pr h 279 → (∀ j, j ≠ 13 → j ≠ 14 → j ≠ 15 → pi H 279 j = pi h 279 j) → pi H 279 13 = pi h 279 13 + (if l = 9 then 1 else 0) → pi H 279 14 = pi h 279 14 + (if l = 14 then 1 else 0) → pi H 279 15 = pi h 279 15 + (if 16 ≤ l then 1 else 0) → ∃ h', pj_Re_openLine_71 l H = some h' ∧ F2 h h' ∧ pl h' 279 = pl h 279 ∧ pr h' 279 = pr h 279 ∧ CTx h' B n s ∧ pi h' 279 8 = pi h 279 8 ∧ pi h' 279 13 = pi h 279 13 + (if l = 9 then 1 else 0) ∧ pi h' 279 14 = pi h 279 14 + (if l = 14 then 1 else 0) ∧ pi h' 279 15 = pi h 279 15 + (if 16 ≤ l then 1 else 0) ∧ pi h' 279 3 = cif (f = 0 ∧ ovr h l) 3 f ∧ pi h' 279 4 = cif (f = 0 ∧ ovr h l) (s : Int) q := by
    intro H a1 a2 a3 a4 a5 a6 a7
    have cH : CTx H B n s := by
      obtain ⟨⟨c1, c2, c3, c4⟩, d1, d2, d3, d4, d5⟩ := c
      exact ⟨⟨by rw [a3]; exact c1, by rw [a4 7 (by omega) (by omega) (by omega)]; exact c2, c3, fun i hi => by rw [fr_i a1 (by omega)]; exact c4 i hi⟩, d1, by rw [a4 11 (by omega) (by omega) (by omega)]; exact d2, by rw [a4 12 (by omega) (by omega) (by omega)]; exact d3, by rw [a4 9 (by omega) (by omega) (by omega)]; exact d4, fun k => by rw [a4 10 (by omega) (by omega) (by omega)]; exact d5 k⟩
    have eF : pi H 279 3 = f := by rw [a4 3 (by omega) (by omega) (by omega)]; exact ef
    have eQ : pi H 279 4 = q := by rw [a4 4 (by omega) (by omega) (by omega)]; exact eq
    have over : ovr h l → ∃ h', pj_Re_openLine_98 l H = some h' ∧ F2 h h' ∧ pl h' 279 = pl h 279 ∧ pr h' 279 = pr h 279 ∧ CTx h' B n s ∧ pi h' 279 8 = pi h 279 8 ∧ pi h' 279 13 = pi h 279 13 + (if l = 9 then 1 else 0) ∧ pi h' 279 14 = pi h 279 14 + (if l = 14 then 1 else 0) ∧ pi h' 279 15 = pi h 279 15 + (if 16 ≤ l then 1 else 0) ∧ pi h' 279 3 = cif (f = 0 ∧ ovr h l) 3 f ∧ pi h' 279 4 = cif (f = 0 ∧ ovr h l) (s : Int) q := fun ov => by
      unfold pj_Re_openLine_98
      obtain ⟨h', n1, n2, n3, n4, n5, n6, n7⟩ := c_note (k := 3) (a := pi H 279 11) eF eQ
      rw [n1, bsm]
      refine ⟨h', rfl, fr_trans a1 n2, by rw [n4, a2], by rw [n5, a3], CT_n cH n2 (fun j hj => n3 j (by omega) (by omega)) n5, by rw [n3 8 (by omega) (by omega), a4 8 (by omega) (by omega) (by omega)], by rw [n3 13 (by omega) (by omega)]; exact a5, by rw [n3 14 (by omega) (by omega)]; exact a6, by rw [n3 15 (by omega) (by omega)]; exact a7, ?_, ?_⟩
      · rw [n6]
        by_cases f0 : f = 0
        · rw [if_pos f0, cif_t ⟨f0, ov⟩]
        · rw [if_neg f0, cif_f (fun v => f0 v.1)]
      · rw [n7, cH.2.2.1]
        by_cases f0 : f = 0
        · rw [if_pos f0, cif_t ⟨f0, ov⟩]
        · rw [if_neg f0, cif_f (fun v => f0 v.1)]
    unfold pj_Re_openLine_71
    rw [a5, a6, a7]
    by_cases y1 : 6 < pi h 279 13 + (if l = 9 then 1 else 0)
    · rw [if_pos y1]; exact over (Or.inl y1)
    · rw [if_neg y1]
      by_cases y2 : 12 < pi h 279 14 + (if l = 14 then 1 else 0)
      · rw [if_pos y2]; exact over (Or.inr (Or.inl y2))
      · rw [if_neg y2]
        by_cases y3 : pi h 279 15 + (if 16 ≤ l then 1 else 0) ≤ 30
        · rw [if_pos y3]
          have no : ¬ ovr h l := fun v => by rcases v with v | v | v <;> omega
          exact ⟨H, rfl, a1, a2, a3, cH, a4 8 (by omega) (by omega) (by omega), a5, a6, a7, by rw [cif_f (fun v => no v.2)]; exact eF, by rw [cif_f (fun v => no v.2)]; exact eQ⟩
        · rw [if_neg y3]; exact over (Or.inr (Or.inr (by omega)))
  unfold pf_Re_openLine
  rw [if_neg (by omega)]
  by_cases q1 : l = 9
  · rw [if_pos (by omega), wr_eq (by omega) (by omega)]
    exact behind _ (fr_wI fr_refl rfl) rfl rfl (fun j a _ _ => pi_wIi a) (by rw [pi_wIs, if_pos q1]) (by rw [pi_wIi (by decide), if_neg (by omega)]; omega) (by rw [pi_wIi (by decide), if_neg (by omega)]; omega)
  · rw [if_neg (by omega)]
    by_cases q2 : l = 14
    · rw [if_pos (by omega), wr_eq (by omega) (by omega)]
      exact behind _ (fr_wI fr_refl rfl) rfl rfl (fun j _ a _ => pi_wIi a) (by rw [pi_wIi (by decide), if_neg q1]; omega) (by rw [pi_wIs, if_pos q2]) (by rw [pi_wIi (by decide), if_neg (by omega)]; omega)
    · rw [if_neg (by omega)]
      by_cases q3 : l < 16
      · rw [if_pos (by omega)]
        exact behind h fr_refl rfl rfl (fun _ _ _ _ => rfl) (by rw [if_neg q1]; omega) (by rw [if_neg q2]; omega) (by rw [if_neg (by omega)]; omega)
      · rw [if_neg (by omega), wr_eq (by omega) (by omega)]
        exact behind _ (fr_wI fr_refl rfl) rfl rfl (fun j _ _ a => pi_wIi a) (by rw [pi_wIi (by decide), if_neg q1]; omega) (by rw [pi_wIi (by decide), if_neg q2]; omega) (by rw [pi_wIs, if_pos (by omega)])
/-- the state behind a line's word -/
noncomputable def opT (B : Nat → Int) (n s : Nat) (f q : Int) (ov : Prop) : Nat × Nat × Int × Int := (0, nx B n s, cif (f = 0 ∧ ov) 3 f, cif (f = 0 ∧ ov) (s : Int) q)
/-- the end of a line -/
theorem c_lineEnd {l : Nat} {h4 : pH} {T : Nat × Nat × Int × Int} {r : Int} (cs : CSx h4 B n T) (w : T.1 = 0 ∧ r = 1 ∨ T.1 = 1 ∧ r = 0) (tl : T.1 = 0 → kd B n T.2.1 = 4 → T.2.2.1 = 0 → ∃ h5, pf_Re_tellLine l h4 = some h5 ∧ TF h4 h5) : ∃ r' h', (if r = 0 then some (0, h4) else (if pi h4 279 9 = 4 then (if pi h4 279 3 = 0 then (pf_Re_tellLine l h4).bind fun v6 => pj_Re_readLine_59 v6 else pj_Re_readLine_59 h4) else (pf_Re_refuse h4).bind fun v7 => ia_gd (pz1 v7.1) (some (v7.1, v7.2)))) = some (r', h') ∧ KP h4 h' ∧ CSx h' B n (estp B n T) ∧ (((estp B n T).1 = 1 ∧ r' = 0) ∨ ((estp B n T).1 = 0 ∧ r' = 1 ∧ T.1 = 0 ∧ kd B n T.2.1 = 4 ∧ (T.2.2.1 = 0 → ∃ h5, pf_Re_tellLine l h4 = some h5 ∧ CA h5 h'))) := by
  obtain ⟨tw, ts, tf, tq⟩ := T
  rcases w with ⟨w1, w2⟩ | ⟨w1, w2⟩
  · have w1 : tw = 0 := w1
    subst w1
    rw [w2, if_neg (by decide)]
    rcases cs with ⟨_, c2, c3, c4⟩ | ⟨c1, _⟩
    · have c2 : CTx h4 B n ts := c2
      have c3 : pi h4 279 3 = tf := c3
      have c4 : pi h4 279 4 = tq := c4
      rw [c2.2.2.2.2.1]
      unfold estp
      rw [cif_t rfl]
      by_cases k : kd B n ts = 4
      · rw [if_pos k, cif_t k, c3]
        unfold pj_Re_readLine_59
        by_cases f0 : tf = 0
        · obtain ⟨h5, t1, t2⟩ := tl rfl k f0
          obtain ⟨h', a1, a2, a3⟩ := c_go (CT_TF c2 t2)
          rw [if_pos f0, t1, bsm, a1, bsm]
          refine ⟨1, h', rfl, KP_trans (TF_KP t2) (CA_KP a2), Or.inl ⟨rfl, a3, ?_, ?_⟩, Or.inr ⟨rfl, rfl, rfl, k, fun _ => ⟨h5, rfl, a2⟩⟩⟩
          · show pi h' 279 3 = tf
            rw [a2.2.1 3 (by omega), fr_i t2 (by omega), c3]
          · show pi h' 279 4 = tq
            rw [a2.2.1 4 (by omega), fr_i t2 (by omega), c4]
        · obtain ⟨h', a1, a2, a3⟩ := c_go c2
          rw [if_neg f0, a1, bsm]
          refine ⟨1, h', rfl, CA_KP a2, Or.inl ⟨rfl, a3, ?_, ?_⟩, Or.inr ⟨rfl, rfl, rfl, k, fun v => absurd v f0⟩⟩
          · show pi h' 279 3 = tf
            rw [a2.2.1 3 (by omega), c3]
          · show pi h' 279 4 = tq
            rw [a2.2.1 4 (by omega), c4]
      · obtain ⟨h', a1, a2, a3⟩ := c_refuse c2
        rw [if_neg k, a1, bsm, cif_f k]
        exact ⟨0, h', rfl, a2, a3, Or.inl ⟨rfl, rfl⟩⟩
    · have c1 : (0 : Nat) = 1 := c1
      omega
  · have w1 : tw = 1 := w1
    rw [w2, if_pos rfl]
    unfold estp
    rw [cif_f (by show ¬ tw = 0; omega)]
    exact ⟨0, h4, rfl, KP_refl, cs, Or.inl ⟨w1, rfl⟩⟩
/-- a line, but those of frost, shore and bar -/
theorem c_readLine {l sr a2 : Nat} (o : OC h) (ht : sr < 3) (e8 : pi h 279 8 = sr) (c : CTx h B n s) (ef : pi h 279 3 = f) (eq : pi h 279 4 = q) (b13 : 0 ≤ pi h 279 13 ∧ pi h 279 13 ≤ 1000) (b14 : 0 ≤ pi h 279 14 ∧ pi h 279 14 ≤ 1000) (b15 : 0 ≤ pi h 279 15 ∧ pi h 279 15 ≤ 1000) (k1 : kd B n s = 1) (wl_ : wdl B n s = l) (lo : loS sr ≤ l) (hi : l < hiS sr) (l6 : l ≠ 6) (l8 : l ≠ 8) (l15 : l ≠ 15) (en : ∀ g, pf_Re_numbersOf l g = some a2) (ls : ∀ i, i < sl_n a2 → psc a2 i ≠ 102) (l4 : sl_n a2 ≤ 4)
    (tl : ∀ h4, F2 (nXs B n sr (psc a2) (nx B n s) h (sl_n a2)) h4 → pi h4 279 8 = sr → (∀ j, j < sl_n a2 → kd B n (skp B n (nx B n s) j) = 2 ∧ ¬ bdL (psc a2 j) (vl B n (skp B n (nx B n s) j)) (vl B n (skp B n (nx B n s) (j - 1))) j) → f = 0 → ¬ ovr h l → ∃ h5, pf_Re_tellLine l h4 = some h5 ∧ TF h4 h5) : ∃ r h', pf_Re_readLine h = some (r, h') ∧ fr (fun b => 279 ≤ b ∧ b ≤ 302) h h' ∧ pi h' 279 8 = sr ∧ pr h' 279 = pr h 279 ∧ pi h' 279 13 = pi h 279 13 + (if l = 9 then 1 else 0) ∧ pi h' 279 14 = pi h 279 14 + (if l = 14 then 1 else 0) ∧ pi h' 279 15 = pi h 279 15 + (if 16 ≤ l then 1 else 0) ∧ CSx h' B n (estp B n (nTs B n (psc a2) (opT B n s f q (ovr h l)) (sl_n a2))) ∧ (((estp B n (nTs B n (psc a2) (opT B n s f q (ovr h l)) (sl_n a2))).1 = 1 ∧ r = 0) ∨ ((estp B n (nTs B n (psc a2) (opT B n s f q (ovr h l)) (sl_n a2))).1 = 0 ∧ r = 1 ∧ kd B n (skp B n (nx B n s) (sl_n a2)) = 4 ∧ ((estp B n (nTs B n (psc a2) (opT B n s f q (ovr h l)) (sl_n a2))).2.2.1 = 0 → f = 0 ∧ ¬ ovr h l ∧ (∀ j, j < sl_n a2 → kd B n (skp B n (nx B n s) j) = 2 ∧ ¬ bdL (psc a2 j) (vl B n (skp B n (nx B n s) j)) (vl B n (skp B n (nx B n s) (j - 1))) j) ∧ ∃ h4 h5, F2 (nXs B n sr (psc a2) (nx B n s) h (sl_n a2)) h4 ∧ pi h4 279 8 = sr ∧ pf_Re_tellLine l h4 = some h5 ∧ F2 h5 h'))) := by
  obtain ⟨h1, o1, o2, o3, o4, o5, o6, o7, o8, o9, o10, o11⟩ := c_open l6 c ef eq b13 b14 b15
  obtain ⟨h2, a1, a2', a3⟩ := c_go o5
  unfold pf_Re_readLine
  rw [c_line o c ht e8, bsm, if_pos (show kd B n s = 1 ∧ loS sr ≤ wdl B n s ∧ wdl B n s < hiS sr from ⟨k1, by omega, by omega⟩), wl_, if_neg (by omega), o1, bsm, a1, bsm]
  have f12 : F2 h h2 := fr_trans o2 a2'.1
  obtain ⟨h4, p1, p2, p3⟩ := c_nums (h := h2) (x1 := (l : Int)) (a2 := a2) (sr := sr) (s := nx B n s) (f := cif (f = 0 ∧ ovr h l) 3 f) (q := cif (f = 0 ∧ ovr h l) (s : Int) q) (K0 := fun h => some (0, h)) (K1 := fun a2 h => (pf_Re_hasMore l h).bind fun v4 => (if v4 = 0 then (some (1, h)) else (pl_Re_readNumbers_46 l (fun h => some (0, h)) (fun h => some (1, h)) fu_ a2 1 h))) (by omega) (by omega) (by omega) ls l4 (by rw [a2'.2.1 8 (by omega), o6]; exact e8) a3 (by rw [a2'.2.1 3 (by omega)]; exact o10) (by rw [a2'.2.1 4 (by omega)]; exact o11)
  have eT : nTs B n (psc a2) (0, nx B n s, cif (f = 0 ∧ ovr h l) 3 f, cif (f = 0 ∧ ovr h l) (s : Int) q) (sl_n a2) = nTs B n (psc a2) (opT B n s f q (ovr h l)) (sl_n a2) := rfl
  rw [eT] at p2 p3
  have hm : ∀ g, pf_Re_hasMore l g = some 0 := fun g => by
    unfold pf_Re_hasMore
    rw [if_neg (by omega), if_neg (by omega), if_neg (by omega)]
  have rn : ∃ r, pf_Re_readNumbers l h2 = some (r, h4) ∧ ((nTs B n (psc a2) (opT B n s f q (ovr h l)) (sl_n a2)).1 = 0 ∧ r = 1 ∨ (nTs B n (psc a2) (opT B n s f q (ovr h l)) (sl_n a2)).1 = 1 ∧ r = 0) := by
    unfold pf_Re_readNumbers
    rw [en, bsm]
    rcases p3 with ⟨z1, z2⟩ | ⟨z1, z2, _⟩
    · exact ⟨0, z2, Or.inr ⟨z1, rfl⟩⟩
    · refine ⟨1, ?_, Or.inl ⟨z1, rfl⟩⟩
      rw [z2, hm, bsm, if_pos rfl]
  obtain ⟨r, r1, r2⟩ := rn
  rw [r1, bsm]
  have all : (nTs B n (psc a2) (opT B n s f q (ovr h l)) (sl_n a2)).1 = 0 → (nTs B n (psc a2) (opT B n s f q (ovr h l)) (sl_n a2)).2.2.1 = 0 → (f = 0 ∧ ¬ ovr h l) ∧ (∀ j, j < sl_n a2 → kd B n (skp B n (nx B n s) j) = 2 ∧ ¬ bdL (psc a2 j) (vl B n (skp B n (nx B n s) j)) (vl B n (skp B n (nx B n s) (j - 1))) j) ∧ F2 (nXs B n sr (psc a2) (nx B n s) h (sl_n a2)) h4 := fun w0 f0 => by
    have nw := nTs_w w0
    have z : cif (f = 0 ∧ ovr h l) 3 f = 0 := nw.2.2.1 f0
    rcases p3 with ⟨z1, _⟩ | ⟨_, _, z3⟩
    · omega
    · refine ⟨?_, fun j hj => ⟨(nw.2.2.2 j hj).1, (nw.2.2.2 j hj).2 f0⟩, fr_trans (F2_nXs f12) (z3 f0).1⟩
      rcases Classical.em (f = 0 ∧ ovr h l) with u | u
      · rw [cif_t u] at z; omega
      · rw [cif_f u] at z
        exact ⟨z, fun v => u ⟨z, v⟩⟩
  have e8' : pi h4 279 8 = sr := by rw [p1.2.1 8 (by omega), a2'.2.1 8 (by omega), o6]; exact e8
  obtain ⟨r', h', q1, q2, q3, q4⟩ := c_lineEnd (l := l) (h4 := h4) (T := nTs B n (psc a2) (opT B n s f q (ovr h l)) (sl_n a2)) (r := r) p2 r2 (fun w0 k f0 => by
    obtain ⟨z1, z2, z3⟩ := all w0 f0
    exact tl h4 z3 e8' z2 z1.1 z1.2)
  refine ⟨r', h', q1, fr_trans (fr_mono f12 (fun b hb => by omega)) (fr_trans p1.1 q2.1), by rw [q2.2.1 8 (by omega)]; exact e8', by rw [q2.2.2, p1.2.2, a2'.2.2.2, o4], by rw [q2.2.1 13 (by omega), p1.2.1 13 (by omega), a2'.2.1 13 (by omega)]; exact o7, by rw [q2.2.1 14 (by omega), p1.2.1 14 (by omega), a2'.2.1 14 (by omega)]; exact o8, by rw [q2.2.1 15 (by omega), p1.2.1 15 (by omega), a2'.2.1 15 (by omega)]; exact o9, q3, ?_⟩
  rcases q4 with q4 | ⟨s1, s2, s3, s4, s5⟩
  · exact Or.inl q4
  · have nw := nTs_w s3
    refine Or.inr ⟨s1, s2, ?_, fun f0 => ?_⟩
    · have e := nw.2.1
      rw [e] at s4
      exact s4
    · have fT : (nTs B n (psc a2) (opT B n s f q (ovr h l)) (sl_n a2)).2.2.1 = 0 := by
        unfold estp at f0
        rw [cif_t s3, cif_t s4] at f0
        exact f0
      obtain ⟨z1, z2, z3⟩ := all s3 fT
      obtain ⟨h5, t1, t2⟩ := s5 fT
      exact ⟨z1.1, z1.2, z2, h4, h5, z3, e8', t1, t2.1⟩
end Tj
