/-! rows of cells: a line of both -/
section Tr
variable {h g : pH} {B : Nat → Int} {n s : Nat} {f q : Int}
theorem c_list0 {l sr : Nat} (hl : (l = 8 ∧ sr = 0) ∨ (l = 15 ∧ sr = 1)) (c : CTx h B n s) (ef : pi h 279 3 = f) (eq : pi h 279 4 = q) (k : kd B n s ≠ 2) : ∃ h', pf_Re_readNumbers l h = some (0, h') ∧ KP h h' ∧ CSx h' B n (1, s, 1, (s : Int)) := by
  have sl : sl_n 42 = 1 := by decide +kernel
  have p0 : psc 42 0 = 99 := by decide +kernel
  have nof : ∀ g, pf_Re_numbersOf l g = some 42 := by
    rcases hl with ⟨rfl, _⟩ | ⟨rfl, _⟩
    · exact nOf 8 (by decide)
    · exact nOf 15 (by decide)
  obtain ⟨r, h', r1, r2, r3, r4, _⟩ := c_rdn (x1 := (l : Int)) (x2 := 99) (i := 0) (H2 := h) (by omega) (by decide) c ef eq (by decide) (fun v => absurd v k)
  unfold pf_Re_readNumbers
  rw [nof, bsm, show fu_ = 1099511627775 + 1 from rfl, pl_Re_readNumbers_7, sl, if_neg (by decide), gib (by decide) (by decide), show Int.toNat 0 = 0 from rfl, p0]
  have r1' : pf_Re_readNumber l 99 0 h = some (r, h') := r1
  rw [r1', bsm]
  simp only []
  rw [if_pos (r4 k)]
  refine ⟨h', rfl, r2, ?_⟩
  unfold nstp at r3
  rw [cif_t rfl, cif_f k] at r3
  exact r3
theorem m_list0 {a0 : Nat} (c : MST g B n (0, s, f, q)) (k : kd B n s ≠ 2) : ∃ g', pf_M_cellsLine a0 g = some g' ∧ MST g' B n (1, s, 1, (s : Int)) ∧ MN g g' := by
  obtain ⟨t1, b1, b2, b3, b4⟩ := m_cellOf c
  have e : nstp B n (¬ (0 ≤ vl B n s ∧ vl B n s ≤ 35)) (0, s, f, q) = (1, s, 1, (s : Int)) := by
    unfold nstp
    rw [cif_t rfl, cif_f k]
  have b2 : MST t1 B n (nstp B n (¬ (0 ≤ vl B n s ∧ vl B n s ≤ 35)) (0, s, f, q)) := b2
  rw [e] at b2
  have nv : nvl B n 0 35 (0, s, f, q) = -1 := cif_f (fun v => k v.2.1)
  rw [nv] at b1
  have w1 : pi t1 417 8 = 1 := by
    rcases b2 with ⟨d1, _⟩ | ⟨_, _, d3, _⟩
    · have d1 : (1 : Nat) = 0 := d1
      omega
    · exact d3
  have w0 : pi g 417 8 = 0 := by
    rcases c with ⟨_, _, d3, _⟩ | ⟨d1, _⟩
    · exact d3
    · have d1 : (0 : Nat) = 1 := d1
      omega
  unfold pf_M_cellsLine
  rw [show fu_ = 1099511627774 + 1 + 1 from rfl, pl_M_cellsLine_2, if_pos w0, if_neg (by decide)]
  unfold pj_M_cellsLine_21
  rw [b1, bsm]
  simp only []
  rw [if_pos (by decide), pl_M_cellsLine_2, if_neg (by omega)]
  exact ⟨t1, rfl, b2, b3⟩
theorem CN_same {sr s' : Nat} {h' g' : pH} (C : CN sr h g s) (le : s ≤ s') (e13 : pi h' 279 13 = pi h 279 13) (e14 : pi h' 279 14 = pi h 279 14) (e15 : pi h' 279 15 = pi h 279 15) (e4 : pi g' 420 4 = pi g 420 4) (e0 : pi g' 420 0 = pi g 420 0) (e11 : pi g' 417 11 = pi g 417 11) : CN sr h' g' s' := by
  obtain ⟨n1, n2, n3, n4, n5, n6, n7, n8, n9⟩ := C
  refine ⟨by rw [e13]; clear n4 n5 n6 n7 n8 n9; omega, by rw [e14]; clear n4 n5 n6 n7 n8 n9; omega, by rw [e15]; clear n4 n5 n6 n7 n8 n9; omega, fun v => ?_, fun v => by rw [e4, e14]; exact n5 v, fun v => by rw [e0, e15]; exact n6 v, fun v => by rw [e13]; exact n7 v, fun v => by rw [e14]; exact n8 v, fun v => by rw [e15]; exact n9 v⟩
  obtain ⟨u1, u2, u3⟩ := n4 v
  rw [e4, e13, e11]
  exact ⟨u1, u2, by clear n4 n5 n6 n7 n8 n9; omega⟩
theorem list_gen {sr l a0 : Nat} {DR : pH → pH → Prop} {y : Option pH} {lo hi : Int} (o : OC h) (I : LIs sr DR h g B n s f q) (hl : (l = 8 ∧ sr = 0 ∧ a0 = 116 ∧ lo = 1 ∧ hi = 10) ∨ (l = 15 ∧ sr = 1 ∧ a0 = 30 ∧ lo = 11 ∧ hi = 16)) (no : ¬ (f = 0 ∧ ovr h l)) (k1 : kd B n s = 1) (wl_ : wdl B n s = l)
    (mod : ∀ g1 g2, pf_M_takes lo hi g = some (((l : Nat) : Int) + 1, g1) → pf_M_cellsLine a0 g1 = some g2 → y = (pf_M_endsLine g2).bind fun v => some v)
    (dr : f = 0 → ∀ m h' g', (∀ j, j < m → 0 ≤ vl B n (skp B n (nx B n s) j) ∧ vl B n (skp B n (nx B n s) j) ≤ 35) → F2 (lXs B n l (nx B n s) h m) h' → FMT g g' → pi g' 417 11 = pi g 417 11 → pi g' 421 = pi g 421 → (∀ j, pi g' 420 j = cif (∃ i, i < m ∧ j = a0 + (vl B n (skp B n (nx B n s) i)).toNat) 1 (pi g 420 j)) → pi g 417 9 ≤ pi g' 417 9 → (∀ i, i < m → vl B n (skp B n (nx B n s) i) ≤ pi g' 417 9) → (pi g' 417 9 = pi g 417 9 ∨ lmx B n (nx B n s) m (pi g' 417 9)) → DR h' g') : LNs sr DR B n h g s (pf_Re_readLine h) y := by
  obtain ⟨c, ef, eq, e8, ms, CNN, drr⟩ := I
  have n1 := CNN.1
  have n2 := CNN.2.1
  have n3 := CNN.2.2.1
  have n600 := c.1.2.2.1
  have sn := c.2.1
  have hl2 : (l = 8 ∧ sr = 0) ∨ (l = 15 ∧ sr = 1) := by
    rcases hl with ⟨a, b, _⟩ | ⟨a, b, _⟩
    · exact Or.inl ⟨a, b⟩
    · exact Or.inr ⟨a, b⟩
  have ha : a0 = 116 ∨ a0 = 30 := by
    rcases hl with ⟨_, _, a, _⟩ | ⟨_, _, a, _⟩
    · exact Or.inl a
    · exact Or.inr a
  have hw : (1 ≤ lo ∧ lo ≤ (l : Int) + 1) ∧ (l : Int) + 1 ≤ hi := by
    rcases hl with ⟨rfl, _, _, rfl, rfl⟩ | ⟨rfl, _, _, rfl, rfl⟩ <;> decide
  have ln : l ≠ 6 ∧ l ≠ 9 ∧ l ≠ 14 ∧ l < 16 := by
    rcases hl2 with ⟨a, _⟩ | ⟨a, _⟩ <;> rw [a] <;> decide
  have ht : sr < 3 := by
    rcases hl2 with ⟨_, a⟩ | ⟨_, a⟩ <;> rw [a] <;> decide
  have a5 : 30 ≤ a0 := by
    rcases ha with a | a <;> rw [a] <;> decide
  clear hl
  have los : loS sr ≤ l ∧ l < hiS sr := by
    rcases hl2 with ⟨rfl, rfl⟩ | ⟨rfl, rfl⟩ <;> decide
  have nxs := nx_ok (B := B) sn
  have s1 := nxs.2.2.1 (by rw [k1]; decide)
  -- the reference
  rcases ms with ⟨_, m2, m3, m4, m5, m6⟩ | ⟨m1, _⟩
  · have m2 : MT g B n s := m2
    have m4 : pi g 418 4 = f := m4
    have m5 : pi g 418 5 = q := m5
    have m6 : FOK s f q := m6
    obtain ⟨g1, t1, t2, t3⟩ := (m_takes (lo := lo) (hi := hi) m2 m3 m4 m5 (by unfold FOK at m6; omega) hw.1.1).1 ⟨k1, by rw [wl_]; exact hw.1.2, by rw [wl_]; exact hw.2⟩
    rw [wl_] at t1
    have mod := mod g1
    -- the class, up to its numbers
    obtain ⟨h1, o1, o2, o3, o4, o5, o6, o7, o8, o9, o10, o11⟩ := c_open (l := l) ln.1 c ef eq (by omega) (by omega) (by omega)
    rw [cif_f no] at o10 o11
    obtain ⟨h2, a1, a2', a3⟩ := c_go o5
    have f12 : F2 h h2 := fr_trans o2 a2'.1
    have e82 : pi h2 279 8 = sr := by rw [a2'.2.1 8 (by decide), o6]; exact e8
    have ef2 : pi h2 279 3 = f := by rw [a2'.2.1 3 (by decide)]; exact o10
    have eq2 : pi h2 279 4 = q := by rw [a2'.2.1 4 (by decide)]; exact o11
    have hd : pf_Re_readLine h = (pf_Re_readNumbers l h2).bind fun v4 => (if v4.1 = 0 then (some (0, v4.2)) else (if (pi v4.2 279 9) = 4 then (if (pi v4.2 279 3) = 0 then ((pf_Re_tellLine l v4.2).bind fun v6 => (pj_Re_readLine_59 v6)) else (pj_Re_readLine_59 v4.2)) else ((pf_Re_refuse v4.2).bind fun v7 => (ia_gd (pz1 v7.1) (some (v7.1, v7.2)))))) := by
      unfold pf_Re_readLine
      rw [c_line o c ht e8, bsm, if_pos (show kd B n s = 1 ∧ loS sr ≤ wdl B n s ∧ wdl B n s < hiS sr from ⟨k1, by omega, by omega⟩), wl_, if_neg (by omega), o1, bsm, a1, bsm]
    have kp2 : fr (fun b => 279 ≤ b ∧ b ≤ 302) h h2 := fr_mono f12 (fun b hb => by omega)
    have c13 : pi h2 279 13 = pi h 279 13 := by rw [a2'.2.1 13 (by decide), o7, if_neg ln.2.1, Int.add_zero]
    have c14 : pi h2 279 14 = pi h 279 14 := by rw [a2'.2.1 14 (by decide), o8, if_neg ln.2.2.1, Int.add_zero]
    have c15 : pi h2 279 15 = pi h 279 15 := by rw [a2'.2.1 15 (by decide), o9, if_neg (by have := ln.2.2.2; omega), Int.add_zero]
    by_cases k0 : kd B n (nx B n s) = 2
    · obtain ⟨m, mm1, all, nn⟩ := list_m (B := B) nxs.1 k0
      obtain ⟨h4, p1, p2, p3, p4⟩ := c_list (l := l) (sr := sr) (m := m) hl2 e82 a3 ef2 eq2 mm1 all nn
      obtain ⟨g2, q1, q2, q3, q4, q5, q6, q7⟩ := m_list (a0 := a0) (m := m) ha t3 nxs.1 n600 mm1 all nn
      obtain ⟨g', d1, d2, d3, d4⟩ := m_endsLine q2
      have ey : y = some g' := by rw [mod g2 t1 q1, d1, bsm]
      have fm : FMT g g' := FMT_trans (MN_FMT (MA_MN t2)) (FMT_trans q3 (MN_FMT d3))
      obtain ⟨w0, esk⟩ := nT_go (f := f) (q := q) all (j := m) (Nat.le_refl _)
      have tl : ∀ h4, pi h4 279 8 = sr → pf_Re_tellLine l h4 = some h4 := fun h4 e => by
        unfold pf_Re_tellLine pf_Re_tellLake pf_Re_tellLaw
        rw [e]
        rcases hl2 with ⟨rfl, rfl⟩ | ⟨rfl, rfl⟩
        · rfl
        · rfl
      have e84 : pi h4 279 8 = sr := by rw [p2.2.1 8 (by decide)]; exact e82
      obtain ⟨r', h', x1, x2, x3, x4⟩ := c_lineEnd (l := l) (h4 := h4) (T := nTs B n l99 (0, nx B n s, f, q) m) (r := 1) p3 (Or.inl ⟨w0, rfl⟩) (fun _ _ _ => ⟨h4, tl h4 e84, fr_refl⟩)
      have er : pf_Re_readLine h = some (r', h') := by rw [hd, p1, bsm]; exact x1
      have frh : fr (fun b => 279 ≤ b ∧ b ≤ 302) h h' := fr_trans kp2 (fr_trans p2.1 x2.1)
      rcases x4 with ⟨w1, r0⟩ | ⟨w00, r1, _, k4, okk⟩
      · rw [r0] at er
        exact ln_wrong er ey frh fm x3 d2 w1
      · have e01 := (estp_1 (B := B) (n := n) (Or.inl w0)).2 w00
        obtain ⟨y1, y2, y3⟩ := e01
        have bk := bnd_skp (B := B) (n := n) (s := nx B n s) (k := m) nxs.1
        generalize hT : nTs B n l99 (0, nx B n s, f, q) m = TT at *
        obtain ⟨tw, ts, tf, tq⟩ := TT
        have esk : ts = skp B n (nx B n s) m := esk
        have nxt := nx_ok (B := B) (n := n) (s := ts) (by rw [esk]; exact bk.1)
        have y2 : kd B n ts = 4 := y2
        have y3 : estp B n (tw, ts, tf, tq) = (0, nx B n ts, tf, tq) := y3
        have s2 := nxt.2.2.1 (by rw [y2]; decide)
        rw [y3] at x3 d2
        rcases x3 with ⟨_, z2, z3, z4⟩ | ⟨z1, _⟩
        · have z2 : CTx h' B n (nx B n ts) := z2
          have z3 : pi h' 279 3 = tf := z3
          have z4 : pi h' 279 4 = tq := z4
          have e13 : pi h' 279 13 = pi h 279 13 := by rw [x2.2.1 13 (by decide), p2.2.1 13 (by decide), c13]
          have e14 : pi h' 279 14 = pi h 279 14 := by rw [x2.2.1 14 (by decide), p2.2.1 14 (by decide), c14]
          have e15 : pi h' 279 15 = pi h 279 15 := by rw [x2.2.1 15 (by decide), p2.2.1 15 (by decide), c15]
          have e420 : pi g' 420 = pi g2 420 := MN_i d3 (by decide)
          have g1420 : pi g1 420 = pi g 420 := fr_fi t2.1 (by decide)
          have lw : ∀ j, j < 5 → pi g' 420 j = pi g 420 j := fun j hj => by rw [e420, q6 j (Nat.lt_of_lt_of_le hj (Nat.le_trans (by decide) a5)), g1420]
          have e11 : pi g' 417 11 = pi g 417 11 := by rw [d3.2.1 11 (by decide), q4, t2.2 11 (by decide)]
          refine ⟨r', h', g', er, ey, frh, fm, Or.inr ⟨r1, nx B n ts, tf, tq, Nat.lt_of_lt_of_le s1 (Nat.le_trans (by rw [esk]; exact bk.2) (Nat.le_of_lt s2)), z2, z3, z4, by rw [x2.2.1 8 (by decide)]; exact e84, d2, CN_same CNN (Nat.le_of_lt (Nat.lt_of_lt_of_le s1 (Nat.le_trans (by rw [esk]; exact bk.2) (Nat.le_of_lt s2)))) e13 e14 e15 (lw 4 (by decide)) (lw 0 (by decide)) e11, fun f0 => ?_⟩⟩
          · clear hl2 ha
            have f0 : tf = 0 := f0
            have ff := p4 f0
            obtain ⟨u1, u2, u3, u4⟩ := q7 f0
            have nw := nTs_w (B := B) (n := n) (ls := l99) (t := (0, nx B n s, f, q)) (k := m) (by rw [hT]; exact w0)
            rw [hT] at nw
            have f00 : f = 0 := nw.2.2.1 f0
            have rng : ∀ j, j < m → 0 ≤ vl B n (skp B n (nx B n s) j) ∧ vl B n (skp B n (nx B n s) j) ≤ 35 := fun j hj => by
              have := (nw.2.2.2 j hj).2 f0
              rcases Classical.em (0 ≤ vl B n (skp B n (nx B n s) j) ∧ vl B n (skp B n (nx B n s) j) ≤ 35) with w | w
              · exact w
              · exact absurd (Or.inl w) this
            obtain ⟨h5, tz1, tz2⟩ := okk f0
            rw [tl h4 e84] at tz1
            have : h5 = h4 := by cases tz1; rfl
            subst this
            have f2x : ∀ {k : Nat}, F2 (lXs B n l (nx B n s) h k) (lXs B n l (nx B n s) h2 k) := fun {k} => by
              induction k with
              | zero => exact f12
              | succ k ih => exact F2_ltl (F2_NHp ih)
            refine dr f00 m h' g' rng (fr_trans f2x (fr_trans ff tz2.1)) fm e11 ?_ (fun j => ?_) ?_ (fun i hi => ?_) ?_
            · rw [MN_i d3 (by decide), q5, fr_fi t2.1 (by decide)]
            · rw [e420, u1 j, g1420]
            · rw [d4, ← t2.2 9 (by decide)]; exact u2
            · rw [d4]; exact u3 i hi
            · rw [d4]
              rcases u4 with u4 | u4
              · left; rw [u4, t2.2 9 (by decide)]
              · exact Or.inr u4
        · have z1 : (0 : Nat) = 1 := z1
          omega
    · obtain ⟨h4, p1, p2, p3⟩ := c_list0 (l := l) (sr := sr) hl2 a3 ef2 eq2 k0
      obtain ⟨g2, q1, q2, q3⟩ := m_list0 (a0 := a0) t3 k0
      obtain ⟨g', d1, d2, d3, d4⟩ := m_endsLine q2
      have ey : y = some g' := by rw [mod g2 t1 q1, d1, bsm]
      have es : estp B n (1, nx B n s, 1, ((nx B n s : Nat) : Int)) = (1, nx B n s, 1, ((nx B n s : Nat) : Int)) := by unfold estp; rw [cif_f (by show ¬ (1 : Nat) = 0; decide)]
      rw [es] at d2
      have er : pf_Re_readLine h = some (0, h4) := by
        rw [hd, p1, bsm]
        simp only []
        rw [if_pos trivial]
      exact ln_wrong er ey (fr_trans kp2 p2.1) (FMT_trans (MN_FMT (MA_MN t2)) (FMT_trans (MN_FMT q3) (MN_FMT d3))) p3 d2 rfl
  · have m1 : (0 : Nat) = 1 := m1
    omega
/-- what a row of cells leaves -/
theorem lXs_15 {k : Nat} : fr (fun b => b = 292 ∨ b = 301) h (lXs B n 15 s h k) ∧ pi (lXs B n 15 s h k) 292 = pi h 292 ∧ ((∀ j, j < k → 0 ≤ vl B n (skp B n s j) ∧ vl B n (skp B n s j) ≤ 35) → ∀ c, c < 64 → (tb (pl (lXs B n 15 s h k) 292 7) c = true ↔ tb (pl h 292 7) c = true ∨ ∃ j, j < k ∧ vl B n (skp B n s j) = c)) := by
  induction k with
  | zero => exact ⟨fr_refl, rfl, fun _ c _ => ⟨Or.inl, fun u => by rcases u with u | ⟨j, a, _⟩; exact u; omega⟩⟩
  | succ k ih =>
    obtain ⟨i1, i2, i3⟩ := ih
    have a1 : fr (fun b => b = 301) (lXs B n 15 s h k) (NHp (lXs B n 15 s h k) k (vl B n (skp B n s k))) := by
      unfold NHp
      split
      · exact fr_wI fr_refl rfl
      · exact fr_refl
    have e : lXs B n 15 s h (k + 1) = pwL (NHp (lXs B n 15 s h k) k (vl B n (skp B n s k))) 292 7 (pl (NHp (lXs B n 15 s h k) k (vl B n (skp B n s k))) 292 7 ||| plshl 1 (vl B n (skp B n s k))) := by
      show ltl 15 _ _ = _
      unfold ltl
      rw [if_neg (by decide)]
    rw [e]
    refine ⟨fr_wL (fr_trans i1 (fr_mono a1 (fun b hb => Or.inr hb))) (Or.inl rfl), by rw [pi_wLf, fr_fi a1 (by decide)]; exact i2, fun rng c hc => ?_⟩
    have r := rng k (by omega)
    obtain ⟨v, ev⟩ : ∃ v : Nat, vl B n (skp B n s k) = v := ⟨(vl B n (skp B n s k)).toNat, by omega⟩
    rw [pl_wLs, fr_l a1 (by decide), tb_or, ev, tb_bit (by omega) hc, Bool.or_eq_true, i3 (fun j hj => rng j (by omega)) c hc, decide_eq_true_eq]
    constructor
    · intro u
      rcases u with (u | ⟨j, a, b⟩) | u
      · exact Or.inl u
      · exact Or.inr ⟨j, by omega, b⟩
      · exact Or.inr ⟨k, by omega, by rw [ev, u]⟩
    · intro u
      rcases u with u | ⟨j, a, b⟩
      · exact Or.inl (Or.inl u)
      · by_cases y : j = k
        · rw [y, ev] at b; exact Or.inr (by omega)
        · exact Or.inl (Or.inr ⟨j, by omega, b⟩)
theorem law_bar (o : OC h) (I : LIs 1 DR1 h g B n s f q) (k1 : kd B n s = 1) (wl_ : wdl B n s = 15) : LNs 1 DR1 B n h g s (pf_Re_readLine h) (pf_M_lawLine g) := by
  have no := law_ov (l := 15) I (by decide) (by decide) (by decide)
  have drr := I.2.2.2.2.2.2
  refine list_gen (l := 15) (a0 := 30) (lo := 11) (hi := 16) o I (Or.inr ⟨rfl, rfl, rfl, rfl, rfl⟩) no k1 wl_ (fun g1 g2 t1 q1 => ?_) (fun f0 m h' g' rng fh fm e11 e21 e420 u2 u3 u4 => ?_)
  · unfold pf_M_lawLine
    have t1 : pf_M_takes 11 16 g = some (16, g1) := t1
    have q1 : pf_M_cellsLine 30 g1 = some g2 := q1
    rw [t1, bsm]
    simp only []
    rw [if_neg (by decide), if_pos (by decide)]
    unfold pj_M_lawLine_64 pj_M_lawLine_157 pj_M_lawLine_169
    rw [if_neg (by decide), if_pos (by decide), q1, bsm]
  · obtain ⟨R, kW⟩ := drr f0
    obtain ⟨i1, i2, i3⟩ := lXs_15 (B := B) (n := n) (s := nx B n s) (h := h) (k := m)
    have i3 := i3 rng
    obtain ⟨⟨r0, r1, r2, r3, r4⟩, r5, r6, r7⟩ := R
    have nlow : ∀ j, j < 30 → pi g' 420 j = pi g 420 j := fun j hj => by rw [e420, cif_f (fun ⟨i, a, b⟩ => by omega)]
    have p292 : pi h' 292 = pi h 292 := by rw [fr_fi fh (by decide)]; exact i2
    have p3 : ∀ b, 293 ≤ b → b ≤ 295 → pi h' b = pi h b ∧ pl h' b = pl h b := fun b u v => ⟨by rw [fr_fi fh (by omega), fr_fi i1 (by omega)], by rw [fr_fl fh (by omega), fr_fl i1 (by omega)]⟩
    have bar : ∀ c : Nat, c < 36 → (pi g' 420 (30 + c) = 1 ↔ pi g 420 (30 + c) = 1 ∨ ∃ i, i < m ∧ vl B n (skp B n (nx B n s) i) = c) := fun c hc => by
      rw [e420]
      rcases Classical.em (∃ i, i < m ∧ 30 + c = 30 + (vl B n (skp B n (nx B n s) i)).toNat) with u | u
      · rw [cif_t u]
        obtain ⟨i, a, b⟩ := u
        exact ⟨fun _ => Or.inr ⟨i, a, by have := rng i a; omega⟩, fun _ => rfl⟩
      · rw [cif_f u]
        exact ⟨Or.inl, fun v => by rcases v with v | ⟨i, a, b⟩; exact v; exact absurd ⟨i, a, by omega⟩ u⟩
    refine ⟨⟨⟨by rw [p292, nlow 0 (by decide)]; exact r0, by rw [p292, nlow 1 (by decide)]; exact r1, by rw [p292, nlow 2 (by decide)]; exact r2, by rw [p292, nlow 3 (by decide)]; exact r3, by rw [p292, nlow 4 (by decide)]; exact r4⟩, fun k hk => ?_, fun c hc => ?_, fun c d hc hd => ?_⟩, ?_⟩
    · rw [nlow 4 (by decide)] at hk
      have w4 := kW.2.2.2.2.1
      rw [(p3 293 (by decide) (by decide)).1, (p3 294 (by decide) (by decide)).1, nlow _ (by omega), nlow _ (by omega)]
      exact r5 k hk
    · rw [fr_fl fh (by decide), i3 c (by omega), r6 c hc, bar c hc]
    · rw [(p3 295 (by decide) (by decide)).2]
      have w4 := kW.2.2.2.2.1
      refine (r7 c d hc hd).trans ⟨fun ⟨k, a, b, e⟩ => ⟨k, by rw [nlow 4 (by decide)]; exact a, by rw [nlow _ (by omega)]; exact b, by rw [nlow _ (by omega)]; exact e⟩, fun ⟨k, a, b, e⟩ => ?_⟩
      rw [nlow 4 (by decide)] at a
      rw [nlow _ (by omega)] at b e
      exact ⟨k, a, b, e⟩
    · obtain ⟨k0, kk1, k2, k3, k4, k5, k6⟩ := kW
      refine ⟨by rw [nlow 0 (by decide)]; exact k0, by rw [nlow 1 (by decide)]; exact kk1, by rw [nlow 2 (by decide)]; exact k2, by rw [nlow 3 (by decide)]; exact k3, by rw [nlow 4 (by decide)]; exact k4, fun k hk => ?_, fun c hc => ?_⟩
      · rw [nlow 4 (by decide)] at hk
        rw [nlow _ (by omega), nlow _ (by omega)]
        exact k5 k hk
      · rw [e420]
        rcases Classical.em (∃ i, i < m ∧ 30 + c = 30 + (vl B n (skp B n (nx B n s) i)).toNat) with u | u
        · rw [cif_t u]; exact Or.inr rfl
        · rw [cif_f u]; exact k6 c hc
theorem law_line (o : OC h) (I : LIs 1 DR1 h g B n s f q) : LNs 1 DR1 B n h g s (pf_Re_readLine h) (pf_M_lawLine g) := by
  by_cases k : kd B n s = 1 ∧ loS 1 ≤ wdl B n s ∧ wdl B n s < hiS 1
  · obtain ⟨k1, k2, k3⟩ := k
    have k2 : (10 : Int) ≤ wdl B n s := k2
    have k3 : wdl B n s < 16 := k3
    have p43 : psc 43 0 = 116 := by decide +kernel
    have p37 : psc 37 0 = 110 := by decide +kernel
    have p38 : psc 38 0 = 104 := by decide +kernel
    rcases (show wdl B n s = 10 ∨ wdl B n s = 11 ∨ wdl B n s = 12 ∨ wdl B n s = 13 ∨ wdl B n s = 14 ∨ wdl B n s = 15 by omega) with w | w | w | w | w | w
    · exact law_simple (l := 10) (a2 := 43) (lo := 0) (hi := 99) o I k1 w (by decide) (by decide) (nOf 10 (by decide)) (by decide +kernel) (by rw [p43]; decide) (by rw [p43]; rfl) (by rw [p43]; rfl) ⟨rfl, rfl⟩
    · exact law_simple (l := 11) (a2 := 37) (lo := 0) (hi := 9) o I k1 w (by decide) (by decide) (nOf 11 (by decide)) (by decide +kernel) (by rw [p37]; decide) (by rw [p37]; rfl) (by rw [p37]; rfl) ⟨rfl, rfl⟩
    · exact law_simple (l := 12) (a2 := 38) (lo := 0) (hi := 10) o I k1 w (by decide) (by decide) (nOf 12 (by decide)) (by decide +kernel) (by rw [p38]; decide) (by rw [p38]; rfl) (by rw [p38]; rfl) ⟨rfl, rfl⟩
    · exact law_simple (l := 13) (a2 := 43) (lo := 0) (hi := 99) o I k1 w (by decide) (by decide) (nOf 13 (by decide)) (by decide +kernel) (by rw [p43]; decide) (by rw [p43]; rfl) (by rw [p43]; rfl) ⟨rfl, rfl⟩
    · exact law_lane o I k1 w
    · exact law_bar o I k1 w
  · have II := I
    obtain ⟨c, ef, eq, e8, ms, _, _⟩ := I
    rcases ms with ⟨_, m2, m3, m4, m5, m6⟩ | ⟨m1, _⟩
    · have m2 : MT g B n s := m2
      have m4 : pi g 418 4 = f := m4
      have m5 : pi g 418 5 = q := m5
      have m6 : FOK s f q := m6
      obtain ⟨g1, t1, t2, t3, t4⟩ := (m_takes (lo := 11) (hi := 16) m2 m3 m4 m5 (by unfold FOK at m6; omega) (by decide)).2 (fun v => k ⟨v.1, by show (10 : Int) ≤ _; omega, by show _ < (16 : Int); omega⟩)
      obtain ⟨g', d1, d2, d3, d4⟩ := m_endsLine t4
      have es : estp B n (1, s, 1, (s : Int)) = (1, s, 1, (s : Int)) := by unfold estp; rw [cif_f (by show ¬ (1 : Nat) = 0; decide)]
      rw [es] at d2
      refine noline_gen o II (by decide) k (g' := g') ?_ d2 (FMT_trans (MN_FMT t2) (MN_FMT d3))
      unfold pf_M_lawLine
      rw [t1, bsm]
      simp only []
      rw [if_pos (by decide)]
      unfold pj_M_lawLine_64 pj_M_lawLine_157 pj_M_lawLine_169
      rw [if_neg (by decide), if_neg (by decide), d1, bsm]
    · have m1 : (0 : Nat) = 1 := m1
      omega
end Tr
