/-! plans: a line of both -/
theorem c_addAct {h : pH} {a b c d : Int} {k : Nat} (e : pi h 296 0 = k) (k30 : k < 30) : ∃ H, pf_Pl_addAct 296 a b c d h = some H ∧ fr (fun x => 296 ≤ x ∧ x ≤ 300) h H ∧ pi H 296 0 = k + 1 ∧ ∀ j, pi H 297 j = (if j = k then a else pi h 297 j) ∧ pi H 298 j = (if j = k then b else pi h 298 j) ∧ pi H 299 j = (if j = k then c else pi h 299 j) ∧ pi H 300 j = (if j = k then d else pi h 300 j) := by
  unfold pf_Pl_addAct pj_Pl_addAct_39
  simp (disch := omega) only [pi_wIa, e, gib, Int.toNat_natCast, wr_eq]
  rw [if_neg (by omega)]
  refine ⟨_, rfl, fr_wI (fr_wI (fr_wI (fr_wI (fr_wI fr_refl (by omega)) (by omega)) (by omega)) (by omega)) (by omega), ?_, fun j => ⟨?_, ?_, ?_, ?_⟩⟩
  · simp (disch := omega) only [pi_wIa, pi_wIs, e]
  · simp (disch := omega) only [pi_wIa]
    rw [pi_wI]
    by_cases y : j = k
    · rw [if_pos ⟨rfl, y⟩, if_pos y]
    · rw [if_neg (fun u => y u.2), if_neg y]
  · simp (disch := omega) only [pi_wIa]
    rw [pi_wI]
    by_cases y : j = k
    · rw [if_pos ⟨rfl, y⟩, if_pos y]
    · rw [if_neg (fun u => y u.2), if_neg y]; simp (disch := omega) only [pi_wIa]
  · simp (disch := omega) only [pi_wIa]
    rw [pi_wI]
    by_cases y : j = k
    · rw [if_pos ⟨rfl, y⟩, if_pos y]
    · rw [if_neg (fun u => y u.2), if_neg y]; simp (disch := omega) only [pi_wIa]
  · simp (disch := omega) only [pi_wIa]
    rw [pi_wI]
    by_cases y : j = k
    · rw [if_pos ⟨rfl, y⟩, if_pos y]
    · rw [if_neg (fun u => y u.2), if_neg y]; simp (disch := omega) only [pi_wIa]
theorem nXs_fr {h : pH} {B : Nat → Int} {n sr s : Nat} {ls : Nat → Int} : ∀ {k : Nat}, fr (fun b => b = 301 ∨ b = 280) h (nXs B n sr ls s h k) ∧ pi (nXs B n sr ls s h k) 280 = pi h 280
  | 0 => ⟨fr_refl, rfl⟩
  | k + 1 => by
    obtain ⟨i1, i2⟩ := nXs_fr (k := k)
    rw [nXs]
    have a1 : fr (fun b => b = 301) (nXs B n sr ls s h k) (NHp (nXs B n sr ls s h k) k (vl B n (skp B n s k))) := by
      unfold NHp
      split
      · exact fr_wI fr_refl rfl
      · exact fr_refl
    unfold tel
    split
    · exact ⟨fr_wL (fr_trans i1 (fr_mono a1 (fun b hb => Or.inl hb))) (Or.inr rfl), by rw [pi_wLf, fr_fi a1 (by omega)]; exact i2⟩
    · exact ⟨fr_trans i1 (fr_mono a1 (fun b hb => Or.inl hb)), by rw [fr_fi a1 (by omega)]; exact i2⟩
theorem estp_1 {B : Nat → Int} {n : Nat} {T : Nat × Nat × Int × Int} (h : T.1 = 0 ∨ T.1 = 1) : ((estp B n T).1 = 1 ∨ (estp B n T).1 = 0) ∧ ((estp B n T).1 = 0 → T.1 = 0 ∧ kd B n T.2.1 = 4 ∧ estp B n T = (0, nx B n T.2.1, T.2.2.1, T.2.2.2)) := by
  unfold estp
  by_cases w : T.1 = 0
  · rw [cif_t w]
    by_cases k : kd B n T.2.1 = 4
    · rw [cif_t k]; exact ⟨Or.inr rfl, fun _ => ⟨w, k, rfl⟩⟩
    · rw [cif_f k]; exact ⟨Or.inl rfl, fun v => by have : (1 : Nat) = 0 := v; omega⟩
  · rw [cif_f w]; exact ⟨by omega, fun v => absurd v w⟩
section Tm
variable {h g : pH} {B : Nat → Int} {n s : Nat} {f q : Int}
theorem nTs_01 {ls : Nat → Int} {T : Nat × Nat × Int × Int} (h : T.1 = 0 ∨ T.1 = 1) : ∀ {k : Nat}, (nTs B n ls T k).1 = 0 ∨ (nTs B n ls T k).1 = 1
  | 0 => h
  | k + 1 => by
    have i := nTs_01 (ls := ls) (k := k) h
    show (nstp B n _ (nTs B n ls T k)).1 = 0 ∨ (nstp B n _ (nTs B n ls T k)).1 = 1
    unfold nstp
    rcases Classical.em ((nTs B n ls T k).1 = 0) with w | w
    · rw [cif_t w]
      rcases Classical.em (kd B n (nTs B n ls T k).2.1 = 2) with u | u
      · rw [cif_t u]
        rcases Classical.em ((nTs B n ls T k).2.2.1 = 0 ∧ bdL (ls k) (vl B n (skp B n T.2.1 k)) (vl B n (skp B n T.2.1 (k - 1))) k) with v | v
        · rw [cif_t v]; exact Or.inl rfl
        · rw [cif_f v]; exact Or.inl rfl
      · rw [cif_f u]; exact Or.inr rfl
    · rw [cif_f w]; exact i
/-- the two ends of a line that went wrong -/
theorem ln_wrong {sr : Nat} {DR : pH → pH → Prop} {h' g' : pH} {T : Nat × Nat × Int × Int} {x : Option (Int × pH)} {y : Option pH} (ex : x = some (0, h')) (ey : y = some g') (f1 : fr (fun b => 279 ≤ b ∧ b ≤ 302) h h') (f2 : FMT g g') (cs : CSx h' B n T) (ms : MST g' B n T) (w : T.1 = 1) : LNs sr DR B n h g s x y := by
  rcases cs with ⟨c1, _⟩ | ⟨c1, c2, c3, c4⟩
  · omega
  · rcases ms with ⟨m1, _⟩ | ⟨m1, m2, m3, m4, m5, m6⟩
    · omega
    · exact ⟨0, h', g', ex, ey, f1, f2, Or.inl ⟨rfl, c2, m3, m4, by rw [c4, m6]⟩⟩
theorem plan_gen {l d a2 : Nat} {va vb vc na nb nc : Int} (o : OC h) (I : LIs 2 DR2 h g B n s f q) (ld : l = 16 + d) (d4 : d ≤ 4) (k1 : kd B n s = 1) (wl_ : wdl B n s = l) (en : ∀ g, pf_Re_numbersOf l g = some a2) (ls : ∀ i, i < sl_n a2 → psc a2 i ≠ 102) (l4 : sl_n a2 ≤ 4)
    (mod : ∀ g0, MST g0 B n (opT B n s f q (ovr h l)) → ∃ g1, MST g1 B n (nTs B n (psc a2) (opT B n s f q (ovr h l)) (sl_n a2)) ∧ MN g0 g1 ∧ (if (d : Int) = 1 then pj_M_planLine_52 d (-1) (-1) g0 else (if (d : Int) = 2 then pj_M_planLine_52 d (-1) (-1) g0 else pj_M_planLine_59 d (-1) (-1) (-1) g0)) = pj_M_planLine_107 d va vb vc g1)
    (hv : (nTs B n (psc a2) (opT B n s f q (ovr h l)) (sl_n a2)).1 = 0 → (nTs B n (psc a2) (opT B n s f q (ovr h l)) (sl_n a2)).2.2.1 = 0 → (va = na ∧ vb = nb ∧ vc = nc) ∧ PA d na nb nc)
    (tel_ : ∀ h4, (∀ j, j < sl_n a2 → pi h4 301 j = vl B n (skp B n (nx B n s) j)) → pi h4 279 8 = 2 → pf_Re_tellLine l h4 = (pf_Pl_addAct 296 d na nb nc h4).bind fun v2 => some v2) : LNs 2 DR2 B n h g s (pf_Re_readLine h) (pf_M_planLine g) := by
  obtain ⟨c, ef, eq, e8, ms, ⟨n1, n2, n3, n4, n5, n6, n7, n8, n9⟩, dr⟩ := I
  have n6 := n6 rfl
  have n7 := n7 (by decide)
  have n8 := n8 (by decide)
  have sn := c.2.1
  have n600 := c.1.2.2.1
  have ov : ovr h l ↔ 30 ≤ pi g 420 0 := by
    unfold ovr
    rw [n7, n8, if_neg (by omega), if_neg (by omega), if_pos (by omega)]
    omega
  -- the reference
  rcases ms with ⟨_, m2, m3, m4, m5, m6⟩ | ⟨m1, _⟩
  · have m2 : MT g B n s := m2
    have m4 : pi g 418 4 = f := m4
    have m5 : pi g 418 5 = q := m5
    have m6 : FOK s f q := m6
    have pre : ∃ g0, pf_M_planLine g = pj_M_planLine_22 g0 ∧ MT g0 B n s ∧ pi g0 417 8 = 0 ∧ pi g0 418 4 = cif (f = 0 ∧ ovr h l) 3 f ∧ pi g0 418 5 = cif (f = 0 ∧ ovr h l) (s : Int) q ∧ MN g g0 ∧ pi g0 417 9 = pi g 417 9 := by
      unfold pf_M_planLine
      by_cases y : pi g 420 0 < 30
      · rw [if_pos y]
        have no : ¬ ovr h l := fun v => by have := ov.mp v; omega
        exact ⟨g, rfl, m2, m3, by rw [cif_f (fun v => no v.2)]; exact m4, by rw [cif_f (fun v => no v.2)]; exact m5, MN_refl, rfl⟩
      · rw [if_neg y, m2.2.2.1]
        have ovt : ovr h l := ov.mpr (by omega)
        obtain ⟨g0, b1, b2, b3, b4, b5⟩ := m_also (k := 3) (at_ := (s : Int)) m3 m4 m5 (by unfold FOK at m6; omega)
        rw [b1, bsm]
        refine ⟨g0, rfl, MT_n m2 (fun j _ => b3 j) (fun j hj => b2.2.2 j (by omega) (by omega)), by rw [b3]; exact m3, ?_, ?_, b2, b3 9⟩
        · rw [b4]
          by_cases f0 : f = 0
          · rw [if_pos f0, cif_t ⟨f0, ovt⟩]
          · rw [if_neg f0, cif_f (fun v => f0 v.1)]
        · rw [b5]
          by_cases f0 : f = 0
          · rw [if_pos f0, cif_t ⟨f0, ovt⟩]
          · rw [if_neg f0, cif_f (fun v => f0 v.1)]
    obtain ⟨g0, q1, q2, q3, q4, q5, q6, q7⟩ := pre
    have ok : (cif (f = 0 ∧ ovr h l) 3 f = 0 ∧ cif (f = 0 ∧ ovr h l) (s : Int) q = -1) ∨ ((cif (f = 0 ∧ ovr h l) 3 f = 2 ∨ cif (f = 0 ∧ ovr h l) 3 f = 3) ∧ cif (f = 0 ∧ ovr h l) (s : Int) q ≤ s) := by
      unfold FOK at m6
      rcases Classical.em (f = 0 ∧ ovr h l) with u | u
      · rw [cif_t u, cif_t u]; omega
      · rw [cif_f u, cif_f u]; omega
    obtain ⟨g1, t1, t2, t3⟩ := (m_takes (lo := 17) (hi := 21) q2 q3 q4 q5 ok (by decide)).1 ⟨k1, by omega, by omega⟩
    obtain ⟨g2, u1, u2, u3⟩ := mod g1 t3
    have e420 : pi g2 420 = pi g 420 := by rw [MN_i u2 (by decide), fr_fi t2.1 (by decide), MN_i q6 (by decide)]
    obtain ⟨g', v1, v2, v3, v4, v5⟩ := m_store (x2 := (d : Int)) (x3 := va) (x4 := vb) (x5 := vc) u1 (by rw [e420, n6]; omega)
    rw [e420] at v4 v5
    have em : pf_M_planLine g = some g' := by
      rw [q1]
      unfold pj_M_planLine_22
      rw [t1, bsm]
      simp only []
      rw [wl_, show wr (((l : Nat) : Int) + 1 - 17) = (d : Int) from by rw [wr_eq (by omega) (by omega)]; omega, u3, v1]
    have fm : FMT g g' := FMT_trans (MN_FMT q6) (FMT_trans (MN_FMT (MA_MN t2)) (FMT_trans (MN_FMT u2) v3))
    -- the class
    have act : f = 0 → ¬ ovr h l → pi h 296 0 = pi g 420 0 ∧ 0 ≤ pi g 420 0 ∧ pi g 420 0 < 30 := fun f0 no => by
      have := (dr f0).1.1
      have nn : ¬ 30 ≤ pi g 420 0 := fun v => no (ov.mpr v)
      omega
    have nums : ∀ h4, F2 (nXs B n 2 (psc a2) (nx B n s) h (sl_n a2)) h4 → (∀ j, j < sl_n a2 → pi h4 301 j = vl B n (skp B n (nx B n s) j)) ∧ ∀ b, 296 ≤ b → b ≤ 300 → pi h4 b = pi h b := fun h4 z => ⟨fun j hj => by rw [fr_i z (by omega)]; exact nXs_i hj l4, fun b b1 b2 => by rw [fr_fi z (by omega), fr_fi (nXs_fr (k := sl_n a2)).1 (by omega)]⟩
    obtain ⟨r, h', x1, x2, x3, x4, x5, x6, x7, x8, x9⟩ := c_readLine (l := l) (sr := 2) (a2 := a2) o (by decide) e8 c ef eq (by omega) (by omega) (by omega) k1 wl_ (by show 16 ≤ l; omega) (by show l < 21; omega) (by omega) (by omega) (by omega) en ls l4 (fun h4 z1 z2 z3 z4 z5 => by
      obtain ⟨w1, w2⟩ := nums h4 z1
      obtain ⟨a1, a2', a3⟩ := act z4 z5
      obtain ⟨H, b1, b2, _, _⟩ := c_addAct (h := h4) (a := (d : Int)) (b := na) (c := nb) (d := nc) (k := (pi g 420 0).toNat) (by rw [w2 296 (by decide) (by decide), a1]; omega) (by omega)
      exact ⟨H, by rw [tel_ h4 w1 z2, b1, bsm], fr_mono b2 (fun b hb => by omega)⟩)
    rw [if_neg (by omega), Int.add_zero] at x5
    rw [if_neg (by omega), Int.add_zero] at x6
    rw [if_pos (by omega)] at x7
    have e01 := estp_1 (B := B) (n := n) (nTs_01 (B := B) (n := n) (ls := psc a2) (T := opT B n s f q (ovr h l)) (Or.inl rfl) (k := sl_n a2))
    rcases x9 with ⟨w1, r0⟩ | ⟨w0, r1, k4, okk⟩
    · rw [r0] at x1
      exact ln_wrong x1 em x2 fm x8 v2 w1
    · obtain ⟨y1, y2, y3⟩ := e01.2 w0
      have esk := (nTs_w y1).2.1
      have esk : (nTs B n (psc a2) (opT B n s f q (ovr h l)) (sl_n a2)).2.1 = skp B n (nx B n s) (sl_n a2) := esk
      generalize hT : nTs B n (psc a2) (opT B n s f q (ovr h l)) (sl_n a2) = TT at *
      obtain ⟨tw, ts, tf, tq⟩ := TT
      have nxs := nx_ok (B := B) sn
      have bk := bnd_skp (B := B) (n := n) (s := nx B n s) (k := sl_n a2) nxs.1
      have esk : ts = skp B n (nx B n s) (sl_n a2) := esk
      have nxt := nx_ok (B := B) (n := n) (s := ts) (by rw [esk]; exact bk.1)
      have y2 : kd B n ts = 4 := y2
      have y3 : estp B n (tw, ts, tf, tq) = (0, nx B n ts, tf, tq) := y3
      rw [y3] at x8 v2 okk
      have okk : tf = 0 → _ := okk
      rcases x8 with ⟨_, z2, z3, z4⟩ | ⟨z1, _⟩
      · have z2 : CTx h' B n (nx B n ts) := z2
        have z3 : pi h' 279 3 = tf := z3
        have z4 : pi h' 279 4 = tq := z4
        have s1 := nxs.2.2.1 (by omega)
        have s2 := nxt.2.2.1 (by omega)
        refine ⟨r, h', g', x1, em, x2, fm, Or.inr ⟨r1, nx B n ts, tf, tq, by omega, z2, z3, z4, x3, v2, ⟨by omega, by omega, by omega, fun v => by omega, fun v => by omega, fun _ => by rw [v4, x7, n6], fun _ => by rw [x5]; exact n7, fun _ => by rw [x6]; exact n8, fun v => absurd rfl v⟩, fun f0 => ?_⟩⟩
        obtain ⟨f00, no, all, h4, h5, t1', t0', t2', t3'⟩ := okk f0
        obtain ⟨w1, w2⟩ := nums h4 t1'
        obtain ⟨a1, a2', a3⟩ := act f00 no
        obtain ⟨P, kP⟩ := dr f00
        obtain ⟨⟨hv1, hv2, hv3⟩, hpa⟩ := hv y1 f0
        obtain ⟨k, ek⟩ : ∃ k : Nat, pi g 420 0 = k := ⟨(pi g 420 0).toNat, by omega⟩
        obtain ⟨H, b1, b2, b3, b4⟩ := c_addAct (h := h4) (a := (d : Int)) (b := na) (c := nb) (d := nc) (k := k) (by rw [w2 296 (by decide) (by decide), a1]; exact ek) (by omega)
        rw [tel_ h4 w1 t0', b1, bsm] at t2'
        have eH : h5 = H := by cases t2'; rfl
        subst eH
        have v5 := v5 (by omega)
        rw [ek, Int.toNat_natCast] at v5
        rw [ek] at v4
        have c6 : ∀ b, 296 ≤ b → b ≤ 300 → pi h' b = pi h5 b := fun b u1 u2 => fr_fi t3' (by omega)
        have hP : ∀ i : Nat, i < k + 1 → (pi h' 297 i = pi g' 420 (1 + 4 * i) ∧ pi h' 298 i = pi g' 420 (2 + 4 * i) ∧ pi h' 299 i = pi g' 420 (3 + 4 * i) ∧ pi h' 300 i = pi g' 420 (4 + 4 * i)) ∧ PA (pi g' 420 (1 + 4 * i)) (pi g' 420 (2 + 4 * i)) (pi g' 420 (3 + 4 * i)) (pi g' 420 (4 + 4 * i)) := fun i hi => by
          obtain ⟨b5, b6, b7, b8⟩ := b4 i
          rw [c6 297 (by decide) (by decide), c6 298 (by decide) (by decide), c6 299 (by decide) (by decide), c6 300 (by decide) (by decide), b5, b6, b7, b8, v5 (1 + 4 * i) (by omega), v5 (2 + 4 * i) (by omega), v5 (3 + 4 * i) (by omega), v5 (4 + 4 * i) (by omega)]
          by_cases e : i = k
          · rw [if_pos e, if_pos e, if_pos e, if_pos e, if_pos (by omega), if_neg (by omega), if_pos (by omega), if_neg (by omega), if_neg (by omega), if_pos (by omega), if_neg (by omega), if_neg (by omega), if_neg (by omega), if_pos (by omega), hv1, hv2, hv3]
            exact ⟨⟨rfl, rfl, rfl, rfl⟩, hpa⟩
          · obtain ⟨p1, p2, p3, p4⟩ := P.2 i (by omega)
            rw [if_neg e, if_neg e, if_neg e, if_neg e, if_neg (by omega), if_neg (by omega), if_neg (by omega), if_neg (by omega), if_neg (by omega), if_neg (by omega), if_neg (by omega), if_neg (by omega), if_neg (by omega), if_neg (by omega), if_neg (by omega), if_neg (by omega), if_neg (by omega), if_neg (by omega), if_neg (by omega), if_neg (by omega), w2 297 (by decide) (by decide), w2 298 (by decide) (by decide), w2 299 (by decide) (by decide), w2 300 (by decide) (by decide)]
            exact ⟨⟨p1, p2, p3, p4⟩, kP.2 i (by omega)⟩
        refine ⟨⟨by rw [c6 296 (by decide) (by decide), b3, v4], fun i hi => ?_⟩, by rw [v4]; omega, fun i hi => ?_⟩
        · rw [v4] at hi
          exact (hP i (by omega)).1
        · rw [v4] at hi
          exact (hP i (by omega)).2
      · have z1 : (0 : Nat) = 1 := z1
        omega
  · have m1 : (0 : Nat) = 1 := m1
    omega
theorem nOf : ∀ l, l < 21 → ∀ g, pf_Re_numbersOf (l : Nat) g = some ([30, 43, 31, 32, 32, 33, 34, 35, 42, 36, 43, 37, 38, 43, 33, 42, 29, 39, 40, 41, 42].getD l 0) := by
  intro l hl g
  unfold pf_Re_numbersOf
  revert l
  decide
theorem plan_line (o : OC h) (I : LIs 2 DR2 h g B n s f q) : LNs 2 DR2 B n h g s (pf_Re_readLine h) (pf_M_planLine g) := by
  by_cases k : kd B n s = 1 ∧ loS 2 ≤ wdl B n s ∧ wdl B n s < hiS 2
  · obtain ⟨k1, k2, k3⟩ := k
    have k2 : (16 : Int) ≤ wdl B n s := k2
    have k3 : wdl B n s < 21 := k3
    have e9 : ∀ {h4 : pH} {l d m : Nat} (a2 : Nat), l = 16 + d → l < 21 → pi h4 279 8 = 2 → [30, 43, 31, 32, 32, 33, 34, 35, 42, 36, 43, 37, 38, 43, 33, 42, 29, 39, 40, 41, 42].getD l 0 = a2 → sl_n a2 = m → m ≤ 4 → pf_Re_tellLine l h4 = (pf_Pl_addAct 296 d (if m ≤ 0 then -1 else pi h4 301 0) (if m ≤ 1 then -1 else pi h4 301 1) (if m ≤ 2 then -1 else pi h4 301 2) h4).bind fun v2 => some v2 := fun {h4 l d m} a2 el hl e ea em m4 => by
      unfold pf_Re_tellLine
      rw [e, if_neg (by decide), if_neg (by decide), nOf l hl, ea, bsm, em, wr_eq (x := ((m : Nat) : Int)) (by omega) (by omega), show wr ((l : Int) - 16) = (d : Int) from by rw [wr_eq (by omega) (by omega)]; omega]
      unfold pj_Re_tellLine_61 pj_Re_tellLine_76 pj_Re_tellLine_91
      by_cases m0 : m ≤ 0
      · rw [if_pos (by omega), if_pos (by omega), if_pos (by omega), if_pos m0, if_pos (by omega), if_pos (by omega)]
      · rw [if_neg (by omega), if_neg m0]
        by_cases m1 : m ≤ 1
        · rw [if_pos (by omega), if_pos (by omega), if_pos m1, if_pos (by omega)]
        · rw [if_neg (by omega), if_neg m1]
          by_cases m2 : m ≤ 2
          · rw [if_pos (by omega), if_pos m2]
          · rw [if_neg (by omega), if_neg m2]
    rcases (show wdl B n s = 16 ∨ wdl B n s = 17 ∨ wdl B n s = 18 ∨ wdl B n s = 19 ∨ wdl B n s = 20 by omega) with w | w | w | w | w
    · refine plan_gen (l := 16) (d := 0) (a2 := 29) (va := -1) (vb := -1) (vc := -1) (na := -1) (nb := -1) (nc := -1) o I rfl (by decide) k1 w (nOf 16 (by decide)) (by decide +kernel) (by decide +kernel) (fun g0 m => ⟨g0, m, MN_refl, rfl⟩) (fun _ _ => ⟨⟨rfl, rfl, rfl⟩, by unfold PA; omega⟩) (fun h4 w1 w2 => ?_)
      rw [e9 (l := 16) (d := 0) 29 (m := 0) rfl (by decide) w2 rfl (by decide +kernel) (by decide), if_pos (by decide), if_pos (by decide), if_pos (by decide)]
    · have a0 : psc 39 0 = 115 := by decide +kernel
      have a1 : psc 39 1 = 99 := by decide +kernel
      refine plan_gen (l := 17) (d := 1) (a2 := 39) (va := nvl B n 0 5 (nTs B n (psc 39) (opT B n s f q (ovr h 17)) 0)) (vb := nvl B n 0 35 (nTs B n (psc 39) (opT B n s f q (ovr h 17)) 1)) (vc := -1) (na := vl B n (skp B n (nx B n s) 0)) (nb := vl B n (skp B n (nx B n s) 1)) (nc := -1) o I rfl (by decide) k1 w (nOf 17 (by decide)) (by decide +kernel) (by decide +kernel) (fun g0 m => ?_) (fun z1 z2 => ⟨⟨?_, ?_, rfl⟩, by unfold PA; omega⟩) (fun h4 w1 w2 => ?_)
      · obtain ⟨g1, b1, b2, b3, b4⟩ := m_nk (ls := psc 39) (T := opT B n s f q (ovr h 17)) (k := 0) (lo := 0) (hi := 5) m (by rw [a0]; decide) (by rw [a0]; rfl) (by rw [a0]; rfl)
        obtain ⟨g2, c1, c2, c3, c4⟩ := m_ck (ls := psc 39) (k := 1) b2 a1
        refine ⟨g2, c2, MN_trans b3 c3, ?_⟩
        rw [if_pos (by decide)]
        unfold pj_M_planLine_52 pj_M_planLine_59 pj_M_planLine_70 pj_M_planLine_97
        rw [b1, bsm, if_pos (by decide), c1, bsm, if_neg (by decide), if_neg (by decide)]
      · exact (nvl_ok (k := 0) (m := 2) (by decide) z1 z2 (Or.inr (by rw [a0]; decide)) (by rw [a0]; rfl) (by rw [a0]; rfl)).1
      · exact (nvl_ok (k := 1) (m := 2) (by decide) z1 z2 (Or.inr (by rw [a1]; decide)) (by rw [a1]; rfl) (by rw [a1]; rfl)).1
      · rw [e9 (l := 17) (d := 1) 39 (m := 2) rfl (by decide) w2 rfl (by decide +kernel) (by decide), if_neg (by decide), if_neg (by decide), if_pos (by decide), w1 0 (by decide +kernel), w1 1 (by decide +kernel)]
    · have a0 : psc 40 0 = 115 := by decide +kernel
      refine plan_gen (l := 18) (d := 2) (a2 := 40) (va := nvl B n 0 5 (nTs B n (psc 40) (opT B n s f q (ovr h 18)) 0)) (vb := -1) (vc := -1) (na := vl B n (skp B n (nx B n s) 0)) (nb := -1) (nc := -1) o I rfl (by decide) k1 w (nOf 18 (by decide)) (by decide +kernel) (by decide +kernel) (fun g0 m => ?_) (fun z1 z2 => ⟨⟨?_, rfl, rfl⟩, by unfold PA; omega⟩) (fun h4 w1 w2 => ?_)
      · obtain ⟨g1, b1, b2, b3, b4⟩ := m_nk (ls := psc 40) (T := opT B n s f q (ovr h 18)) (k := 0) (lo := 0) (hi := 5) m (by rw [a0]; decide) (by rw [a0]; rfl) (by rw [a0]; rfl)
        refine ⟨g1, b2, b3, ?_⟩
        rw [if_neg (by decide), if_pos (by decide)]
        unfold pj_M_planLine_52 pj_M_planLine_59 pj_M_planLine_70 pj_M_planLine_97
        rw [b1, bsm, if_neg (by decide), if_neg (by decide), if_neg (by decide)]
      · exact (nvl_ok (k := 0) (m := 1) (by decide) z1 z2 (Or.inr (by rw [a0]; decide)) (by rw [a0]; rfl) (by rw [a0]; rfl)).1
      · rw [e9 (l := 18) (d := 2) 40 (m := 1) rfl (by decide) w2 rfl (by decide +kernel) (by decide), if_neg (by decide), if_pos (by decide), if_pos (by decide), w1 0 (by decide +kernel)]
    · have a0 : psc 41 0 = 112 := by decide +kernel
      have a1 : psc 41 1 = 99 := by decide +kernel
      have a2 : psc 41 2 = 111 := by decide +kernel
      refine plan_gen (l := 19) (d := 3) (a2 := 41) (va := nvl B n 1 99 (nTs B n (psc 41) (opT B n s f q (ovr h 19)) 0)) (vb := nvl B n 0 35 (nTs B n (psc 41) (opT B n s f q (ovr h 19)) 1)) (vc := nvl B n 0 35 (nTs B n (psc 41) (opT B n s f q (ovr h 19)) 2)) (na := vl B n (skp B n (nx B n s) 0)) (nb := vl B n (skp B n (nx B n s) 1)) (nc := vl B n (skp B n (nx B n s) 2)) o I rfl (by decide) k1 w (nOf 19 (by decide)) (by decide +kernel) (by decide +kernel) (fun g0 m => ?_) (fun z1 z2 => ?_) (fun h4 w1 w2 => ?_)
      · obtain ⟨g1, b1, b2, b3, b4⟩ := m_nk (ls := psc 41) (T := opT B n s f q (ovr h 19)) (k := 0) (lo := 1) (hi := 99) m (by rw [a0]; decide) (by rw [a0]; rfl) (by rw [a0]; rfl)
        obtain ⟨g2, c1, c2, c3, c4⟩ := m_ck (ls := psc 41) (k := 1) b2 a1
        obtain ⟨g3, d1, d2, d3, d4⟩ := m_ok (ls := psc 41) (k := 2) c2 (by decide) (by decide) a1 a2
        refine ⟨g3, d2, MN_trans b3 (MN_trans c3 d3), ?_⟩
        rw [if_neg (by decide), if_neg (by decide)]
        unfold pj_M_planLine_59 pj_M_planLine_70 pj_M_planLine_97
        rw [if_neg (by decide), if_pos (by decide), b1, bsm, c1, bsm]
        simp only []
        rw [d1, bsm, if_neg (by decide)]
      · have y0 := nvl_ok (k := 0) (m := 3) (lo := 1) (hi := 99) (by decide) z1 z2 (Or.inr (by rw [a0]; decide)) (by rw [a0]; rfl) (by rw [a0]; rfl)
        have y1 := nvl_ok (k := 1) (m := 3) (lo := 0) (hi := 35) (by decide) z1 z2 (Or.inr (by rw [a1]; decide)) (by rw [a1]; rfl) (by rw [a1]; rfl)
        have y2 := nvl_ok (k := 2) (m := 3) (lo := 0) (hi := 35) (by decide) z1 z2 (Or.inl a2) (by rw [a2]; rfl) (by rw [a2]; rfl)
        refine ⟨⟨y0.1, y1.1, y2.1⟩, by omega, fun _ => ⟨y0.2, fun e => ?_⟩⟩
        have nb := ((nTs_w z1).2.2.2 2 (by decide)).2 z2
        rw [a2] at nb
        exact nb (Or.inr ⟨rfl, by decide, by decide, e.symm⟩)
      · rw [e9 (l := 19) (d := 3) 41 (m := 3) rfl (by decide) w2 rfl (by decide +kernel) (by decide), if_neg (by decide), if_neg (by decide), if_neg (by decide), w1 0 (by decide +kernel), w1 1 (by decide +kernel), w1 2 (by decide +kernel)]
    · have a0 : psc 42 0 = 99 := by decide +kernel
      refine plan_gen (l := 20) (d := 4) (a2 := 42) (va := nvl B n 0 35 (nTs B n (psc 42) (opT B n s f q (ovr h 20)) 0)) (vb := -1) (vc := -1) (na := vl B n (skp B n (nx B n s) 0)) (nb := -1) (nc := -1) o I rfl (by decide) k1 w (nOf 20 (by decide)) (by decide +kernel) (by decide +kernel) (fun g0 m => ?_) (fun z1 z2 => ⟨⟨?_, rfl, rfl⟩, by unfold PA; omega⟩) (fun h4 w1 w2 => ?_)
      · obtain ⟨g1, b1, b2, b3, b4⟩ := m_ck (ls := psc 42) (T := opT B n s f q (ovr h 20)) (k := 0) m a0
        refine ⟨g1, b2, b3, ?_⟩
        rw [if_neg (by decide), if_neg (by decide)]
        unfold pj_M_planLine_59 pj_M_planLine_70 pj_M_planLine_97
        rw [if_neg (by decide), if_neg (by decide), if_pos (by decide), b1, bsm]
      · exact (nvl_ok (k := 0) (m := 1) (by decide) z1 z2 (Or.inr (by rw [a0]; decide)) (by rw [a0]; rfl) (by rw [a0]; rfl)).1
      · rw [e9 (l := 20) (d := 4) 42 (m := 1) rfl (by decide) w2 rfl (by decide +kernel) (by decide), if_neg (by decide), if_pos (by decide), if_pos (by decide), w1 0 (by decide +kernel)]
  · obtain ⟨c, ef, eq, e8, ms, ⟨n1, n2, n3, n4, n5, n6, n7, n8, n9⟩, dr⟩ := I
    have n6 := n6 rfl
    have n600 := c.1.2.2.1
    have sn := c.2.1
    obtain ⟨h', c1, c2, c3⟩ := c_noLine o (by decide) e8 c k
    rcases ms with ⟨_, m2, m3, m4, m5, m6⟩ | ⟨m1, _⟩
    · have m2 : MT g B n s := m2
      have m4 : pi g 418 4 = f := m4
      have m5 : pi g 418 5 = q := m5
      have m6 : FOK s f q := m6
      have pre : ∃ g0 f0 q0, pf_M_planLine g = pj_M_planLine_22 g0 ∧ MT g0 B n s ∧ pi g0 417 8 = 0 ∧ pi g0 418 4 = f0 ∧ pi g0 418 5 = q0 ∧ ((f0 = 0 ∧ q0 = -1) ∨ ((f0 = 2 ∨ f0 = 3) ∧ q0 ≤ s)) ∧ MN g g0 := by
        unfold pf_M_planLine
        by_cases y : pi g 420 0 < 30
        · rw [if_pos y]
          exact ⟨g, f, q, rfl, m2, m3, m4, m5, by unfold FOK at m6; omega, MN_refl⟩
        · rw [if_neg y, m2.2.2.1]
          obtain ⟨g0, b1, b2, b3, b4, b5⟩ := m_also (k := 3) (at_ := (s : Int)) m3 m4 m5 (by unfold FOK at m6; omega)
          rw [b1, bsm]
          exact ⟨g0, _, _, rfl, MT_n m2 (fun j _ => b3 j) (fun j hj => b2.2.2 j (by omega) (by omega)), by rw [b3]; exact m3, b4, b5, by unfold FOK at m6; split <;> omega, b2⟩
      obtain ⟨g0, f0, q0, q1, q2, q3, q4, q5, ok, q6⟩ := pre
      obtain ⟨g1, t1, t2, t3, t4⟩ := (m_takes (lo := 17) (hi := 21) q2 q3 q4 q5 ok (by decide)).2 (fun v => k ⟨v.1, by show (16 : Int) ≤ _; omega, by show _ < (21 : Int); omega⟩)
      have e420 : pi g1 420 = pi g 420 := by rw [MN_i t2 (by decide), MN_i q6 (by decide)]
      obtain ⟨g', v1, v2, v3, v4, v5⟩ := m_store (x2 := -17) (x3 := -1) (x4 := -1) (x5 := -1) t4 (by rw [e420, n6]; omega)
      have em : pf_M_planLine g = some g' := by
        rw [q1]
        unfold pj_M_planLine_22
        rw [t1, bsm]
        simp only []
        rw [show wr ((0 : Int) - 17) = -17 from by decide, if_neg (by decide), if_neg (by decide)]
        unfold pj_M_planLine_59 pj_M_planLine_70 pj_M_planLine_97
        rw [if_neg (by decide), if_neg (by decide), if_neg (by decide), v1]
      have es : estp B n (1, s, 1, (s : Int)) = (1, s, 1, (s : Int)) := by unfold estp; rw [cif_f (by show ¬ (1 : Nat) = 0; decide)]
      rw [es] at v2
      exact ln_wrong c1 em c2.1 (FMT_trans (MN_FMT q6) (FMT_trans (MN_FMT t2) v3)) c3 v2 rfl
    · have m1 : (0 : Nat) = 1 := m1
      omega
end Tm
