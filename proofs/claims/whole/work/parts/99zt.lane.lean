/-! laws: lanes -/
theorem c_addLane {h : pH} {a b : Int} {k : Nat} (e : pi h 292 4 = k) (k12 : k < 12) (ra : 0 ≤ a ∧ a < 36) (rb : 0 ≤ b ∧ b < 36) : ∃ H, pf_Lw_addLane 292 a b h = some H ∧ fr (fun x => 292 ≤ x ∧ x ≤ 295) h H ∧ (∀ j, pi H 292 j = if j = 4 then (k : Int) + 1 else pi h 292 j) ∧ pl H 292 = pl h 292 ∧ (∀ j, pi H 293 j = if j = k then a else pi h 293 j) ∧ (∀ j, pi H 294 j = if j = k then b else pi h 294 j) ∧ ∀ c, pl H 295 c = if c = b.toNat then (pl h 295 c ||| plshl 1 a) else pl h 295 c := by
  unfold pf_Lw_addLane pj_Lw_addLane_39
  simp (disch := omega) only [pi_wIa, e, gib, Int.toNat_natCast, wr_eq]
  rw [if_neg (by omega), c_bit, bsm]
  refine ⟨_, rfl, fr_wL (fr_wI (fr_wI (fr_wI fr_refl (by omega)) (by omega)) (by omega)) (by omega), fun j => ?_, ?_, fun j => ?_, fun j => ?_, fun c => ?_⟩
  · rw [pi_wL]
    by_cases y : j = 4
    · rw [if_pos y, y, pi_wIs]
    · rw [if_neg y, pi_wIi y]; simp (disch := omega) only [pi_wIa]
  · funext j
    rw [pl_wLa (by decide)]; rfl
  · rw [pi_wL, pi_wIa (by decide), pi_wIa (by decide), pi_wI]
    by_cases y : j = k
    · rw [if_pos ⟨rfl, y⟩, if_pos y]
    · rw [if_neg (fun u => y u.2), if_neg y]
  · rw [pi_wL, pi_wIa (by decide), pi_wI]
    by_cases y : j = k
    · rw [if_pos ⟨rfl, y⟩, if_pos y]
    · rw [if_neg (fun u => y u.2), if_neg y, pi_wIa (by decide)]
  · rw [pl_wL]
    by_cases y : c = b.toNat
    · rw [if_pos ⟨rfl, y⟩, if_pos y, y]; rfl
    · rw [if_neg (fun u => y u.2), if_neg y]; rfl
section Tp
variable {h g : pH} {B : Nat → Int} {n s : Nat} {f q : Int}
theorem law_lane (o : OC h) (I : LIs 1 DR1 h g B n s f q) (k1 : kd B n s = 1) (wl_ : wdl B n s = 14) : LNs 1 DR1 B n h g s (pf_Re_readLine h) (pf_M_lawLine g) := by
  have II := I
  have a0 : psc 33 0 = 99 := by decide +kernel
  have a1 : psc 33 1 = 111 := by decide +kernel
  have sl : sl_n 33 = 2 := by decide +kernel
  obtain ⟨c, ef, eq, e8, ms, CNN, dr⟩ := I
  obtain ⟨n1, n2, n3, n4, n5, n6, n7, n8, n9⟩ := CNN
  have n600 := c.1.2.2.1
  have sn := c.2.1
  have n5 := n5 rfl
  have n7 := n7 (by decide)
  have n9 := n9 (by decide)
  have ov : ovr h 14 ↔ 12 ≤ pi g 420 4 := by
    unfold ovr
    rw [n7, n9, if_neg (by decide), if_pos rfl, if_neg (by decide)]
    omega
  rcases ms with ⟨_, m2, m3, m4, m5, m6⟩ | ⟨m1, _⟩
  · have m2 : MT g B n s := m2
    have m4 : pi g 418 4 = f := m4
    have m5 : pi g 418 5 = q := m5
    have m6 : FOK s f q := m6
    have sx := (nx_ok (B := B) sn).2.2.1 (by omega)
    obtain ⟨g1, t1, t2, t3⟩ := (m_takes (lo := 11) (hi := 16) m2 m3 m4 m5 (by unfold FOK at m6; omega) (by decide)).1 ⟨k1, by omega, by omega⟩
    have e41 : pi g1 420 = pi g 420 := fr_fi t2.1 (by decide)
    have pre : ∃ g2, pj_M_lawLine_64 (pi g 417 4) 15 g1 = pj_M_lawLine_87 15 g2 ∧ MST g2 B n (opT B n s f q (ovr h 14)) ∧ MN g1 g2 := by
      unfold pj_M_lawLine_64
      rw [if_pos rfl, e41, m2.2.2.1]
      by_cases y : pi g 420 4 < 12
      · rw [if_pos y]
        have no : ¬ (f = 0 ∧ ovr h 14) := fun v => by have := ov.mp v.2; omega
        exact ⟨g1, rfl, by rw [opT_no no]; exact t3, MN_refl⟩
      · rw [if_neg y]
        have ovt : ovr h 14 := ov.mpr (by omega)
        rcases t3 with ⟨_, u2, u3, u4, u5, u6⟩ | ⟨u1, _⟩
        · have u4 : pi g1 418 4 = f := u4
          have u5 : pi g1 418 5 = q := u5
          obtain ⟨g2, b1, b2, b3, b4, b5⟩ := m_also (k := 3) (at_ := (s : Int)) u3 u4 u5 (by unfold FOK at m6; omega)
          rw [b1, bsm]
          refine ⟨g2, rfl, Or.inl ⟨rfl, MT_n u2 (fun j _ => b3 j) (fun j hj => b2.2.2 j (by omega) (by omega)), by rw [b3]; exact u3, ?_, ?_, ?_⟩, b2⟩
          · show pi g2 418 4 = cif (f = 0 ∧ ovr h 14) 3 f
            rw [b4]
            by_cases f0 : f = 0
            · rw [if_pos f0, cif_t ⟨f0, ovt⟩]
            · rw [if_neg f0, cif_f (fun v => f0 v.1)]
          · show pi g2 418 5 = cif (f = 0 ∧ ovr h 14) (s : Int) q
            rw [b5]
            by_cases f0 : f = 0
            · rw [if_pos f0, cif_t ⟨f0, ovt⟩]
            · rw [if_neg f0, cif_f (fun v => f0 v.1)]
          · show FOK (nx B n s) (cif (f = 0 ∧ ovr h 14) 3 f) (cif (f = 0 ∧ ovr h 14) (s : Int) q)
            unfold FOK at *
            by_cases f0 : f = 0
            · rw [cif_t ⟨f0, ovt⟩, cif_t ⟨f0, ovt⟩]; omega
            · rw [cif_f (fun v => f0 v.1), cif_f (fun v => f0 v.1)]; omega
        · have u1 : (0 : Nat) = 1 := u1
          omega
    obtain ⟨g2, q1, q2, q3⟩ := pre
    obtain ⟨g3, b1, b2, b3, b4⟩ := m_ck (ls := psc 33) (T := opT B n s f q (ovr h 14)) (k := 0) q2 a0
    obtain ⟨g4, d1, d2, d3, d4⟩ := m_ok (ls := psc 33) (T := opT B n s f q (ovr h 14)) (k := 1) b2 (by decide) (by decide) a0 a1
    have e44 : pi g4 420 = pi g 420 := by rw [MN_i d3 (by decide), MN_i b3 (by decide), MN_i q3 (by decide)]; exact e41
    generalize eva : nvl B n 0 35 (nTs B n (psc 33) (opT B n s f q (ovr h 14)) 0) = va at *
    generalize evb : nvl B n 0 35 (nTs B n (psc 33) (opT B n s f q (ovr h 14)) 1) = vb at *
    -- the store
    have sto : ∃ g5, pj_M_lawLine_87 15 g2 = pf_M_endsLine g5 ∧ FMT g4 g5 ∧ pi g5 417 = pi g4 417 ∧ pi g5 418 = pi g4 418 ∧ pi g5 420 4 = pi g 420 4 + 1 ∧ (pi g 420 4 < 12 → ∀ j, j ≠ 4 → pi g5 420 j = if j = 6 + 2 * (pi g 420 4).toNat then va else (if j = 7 + 2 * (pi g 420 4).toNat then vb else pi g 420 j)) := by
      unfold pj_M_lawLine_87 pj_M_lawLine_147 pj_M_lawLine_157 pj_M_lawLine_169
      have eb : ∀ {x : Option pH}, (x.bind fun v2 => some v2) = x := fun {x} => by cases x <;> rfl
      rw [b1, bsm]
      simp only []
      rw [d1, bsm]
      simp only []
      rw [e44]
      by_cases y : 12 ≤ pi g 420 4
      · rw [if_pos y, wr_eq (by omega) (by omega), if_neg (by decide), eb]
        exact ⟨_, rfl, FMT_w (Or.inl rfl), pi_wIf (by decide), pi_wIf (by decide), pi_wIs, fun v => by omega⟩
      · obtain ⟨k, ek⟩ : ∃ k : Nat, pi g 420 4 = k := ⟨(pi g 420 4).toNat, by omega⟩
        rw [if_neg y, ek]
        have e5 : pi (pwI g4 420 (6 + 2 * k) va) 420 4 = k := by rw [pi_wIi (by omega), e44]; exact ek
        rw [wr_eq (x := 2 * (k : Int)) (by omega) (by omega), wr_eq (x := 6 + 2 * (k : Int)) (by omega) (by omega), gib (by omega) (by omega), show (6 + 2 * (k : Int)).toNat = 6 + 2 * k by omega, e5, wr_eq (x := 2 * (k : Int)) (by omega) (by omega), wr_eq (x := 6 + 2 * (k : Int)) (by omega) (by omega), wr_eq (x := 6 + 2 * (k : Int) + 1) (by omega) (by omega), gib (by omega) (by omega), show (6 + 2 * (k : Int) + 1).toNat = 7 + 2 * k by omega, if_neg (by decide), eb]
        have e6 : pi (pwI (pwI g4 420 (6 + 2 * k) va) 420 (7 + 2 * k) vb) 420 4 = k := by rw [pi_wIi (by omega)]; exact e5
        rw [e6, wr_eq (by omega) (by omega)]
        refine ⟨_, rfl, FMT_trans (FMT_trans (FMT_w (Or.inl rfl)) (FMT_w (Or.inl rfl))) (FMT_w (Or.inl rfl)), by rw [pi_wIf (by decide), pi_wIf (by decide), pi_wIf (by decide)], by rw [pi_wIf (by decide), pi_wIf (by decide), pi_wIf (by decide)], pi_wIs, fun _ j hj => ?_⟩
        rw [pi_wIi hj, Int.toNat_natCast]
        by_cases j2 : j = 7 + 2 * k
        · rw [if_neg (by omega), if_pos j2, j2, pi_wIs]
        · rw [pi_wIi j2]
          by_cases j1 : j = 6 + 2 * k
          · rw [if_pos j1, j1, pi_wIs]
          · rw [pi_wIi j1, if_neg j1, if_neg j2, e44]
    obtain ⟨g5, s1, s2, s3, s4, s5, s6⟩ := sto
    obtain ⟨g', v1, v2, v3, v4⟩ := m_endsLine (MST_n d2 (fun j _ => by rw [s3]) (fun j _ => by rw [s4]))
    have em : pf_M_lawLine g = some g' := by
      unfold pf_M_lawLine
      rw [t1, bsm]
      simp only []
      rw [wl_, if_neg (by decide), if_pos (by decide)]
      show pj_M_lawLine_64 (pi g 417 4) 15 g1 = _
      rw [q1, s1, v1]
    have fm : FMT g g' := FMT_trans (MN_FMT (MA_MN t2)) (FMT_trans (MN_FMT q3) (FMT_trans (MN_FMT b3) (FMT_trans (MN_FMT d3) (FMT_trans s2 (MN_FMT v3)))))
    have e420 : pi g' 420 = pi g5 420 := MN_i v3 (by decide)
    have tel_ : ∀ h4, pi h4 279 8 = 1 → pf_Re_tellLine (14 : Nat) h4 = (pf_Lw_addLane 292 (pi h4 301 0) (pi h4 301 1) h4).bind fun v5 => some v5 := fun h4 e => by
      unfold pf_Re_tellLine pf_Re_tellLaw
      rw [e, if_neg (by decide), if_pos rfl, if_neg (by decide), if_neg (by decide), if_neg (by decide), if_neg (by decide), if_pos (by decide)]
      cases pf_Lw_addLane 292 (pi h4 301 0) (pi h4 301 1) h4 <;> rfl
    have nums : ∀ h4, F2 (nXs B n 1 (psc 33) (nx B n s) h 2) h4 → pi h4 301 0 = vl B n (skp B n (nx B n s) 0) ∧ pi h4 301 1 = vl B n (skp B n (nx B n s) 1) ∧ fr (fun b => b = 279 ∨ b = 301) h h4 := fun h4 z => by
      refine ⟨by rw [fr_i z (by omega)]; exact nXs_i (by decide) (by decide), by rw [fr_i z (by omega)]; exact nXs_i (by decide) (by decide), ?_⟩
      refine fr_trans (fr_mono (show fr (fun b => b = 301) h (nXs B n 1 (psc 33) (nx B n s) h 2) from ?_) (fun b hb => Or.inr hb)) (fr_mono z (fun b hb => Or.inl hb))
      show fr _ h (tel 1 _ _ (NHp (tel 1 _ _ (NHp h 0 _)) 1 _))
      have t1 : ∀ l v H, tel 1 l v H = H := fun l v H => if_neg (fun u => absurd u.1 (by decide))
      rw [t1, t1]
      unfold NHp
      rw [if_pos (by decide), if_pos (by decide)]
      exact fr_wI (fr_wI fr_refl rfl) rfl
    have rng : (∀ j, j < sl_n 33 → kd B n (skp B n (nx B n s) j) = 2 ∧ ¬ bdL (psc 33 j) (vl B n (skp B n (nx B n s) j)) (vl B n (skp B n (nx B n s) (j - 1))) j) → (0 ≤ vl B n (skp B n (nx B n s) 0) ∧ vl B n (skp B n (nx B n s) 0) < 36) ∧ (0 ≤ vl B n (skp B n (nx B n s) 1) ∧ vl B n (skp B n (nx B n s) 1) < 36) := fun all => by
      have z0 := (all 0 (by rw [sl]; decide)).2
      have z1 := (all 1 (by rw [sl]; decide)).2
      rw [a0] at z0
      rw [a1] at z1
      have p0 : 0 ≤ vl B n (skp B n (nx B n s) 0) ∧ vl B n (skp B n (nx B n s) 0) ≤ 35 := by
        rcases Classical.em (0 ≤ vl B n (skp B n (nx B n s) 0) ∧ vl B n (skp B n (nx B n s) 0) ≤ 35) with u | u
        · exact u
        · exact absurd (Or.inl u) z0
      have p1 : 0 ≤ vl B n (skp B n (nx B n s) 1) ∧ vl B n (skp B n (nx B n s) 1) ≤ 35 := by
        rcases Classical.em (0 ≤ vl B n (skp B n (nx B n s) 1) ∧ vl B n (skp B n (nx B n s) 1) ≤ 35) with u | u
        · exact u
        · exact absurd (Or.inl u) z1
      omega
    have cnt : f = 0 → ¬ ovr h 14 → pi h 292 4 = pi g 420 4 ∧ 0 ≤ pi g 420 4 ∧ pi g 420 4 < 12 := fun f0 no => by
      have a := (dr f0).1.1.2.2.2.2
      have nn : ¬ 12 ≤ pi g 420 4 := fun v => no (ov.mpr v)
      omega
    refine line_gen (l := 14) (a2 := 33) (g' := g') o II (by decide) k1 wl_ (by decide) (by decide) (by decide) (by decide) (by decide) (nOf 14 (by decide)) (by decide +kernel) (by decide +kernel) em (by rw [sl]; exact v2) fm (fun h4 z1 z2 z3 z4 z5 => ?_) (fun h' x5 x6 x7 _ k4 => ?_) (fun w0 f0 f00 nov all h4 h5 h' z1 z2 z3 z4 => ?_)
    · rw [sl] at z1
      obtain ⟨y1, y2, y3⟩ := nums h4 z1
      obtain ⟨r1, r2⟩ := rng z3
      obtain ⟨p1, p2, p3⟩ := cnt z4 z5
      obtain ⟨H, l1, l2, _⟩ := c_addLane (h := h4) (a := pi h4 301 0) (b := pi h4 301 1) (k := (pi g 420 4).toNat) (by rw [fr_i y3 (by omega), p1]; omega) (by omega) (by rw [y1]; exact r1) (by rw [y2]; exact r2)
      exact ⟨H, by rw [tel_ h4 z2, l1, bsm], fr_mono l2 (fun b hb => by omega)⟩
    · rw [sl]
      have b := nx_ok (B := B) sn
      have b' := bnd_skp (B := B) (n := n) (s := nx B n s) (k := 2) b.1
      have b2' := nx_ok (B := B) (n := n) (s := skp B n (nx B n s) 2) b'.1
      rw [if_neg (by decide)] at x5 x7
      rw [if_pos rfl] at x6
      exact ⟨by omega, by omega, by omega, fun v => by omega, fun _ => by rw [e420, s5, n5, x6], fun v => by omega, fun _ => by rw [x5, n7]; omega, fun v => absurd rfl v, fun _ => by rw [x7, n9]; omega⟩
    · rw [sl] at z1 w0 f0
      obtain ⟨y1, y2, y3⟩ := nums h4 z1
      obtain ⟨r1, r2⟩ := rng all
      obtain ⟨p1, p2, p3⟩ := cnt f00 nov
      obtain ⟨k, ek⟩ : ∃ k : Nat, pi g 420 4 = k := ⟨(pi g 420 4).toNat, by omega⟩
      obtain ⟨H, l1, l2, l3, l4, l5, l6, l7⟩ := c_addLane (h := h4) (a := pi h4 301 0) (b := pi h4 301 1) (k := k) (by rw [fr_i y3 (by omega), p1]; exact ek) (by omega) (by rw [y1]; exact r1) (by rw [y2]; exact r2)
      rw [tel_ h4 z2, l1, bsm] at z3
      have eH : h5 = H := by cases z3; rfl
      subst eH
      have nva := (nvl_ok (ls := psc 33) (T := opT B n s f q (ovr h 14)) (k := 0) (m := 2) (lo := 0) (hi := 35) (by decide) w0 f0 (Or.inr (by rw [a0]; decide)) (by rw [a0]; rfl) (by rw [a0]; rfl)).1
      have nvb := (nvl_ok (ls := psc 33) (T := opT B n s f q (ovr h 14)) (k := 1) (m := 2) (lo := 0) (hi := 35) (by decide) w0 f0 (Or.inl a1) (by rw [a1]; rfl) (by rw [a1]; rfl)).1
      have va1 : va = pi h4 301 0 := by rw [← eva, y1]; exact nva
      have vb1 : vb = pi h4 301 1 := by rw [← evb, y2]; exact nvb
      rw [← y1] at r1
      rw [← y2] at r2
      rw [← va1] at l5 l7 r1
      rw [← vb1] at l6 l7 r2
      have s6 := s6 p3
      rw [ek, Int.toNat_natCast] at s6
      rw [ek] at s5
      obtain ⟨R, kW⟩ := dr f00
      obtain ⟨⟨r0, r1', r2', r3, r4⟩, r5, r6, r7⟩ := R
      have W4 : pi g' 420 4 = (k : Int) + 1 := by rw [e420]; exact s5
      have Wj : ∀ j, j ≠ 4 → pi g' 420 j = if j = 6 + 2 * k then va else (if j = 7 + 2 * k then vb else pi g 420 j) := fun j hj => by rw [e420]; exact s6 j hj
      have hh : ∀ b, 292 ≤ b → b ≤ 295 → pi h' b = pi h5 b ∧ pl h' b = pl h5 b := fun b u1 u2 => ⟨fr_fi z4 (by omega), fr_fl z4 (by omega)⟩
      have h4h : ∀ b, 292 ≤ b → b ≤ 295 → pi h4 b = pi h b ∧ pl h4 b = pl h b := fun b u1 u2 => ⟨fr_fi y3 (by omega), fr_fl y3 (by omega)⟩
      have fld : ∀ j, j < 4 → pi h' 292 j = pi h 292 j ∧ pi g' 420 j = pi g 420 j := fun j hj => ⟨by rw [(hh 292 (by decide) (by decide)).1, l3, if_neg (by omega), (h4h 292 (by decide) (by decide)).1], by rw [Wj j (by omega), if_neg (by omega), if_neg (by omega)]⟩
      refine ⟨⟨⟨by rw [(fld 0 (by decide)).1, (fld 0 (by decide)).2]; exact r0, by rw [(fld 1 (by decide)).1, (fld 1 (by decide)).2]; exact r1', by rw [(fld 2 (by decide)).1, (fld 2 (by decide)).2]; exact r2', by rw [(fld 3 (by decide)).1, (fld 3 (by decide)).2]; exact r3, by rw [(hh 292 (by decide) (by decide)).1, l3, if_pos rfl, W4]⟩, fun i hi => ?_, fun c hc => ?_, fun c d hc hd => ?_⟩, ?_⟩
      · rw [W4] at hi
        rw [(hh 293 (by decide) (by decide)).1, (hh 294 (by decide) (by decide)).1, l5, l6, Wj _ (by omega), Wj _ (by omega), (h4h 293 (by decide) (by decide)).1, (h4h 294 (by decide) (by decide)).1]
        by_cases e : i = k
        · rw [if_pos e, if_pos e, if_pos (by omega), if_neg (by omega), if_pos (by omega)]; exact ⟨rfl, rfl⟩
        · rw [if_neg e, if_neg e, if_neg (by omega), if_neg (by omega), if_neg (by omega), if_neg (by omega)]
          exact r5 i (by omega)
      · rw [(hh 292 (by decide) (by decide)).2, l4, (h4h 292 (by decide) (by decide)).2, Wj _ (by omega), if_neg (by omega), if_neg (by omega)]
        exact r6 c hc
      · rw [(hh 295 (by decide) (by decide)).2, l7, (h4h 295 (by decide) (by decide)).2]
        obtain ⟨va', eva'⟩ : ∃ v : Nat, va = v := ⟨va.toNat, by omega⟩
        obtain ⟨vb', evb'⟩ : ∃ v : Nat, vb = v := ⟨vb.toNat, by omega⟩
        have old := r7 c d hc hd
        have ext : (∃ i : Nat, (i : Int) < pi g' 420 4 ∧ pi g' 420 (6 + 2 * i) = d ∧ pi g' 420 (7 + 2 * i) = c) ↔ ((∃ i : Nat, (i : Int) < pi g 420 4 ∧ pi g 420 (6 + 2 * i) = d ∧ pi g 420 (7 + 2 * i) = c) ∨ (va = d ∧ vb = c)) := by
          constructor
          · intro ⟨i, i1, i2, i3⟩
            rw [W4] at i1
            rw [Wj _ (by omega)] at i2 i3
            by_cases e : i = k
            · rw [if_pos (by omega)] at i2
              rw [if_neg (by omega), if_pos (by omega)] at i3
              exact Or.inr ⟨i2, i3⟩
            · rw [if_neg (by omega), if_neg (by omega)] at i2 i3
              exact Or.inl ⟨i, by omega, i2, i3⟩
          · intro u
            rcases u with ⟨i, i1, i2, i3⟩ | ⟨i2, i3⟩
            · exact ⟨i, by rw [W4]; omega, by rw [Wj _ (by omega), if_neg (by omega), if_neg (by omega)]; exact i2, by rw [Wj _ (by omega), if_neg (by omega), if_neg (by omega)]; exact i3⟩
            · exact ⟨k, by rw [W4]; omega, by rw [Wj _ (by omega), if_pos rfl]; exact i2, by rw [Wj _ (by omega), if_neg (by omega), if_pos rfl]; exact i3⟩
        rw [ext]
        by_cases e : c = vb.toNat
        · rw [if_pos e, tb_or, eva', tb_bit (by omega) hd, Bool.or_eq_true, old, decide_eq_true_eq]
          constructor
          · intro u
            rcases u with u | u
            · exact Or.inl u
            · exact Or.inr ⟨by omega, by omega⟩
          · intro u
            rcases u with u | u
            · exact Or.inl u
            · exact Or.inr (by omega)
        · rw [if_neg e, old]
          constructor
          · intro u; exact Or.inl u
          · intro u
            rcases u with u | u
            · exact u
            · omega
      · obtain ⟨k0, kk1, k2, k3, k4, k5, k6⟩ := kW
        refine ⟨by rw [(fld 0 (by decide)).2]; exact k0, by rw [(fld 1 (by decide)).2]; exact kk1, by rw [(fld 2 (by decide)).2]; exact k2, by rw [(fld 3 (by decide)).2]; exact k3, by rw [W4]; omega, fun i hi => ?_, fun c hc => by rw [Wj _ (by omega), if_neg (by omega), if_neg (by omega)]; exact k6 c hc⟩
        rw [W4] at hi
        rw [Wj _ (by omega), Wj _ (by omega)]
        by_cases e : i = k
        · rw [if_pos (by omega), if_neg (by omega), if_pos (by omega)]; omega
        · rw [if_neg (by omega), if_neg (by omega), if_neg (by omega), if_neg (by omega)]
          exact k5 i (by omega)
  · have m1 : (0 : Nat) = 1 := m1
    omega
end Tp
