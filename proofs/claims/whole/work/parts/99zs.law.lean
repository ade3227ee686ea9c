/-! a line of both, but those of frost, shore and bar -/
section Tn
variable {h g : pH} {B : Nat → Int} {n s : Nat} {f q : Int}
theorem line_gen {sr l a2 : Nat} {DR : pH → pH → Prop} {y : Option pH} {g' : pH} (o : OC h) (I : LIs sr DR h g B n s f q) (ht : sr < 3) (k1 : kd B n s = 1) (wl_ : wdl B n s = l) (lo : loS sr ≤ l) (hi : l < hiS sr) (l6 : l ≠ 6) (l8 : l ≠ 8) (l15 : l ≠ 15) (en : ∀ g, pf_Re_numbersOf l g = some a2) (ls : ∀ i, i < sl_n a2 → psc a2 i ≠ 102) (l4 : sl_n a2 ≤ 4)
    (ey : y = some g') (ms : MST g' B n (estp B n (nTs B n (psc a2) (opT B n s f q (ovr h l)) (sl_n a2)))) (fm : FMT g g')
    (tl : ∀ h4, F2 (nXs B n sr (psc a2) (nx B n s) h (sl_n a2)) h4 → pi h4 279 8 = sr → (∀ j, j < sl_n a2 → kd B n (skp B n (nx B n s) j) = 2 ∧ ¬ bdL (psc a2 j) (vl B n (skp B n (nx B n s) j)) (vl B n (skp B n (nx B n s) (j - 1))) j) → f = 0 → ¬ ovr h l → ∃ h5, pf_Re_tellLine l h4 = some h5 ∧ TF h4 h5)
    (cn : ∀ h', pi h' 279 13 = pi h 279 13 + (if l = 9 then 1 else 0) → pi h' 279 14 = pi h 279 14 + (if l = 14 then 1 else 0) → pi h' 279 15 = pi h 279 15 + (if 16 ≤ l then 1 else 0) → (∀ j, j < sl_n a2 → kd B n (skp B n (nx B n s) j) = 2) → kd B n (skp B n (nx B n s) (sl_n a2)) = 4 → CN sr h' g' (nx B n (skp B n (nx B n s) (sl_n a2))))
    (dr : (nTs B n (psc a2) (opT B n s f q (ovr h l)) (sl_n a2)).1 = 0 → (nTs B n (psc a2) (opT B n s f q (ovr h l)) (sl_n a2)).2.2.1 = 0 → f = 0 → ¬ ovr h l → (∀ j, j < sl_n a2 → kd B n (skp B n (nx B n s) j) = 2 ∧ ¬ bdL (psc a2 j) (vl B n (skp B n (nx B n s) j)) (vl B n (skp B n (nx B n s) (j - 1))) j) → ∀ h4 h5 h', F2 (nXs B n sr (psc a2) (nx B n s) h (sl_n a2)) h4 → pi h4 279 8 = sr → pf_Re_tellLine l h4 = some h5 → F2 h5 h' → DR h' g') : LNs sr DR B n h g s (pf_Re_readLine h) y := by
  obtain ⟨c, ef, eq, e8, _, CNN, _⟩ := I
  obtain ⟨n1, n2, n3, _⟩ := CNN
  have sn := c.2.1
  have n600 := c.1.2.2.1
  obtain ⟨r, h', x1, x2, x3, x4, x5, x6, x7, x8, x9⟩ := c_readLine (l := l) (sr := sr) (a2 := a2) o ht e8 c ef eq (by omega) (by omega) (by omega) k1 wl_ lo hi l6 l8 l15 en ls l4 tl
  have e01 := estp_1 (B := B) (n := n) (nTs_01 (B := B) (n := n) (ls := psc a2) (T := opT B n s f q (ovr h l)) (Or.inl rfl) (k := sl_n a2))
  rcases x9 with ⟨w1, r0⟩ | ⟨w0, r1, k4, okk⟩
  · rw [r0] at x1
    exact ln_wrong x1 ey x2 fm x8 ms w1
  · obtain ⟨y1, y2, y3⟩ := e01.2 w0
    have nw := nTs_w y1
    have esk : (nTs B n (psc a2) (opT B n s f q (ovr h l)) (sl_n a2)).2.1 = skp B n (nx B n s) (sl_n a2) := nw.2.1
    have cnn := cn h' x5 x6 x7 (fun j hj => (nw.2.2.2 j hj).1) k4
    generalize hT : nTs B n (psc a2) (opT B n s f q (ovr h l)) (sl_n a2) = TT at *
    obtain ⟨tw, ts, tf, tq⟩ := TT
    have nxs := nx_ok (B := B) sn
    have bk := bnd_skp (B := B) (n := n) (s := nx B n s) (k := sl_n a2) nxs.1
    have esk : ts = skp B n (nx B n s) (sl_n a2) := esk
    have nxt := nx_ok (B := B) (n := n) (s := ts) (by rw [esk]; exact bk.1)
    have y2 : kd B n ts = 4 := y2
    have y3 : estp B n (tw, ts, tf, tq) = (0, nx B n ts, tf, tq) := y3
    rw [y3] at x8 ms okk
    have okk : tf = 0 → _ := okk
    rcases x8 with ⟨_, z2, z3, z4⟩ | ⟨z1, _⟩
    · have z2 : CTx h' B n (nx B n ts) := z2
      have z3 : pi h' 279 3 = tf := z3
      have z4 : pi h' 279 4 = tq := z4
      have s1 := nxs.2.2.1 (by omega)
      have s2 := nxt.2.2.1 (by omega)
      refine ⟨r, h', g', x1, ey, x2, fm, Or.inr ⟨r1, nx B n ts, tf, tq, by omega, z2, z3, z4, x3, ms, by rw [esk]; exact cnn, fun f0 => ?_⟩⟩
      obtain ⟨f00, no, all, h4, h5, t1, t2, t3, t4⟩ := okk f0
      exact dr y1 f0 f00 no all h4 h5 h' t1 t2 t3 t4
    · have z1 : (0 : Nat) = 1 := z1
      omega
/-- a word of which no line is, for both -/
theorem noline_gen {sr : Nat} {DR : pH → pH → Prop} {y : Option pH} {g' : pH} (o : OC h) (I : LIs sr DR h g B n s f q) (ht : sr < 3) (no : ¬ (kd B n s = 1 ∧ loS sr ≤ wdl B n s ∧ wdl B n s < hiS sr)) (ey : y = some g') (ms : MST g' B n (1, s, 1, (s : Int))) (fm : FMT g g') : LNs sr DR B n h g s (pf_Re_readLine h) y := by
  obtain ⟨c, ef, eq, e8, _⟩ := I
  obtain ⟨h', c1, c2, c3⟩ := c_noLine o ht e8 c no
  exact ln_wrong c1 ey c2.1 fm c3 ms rfl
theorem opT_no {ov : Prop} (h : ¬ (f = 0 ∧ ov)) : opT B n s f q ov = (0, nx B n s, f, q) := by
  unfold opT
  rw [cif_f h, cif_f h]
end Tn
/-! laws -/
def DR1 (h g : pH) : Prop := WR h 292 (pi g 420) ∧ WK (pi g 420)
theorem WR_set {h h' : pH} {W W' : Nat → Int} {i0 : Nat} {v : Int} (R : WR h 292 W) (i3 : i0 < 4) (e0 : ∀ j, j < 5 → pi h' 292 j = if j = i0 then v else pi h 292 j) (el : pl h' 292 = pl h 292) (f : fr (fun b => b < 293 ∨ 295 < b) h h') (eW : ∀ j, W' j = if j = i0 then v else W j) : WR h' 292 W' := by
  obtain ⟨⟨r0, r1, r2, r3, r4⟩, r5, r6, r7⟩ := R
  have e4 : W' 4 = W 4 := by rw [eW, if_neg (by omega)]
  refine ⟨⟨by rw [e0 0 (by omega), eW, r0], by rw [e0 1 (by omega), eW, r1], by rw [e0 2 (by omega), eW, r2], by rw [e0 3 (by omega), eW, r3], by rw [e0 4 (by omega), eW, r4]⟩, fun k hk => ?_, fun c hc => ?_, fun c d hc hd => ?_⟩
  · rw [e4] at hk
    rw [fr_i f (by omega), fr_i f (by omega), eW, eW, if_neg (by omega), if_neg (by omega)]
    exact r5 k hk
  · rw [el, eW, if_neg (by omega)]
    exact r6 c hc
  · rw [fr_l f (by omega)]
    refine (r7 c d hc hd).trans ⟨fun ⟨k, a, b, e⟩ => ⟨k, by rw [e4]; exact a, by rw [eW, if_neg (by omega)]; exact b, by rw [eW, if_neg (by omega)]; exact e⟩, fun ⟨k, a, b, e⟩ => ?_⟩
    rw [e4] at a
    rw [eW, if_neg (by omega)] at b e
    exact ⟨k, a, b, e⟩
section To_
variable {h g : pH} {B : Nat → Int} {n s : Nat} {f q : Int}
theorem law_ov {l : Nat} (I : LIs 1 DR1 h g B n s f q) (l9 : l ≠ 9) (l14 : l ≠ 14) (l16 : l < 16) : ¬ (f = 0 ∧ ovr h l) := fun v => by
  obtain ⟨c, ef, eq, e8, ms, ⟨n1, n2, n3, n4, n5, n6, n7, n8, n9⟩, dr⟩ := I
  have w4 := (dr v.1).2.2.2.2.2.1
  have a := n5 rfl
  have b := n7 (by decide)
  have d := n9 (by decide)
  have ov := v.2
  unfold ovr at ov
  rw [if_neg l9, if_neg l14, if_neg (by omega)] at ov
  omega
/-- least, apart, share, rent -/
theorem law_simple {l a2 : Nat} {lo hi : Int} (o : OC h) (I : LIs 1 DR1 h g B n s f q) (k1 : kd B n s = 1) (wl_ : wdl B n s = l) (l10 : 10 ≤ l) (l13 : l ≤ 13) (en : ∀ g, pf_Re_numbersOf l g = some a2) (sl : sl_n a2 = 1) (p0 : psc a2 0 ≠ 102 ∧ psc a2 0 ≠ 111 ∧ psc a2 0 ≠ 99) (elo : loL (psc a2 0) = lo) (ehi : hiL (psc a2 0) = hi) (lh : lo = 0 ∧ hi = (if l = 11 then 9 else (if l = 12 then 10 else 99))) : LNs 1 DR1 B n h g s (pf_Re_readLine h) (pf_M_lawLine g) := by
  have II := I
  have no := law_ov (l := l) I (by omega) (by omega) (by omega)
  obtain ⟨c, ef, eq, e8, ms, CNN, dr⟩ := I
  obtain ⟨n1, n2, n3, n4, n5, n6, n7, n8, n9⟩ := CNN
  have n600 := c.1.2.2.1
  have sn := c.2.1
  rcases ms with ⟨_, m2, m3, m4, m5, m6⟩ | ⟨m1, _⟩
  · have m2 : MT g B n s := m2
    have m4 : pi g 418 4 = f := m4
    have m5 : pi g 418 5 = q := m5
    have m6 : FOK s f q := m6
    obtain ⟨g1, t1, t2, t3⟩ := (m_takes (lo := 11) (hi := 16) m2 m3 m4 m5 (by unfold FOK at m6; omega) (by decide)).1 ⟨k1, by omega, by omega⟩
    rw [← opT_no no] at t3
    obtain ⟨g2, b1, b2, b3, b4⟩ := m_nk (ls := psc a2) (T := opT B n s f q (ovr h l)) (k := 0) (lo := lo) (hi := hi) t3 p0.2.1 elo ehi
    have MG : MST (pwI g2 420 (l - 10) (nvl B n lo hi (opT B n s f q (ovr h l)))) B n (nTs B n (psc a2) (opT B n s f q (ovr h l)) 1) := MST_n b2 (fun j _ => pi_wIa (by decide)) (fun j _ => pi_wIa (by decide))
    obtain ⟨g', d1, d2, d3, d4⟩ := m_endsLine MG
    have em : pf_M_lawLine g = some g' := by
      have b1' : pf_M_numbered lo hi g1 = some (nvl B n lo hi (opT B n s f q (ovr h l)), g2) := b1
      have tail : ∀ H, pf_M_endsLine H = some g' → pj_M_lawLine_64 (pi g 417 4) (((l : Nat) : Int) + 1) H = some g' := fun H e => by
        unfold pj_M_lawLine_64 pj_M_lawLine_157 pj_M_lawLine_169
        rw [if_neg (by omega), if_neg (by omega), e, bsm]
      unfold pf_M_lawLine
      rw [t1, bsm]
      simp only []
      rw [wl_, if_neg (by omega), if_neg (by omega), show wr (((l : Nat) : Int) + 1 - 11) = ((l - 10 : Nat) : Int) from by rw [wr_eq (by omega) (by omega)]; omega]
      unfold pj_M_lawLine_60
      obtain ⟨lh1, lh2⟩ := lh
      by_cases e1 : l = 11
      · rw [if_pos e1] at lh2
        rw [if_pos (by omega), ← lh1, ← lh2, b1', bsm, gib (by omega) (by omega), Int.toNat_natCast]
        exact tail _ d1
      · rw [if_neg (by omega)]
        rw [if_neg e1] at lh2
        by_cases e2 : l = 12
        · rw [if_pos e2] at lh2
          rw [if_pos (by omega), ← lh1, ← lh2, b1', bsm, gib (by omega) (by omega), Int.toNat_natCast]
          exact tail _ d1
        · rw [if_neg e2] at lh2
          rw [if_neg (by omega), ← lh1, ← lh2, b1', bsm, gib (by omega) (by omega), Int.toNat_natCast]
          exact tail _ d1
    have e420 : pi g' 420 = up1 (pi g 420) (l - 10) (nvl B n lo hi (opT B n s f q (ovr h l))) := by
      rw [MN_i d3 (by decide), up1_pi, MN_i b3 (by decide), fr_fi t2.1 (by decide)]
    have fm : FMT g g' := FMT_trans (MN_FMT (MA_MN t2)) (FMT_trans (MN_FMT b3) (FMT_trans (FMT_w (Or.inl rfl)) (MN_FMT d3)))
    have tel_ : ∀ h4, pi h4 279 8 = 1 → pf_Re_tellLine l h4 = some (pwI h4 292 (l - 10) (pi h4 301 0)) := fun h4 e => by
      unfold pf_Re_tellLine pf_Re_tellLaw
      rw [e, if_neg (by decide), if_pos rfl]
      rcases (show l = 10 ∨ l = 11 ∨ l = 12 ∨ l = 13 by omega) with rfl | rfl | rfl | rfl
      · rw [if_pos (by decide), bsm]
      · rw [if_neg (by decide), if_pos (by decide), bsm]
      · rw [if_neg (by decide), if_neg (by decide), if_pos (by decide), bsm]
      · rw [if_neg (by decide), if_neg (by decide), if_neg (by decide), if_pos (by decide), bsm]
    refine line_gen (l := l) (a2 := a2) (g' := g') o II (by decide) k1 wl_ (by show 10 ≤ l; omega) (by show l < 16; omega) (by omega) (by omega) (by omega) en (fun i hi => by rw [show i = 0 by omega]; exact p0.1) (by omega) em (by rw [sl]; exact d2) fm (fun h4 z1 z2 z3 z4 z5 => ⟨_, tel_ h4 z2, fr_wI fr_refl (by omega)⟩) (fun h' x5 x6 x7 _ k4 => ?_) (fun w0 f0 f00 nov all h4 h5 h' z1 z2 z3 z4 => ?_)
    · rw [sl]
      have b := nx_ok (B := B) sn
      have b' := bnd_skp (B := B) (n := n) (s := nx B n s) (k := 1) b.1
      have b2' := nx_ok (B := B) (n := n) (s := skp B n (nx B n s) 1) b'.1
      rw [if_neg (by omega)] at x5 x6 x7
      have e4 : pi g' 420 4 = pi g 420 4 := by rw [e420, up1_n (by omega)]
      exact ⟨by omega, by omega, by omega, fun v => by omega, fun _ => by rw [e4, n5 rfl, x6]; omega, fun v => by omega, fun _ => by rw [x5, n7 (by decide)]; omega, fun v => absurd rfl v, fun _ => by rw [x7, n9 (by decide)]; omega⟩
    · rw [tel_ h4 z2] at z3
      have eH : h5 = pwI h4 292 (l - 10) (pi h4 301 0) := by cases z3; rfl
      rw [sl] at z1 w0 f0
      have v0 : pi h4 301 0 = vl B n (skp B n (nx B n s) 0) := by rw [fr_i z1 (by omega)]; exact nXs_i (by decide) (by decide)
      obtain ⟨nv1, nv2, nv3⟩ := nvl_ok (ls := psc a2) (T := opT B n s f q (ovr h l)) (k := 0) (m := 1) (lo := lo) (hi := hi) (by decide) w0 f0 (Or.inr p0.2.1) elo ehi
      have nv1 : nvl B n lo hi (opT B n s f q (ovr h l)) = vl B n (nx B n s) := nv1
      have nv2 : lo ≤ vl B n (nx B n s) := nv2
      have nv3 : vl B n (nx B n s) ≤ hi := nv3
      have v0 : pi h4 301 0 = vl B n (nx B n s) := v0
      rw [v0] at eH
      rw [nv1] at e420
      obtain ⟨R, kW⟩ := dr f00
      have nX : nXs B n 1 (psc a2) (nx B n s) h 1 = NHp h 0 (vl B n (nx B n s)) := rfl
      rw [nX] at z1
      have fh4 : fr (fun b => b = 279 ∨ b = 301) h h4 := fr_trans (fr_mono (show fr (fun b => b = 301) h (NHp h 0 (vl B n (nx B n s))) from fr_wI fr_refl rfl) (fun b hb => Or.inr hb)) (fr_mono z1 (fun b hb => Or.inl hb))
      have fh' : fr (fun b => b = 279 ∨ b = 301 ∨ b = 292) h h' := by
        rw [eH] at z4
        exact fr_trans (fr_wI (fr_mono fh4 (fun b hb => by omega)) (by omega)) (fr_mono z4 (fun b hb => by omega))
      refine ⟨WR_set (i0 := l - 10) (v := vl B n (nx B n s)) R (by omega) (fun j hj => ?_) ?_ (fr_mono fh' (fun b hb => by omega)) (fun j => by rw [e420]; rfl), ?_⟩
      · rw [fr_i z4 (by omega), eH]
        by_cases e : j = l - 10
        · rw [if_pos e, e, pi_wIs]
        · rw [if_neg e, pi_wIi e, fr_i fh4 (by omega)]
      · rw [fr_fl z4 (by omega), eH]
        show pl h4 292 = _
        exact fr_fl fh4 (by omega)
      · rw [e420]
        obtain ⟨k0, kk1, k2, k3, k4, k5, k6⟩ := kW
        obtain ⟨lh1, lh2⟩ := lh
        have u : ∀ j, up1 (pi g 420) (l - 10) (vl B n (nx B n s)) j = if j = l - 10 then vl B n (nx B n s) else pi g 420 j := fun j => rfl
        have u4 : up1 (pi g 420) (l - 10) (vl B n (nx B n s)) 4 = pi g 420 4 := up1_n (by omega)
        refine ⟨?_, ?_, ?_, ?_, by rw [u4]; exact k4, fun k hk => ?_, fun c hc => by rw [up1_n (by omega)]; exact k6 c hc⟩
        · rw [u]; split
          · rw [if_neg (by omega), if_neg (by omega)] at lh2; omega
          · exact k0
        · rw [u]; split
          · rw [if_pos (by omega)] at lh2; omega
          · exact kk1
        · rw [u]; split
          · rw [if_neg (by omega), if_pos (by omega)] at lh2; omega
          · exact k2
        · rw [u]; split
          · rw [if_neg (by omega), if_neg (by omega)] at lh2; omega
          · exact k3
        · rw [u4] at hk
          rw [up1_n (by omega), up1_n (by omega)]
          exact k5 k hk
  · have m1 : (0 : Nat) = 1 := m1
    omega
end To_
