/-! lakes: cracks -/
section Tv
variable {h g : pH} {B : Nat → Int} {n s : Nat} {f q : Int}
theorem c_crack {h : pH} {a b : Int} (ra : 0 ≤ a ∧ a < 36) (rb : 0 ≤ b ∧ b < 36) (ne : a ≠ b) : ∃ H, pf_La_crackBetween 280 a b h = some H ∧ (∀ x, pi H x = pi h x) ∧ (∀ x, pr H x = pr h x) ∧ (∀ x, x ≠ 284 → pl H x = pl h x) ∧ ∀ c, pl H 284 c = if c = b.toNat then (pl h 284 c ||| plshl 1 a) else (if c = a.toNat then (pl h 284 c ||| plshl 1 b) else pl h 284 c) := by
  unfold pf_La_crackBetween
  rw [gib ra.1 (by omega), c_bit, bsm, gib ra.1 (by omega), gib rb.1 (by omega), c_bit, bsm, gib rb.1 (by omega)]
  refine ⟨_, rfl, fun x => by rw [pi_wLf, pi_wLf], fun x => rfl, fun x hx => ?_, fun c => ?_⟩
  · funext j
    rw [pl_wLa hx, pl_wLa hx]
  · show pl (pwL (pwL h 284 _ _) 284 _ _) 284 c = _
    rw [pl_wL]
    by_cases y : c = b.toNat
    · rw [if_pos ⟨rfl, y⟩, if_pos y, pl_wL, if_neg (by omega), y]
    · rw [if_neg (fun u => y u.2), if_neg y, pl_wL]
      by_cases z : c = a.toNat
      · rw [if_pos ⟨rfl, z⟩, if_pos z, z]
      · rw [if_neg (fun u => z u.2), if_neg z]
theorem lake_crack (o : OC h) (I : LIs 0 DR0 h g B n s f q) (k1 : kd B n s = 1) (wl_ : wdl B n s = (5 : Nat)) : LNs 0 DR0 B n h g s (pf_Re_readLine h) (pf_M_lakeLine g) := by
  have no := lake_ov (l := 5) I (by decide) (by decide) (by decide)
  obtain ⟨g1, t1, t2, t3, e4⟩ := lake_takes I k1 wl_ (by decide)
  have drr := I.2.2.2.2.2.2
  have a0 : psc 33 0 = 99 := by decide +kernel
  have a1 : psc 33 1 = 111 := by decide +kernel
  have sl : sl_n 33 = 2 := by decide +kernel
  have CNN := I.2.2.2.2.2.1
  have n600 := I.1.1.2.2.1
  have sn := I.1.2.1
  have n4 := CNN.2.2.2.1 rfl
  rw [← opT_no no] at t3
  obtain ⟨g2, b1, b2, b3, b4⟩ := m_ck (ls := psc 33) (T := opT B n s f q (ovr h 5)) (k := 0) t3 a0
  obtain ⟨g3, c1, c2, c3, c4⟩ := m_ok (ls := psc 33) (T := opT B n s f q (ovr h 5)) (k := 1) b2 (by decide) (by decide) a0 a1
  generalize ev0 : nvl B n 0 35 (nTs B n (psc 33) (opT B n s f q (ovr h 5)) 0) = v0 at *
  generalize ev1 : nvl B n 0 35 (nTs B n (psc 33) (opT B n s f q (ovr h 5)) 1) = v1 at *
  have k11 : pi g3 417 11 = pi g 417 11 := by rw [c3.2.1 11 (by omega), b3.2.1 11 (by omega), t2.2 11 (by omega)]
  obtain ⟨k, ek⟩ : ∃ k : Nat, pi g 417 11 = k := ⟨(pi g 417 11).toNat, by clear CNN; omega⟩
  have k66 : k < 68 := by clear CNN; omega
  have sto : pf_M_crackLine g1 = some (pwI (pwI (pwI g3 421 (2 * k) v0) 421 (2 * k + 1) v1) 417 11 ((k : Int) + 1)) := by
    clear CNN drr n4
    unfold pf_M_crackLine pj_M_crackLine_46
    rw [b1, bsm]
    simp only []
    rw [c1, bsm]
    simp only []
    rw [k11, ek, if_neg (by omega), wr_eq (x := 2 * (k : Int)) (by omega) (by omega), gib (by omega) (by omega), show (2 * (k : Int)).toNat = 2 * k by omega, pi_wIa (by decide), k11, ek, wr_eq (x := 2 * (k : Int)) (by omega) (by omega), wr_eq (x := 2 * (k : Int) + 1) (by omega) (by omega), gib (by omega) (by omega), show (2 * (k : Int) + 1).toNat = 2 * k + 1 by omega, pi_wIa (by decide), pi_wIa (by decide), k11, ek, wr_eq (by omega) (by omega)]
  generalize eG : pwI (pwI (pwI g3 421 (2 * k) v0) 421 (2 * k + 1) v1) 417 11 ((k : Int) + 1) = G at *
  have G7 : ∀ j, j ≠ 11 → pi G 417 j = pi g3 417 j := fun j hj => by rw [← eG, pi_wIi hj, pi_wIa (by decide), pi_wIa (by decide)]
  have G11 : pi G 417 11 = (k : Int) + 1 := by rw [← eG, pi_wIs]
  have Gb : ∀ b, b ≠ 417 → b ≠ 421 → pi G b = pi g3 b := fun b x y => by rw [← eG, pi_wIf x, pi_wIf y, pi_wIf y]
  have G21 : ∀ j, pi G 421 j = if j = 2 * k then v0 else (if j = 2 * k + 1 then v1 else pi g3 421 j) := fun j => by
    rw [← eG, pi_wIa (by decide)]
    by_cases y : j = 2 * k + 1
    · rw [if_neg (by omega), if_pos y, y, pi_wIs]
    · rw [pi_wIi y, if_neg y]
      by_cases z : j = 2 * k
      · rw [if_pos z, z, pi_wIs]
      · rw [if_neg z, pi_wIi z]
  have fG : FMT g3 G := by rw [← eG]; exact FMT_trans (FMT_trans (FMT_w (Or.inr rfl)) (FMT_w (Or.inr rfl))) FMT_11
  obtain ⟨g', d1, d2, d3, d4⟩ := m_endsLine (g := G) (MST_n c2 (fun j hj => G7 j (by omega)) (fun j _ => by rw [Gb 418 (by decide) (by decide)]))
  have em : pf_M_lakeLine g = some g' := by
    unfold pf_M_lakeLine
    rw [t1, bsm]
    simp only []
    rw [if_neg (by decide), k44 (by decide), k84 (by decide)]
    unfold pj_M_lakeLine_152
    rw [if_pos (by decide), sto, bsm, k162 (by decide), k172 (by decide), k191 (by decide), k203 (by decide), d1]
  have eR : pi g' 420 = pi g 420 := by rw [MN_i d3 (by decide), Gb 420 (by decide) (by decide), MN_i c3 (by decide), MN_i b3 (by decide), fr_fi t2.1 (by decide)]
  have e11 : pi g' 417 11 = (k : Int) + 1 := by rw [d3.2.1 11 (by omega)]; exact G11
  have e9 : pi g' 417 9 = max (max (pi g 417 9) v0) v1 := by rw [d4, G7 9 (by decide), c4, b4, t2.2 9 (by omega)]
  have e21 : ∀ j, pi g' 421 j = if j = 2 * k then v0 else (if j = 2 * k + 1 then v1 else pi g 421 j) := fun j => by rw [MN_i d3 (by decide), G21, MN_i c3 (by decide), MN_i b3 (by decide), fr_fi t2.1 (by decide)]
  have fm : FMT g g' := FMT_trans (MN_FMT (MA_MN t2)) (FMT_trans (MN_FMT b3) (FMT_trans (MN_FMT c3) (FMT_trans fG (MN_FMT d3))))
  have te : ∀ h4, pi h4 279 8 = (0 : Nat) → pf_Re_tellLine (5 : Nat) h4 = pf_La_crackBetween 280 (pi h4 301 0) (pi h4 301 1) h4 := fun h4 e => by
    rw [tll e]
    unfold pf_Re_tellLake
    rw [if_neg (by decide), if_neg (by decide), if_neg (by decide), if_neg (by decide), if_neg (by decide), if_pos (by decide)]
    cases pf_La_crackBetween 280 (pi h4 301 0) (pi h4 301 1) h4 <;> rfl
  have rng : (∀ j, j < sl_n 33 → kd B n (skp B n (nx B n s) j) = 2 ∧ ¬ bdL (psc 33 j) (vl B n (skp B n (nx B n s) j)) (vl B n (skp B n (nx B n s) (j - 1))) j) → (0 ≤ vl B n (skp B n (nx B n s) 0) ∧ vl B n (skp B n (nx B n s) 0) < 36) ∧ (0 ≤ vl B n (skp B n (nx B n s) 1) ∧ vl B n (skp B n (nx B n s) 1) < 36) ∧ vl B n (skp B n (nx B n s) 0) ≠ vl B n (skp B n (nx B n s) 1) := fun all => by
    have z0 := (all 0 (by rw [sl]; decide)).2
    have z1 := (all 1 (by rw [sl]; decide)).2
    rw [a0] at z0
    rw [a1] at z1
    have p0 : 0 ≤ vl B n (skp B n (nx B n s) 0) ∧ vl B n (skp B n (nx B n s) 0) ≤ 35 := by
      rcases Classical.em (0 ≤ vl B n (skp B n (nx B n s) 0) ∧ vl B n (skp B n (nx B n s) 0) ≤ 35) with u | u
      · exact u
      · exact absurd (Or.inl u) z0
    have p1 : 0 ≤ vl B n (skp B n (nx B n s) 1) ∧ vl B n (skp B n (nx B n s) 1) ≤ 35 := by
      rcases Classical.em (0 ≤ vl B n (skp B n (nx B n s) 1) ∧ vl B n (skp B n (nx B n s) 1) ≤ 35) with u | u
      · exact u
      · exact absurd (Or.inl u) z1
    exact ⟨⟨p0.1, Int.lt_of_le_of_lt p0.2 (by decide)⟩, ⟨p1.1, Int.lt_of_le_of_lt p1.2 (by decide)⟩, fun e => z1 (Or.inr ⟨rfl, by decide, by decide, e.symm⟩)⟩
  refine line_gen (l := 5) (a2 := 33) (g' := g') o I (by decide) k1 wl_ (by decide) (by decide) (by decide) (by decide) (by decide) (nOf 5 (by decide)) (by decide +kernel) (by decide +kernel) em (by rw [sl]; exact d2) fm (fun h4 z1 z2 z3 z4 z5 => ?_) (fun h' x5 x6 x7 kk k4 => ?_) (fun w0 f0 f00 nov all h4 h5 h' z1 z2 z3 z4 => ?_)
  · rw [sl] at z1
    obtain ⟨y1, y2, y3, y4⟩ := h4_of (by decide) z1
    obtain ⟨r1, r2, r3⟩ := rng z3
    obtain ⟨H, x1, x2, x3, x4, x5⟩ := c_crack (h := h4) (a := pi h4 301 0) (b := pi h4 301 1) (by rw [y1 0 (by decide)]; exact r1) (by rw [y1 1 (by decide)]; exact r2) (by rw [y1 0 (by decide), y1 1 (by decide)]; exact r3)
    refine ⟨H, by rw [te h4 z2]; exact x1, fun b hb j => ⟨by rw [x2], by rw [x4 b (by omega)], by rw [x3]⟩⟩
  · rw [sl] at kk k4 ⊢
    rw [if_neg (by decide), Int.add_zero] at x5
    rw [if_neg (by decide), Int.add_zero] at x6
    rw [if_neg (by decide), Int.add_zero] at x7
    have b := nx_ok (B := B) sn
    have wd := ((wdl_i sn k1 (l := 5) (by decide)).mp wl_).1
    have ln5 : lnw 5 = 5 := by decide
    have af1 := (af_ok (B := B) sn).2.1
    have q0 := nx_ok (B := B) (n := n) (s := nx B n s) b.1
    have q0' := q0.2.2.2.1 (kk 0 (by decide)) (kk 1 (by decide))
    have q1 := nx_ok (B := B) (n := n) (s := nx B n (nx B n s)) q0.1
    have q1' := q1.2.2.1 (by have := kk 1 (by decide); have this : kd B n (nx B n (nx B n s)) = 2 := this; rw [this]; decide)
    have q2 := nx_ok (B := B) (n := n) (s := nx B n (nx B n (nx B n s))) q1.1
    have q2' := q2.2.2.1 (by have k4 : kd B n (nx B n (nx B n (nx B n s))) = 4 := k4; rw [k4]; decide)
    have big : s + 9 ≤ nx B n (nx B n (nx B n (nx B n s))) := by
      have b5 := b.2.2.2.2
      clear CNN n4 kk k4 rng drr no
      omega
    obtain ⟨n1, n2, n3, n4, n5, n6, n7, n8, n9⟩ := CNN
    have n4 := n4 rfl
    have gen : ∀ x : Nat, s + 9 ≤ x → CN 0 h' g' x := fun x hx => by
      refine ⟨by rw [x5]; clear n4 n5 n6 n7 n8 n9 rng; omega, by rw [x6]; clear n4 n5 n6 n7 n8 n9 rng; omega, by rw [x7]; clear n4 n5 n6 n7 n8 n9 rng; omega, fun _ => ?_, fun v => by omega, fun v => by omega, fun v => absurd rfl v, fun v => by rw [x6]; exact n8 v, fun v => by rw [x7]; exact n9 v⟩
      rw [eR, x5, e11]
      clear n5 n6 n7 n8 n9 rng
      omega
    exact gen _ big
  · rw [sl] at z1 w0 f0
    obtain ⟨y1, y2, y3, y4⟩ := h4_of (by decide) z1
    obtain ⟨r1, r2, r3⟩ := rng all
    rw [te h4 z2] at z3
    obtain ⟨H, u1, u2, u3, u4, u5⟩ := c_crack (h := h4) (a := pi h4 301 0) (b := pi h4 301 1) (by rw [y1 0 (by decide)]; exact r1) (by rw [y1 1 (by decide)]; exact r2) (by rw [y1 0 (by decide), y1 1 (by decide)]; exact r3)
    rw [u1] at z3
    have eH : h5 = H := by cases z3; rfl
    subst eH
    have m0 := (nvl_ok (ls := psc 33) (T := opT B n s f q (ovr h 5)) (k := 0) (m := 2) (lo := 0) (hi := 35) (by decide) w0 f0 (Or.inr (by rw [a0]; decide)) (by rw [a0]; rfl) (by rw [a0]; rfl)).1
    have m1 := (nvl_ok (ls := psc 33) (T := opT B n s f q (ovr h 5)) (k := 1) (m := 2) (lo := 0) (hi := 35) (by decide) w0 f0 (Or.inl a1) (by rw [a1]; rfl) (by rw [a1]; rfl)).1
    have x0 : pi h4 301 0 = v0 := by rw [y1 0 (by decide), ← ev0]; exact m0.symm
    have x1 : pi h4 301 1 = v1 := by rw [y1 1 (by decide), ← ev1]; exact m1.symm
    have q0 : 0 ≤ v0 ∧ v0 < 36 := by rw [← x0, y1 0 (by decide)]; exact r1
    have q1 : 0 ≤ v1 ∧ v1 < 36 := by rw [← x1, y1 1 (by decide)]; exact r2
    have q2 : v0 ≠ v1 := by rw [← x0, ← x1, y1 0 (by decide), y1 1 (by decide)]; exact r3
    rw [x0, x1] at u5
    obtain ⟨va, eva⟩ : ∃ v : Nat, v0 = v := ⟨v0.toNat, by omega⟩
    obtain ⟨vb, evb⟩ : ∃ v : Nat, v1 = v := ⟨v1.toNat, by omega⟩
    obtain ⟨da, dt, ds, df, dp, dc, dn⟩ := drr f00
    have pb : ∀ b, 280 ≤ b → b ≤ 300 → pi h' b = pi h b := fun b b1 b2 => by
      rw [fr_fi z4 (by omega)]
      funext j
      rw [u2, y2 b b1 b2]
    have p0 : pi h' 280 = pi h 280 := pb 280 (by decide) (by decide)
    have lb : ∀ b j, 280 ≤ b → b ≤ 300 → b ≠ 284 → (b ≠ 280 ∨ j ≠ 8) → pl h' b j = pl h b j := fun b j b1 b2 b3 hb => by rw [fr_l z4 (by omega), u4 b b3]; exact y3 b j b1 b2 hb
    have l8 : pl h' 280 8 = (pl h 280 8 ||| plshl 1 v0) ||| plshl 1 v1 := by
      rw [fr_l z4 (by decide), u4 280 (by decide), y4, nXs_nm, nXs_nm, if_pos (Or.inr a1), if_pos (Or.inl a0), ← y1 0 (by decide), ← y1 1 (by decide), x0, x1]; rfl
    have dn2 : D0n h' g' := by
      have dx := dn.2.2.2
      have s1 : D0n (pwL h 280 8 (pl h 280 8 ||| plshl 1 v0)) (pwI g 417 9 (max (pi g 417 9) v0)) := D0n_1 dn (by omega) pl_wLs pi_wIs (EX_c dx dp.2.1 (pi_wIa (by decide)) (fun j _ _ => pi_wIa (by decide)) (pi_wIf (by decide)) (pi_wIi (by decide)) (by rw [pi_wIs]; omega))
      refine D0n_1 s1 (v := v1) (by omega) (by rw [pl_wLs]; exact l8) (by rw [pi_wIs]; exact e9) ⟨fun t ht => ?_, fun i hi => ?_⟩
      · rw [eR] at ht
        rw [eR, e9]
        have := dx.1 t ht
        omega
      · rw [e11] at hi
        rw [e21, e21, e9]
        by_cases e : i = k
        · rw [if_pos (by omega), if_neg (by omega), if_pos (by omega)]; omega
        · rw [if_neg (by omega), if_neg (by omega), if_neg (by omega), if_neg (by omega)]
          have := dx.2 i (by rw [ek]; omega)
          omega
    refine ⟨D0a_c da (fun j _ => by rw [p0]) (fun j hj => by rw [eR]), D0t_c dt ⟨pb 281 (by decide) (by decide), pb 282 (by decide) (by decide), pb 283 (by decide) (by decide)⟩ (fun j j1 j2 => by rw [eR]) (fun j j1 j2 => by rw [eR]), D0s_c ds (lb 280 7 (by decide) (by decide) (by decide) (Or.inr (by decide))) (fun j j1 j2 => by rw [eR]), D0f_c df (by rw [p0]) (pb 285 (by decide) (by decide)) (by rw [eR]) (fun j j1 j2 => by rw [eR]), D0p_c dp (by rw [p0]) ⟨pb 286 (by decide) (by decide), pb 287 (by decide) (by decide), pb 288 (by decide) (by decide), pb 289 (by decide) (by decide)⟩ (by rw [eR]) (fun j j1 j2 => by rw [eR]), ⟨by rw [e11]; omega, fun a b ha hb => ?_, fun i hi => ?_⟩, dn2⟩
    · have old := dc.2.1 a b ha hb
      rw [ek, Int.toNat_natCast] at old
      rw [e11, show ((k : Int) + 1).toNat = k + 1 by omega]
      have ext : crk (pi g' 421) (k + 1) a b ↔ (crk (pi g 421) k a b ∨ (v0 = a ∧ v1 = b) ∨ (v0 = b ∧ v1 = a)) := by
        constructor
        · intro ⟨i, i1, i2⟩
          rw [e21, e21] at i2
          by_cases e : i = k
          · rw [if_pos (by omega), if_neg (by omega), if_pos (by omega)] at i2
            exact Or.inr i2
          · rw [if_neg (by omega), if_neg (by omega), if_neg (by omega), if_neg (by omega)] at i2
            exact Or.inl ⟨i, by omega, i2⟩
        · intro u
          rcases u with ⟨i, i1, i2⟩ | u
          · refine ⟨i, by omega, ?_⟩
            rw [e21, e21, if_neg (by omega), if_neg (by omega), if_neg (by omega), if_neg (by omega)]
            exact i2
          · refine ⟨k, by omega, ?_⟩
            rw [e21, e21, if_pos rfl, if_neg (by omega), if_pos rfl]
            exact u
      rw [ext, fr_l z4 (by decide), u5, y3 284 a (by decide) (by decide) (Or.inl (by decide)), ← old]
      by_cases e1 : a = v1.toNat
      · rw [if_pos e1, tb_or, eva, tb_bit (by omega) hb, Bool.or_eq_true, decide_eq_true_eq]
        refine ⟨fun u => ?_, fun u => ?_⟩
        · rcases u with u | u
          · exact Or.inl u
          · exact Or.inr (Or.inr ⟨by omega, by omega⟩)
        · rcases u with u | u | u
          · exact Or.inl u
          · exfalso; omega
          · exact Or.inr (by omega)
      · rw [if_neg e1]
        by_cases e2 : a = v0.toNat
        · rw [if_pos e2, tb_or, evb, tb_bit (by omega) hb, Bool.or_eq_true, decide_eq_true_eq]
          refine ⟨fun u => ?_, fun u => ?_⟩
          · rcases u with u | u
            · exact Or.inl u
            · exact Or.inr (Or.inl ⟨by omega, by omega⟩)
          · rcases u with u | u | u
            · exact Or.inl u
            · exact Or.inr (by omega)
            · exfalso; omega
        · rw [if_neg e2]
          refine ⟨Or.inl, fun u => ?_⟩
          rcases u with u | u | u
          · exact u
          · exfalso; omega
          · exfalso; omega
    · rw [e11] at hi
      rw [e21, e21]
      by_cases e : i = k
      · rw [if_pos (by omega), if_neg (by omega), if_pos (by omega)]
        exact ⟨by omega, by omega, q2⟩
      · rw [if_neg (by omega), if_neg (by omega), if_neg (by omega), if_neg (by omega)]
        exact dc.2.2 i (by rw [ek]; omega)
end Tv
