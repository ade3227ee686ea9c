/-! lakes: lines -/
section Tt
variable {h g : pH} {B : Nat → Int} {n s : Nat} {f q : Int}
theorem tll {l : Nat} {h4 : pH} (e : pi h4 279 8 = (0 : Nat)) : pf_Re_tellLine l h4 = pf_Re_tellLake l h4 := by
  unfold pf_Re_tellLine
  rw [e, if_pos (by decide)]
  cases pf_Re_tellLake l h4 <;> rfl
theorem cn_plain {l k : Nat} {g' : pH} (I : LIs 0 DR0 h g B n s f q) (l9 : l ≠ 9) (l14 : l ≠ 14) (l16 : l < 16) (e4 : pi g' 420 4 = pi g 420 4) (e0 : True) (e11 : pi g' 417 11 = pi g 417 11) : ∀ h', pi h' 279 13 = pi h 279 13 + (if l = 9 then 1 else 0) → pi h' 279 14 = pi h 279 14 + (if l = 14 then 1 else 0) → pi h' 279 15 = pi h 279 15 + (if 16 ≤ l then 1 else 0) → (∀ j, j < k → kd B n (skp B n (nx B n s) j) = 2) → kd B n (skp B n (nx B n s) k) = 4 → CN 0 h' g' (nx B n (skp B n (nx B n s) k)) := by
  intro h' x5 x6 x7 _ _
  obtain ⟨c, _, _, _, _, CNN, _⟩ := I
  rw [if_neg l9, Int.add_zero] at x5
  rw [if_neg l14, Int.add_zero] at x6
  rw [if_neg (by omega), Int.add_zero] at x7
  have b := nx_ok (B := B) c.2.1
  have b' := bnd_skp (B := B) (n := n) (s := nx B n s) (k := k) b.1
  have b2' := nx_ok (B := B) (n := n) (s := skp B n (nx B n s) k) b'.1
  obtain ⟨n1, n2, n3, n4, n5, n6, n7, n8, n9⟩ := CNN
  have n4 := n4 rfl
  refine ⟨by rw [x5]; clear n4 n5 n6 n7 n8 n9; omega, by rw [x6]; clear n4 n5 n6 n7 n8 n9; omega, by rw [x7]; clear n4 n5 n6 n7 n8 n9; omega, fun _ => ?_, fun v => by omega, fun v => by omega, fun v => absurd rfl v, fun v => by rw [x6]; exact n8 v, fun v => by rw [x7]; exact n9 v⟩
  rw [e4, x5, e11]
  clear n5 n6 n7 n8 n9
  omega
theorem lake_size (o : OC h) (I : LIs 0 DR0 h g B n s f q) (k1 : kd B n s = 1) (wl_ : wdl B n s = (0 : Nat)) : LNs 0 DR0 B n h g s (pf_Re_readLine h) (pf_M_lakeLine g) := by
  have no := lake_ov (l := 0) I (by decide) (by decide) (by decide)
  obtain ⟨g1, t1, t2, t3, e4⟩ := lake_takes I k1 wl_ (by decide)
  have drr := I.2.2.2.2.2.2
  have a0 : psc 30 0 = 122 := by decide +kernel
  have a1 : psc 30 1 = 122 := by decide +kernel
  have sl : sl_n 30 = 2 := by decide +kernel
  rw [← opT_no no] at t3
  obtain ⟨g2, b1, b2, b3, b4⟩ := m_nk (ls := psc 30) (T := opT B n s f q (ovr h 0)) (k := 0) (lo := 2) (hi := 6) t3 (by rw [a0]; decide) (by rw [a0]; rfl) (by rw [a0]; rfl)
  generalize ev0 : nvl B n 2 6 (nTs B n (psc 30) (opT B n s f q (ovr h 0)) 0) = v0 at *
  obtain ⟨g3, c1, c2, c3, c4⟩ := m_nk (g := pwI g2 420 0 v0) (ls := psc 30) (T := opT B n s f q (ovr h 0)) (k := 1) (lo := 2) (hi := 6) (MST_n b2 (fun j _ => pi_wIa (by decide)) (fun j _ => pi_wIa (by decide))) (by rw [a1]; decide) (by rw [a1]; rfl) (by rw [a1]; rfl)
  generalize ev1 : nvl B n 2 6 (nTs B n (psc 30) (opT B n s f q (ovr h 0)) 1) = v1 at *
  obtain ⟨g', d1, d2, d3, d4⟩ := m_endsLine (g := pwI g3 420 1 v1) (MST_n c2 (fun j _ => pi_wIa (by decide)) (fun j _ => pi_wIa (by decide)))
  have em : pf_M_lakeLine g = some g' := by
    unfold pf_M_lakeLine
    rw [t1, bsm]
    show (if (((0 : Nat) : Int) + 1) = 1 then _ else _) = _
    rw [if_pos (by decide)]
    simp only []
    rw [b1, bsm]
    simp only []
    rw [c1, bsm]
    simp only []
    rw [k44 (by decide), k84 (by decide), k152 (by decide), k162 (by decide), k172 (by decide), k191 (by decide), k203 (by decide), d1]
  have eR : ∀ j, pi g' 420 j = if j = 1 then v1 else (if j = 0 then v0 else pi g 420 j) := fun j => by
    rw [MN_i d3 (by decide), pi_wI, MN_i c3 (by decide), pi_wI, MN_i b3 (by decide), fr_fi t2.1 (by decide)]
    by_cases y1 : j = 1
    · rw [if_pos ⟨rfl, y1⟩, if_pos y1]
    · rw [if_neg (fun u => y1 u.2), if_neg y1]
      by_cases y0 : j = 0
      · rw [if_pos ⟨rfl, y0⟩, if_pos y0]
      · rw [if_neg (fun u => y0 u.2), if_neg y0]
  have eR2 : ∀ j, 2 ≤ j → pi g' 420 j = pi g 420 j := fun j hj => by rw [eR, if_neg (by omega), if_neg (by omega)]
  have e11 : pi g' 417 11 = pi g 417 11 := by rw [d3.2.1 11 (by omega), pi_wIa (by decide), c3.2.1 11 (by omega), pi_wIa (by decide), b3.2.1 11 (by omega), t2.2 11 (by omega)]
  have e9 : pi g' 417 9 = pi g 417 9 := by rw [d4, pi_wIa (by decide), c4, pi_wIa (by decide), b4, t2.2 9 (by omega)]
  have e21 : pi g' 421 = pi g 421 := by rw [MN_i d3 (by decide), pi_wIf (by decide), MN_i c3 (by decide), pi_wIf (by decide), MN_i b3 (by decide), fr_fi t2.1 (by decide)]
  have fm : FMT g g' := FMT_trans (MN_FMT (MA_MN t2)) (FMT_trans (MN_FMT b3) (FMT_trans (FMT_w (Or.inl rfl)) (FMT_trans (MN_FMT c3) (FMT_trans (FMT_w (Or.inl rfl)) (MN_FMT d3)))))
  have te : ∀ h4, pi h4 279 8 = (0 : Nat) → pf_Re_tellLine (0 : Nat) h4 = some (pwI (pwI h4 280 0 (pi h4 301 0)) 280 1 (pi h4 301 1)) := fun h4 e => by rw [tll e]; rfl
  refine line_gen (l := 0) (a2 := 30) (g' := g') o I (by decide) k1 wl_ (by decide) (by decide) (by decide) (by decide) (by decide) (nOf 0 (by decide)) (by decide +kernel) (by decide +kernel) em (by rw [sl]; exact d2) fm (fun h4 z1 z2 z3 z4 z5 => ⟨_, te h4 z2, fr_wI (fr_wI fr_refl (by omega)) (by omega)⟩) (cn_plain I (by decide) (by decide) (by decide) (eR2 4 (by decide)) trivial e11) (fun w0 f0 f00 nov all h4 h5 h' z1 z2 z3 z4 => ?_)
  rw [sl] at z1 w0 f0
  obtain ⟨y1, y2, y3, y4⟩ := h4_of (by decide) z1
  rw [te h4 z2] at z3
  have eH : h5 = pwI (pwI h4 280 0 (pi h4 301 0)) 280 1 (pi h4 301 1) := by cases z3; rfl
  obtain ⟨n0, r0⟩ := nvl_ok (ls := psc 30) (T := opT B n s f q (ovr h 0)) (k := 0) (m := 2) (lo := 2) (hi := 6) (by decide) w0 f0 (Or.inr (by rw [a0]; decide)) (by rw [a0]; rfl) (by rw [a0]; rfl)
  obtain ⟨n1, r1⟩ := nvl_ok (ls := psc 30) (T := opT B n s f q (ovr h 0)) (k := 1) (m := 2) (lo := 2) (hi := 6) (by decide) w0 f0 (Or.inr (by rw [a1]; decide)) (by rw [a1]; rfl) (by rw [a1]; rfl)
  have x0 : pi h4 301 0 = v0 := by rw [y1 0 (by decide), ← ev0]; exact n0.symm
  have x1 : pi h4 301 1 = v1 := by rw [y1 1 (by decide), ← ev1]; exact n1.symm
  have q0 : 2 ≤ v0 ∧ v0 ≤ 6 := by rw [← x0, y1 0 (by decide)]; exact r0
  have q1 : 2 ≤ v1 ∧ v1 ≤ 6 := by rw [← x1, y1 1 (by decide)]; exact r1
  rw [x0, x1] at eH
  subst eH
  obtain ⟨da, dt, ds, df, dp, dc, dn⟩ := drr f00
  have pb : ∀ b, 281 ≤ b → b ≤ 300 → pi h' b = pi h b := fun b b1 b2 => by rw [fr_fi z4 (by omega), pi_wIf (by omega), pi_wIf (by omega)]; exact y2 b (by omega) b2
  have p0 : ∀ j, pi h' 280 j = if j = 1 then v1 else (if j = 0 then v0 else pi h 280 j) := fun j => by
    rw [fr_i z4 (by decide), pi_wI, pi_wI, y2 280 (by decide) (by decide)]
    by_cases y1 : j = 1
    · rw [if_pos ⟨rfl, y1⟩, if_pos y1]
    · rw [if_neg (fun u => y1 u.2), if_neg y1]
      by_cases y0 : j = 0
      · rw [if_pos ⟨rfl, y0⟩, if_pos y0]
      · rw [if_neg (fun u => y0 u.2), if_neg y0]
  have lb : ∀ b j, 280 ≤ b → b ≤ 300 → (b ≠ 280 ∨ j ≠ 8) → pl h' b j = pl h b j := fun b j b1 b2 hb => by rw [fr_l z4 (by omega)]; exact y3 b j b1 b2 hb
  have l8 : pl h' 280 8 = pl h 280 8 := by
    rw [fr_l z4 (by decide)]
    show pl h4 280 8 = _
    rw [y4, nXs_nm, nXs_nm, if_neg (by rw [a1]; decide), if_neg (by rw [a0]; decide)]; rfl
  refine ⟨⟨⟨by rw [p0, if_neg (by decide), if_pos rfl, eR, if_neg (by decide), if_pos rfl], by rw [p0, if_pos rfl, eR, if_pos rfl], by rw [p0, if_neg (by decide), if_neg (by decide), eR2 2 (by decide)]; exact da.1.2.2⟩, ?_, by rw [eR2 2 (by decide)]; exact da.2.2⟩, D0t_c dt ⟨pb 281 (by decide) (by decide), pb 282 (by decide) (by decide), pb 283 (by decide) (by decide)⟩ (fun j j1 j2 => eR2 j (by omega)) (fun j j1 j2 => eR2 j (by omega)), D0s_c ds (lb 280 7 (by decide) (by decide) (Or.inr (by decide))) (fun j j1 j2 => eR2 j (by omega)), D0f_c df (by rw [p0, if_neg (by decide), if_neg (by decide)]) (pb 285 (by decide) (by decide)) (eR2 3 (by decide)) (fun j j1 j2 => eR2 j (by omega)), D0p_c dp (by rw [p0, if_neg (by decide), if_neg (by decide)]) ⟨pb 286 (by decide) (by decide), pb 287 (by decide) (by decide), pb 288 (by decide) (by decide), pb 289 (by decide) (by decide)⟩ (eR2 4 (by decide)) (fun j j1 j2 => eR2 j (by omega)), D0c_c dc (funext fun j => lb 284 j (by decide) (by decide) (Or.inl (by decide))) e21 e11, D0n_c dn l8 e9 (EX_c dn.2.2.2 dp.2.1 (eR2 4 (by decide)) (fun j j1 j2 => eR2 j (by omega)) e21 e11 (by rw [e9]; exact Int.le_refl _))⟩
  rw [eR 0, eR 1, if_neg (by decide), if_pos rfl, if_pos rfl]
  exact ⟨q0.1, q0.2, q1.1, q1.2⟩
theorem lake_bear (o : OC h) (I : LIs 0 DR0 h g B n s f q) (k1 : kd B n s = 1) (wl_ : wdl B n s = (7 : Nat)) : LNs 0 DR0 B n h g s (pf_Re_readLine h) (pf_M_lakeLine g) := by
  have no := lake_ov (l := 7) I (by decide) (by decide) (by decide)
  obtain ⟨g1, t1, t2, t3, e4⟩ := lake_takes I k1 wl_ (by decide)
  have drr := I.2.2.2.2.2.2
  have a0 : psc 35 0 = 112 := by decide +kernel
  have sl : sl_n 35 = 1 := by decide +kernel
  rw [← opT_no no] at t3
  obtain ⟨g2, b1, b2, b3, b4⟩ := m_nk (ls := psc 35) (T := opT B n s f q (ovr h 7)) (k := 0) (lo := 1) (hi := 99) t3 (by rw [a0]; decide) (by rw [a0]; rfl) (by rw [a0]; rfl)
  generalize ev0 : nvl B n 1 99 (nTs B n (psc 35) (opT B n s f q (ovr h 7)) 0) = v0 at *
  obtain ⟨g', d1, d2, d3, d4⟩ := m_endsLine (g := pwI g2 420 2 v0) (MST_n b2 (fun j _ => pi_wIa (by decide)) (fun j _ => pi_wIa (by decide)))
  have em : pf_M_lakeLine g = some g' := by
    unfold pf_M_lakeLine
    rw [t1, bsm]
    simp only []
    rw [if_neg (by decide), k44 (by decide), k84 (by decide), k152 (by decide), k162 (by decide)]
    unfold pj_M_lakeLine_172
    rw [if_pos (by decide), b1, bsm]
    simp only []
    rw [k191 (by decide), k203 (by decide), d1]
  have eR : ∀ j, pi g' 420 j = if j = 2 then v0 else pi g 420 j := fun j => by
    rw [MN_i d3 (by decide), pi_wI, MN_i b3 (by decide), fr_fi t2.1 (by decide)]
    by_cases y1 : j = 2
    · rw [if_pos ⟨rfl, y1⟩, if_pos y1]
    · rw [if_neg (fun u => y1 u.2), if_neg y1]
  have eR2 : ∀ j, j ≠ 2 → pi g' 420 j = pi g 420 j := fun j hj => by rw [eR, if_neg hj]
  have e11 : pi g' 417 11 = pi g 417 11 := by rw [d3.2.1 11 (by omega), pi_wIa (by decide), b3.2.1 11 (by omega), t2.2 11 (by omega)]
  have e9 : pi g' 417 9 = pi g 417 9 := by rw [d4, pi_wIa (by decide), b4, t2.2 9 (by omega)]
  have e21 : pi g' 421 = pi g 421 := by rw [MN_i d3 (by decide), pi_wIf (by decide), MN_i b3 (by decide), fr_fi t2.1 (by decide)]
  have fm : FMT g g' := FMT_trans (MN_FMT (MA_MN t2)) (FMT_trans (MN_FMT b3) (FMT_trans (FMT_w (Or.inl rfl)) (MN_FMT d3)))
  have te : ∀ h4, pi h4 279 8 = (0 : Nat) → pf_Re_tellLine (7 : Nat) h4 = some (pwI h4 280 2 (pi h4 301 0)) := fun h4 e => by rw [tll e]; rfl
  refine line_gen (l := 7) (a2 := 35) (g' := g') o I (by decide) k1 wl_ (by decide) (by decide) (by decide) (by decide) (by decide) (nOf 7 (by decide)) (by decide +kernel) (by decide +kernel) em (by rw [sl]; exact d2) fm (fun h4 z1 z2 z3 z4 z5 => ⟨_, te h4 z2, fr_wI fr_refl (by omega)⟩) (cn_plain I (by decide) (by decide) (by decide) (eR2 4 (by decide)) trivial e11) (fun w0 f0 f00 nov all h4 h5 h' z1 z2 z3 z4 => ?_)
  rw [sl] at z1 w0 f0
  obtain ⟨y1, y2, y3, y4⟩ := h4_of (by decide) z1
  rw [te h4 z2] at z3
  have eH : h5 = pwI h4 280 2 (pi h4 301 0) := by cases z3; rfl
  obtain ⟨n0, r0⟩ := nvl_ok (ls := psc 35) (T := opT B n s f q (ovr h 7)) (k := 0) (m := 1) (lo := 1) (hi := 99) (by decide) w0 f0 (Or.inr (by rw [a0]; decide)) (by rw [a0]; rfl) (by rw [a0]; rfl)
  have x0 : pi h4 301 0 = v0 := by rw [y1 0 (by decide), ← ev0]; exact n0.symm
  have q0 : 1 ≤ v0 ∧ v0 ≤ 99 := by rw [← x0, y1 0 (by decide)]; exact r0
  rw [x0] at eH
  subst eH
  obtain ⟨da, dt, ds, df, dp, dc, dn⟩ := drr f00
  have pb : ∀ b, 281 ≤ b → b ≤ 300 → pi h' b = pi h b := fun b b1 b2 => by rw [fr_fi z4 (by omega), pi_wIf (by omega)]; exact y2 b (by omega) b2
  have p0 : ∀ j, pi h' 280 j = if j = 2 then v0 else pi h 280 j := fun j => by
    rw [fr_i z4 (by decide), pi_wI, y2 280 (by decide) (by decide)]
    by_cases y1 : j = 2
    · rw [if_pos ⟨rfl, y1⟩, if_pos y1]
    · rw [if_neg (fun u => y1 u.2), if_neg y1]
  have lb : ∀ b j, 280 ≤ b → b ≤ 300 → (b ≠ 280 ∨ j ≠ 8) → pl h' b j = pl h b j := fun b j b1 b2 hb => by rw [fr_l z4 (by omega)]; exact y3 b j b1 b2 hb
  have l8 : pl h' 280 8 = pl h 280 8 := by
    rw [fr_l z4 (by decide)]
    show pl h4 280 8 = _
    rw [y4, nXs_nm, if_neg (by rw [a0]; decide)]; rfl
  refine ⟨⟨⟨by rw [p0, if_neg (by decide), eR2 0 (by decide)]; exact da.1.1, by rw [p0, if_neg (by decide), eR2 1 (by decide)]; exact da.1.2.1, by rw [p0, if_pos rfl, eR, if_pos rfl]⟩, by rw [eR2 0 (by decide), eR2 1 (by decide)]; exact da.2.1, by rw [eR, if_pos rfl]; exact q0⟩, D0t_c dt ⟨pb 281 (by decide) (by decide), pb 282 (by decide) (by decide), pb 283 (by decide) (by decide)⟩ (fun j j1 j2 => eR2 j (by omega)) (fun j j1 j2 => eR2 j (by omega)), D0s_c ds (lb 280 7 (by decide) (by decide) (Or.inr (by decide))) (fun j j1 j2 => eR2 j (by omega)), D0f_c df (by rw [p0, if_neg (by decide)]) (pb 285 (by decide) (by decide)) (eR2 3 (by decide)) (fun j j1 j2 => eR2 j (by omega)), D0p_c dp (by rw [p0, if_neg (by decide)]) ⟨pb 286 (by decide) (by decide), pb 287 (by decide) (by decide), pb 288 (by decide) (by decide), pb 289 (by decide) (by decide)⟩ (eR2 4 (by decide)) (fun j j1 j2 => eR2 j (by omega)), D0c_c dc (funext fun j => lb 284 j (by decide) (by decide) (Or.inl (by decide))) e21 e11, D0n_c dn l8 e9 (EX_c dn.2.2.2 dp.2.1 (eR2 4 (by decide)) (fun j j1 j2 => eR2 j (by omega)) e21 e11 (by rw [e9]; exact Int.le_refl _))⟩
theorem m_all {v : Int} {K : Int → Int → pH → Option pH} {x1 x2 : Int} : ∃ g', pl_M_lakeLine_60 K fu_ x1 x2 v 0 g = K x1 x2 g' ∧ fr (fun b => b = 420) g g' ∧ ∀ j, pi g' 420 j = if 8 ≤ j ∧ j < 44 then v else pi g 420 j := by
  refine lpf (F := fun k (i : Nat) t => pl_M_lakeLine_60 K k x1 x2 v i t) (Q := fun r => ∃ g', r = K x1 x2 g' ∧ fr (fun b => b = 420) g g' ∧ ∀ j, pi g' 420 j = if 8 ≤ j ∧ j < 44 then v else pi g 420 j) 36 (fun i t => fr (fun b => b = 420) g t ∧ ∀ j, pi t 420 j = if 8 ≤ j ∧ j < 8 + i then v else pi g 420 j) ?_ ?_ fu_ 0 g (by omega) (by unfold fu_; omega) ⟨fr_refl, fun j => by rw [if_neg (by omega)]⟩
  · intro k i t hi ⟨a, b⟩
    right
    refine ⟨pwI t 420 (8 + i) v, ?_, fr_wI a rfl, fun j => ?_⟩
    · show pl_M_lakeLine_60 K (k + 1) x1 x2 v i t = pl_M_lakeLine_60 K k x1 x2 v (i + 1 : Nat) _
      rw [pl_M_lakeLine_60, if_neg (by omega), wr_eq (x := 8 + (i : Int)) (by omega) (by omega), gib (by omega) (by omega), wr_eq (by omega) (by omega), show (8 + (i : Int)).toNat = 8 + i by omega]
      rfl
    · by_cases y : j = 8 + i
      · rw [y, pi_wIs, if_pos (by omega)]
      · rw [pi_wIi y, b j]
        by_cases u : 8 ≤ j ∧ j < 8 + i
        · rw [if_pos u, if_pos (by omega)]
        · rw [if_neg u, if_neg (by omega)]
  · intro k t ⟨a, b⟩
    refine ⟨t, ?_, a, b⟩
    show pl_M_lakeLine_60 K (k + 1) x1 x2 v (36 : Nat) t = _
    rw [pl_M_lakeLine_60, if_pos (by decide)]
theorem lake_all (o : OC h) (I : LIs 0 DR0 h g B n s f q) (k1 : kd B n s = 1) (wl_ : wdl B n s = (1 : Nat)) : LNs 0 DR0 B n h g s (pf_Re_readLine h) (pf_M_lakeLine g) := by
  have no := lake_ov (l := 1) I (by decide) (by decide) (by decide)
  obtain ⟨g1, t1, t2, t3, e4⟩ := lake_takes I k1 wl_ (by decide)
  have drr := I.2.2.2.2.2.2
  have a0 : psc 43 0 = 116 := by decide +kernel
  have sl : sl_n 43 = 1 := by decide +kernel
  rw [← opT_no no] at t3
  obtain ⟨g2, b1, b2, b3, b4⟩ := m_nk (ls := psc 43) (T := opT B n s f q (ovr h 1)) (k := 0) (lo := 0) (hi := 99) t3 (by rw [a0]; decide) (by rw [a0]; rfl) (by rw [a0]; rfl)
  generalize ev0 : nvl B n 0 99 (nTs B n (psc 43) (opT B n s f q (ovr h 1)) 0) = v0 at *
  obtain ⟨g3, c1, c2, c3⟩ := m_all (g := g2) (v := v0) (x1 := pi g 417 4) (x2 := ((1 : Nat) : Int) + 1) (K := fun x1 x2 h => pj_M_lakeLine_84 x1 x2 h)
  obtain ⟨g', d1, d2, d3, d4⟩ := m_endsLine (g := g3) (MST_n b2 (fun j _ => by rw [fr_i c2 (by decide)]) (fun j _ => by rw [fr_i c2 (by decide)]))
  have em : pf_M_lakeLine g = some g' := by
    unfold pf_M_lakeLine
    rw [t1, bsm]
    simp only []
    rw [if_neg (by decide)]
    unfold pj_M_lakeLine_44
    rw [if_pos (by decide), b1, bsm]
    simp only []
    rw [c1, k84 (by decide), k152 (by decide), k162 (by decide), k172 (by decide), k191 (by decide), k203 (by decide), d1]
  have eR : ∀ j, pi g' 420 j = if 8 ≤ j ∧ j < 44 then v0 else pi g 420 j := fun j => by rw [MN_i d3 (by decide), c3 j, MN_i b3 (by decide), fr_fi t2.1 (by decide)]
  have eR2 : ∀ j, j < 8 ∨ 44 ≤ j → pi g' 420 j = pi g 420 j := fun j hj => by rw [eR, if_neg (by omega)]
  have e11 : pi g' 417 11 = pi g 417 11 := by rw [d3.2.1 11 (by omega), fr_i c2 (by decide), b3.2.1 11 (by omega), t2.2 11 (by omega)]
  have e9 : pi g' 417 9 = pi g 417 9 := by rw [d4, fr_i c2 (by decide), b4, t2.2 9 (by omega)]
  have e21 : pi g' 421 = pi g 421 := by rw [MN_i d3 (by decide), fr_fi c2 (by decide), MN_i b3 (by decide), fr_fi t2.1 (by decide)]
  have fm : FMT g g' := FMT_trans (MN_FMT (MA_MN t2)) (FMT_trans (MN_FMT b3) (FMT_trans ⟨fr_mono c2 (fun b hb => by omega), fun j _ => fr_i c2 (by decide), fun j _ _ => fr_i c2 (by decide)⟩ (MN_FMT d3)))
  have te : ∀ h4, pi h4 279 8 = (0 : Nat) → ∃ H, pf_Re_tellLine (1 : Nat) h4 = some H ∧ fr (fun b => b = 281) h4 H ∧ ∀ j, pi H 281 j = if j < 36 then pi h4 301 0 else pi h4 281 j := fun h4 e => by
    obtain ⟨H, a1, a2, a3⟩ := c_fill (a := 281) (N := 36) (v := pi h4 301 0) (h := h4) (by decide +kernel) (by decide)
    refine ⟨H, ?_, a2, a3⟩
    rw [tll e]
    unfold pf_Re_tellLake
    rw [if_neg (by decide), if_pos (by decide), a1, bsm]
  refine line_gen (l := 1) (a2 := 43) (g' := g') o I (by decide) k1 wl_ (by decide) (by decide) (by decide) (by decide) (by decide) (nOf 1 (by decide)) (by decide +kernel) (by decide +kernel) em (by rw [sl]; exact d2) fm (fun h4 z1 z2 z3 z4 z5 => by
    obtain ⟨H, a1, a2, a3⟩ := te h4 z2
    exact ⟨H, a1, fr_mono a2 (fun b hb => by omega)⟩) (cn_plain I (by decide) (by decide) (by decide) (eR2 4 (by decide)) trivial e11) (fun w0 f0 f00 nov all h4 h5 h' z1 z2 z3 z4 => ?_)
  rw [sl] at z1 w0 f0
  obtain ⟨y1, y2, y3, y4⟩ := h4_of (by decide) z1
  obtain ⟨H, u1, u2, u3⟩ := te h4 z2
  rw [u1] at z3
  have eH : h5 = H := by cases z3; rfl
  subst eH
  obtain ⟨n0, r0⟩ := nvl_ok (ls := psc 43) (T := opT B n s f q (ovr h 1)) (k := 0) (m := 1) (lo := 0) (hi := 99) (by decide) w0 f0 (Or.inr (by rw [a0]; decide)) (by rw [a0]; rfl) (by rw [a0]; rfl)
  have x0 : pi h4 301 0 = v0 := by rw [y1 0 (by decide), ← ev0]; exact n0.symm
  have q0 : 0 ≤ v0 ∧ v0 ≤ 99 := by rw [← x0, y1 0 (by decide)]; exact r0
  obtain ⟨da, dt, ds, df, dp, dc, dn⟩ := drr f00
  have pb : ∀ b, 280 ≤ b → b ≤ 300 → b ≠ 281 → pi h' b = pi h b := fun b b1 b2 b3 => by rw [fr_fi z4 (by omega), fr_fi u2 b3]; exact y2 b b1 b2
  have p0 : pi h' 280 = pi h 280 := pb 280 (by decide) (by decide) (by decide)
  have lb : ∀ b j, 280 ≤ b → b ≤ 300 → b ≠ 281 → (b ≠ 280 ∨ j ≠ 8) → pl h' b j = pl h b j := fun b j b1 b2 b3 hb => by rw [fr_l z4 (by omega), fr_l u2 b3]; exact y3 b j b1 b2 hb
  have l8 : pl h' 280 8 = pl h 280 8 := by
    rw [fr_l z4 (by decide), fr_l u2 (by decide), y4, nXs_nm, if_neg (by rw [a0]; decide)]; rfl
  refine ⟨D0a_c da (fun j _ => by rw [p0]) (fun j hj => eR2 j (by omega)), ⟨fun c hc => ?_, fun c hc => by rw [pb 282 (by decide) (by decide) (by decide), eR2 _ (by omega)]; exact dt.2.1 c hc, fun c hc => by rw [pb 283 (by decide) (by decide) (by decide), eR2 _ (by omega)]; exact dt.2.2.1 c hc, fun c hc => by rw [eR2 _ (by omega)]; exact dt.2.2.2 c hc⟩, D0s_c ds (lb 280 7 (by decide) (by decide) (by decide) (Or.inr (by decide))) (fun j j1 j2 => eR2 j (by omega)), D0f_c df (by rw [p0]) (pb 285 (by decide) (by decide) (by decide)) (eR2 3 (by decide)) (fun j j1 j2 => eR2 j (by omega)), D0p_c dp (by rw [p0]) ⟨pb 286 (by decide) (by decide) (by decide), pb 287 (by decide) (by decide) (by decide), pb 288 (by decide) (by decide) (by decide), pb 289 (by decide) (by decide) (by decide)⟩ (eR2 4 (by decide)) (fun j j1 j2 => eR2 j (by omega)), D0c_c dc (funext fun j => lb 284 j (by decide) (by decide) (by decide) (Or.inl (by decide))) e21 e11, D0n_c dn l8 e9 (EX_c dn.2.2.2 dp.2.1 (eR2 4 (by decide)) (fun j j1 j2 => eR2 j (by omega)) e21 e11 (by rw [e9]; exact Int.le_refl _))⟩
  rw [fr_i z4 (by decide), u3, if_pos hc, x0, eR, if_pos (by omega)]
  exact ⟨rfl, q0⟩
/-- ice, snow, weak -/
theorem lake_ice {l a2 bs_ : Nat} {hi : Int} (o : OC h) (I : LIs 0 DR0 h g B n s f q) (k1 : kd B n s = 1) (wl_ : wdl B n s = l) (hl : (l = 2 ∧ a2 = 31 ∧ bs_ = 8 ∧ hi = 99) ∨ (l = 3 ∧ a2 = 32 ∧ bs_ = 44 ∧ hi = 9) ∨ (l = 4 ∧ a2 = 32 ∧ bs_ = 80 ∧ hi = 9)) : LNs 0 DR0 B n h g s (pf_Re_readLine h) (pf_M_lakeLine g) := by
  have l24 : 2 ≤ l ∧ l ≤ 4 := by omega
  have no := lake_ov (l := l) I (by omega) (by omega) (by omega)
  obtain ⟨g1, t1, t2, t3, e4⟩ := lake_takes I k1 wl_ (by omega)
  have drr := I.2.2.2.2.2.2
  have a0 : psc a2 0 = 99 := by rcases hl with ⟨_, rfl, _⟩ | ⟨_, rfl, _⟩ | ⟨_, rfl, _⟩ <;> decide +kernel
  have a1 : psc a2 1 ≠ 111 ∧ psc a2 1 ≠ 99 ∧ psc a2 1 ≠ 102 ∧ loL (psc a2 1) = 0 ∧ hiL (psc a2 1) = hi := by rcases hl with ⟨_, rfl, _, rfl⟩ | ⟨_, rfl, _, rfl⟩ | ⟨_, rfl, _, rfl⟩ <;> decide +kernel
  have sl : sl_n a2 = 2 := by rcases hl with ⟨_, rfl, _⟩ | ⟨_, rfl, _⟩ | ⟨_, rfl, _⟩ <;> decide +kernel
  have nof : ∀ g, pf_Re_numbersOf l g = some a2 := by
    rcases hl with ⟨rfl, rfl, _⟩ | ⟨rfl, rfl, _⟩ | ⟨rfl, rfl, _⟩
    · exact nOf 2 (by decide)
    · exact nOf 3 (by decide)
    · exact nOf 4 (by decide)
  have hb : (bs_ = 8 ∨ bs_ = 44 ∨ bs_ = 80) ∧ (hi = 99 ∨ hi = 9) := by omega
  rw [← opT_no no] at t3
  obtain ⟨g2, b1, b2, b3, b4⟩ := m_ck (ls := psc a2) (T := opT B n s f q (ovr h l)) (k := 0) t3 a0
  have v0r := nvl_r (B := B) (n := n) (lo := 0) (hi := 35) (t := nTs B n (psc a2) (opT B n s f q (ovr h l)) 0) (by decide)
  generalize ev0 : nvl B n 0 35 (nTs B n (psc a2) (opT B n s f q (ovr h l)) 0) = v0 at *
  obtain ⟨g3, c1, c2, c3, c4⟩ := m_nk (ls := psc a2) (T := opT B n s f q (ovr h l)) (k := 1) (lo := 0) (hi := hi) b2 a1.1 a1.2.2.2.1 a1.2.2.2.2
  generalize ev1 : nvl B n 0 hi (nTs B n (psc a2) (opT B n s f q (ovr h l)) 1) = v1 at *
  have sto : ∃ g4, pj_M_lakeLine_84 (pi g 417 4) (((l : Nat) : Int) + 1) g1 = pf_M_endsLine g4 ∧ FMT g3 g4 ∧ pi g4 417 = pi g3 417 ∧ pi g4 418 = pi g3 418 ∧ pi g4 421 = pi g3 421 ∧ (∀ j, j < 8 → pi g4 420 j = pi g3 420 j) ∧ (0 ≤ v0 → ∀ j, pi g4 420 j = if j = bs_ + v0.toNat then v1 else pi g3 420 j) := by
    have tail : ∀ H, pj_M_lakeLine_152 (pi g 417 4) (((l : Nat) : Int) + 1) H = pf_M_endsLine H := fun H => by rw [k152 (by omega), k162 (by omega), k172 (by omega), k191 (by omega), k203 (by omega)]
    have st : ∀ x : Int, x = bs_ → pj_M_lakeLine_147 (pi g 417 4) (((l : Nat) : Int) + 1) v0 v1 420 x g3 = ia_gd (pib (wr (x + v0)) 260) (pf_M_endsLine (pwI g3 420 (Int.toNat (wr (x + v0))) v1)) := fun x _ => by
      unfold pj_M_lakeLine_147
      rw [tail]
    have s112 : pj_M_lakeLine_84 (pi g 417 4) (((l : Nat) : Int) + 1) g1 = (if v0 < 0 then pf_M_endsLine g3 else ia_gd (pib (wr ((bs_ : Int) + v0)) 260) (pf_M_endsLine (pwI g3 420 (Int.toNat (wr ((bs_ : Int) + v0))) v1))) := by
      unfold pj_M_lakeLine_84
      rw [m_isIn, bsm, if1, if_pos (by omega), b1, bsm]
      simp only []
      have s1 : ∀ hh, hh = hi → pj_M_lakeLine_112 (pi g 417 4) (((l : Nat) : Int) + 1) v0 0 hh g2 = (if v0 < 0 then pf_M_endsLine g3 else ia_gd (pib (wr ((bs_ : Int) + v0)) 260) (pf_M_endsLine (pwI g3 420 (Int.toNat (wr ((bs_ : Int) + v0))) v1))) := fun hh eh => by
        unfold pj_M_lakeLine_112
        rw [eh, c1, bsm]
        simp only []
        by_cases y : v0 < 0
        · rw [if_pos y, if_pos y, tail]
        · rw [if_neg y, if_neg y]
          rcases hl with ⟨rfl, _, rfl, _⟩ | ⟨rfl, _, rfl, _⟩ | ⟨rfl, _, rfl, _⟩
          · rw [if_pos (by decide)]; exact st 8 rfl
          · rw [if_neg (by decide), if_pos (by decide)]; exact st 44 rfl
          · rw [if_neg (by decide), if_neg (by decide)]; exact st 80 rfl
      rcases hl with ⟨rfl, _, _, eh⟩ | ⟨rfl, _, _, eh⟩ | ⟨rfl, _, _, eh⟩
      · rw [if_pos (by decide)]; exact s1 99 eh.symm
      · rw [if_neg (by decide)]; exact s1 9 eh.symm
      · rw [if_neg (by decide)]; exact s1 9 eh.symm
    rw [s112]
    by_cases y : v0 < 0
    · rw [if_pos y]
      exact ⟨g3, rfl, FMT_refl, rfl, rfl, rfl, fun _ _ => rfl, fun v => by omega⟩
    · rw [if_neg y, wr_eq (by omega) (by omega), gib (by omega) (by omega), show ((bs_ : Int) + v0).toNat = bs_ + v0.toNat by omega]
      refine ⟨_, rfl, FMT_w (Or.inl rfl), pi_wIf (by decide), pi_wIf (by decide), pi_wIf (by decide), fun j hj => pi_wIi (by omega), fun _ j => ?_⟩
      rw [pi_wI]
      by_cases e : j = bs_ + v0.toNat
      · rw [if_pos ⟨rfl, e⟩, if_pos e]
      · rw [if_neg (fun u => e u.2), if_neg e]
  obtain ⟨g4, s1, s2, s3, s4, s5, s6, s7⟩ := sto
  obtain ⟨g', d1, d2, d3, d4⟩ := m_endsLine (g := g4) (MST_n c2 (fun j _ => by rw [s3]) (fun j _ => by rw [s4]))
  have em : pf_M_lakeLine g = some g' := by
    unfold pf_M_lakeLine
    rw [t1, bsm]
    simp only []
    rw [if_neg (by omega), k44 (by omega), s1, d1]
  have g3R : pi g3 420 = pi g 420 := by rw [MN_i c3 (by decide), MN_i b3 (by decide), fr_fi t2.1 (by decide)]
  have e11 : pi g' 417 11 = pi g 417 11 := by rw [d3.2.1 11 (by omega), s3, c3.2.1 11 (by omega), b3.2.1 11 (by omega), t2.2 11 (by omega)]
  have e9 : pi g' 417 9 = max (pi g 417 9) v0 := by rw [d4, s3, c4, b4, t2.2 9 (by omega)]
  have e21 : pi g' 421 = pi g 421 := by rw [MN_i d3 (by decide), s5, MN_i c3 (by decide), MN_i b3 (by decide), fr_fi t2.1 (by decide)]
  have e42 : ∀ j, j < 8 → pi g' 420 j = pi g 420 j := fun j hj => by rw [MN_i d3 (by decide), s6 j hj, g3R]
  have fm : FMT g g' := FMT_trans (MN_FMT (MA_MN t2)) (FMT_trans (MN_FMT b3) (FMT_trans (MN_FMT c3) (FMT_trans s2 (MN_FMT d3))))
  -- the class's row
  obtain ⟨rb, erb⟩ : ∃ rb : Nat, (bs_ = 8 ∧ rb = 281 ∧ l = 2 ∨ bs_ = 44 ∧ rb = 282 ∧ l = 3 ∨ bs_ = 80 ∧ rb = 283 ∧ l = 4) := by
    rcases hl with ⟨a, _, b, _⟩ | ⟨a, _, b, _⟩ | ⟨a, _, b, _⟩
    · exact ⟨281, Or.inl ⟨b, rfl, a⟩⟩
    · exact ⟨282, Or.inr (Or.inl ⟨b, rfl, a⟩)⟩
    · exact ⟨283, Or.inr (Or.inr ⟨b, rfl, a⟩)⟩
  have te : ∀ h4, pi h4 279 8 = (0 : Nat) → 0 ≤ pi h4 301 0 → pi h4 301 0 ≤ 35 → pf_Re_tellLine l h4 = some (pwI h4 rb (pi h4 301 0).toNat (pi h4 301 1)) := fun h4 e p0 p1 => by
    rw [tll e]
    unfold pf_Re_tellLake
    rcases erb with ⟨_, rfl, rfl⟩ | ⟨_, rfl, rfl⟩ | ⟨_, rfl, rfl⟩
    · rw [if_neg (by decide), if_neg (by decide), if_pos (by decide), gib p0 (by omega)]
    · rw [if_neg (by decide), if_neg (by decide), if_neg (by decide), if_pos (by decide), gib p0 (by omega)]
    · rw [if_neg (by decide), if_neg (by decide), if_neg (by decide), if_neg (by decide), if_pos (by decide), gib p0 (by omega)]
  have rng : (∀ j, j < sl_n a2 → kd B n (skp B n (nx B n s) j) = 2 ∧ ¬ bdL (psc a2 j) (vl B n (skp B n (nx B n s) j)) (vl B n (skp B n (nx B n s) (j - 1))) j) → 0 ≤ vl B n (skp B n (nx B n s) 0) ∧ vl B n (skp B n (nx B n s) 0) ≤ 35 := fun all => by
    have z0 := (all 0 (by rw [sl]; decide)).2
    rw [a0] at z0
    rcases Classical.em (0 ≤ vl B n (skp B n (nx B n s) 0) ∧ vl B n (skp B n (nx B n s) 0) ≤ 35) with u | u
    · exact u
    · exact absurd (Or.inl u) z0
  have rbb : 281 ≤ rb ∧ rb ≤ 283 := by omega
  have l24' : l ≠ 9 ∧ l ≠ 14 ∧ l < 16 ∧ l ≠ 6 ∧ l ≠ 8 ∧ l ≠ 15 := by omega
  refine line_gen (l := l) (a2 := a2) (g' := g') o I (by decide) k1 wl_ (by show 0 ≤ l; omega) (by show l < 10; omega) l24'.2.2.2.1 l24'.2.2.2.2.1 l24'.2.2.2.2.2 nof (fun i hi => by
    rcases (show i = 0 ∨ i = 1 by omega) with rfl | rfl
    · rw [a0]; decide
    · exact a1.2.2.1) (by omega) em (by rw [sl]; exact d2) fm (fun h4 z1 z2 z3 z4 z5 => by
    rw [sl] at z1
    have y1 := (h4_of (by decide) z1).1
    have r := rng z3
    exact ⟨_, te h4 z2 (by rw [y1 0 (by decide)]; exact r.1) (by rw [y1 0 (by decide)]; exact r.2), fr_wI fr_refl (by omega)⟩) (cn_plain I l24'.1 l24'.2.1 l24'.2.2.1 (e42 4 (by decide)) trivial e11) (fun w0 f0 f00 nov all h4 h5 h' z1 z2 z3 z4 => ?_)
  rw [sl] at z1 w0 f0
  obtain ⟨y1, y2, y3, y4⟩ := h4_of (by decide) z1
  have r := rng all
  rw [te h4 z2 (by rw [y1 0 (by decide)]; exact r.1) (by rw [y1 0 (by decide)]; exact r.2)] at z3
  obtain ⟨n0, r0⟩ := nvl_ok (ls := psc a2) (T := opT B n s f q (ovr h l)) (k := 0) (m := 2) (lo := 0) (hi := 35) (by decide) w0 f0 (Or.inr (by rw [a0]; decide)) (by rw [a0]; rfl) (by rw [a0]; rfl)
  obtain ⟨n1, r1⟩ := nvl_ok (ls := psc a2) (T := opT B n s f q (ovr h l)) (k := 1) (m := 2) (lo := 0) (hi := hi) (by decide) w0 f0 (Or.inr a1.1) a1.2.2.2.1 a1.2.2.2.2
  have x0 : pi h4 301 0 = v0 := by rw [y1 0 (by decide), ← ev0]; exact n0.symm
  have x1 : pi h4 301 1 = v1 := by rw [y1 1 (by decide), ← ev1]; exact n1.symm
  have q0 : 0 ≤ v0 ∧ v0 ≤ 35 := by rw [← x0, y1 0 (by decide)]; exact r0
  have q1 : 0 ≤ v1 ∧ v1 ≤ hi := by rw [← x1, y1 1 (by decide)]; exact r1
  rw [x0, x1] at z3
  have eH : h5 = pwI h4 rb v0.toNat v1 := by cases z3; rfl
  subst eH
  obtain ⟨da, dt, ds, df, dp, dc, dn⟩ := drr f00
  have eR : ∀ j, pi g' 420 j = if j = bs_ + v0.toNat then v1 else pi g 420 j := fun j => by rw [MN_i d3 (by decide), s7 q0.1 j, g3R]
  have eR2 : ∀ j, j < 8 ∨ 116 ≤ j → pi g' 420 j = pi g 420 j := fun j hj => by rw [eR, if_neg (by omega)]
  have pb : ∀ b, 280 ≤ b → b ≤ 300 → b ≠ rb → pi h' b = pi h b := fun b b1 b2 b3 => by rw [fr_fi z4 (by omega), pi_wIf b3]; exact y2 b b1 b2
  have pr_ : ∀ j, pi h' rb j = if j = v0.toNat then v1 else pi h rb j := fun j => by
    rw [fr_i z4 (by omega), pi_wI, y2 rb (by omega) (by omega)]
    by_cases e : j = v0.toNat
    · rw [if_pos ⟨rfl, e⟩, if_pos e]
    · rw [if_neg (fun u => e u.2), if_neg e]
  have p0 : pi h' 280 = pi h 280 := pb 280 (by decide) (by decide) (by omega)
  have lb : ∀ b j, 280 ≤ b → b ≤ 300 → (b ≠ 280 ∨ j ≠ 8) → pl h' b j = pl h b j := fun b j b1 b2 hb => by rw [fr_l z4 (by omega)]; exact y3 b j b1 b2 hb
  have l8 : pl h' 280 8 = pl h 280 8 ||| plshl 1 v0 := by
    rw [fr_l z4 (by decide)]
    show pl h4 280 8 = _
    rw [y4, nXs_nm, nXs_nm, if_neg (fun u => by rcases u with u | u; exact a1.2.1 u; exact a1.1 u), if_pos (Or.inl a0), ← y1 0 (by decide), x0]; rfl
  have upd : ∀ (b0 k0 : Nat) (hh : Int), (b0 = 8 ∧ k0 = 281 ∧ hh = 99 ∨ b0 = 44 ∧ k0 = 282 ∧ hh = 9 ∨ b0 = 80 ∧ k0 = 283 ∧ hh = 9) → (∀ c, c < 36 → pi h k0 c = pi g 420 (b0 + c) ∧ 0 ≤ pi g 420 (b0 + c) ∧ pi g 420 (b0 + c) ≤ hh) → ∀ c, c < 36 → pi h' k0 c = pi g' 420 (b0 + c) ∧ 0 ≤ pi g' 420 (b0 + c) ∧ pi g' 420 (b0 + c) ≤ hh := fun b0 k0 hh hk old c hc => by
    by_cases e : k0 = rb
    · have eb : b0 = bs_ ∧ hh = hi := by omega
      rw [e, pr_, eR]
      by_cases ec : c = v0.toNat
      · rw [if_pos ec, if_pos (by omega)]; exact ⟨rfl, q1.1, by omega⟩
      · rw [if_neg ec, if_neg (by omega), ← e]
        exact old c hc
    · rw [pb k0 (by omega) (by omega) e, eR, if_neg (by omega)]
      exact old c hc
  exact ⟨D0a_c da (fun j _ => by rw [p0]) (fun j hj => eR2 j (by omega)), ⟨upd 8 281 99 (Or.inl ⟨rfl, rfl, rfl⟩) dt.1, upd 44 282 9 (Or.inr (Or.inl ⟨rfl, rfl, rfl⟩)) dt.2.1, upd 80 283 9 (Or.inr (Or.inr ⟨rfl, rfl, rfl⟩)) dt.2.2.1, fun c hc => by rw [eR2 _ (by omega)]; exact dt.2.2.2 c hc⟩, D0s_c ds (lb 280 7 (by decide) (by decide) (Or.inr (by decide))) (fun j j1 j2 => eR2 j (by omega)), D0f_c df (by rw [p0]) (pb 285 (by decide) (by decide) (by omega)) (eR2 3 (by decide)) (fun j j1 j2 => eR2 j (by omega)), D0p_c dp (by rw [p0]) ⟨pb 286 (by decide) (by decide) (by omega), pb 287 (by decide) (by decide) (by omega), pb 288 (by decide) (by decide) (by omega), pb 289 (by decide) (by decide) (by omega)⟩ (eR2 4 (by decide)) (fun j j1 j2 => eR2 j (by omega)), D0c_c dc (funext fun j => lb 284 j (by decide) (by decide) (Or.inl (by decide))) e21 e11, D0n_1 dn q0 l8 e9 (EX_c dn.2.2.2 dp.2.1 (eR2 4 (by decide)) (fun j j1 j2 => eR2 j (by omega)) e21 e11 (by rw [e9]; omega))⟩
end Tt
