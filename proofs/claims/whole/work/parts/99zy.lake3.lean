/-! lakes: shore, shop, crack -/
section Tu
variable {h g : pH} {B : Nat → Int} {n s : Nat} {f q : Int}
theorem lXs_8 {k : Nat} : fr (fun b => b = 280 ∨ b = 301) h (lXs B n 8 s h k) ∧ pi (lXs B n 8 s h k) 280 = pi h 280 ∧ ((∀ j, j < k → 0 ≤ vl B n (skp B n s j) ∧ vl B n (skp B n s j) ≤ 35) → ∀ c, c < 64 → (tb (pl (lXs B n 8 s h k) 280 7) c = true ↔ tb (pl h 280 7) c = true ∨ ∃ j, j < k ∧ vl B n (skp B n s j) = c) ∧ (tb (pl (lXs B n 8 s h k) 280 8) c = true ↔ tb (pl h 280 8) c = true ∨ ∃ j, j < k ∧ vl B n (skp B n s j) = c)) := by
  induction k with
  | zero => exact ⟨fr_refl, rfl, fun _ c _ => ⟨⟨Or.inl, fun u => by rcases u with u | ⟨j, a, _⟩; exact u; omega⟩, ⟨Or.inl, fun u => by rcases u with u | ⟨j, a, _⟩; exact u; omega⟩⟩⟩
  | succ k ih =>
    obtain ⟨i1, i2, i3⟩ := ih
    have a1 : fr (fun b => b = 301) (lXs B n 8 s h k) (NHp (lXs B n 8 s h k) k (vl B n (skp B n s k))) := by
      unfold NHp
      split
      · exact fr_wI fr_refl rfl
      · exact fr_refl
    generalize eN : NHp (lXs B n 8 s h k) k (vl B n (skp B n s k)) = N at *
    have e : lXs B n 8 s h (k + 1) = pwL (pwL N 280 8 (pl N 280 8 ||| plshl 1 (vl B n (skp B n s k)))) 280 7 (pl N 280 7 ||| plshl 1 (vl B n (skp B n s k))) := by
      show ltl 8 _ (NHp (lXs B n 8 s h k) k (vl B n (skp B n s k))) = _
      rw [eN]
      unfold ltl
      rw [if_pos rfl]
    rw [e]
    refine ⟨fr_wL (fr_wL (fr_trans i1 (fr_mono a1 (fun b hb => Or.inr hb))) (Or.inl rfl)) (Or.inl rfl), by rw [pi_wLf, pi_wLf, fr_fi a1 (by decide)]; exact i2, fun rng c hc => ?_⟩
    have r := rng k (by omega)
    obtain ⟨v, ev⟩ : ∃ v : Nat, vl B n (skp B n s k) = v := ⟨(vl B n (skp B n s k)).toNat, by omega⟩
    obtain ⟨j1, j2⟩ := i3 (fun j hj => rng j (by omega)) c hc
    have ext : (∃ j, j < k + 1 ∧ vl B n (skp B n s j) = c) ↔ ((∃ j, j < k ∧ vl B n (skp B n s j) = c) ∨ c = v) := by
      constructor
      · intro ⟨j, a, b⟩
        by_cases y : j = k
        · rw [y, ev] at b; exact Or.inr (by omega)
        · exact Or.inl ⟨j, by omega, b⟩
      · intro u
        rcases u with ⟨j, a, b⟩ | u
        · exact ⟨j, by omega, b⟩
        · exact ⟨k, by omega, by rw [ev, u]⟩
    refine ⟨?_, ?_⟩
    · rw [pl_wLs, fr_l a1 (by decide), tb_or, ev, tb_bit (by omega) hc, Bool.or_eq_true, j1, decide_eq_true_eq, ext, or_assoc]
    · rw [pl_wL, if_neg (by decide), pl_wLs, fr_l a1 (by decide), tb_or, ev, tb_bit (by omega) hc, Bool.or_eq_true, j2, decide_eq_true_eq, ext, or_assoc]
theorem lake_shore (o : OC h) (I : LIs 0 DR0 h g B n s f q) (k1 : kd B n s = 1) (wl_ : wdl B n s = (8 : Nat)) : LNs 0 DR0 B n h g s (pf_Re_readLine h) (pf_M_lakeLine g) := by
  have no := lake_ov (l := 8) I (by decide) (by decide) (by decide)
  have drr := I.2.2.2.2.2.2
  refine list_gen (l := 8) (a0 := 116) (lo := 1) (hi := 10) o I (Or.inl ⟨rfl, rfl, rfl, rfl, rfl⟩) no k1 wl_ (fun g1 g2 t1 q1 => ?_) (fun f0 m h' g' rng fh fm e11 e21 e420 u2 u3 u4 => ?_)
  · unfold pf_M_lakeLine
    rw [t1, bsm]
    simp only []
    rw [if_neg (by decide), k44 (by decide), k84 (by decide), k152 (by decide), k162 (by decide), k172 (by decide)]
    unfold pj_M_lakeLine_191
    have q1 : pf_M_cellsLine 116 g1 = some g2 := q1
    rw [if_pos (by decide), q1, bsm, k203 (by decide)]
    cases pf_M_endsLine g2 <;> rfl
  · obtain ⟨da, dt, ds, df, dp, dc, dn⟩ := drr f0
    obtain ⟨i1, i2, i3⟩ := lXs_8 (B := B) (n := n) (s := nx B n s) (h := h) (k := m)
    have i3 := i3 rng
    have out : ∀ j, (j < 116 ∨ 152 ≤ j) → pi g' 420 j = pi g 420 j := fun j hj => by
      rw [e420, cif_f (fun ⟨i, a, b⟩ => by have := rng i a; omega)]
    have p280 : pi h' 280 = pi h 280 := by rw [fr_fi fh (by decide)]; exact i2
    have p3 : ∀ b, 281 ≤ b → b ≤ 300 → pi h' b = pi h b ∧ pl h' b = pl h b := fun b u v => ⟨by rw [fr_fi fh (by omega), fr_fi i1 (by omega)], by rw [fr_fl fh (by omega), fr_fl i1 (by omega)]⟩
    refine ⟨D0a_c da (fun j _ => by rw [p280]) (fun j hj => out j (by omega)), D0t_c dt ⟨(p3 281 (by decide) (by decide)).1, (p3 282 (by decide) (by decide)).1, (p3 283 (by decide) (by decide)).1⟩ (fun j j1 j2 => out j (by omega)) (fun j j1 j2 => out j (by omega)), fun c hc => ?_, D0f_c df (by rw [p280]) (p3 285 (by decide) (by decide)).1 (out 3 (by decide)) (fun j j1 j2 => out j (by omega)), D0p_c dp (by rw [p280]) ⟨(p3 286 (by decide) (by decide)).1, (p3 287 (by decide) (by decide)).1, (p3 288 (by decide) (by decide)).1, (p3 289 (by decide) (by decide)).1⟩ (out 4 (by decide)) (fun j j1 j2 => out j (by omega)), D0c_c dc (p3 284 (by decide) (by decide)).2 e21 e11, ?_⟩
    · have old := ds c hc
      rw [fr_l fh (by decide), (i3 c (by omega)).1, e420]
      rcases Classical.em (∃ i, i < m ∧ 116 + c = 116 + (vl B n (skp B n (nx B n s) i)).toNat) with u | u
      · rw [cif_t u]
        obtain ⟨i, a, b⟩ := u
        exact ⟨⟨fun _ => rfl, fun _ => Or.inr ⟨i, a, by have := rng i a; omega⟩⟩, Or.inr rfl⟩
      · rw [cif_f u]
        exact ⟨⟨fun v => by rcases v with v | ⟨i, a, b⟩; exact old.1.mp v; exact absurd ⟨i, a, by omega⟩ u, fun v => Or.inl (old.1.mpr v)⟩, old.2⟩
    · obtain ⟨d1, d2, d3, d4⟩ := dn
      have l8 : pl h' 280 8 = pl (lXs B n 8 (nx B n s) h m) 280 8 := fr_l fh (by decide)
      have top : 0 ≤ pi g' 417 9 ∧ pi g' 417 9 ≤ 35 := by
        rcases u4 with u4 | ⟨i, a, b⟩
        · rw [u4]; exact d1
        · rw [b]; exact rng i a
      refine ⟨top, fun c hc u => ?_, ?_, EX_c d4 dp.2.1 (out 4 (by decide)) (fun j j1 j2 => out j (by omega)) e21 e11 u2⟩
      · rw [l8] at u
        rcases (i3 c hc).2.mp u with u | ⟨i, a, b⟩
        · have := d2 c hc u; omega
        · have := u3 i a; omega
      · rw [l8]
        rcases u4 with u4 | ⟨i, a, b⟩
        · rw [u4]
          rcases d3 with d3 | d3
          · exact Or.inl d3
          · exact Or.inr ((i3 _ (by omega)).2.mpr (Or.inl d3))
        · exact Or.inr ((i3 _ (by omega)).2.mpr (Or.inr ⟨i, a, by omega⟩))
theorem c_addShop {h : pH} {a b c d : Int} {k : Nat} (e : pi h 280 11 = k) (k6 : k < 6) : pf_La_addShop 280 a b c d h = some (pwI (pwI (pwI (pwI (pwI h 286 k a) 287 k b) 288 k c) 289 k d) 280 11 ((k : Int) + 1)) := by
  unfold pf_La_addShop pj_La_addShop_39
  simp (disch := omega) only [pi_wIa, e, gib, Int.toNat_natCast, wr_eq]
  rw [if_neg (by omega)]
theorem lake_shop (o : OC h) (I : LIs 0 DR0 h g B n s f q) (k1 : kd B n s = 1) (wl_ : wdl B n s = (9 : Nat)) : LNs 0 DR0 B n h g s (pf_Re_readLine h) (pf_M_lakeLine g) := by
  obtain ⟨g1, t1, t2, t3, e4⟩ := lake_takes I k1 wl_ (by decide)
  have drr := I.2.2.2.2.2.2
  have a0 : psc 36 0 = 99 := by decide +kernel
  have a1 : psc 36 1 = 112 := by decide +kernel
  have a2 : psc 36 2 = 110 := by decide +kernel
  have a3 : psc 36 3 = 116 := by decide +kernel
  have sl : sl_n 36 = 4 := by decide +kernel
  have CNN := I.2.2.2.2.2.1
  have cc := I.1
  have n600 := cc.1.2.2.1
  have sn := cc.2.1
  have m6 : FOK s f q := by
    rcases I.2.2.2.2.1 with ⟨_, _, _, _, _, m6⟩ | ⟨m1, _⟩
    · exact m6
    · have m1 : (0 : Nat) = 1 := m1
      omega
  have n4 := CNN.2.2.2.1 rfl
  have n1 := CNN.1
  have sx := (nx_ok (B := B) sn).2.2.1 (by omega)
  have ov : ovr h 9 ↔ 6 ≤ pi g 420 4 := by
    have b := CNN.2.2.2.2.2.2.2.1 (by decide)
    have d := CNN.2.2.2.2.2.2.2.2 (by decide)
    unfold ovr
    rw [b, d, if_pos rfl, if_neg (by decide), if_neg (by decide), n4.1]
    clear CNN
    omega
  have e41 : pi g1 420 = pi g 420 := fr_fi t2.1 (by decide)
  have pre : ∃ g2, pf_M_shopLine s g1 = pj_M_shopLine_17 s g2 ∧ MST g2 B n (opT B n s f q (ovr h 9)) ∧ MN g1 g2 ∧ pi g2 417 9 = pi g1 417 9 := by
    unfold pf_M_shopLine
    rw [e41]
    by_cases y : pi g 420 4 < 6
    · rw [if_pos y]
      have no : ¬ (f = 0 ∧ ovr h 9) := fun v => by have := ov.mp v.2; omega
      exact ⟨g1, rfl, by rw [opT_no no]; exact t3, MN_refl, rfl⟩
    · rw [if_neg y]
      have ovt : ovr h 9 := ov.mpr (by omega)
      rcases t3 with ⟨_, u2, u3, u4, u5, u6⟩ | ⟨u1, _⟩
      · have u4 : pi g1 418 4 = f := u4
        have u5 : pi g1 418 5 = q := u5
        obtain ⟨g2, b1, b2, b3, b4, b5⟩ := m_also (k := 3) (at_ := (s : Int)) u3 u4 u5 (by unfold FOK at m6; clear CNN; omega)
        rw [b1, bsm]
        refine ⟨g2, rfl, Or.inl ⟨rfl, MT_n u2 (fun j _ => b3 j) (fun j hj => b2.2.2 j (by omega) (by omega)), by rw [b3]; exact u3, ?_, ?_, ?_⟩, b2, b3 9⟩
        · show pi g2 418 4 = cif (f = 0 ∧ ovr h 9) 3 f
          rw [b4]
          by_cases f0 : f = 0
          · rw [if_pos f0, cif_t ⟨f0, ovt⟩]
          · rw [if_neg f0, cif_f (fun v => f0 v.1)]
        · show pi g2 418 5 = cif (f = 0 ∧ ovr h 9) (s : Int) q
          rw [b5]
          by_cases f0 : f = 0
          · rw [if_pos f0, cif_t ⟨f0, ovt⟩]
          · rw [if_neg f0, cif_f (fun v => f0 v.1)]
        · show FOK (nx B n s) (cif (f = 0 ∧ ovr h 9) 3 f) (cif (f = 0 ∧ ovr h 9) (s : Int) q)
          clear CNN
          unfold FOK at *
          by_cases f0 : f = 0
          · rw [cif_t ⟨f0, ovt⟩, cif_t ⟨f0, ovt⟩]; omega
          · rw [cif_f (fun v => f0 v.1), cif_f (fun v => f0 v.1)]; omega
      · have u1 : (0 : Nat) = 1 := u1
        omega
  obtain ⟨g2, p1, p2, p3, p4⟩ := pre
  obtain ⟨g3, b1, b2, b3, b4⟩ := m_ck (ls := psc 36) (T := opT B n s f q (ovr h 9)) (k := 0) p2 a0
  generalize ev0 : nvl B n 0 35 (nTs B n (psc 36) (opT B n s f q (ovr h 9)) 0) = v0 at *
  obtain ⟨g4, c1, c2, c3, c4⟩ := m_nk (ls := psc 36) (T := opT B n s f q (ovr h 9)) (k := 1) (lo := 1) (hi := 99) b2 (by rw [a1]; decide) (by rw [a1]; rfl) (by rw [a1]; rfl)
  generalize ev1 : nvl B n 1 99 (nTs B n (psc 36) (opT B n s f q (ovr h 9)) 1) = v1 at *
  obtain ⟨g5, d1, d2, d3, d4⟩ := m_nk (ls := psc 36) (T := opT B n s f q (ovr h 9)) (k := 2) (lo := 0) (hi := 9) c2 (by rw [a2]; decide) (by rw [a2]; rfl) (by rw [a2]; rfl)
  generalize ev2 : nvl B n 0 9 (nTs B n (psc 36) (opT B n s f q (ovr h 9)) 2) = v2 at *
  obtain ⟨g6, r1, r2, r3, r4⟩ := m_nk (ls := psc 36) (T := opT B n s f q (ovr h 9)) (k := 3) (lo := 0) (hi := 99) d2 (by rw [a3]; decide) (by rw [a3]; rfl) (by rw [a3]; rfl)
  generalize ev3 : nvl B n 0 99 (nTs B n (psc 36) (opT B n s f q (ovr h 9)) 3) = v3 at *
  have g6R : pi g6 420 = pi g 420 := by rw [MN_i r3 (by decide), MN_i d3 (by decide), MN_i c3 (by decide), MN_i b3 (by decide), MN_i p3 (by decide)]; exact e41
  have kb : 0 ≤ pi g 420 4 ∧ pi g 420 4 ≤ 600 := by clear CNN; omega
  have sto : ∃ g7, pj_M_shopLine_17 s g2 = some g7 ∧ FMT g6 g7 ∧ pi g7 417 = pi g6 417 ∧ pi g7 418 = pi g6 418 ∧ pi g7 421 = pi g6 421 ∧ pi g7 420 4 = pi g 420 4 + 1 ∧ (pi g 420 4 < 6 → ∀ j, j ≠ 4 → pi g7 420 j = if j = 236 + 4 * (pi g 420 4).toNat then v0 else (if j = 237 + 4 * (pi g 420 4).toNat then v1 else (if j = 238 + 4 * (pi g 420 4).toNat then v2 else (if j = 239 + 4 * (pi g 420 4).toNat then v3 else pi g 420 j)))) := by
    clear CNN ov drr n4 n1
    unfold pj_M_shopLine_17 pj_M_shopLine_113
    rw [b1, bsm]
    simp only []
    rw [c1, bsm]
    simp only []
    rw [d1, bsm]
    simp only []
    rw [r1, bsm]
    simp only []
    rw [g6R]
    by_cases y : 6 ≤ pi g 420 4
    · rw [if_pos y, wr_eq (by omega) (by omega)]
      exact ⟨_, rfl, FMT_w (Or.inl rfl), pi_wIf (by decide), pi_wIf (by decide), pi_wIf (by decide), pi_wIs, fun v => by omega⟩
    · obtain ⟨k, ek⟩ : ∃ k : Nat, pi g 420 4 = k := ⟨(pi g 420 4).toNat, by omega⟩
      rw [if_neg y, ek]
      simp (disch := omega) only [wr_eq, gib]
      rw [show (236 + 4 * (k : Int)).toNat = 236 + 4 * k by omega, show (236 + 4 * (k : Int) + 1).toNat = 237 + 4 * k by omega, show (236 + 4 * (k : Int) + 2).toNat = 238 + 4 * k by omega, show (236 + 4 * (k : Int) + 3).toNat = 239 + 4 * k by omega]
      generalize eG : pwI (pwI (pwI (pwI g6 420 (236 + 4 * k) v0) 420 (237 + 4 * k) v1) 420 (238 + 4 * k) v2) 420 (239 + 4 * k) v3 = G
      have x0 : pi G 420 4 = k := by rw [← eG, pi_wIi (by omega), pi_wIi (by omega), pi_wIi (by omega), pi_wIi (by omega), g6R]; exact ek
      have gj : ∀ j, pi G 420 j = if j = 236 + 4 * k then v0 else (if j = 237 + 4 * k then v1 else (if j = 238 + 4 * k then v2 else (if j = 239 + 4 * k then v3 else pi g 420 j))) := fun j => by
        rw [← eG]
        by_cases j1 : j = 236 + 4 * k
        · rw [if_pos j1, j1, pi_wIi (by omega), pi_wIi (by omega), pi_wIi (by omega), pi_wIs]
        · rw [if_neg j1]
          by_cases j2 : j = 237 + 4 * k
          · rw [if_pos j2, j2, pi_wIi (by omega), pi_wIi (by omega), pi_wIs]
          · rw [if_neg j2]
            by_cases j3 : j = 238 + 4 * k
            · rw [if_pos j3, j3, pi_wIi (by omega), pi_wIs]
            · rw [if_neg j3]
              by_cases j4 : j = 239 + 4 * k
              · rw [if_pos j4, j4, pi_wIs]
              · rw [if_neg j4, pi_wIi j4, pi_wIi j3, pi_wIi j2, pi_wIi j1, g6R]
      have fG : FMT g6 G := by rw [← eG]; exact FMT_trans (FMT_trans (FMT_trans (FMT_w (Or.inl rfl)) (FMT_w (Or.inl rfl))) (FMT_w (Or.inl rfl))) (FMT_w (Or.inl rfl))
      have eb : ∀ b, b ≠ 420 → pi G b = pi g6 b := fun b hb => by rw [← eG, pi_wIf hb, pi_wIf hb, pi_wIf hb, pi_wIf hb]
      rw [x0, wr_eq (by omega) (by omega)]
      refine ⟨_, rfl, FMT_trans fG (FMT_w (Or.inl rfl)), by rw [pi_wIf (by decide)]; exact eb _ (by decide), by rw [pi_wIf (by decide)]; exact eb _ (by decide), by rw [pi_wIf (by decide)]; exact eb _ (by decide), pi_wIs, fun _ j hj => ?_⟩
      rw [pi_wIi hj, gj j, Int.toNat_natCast]
  obtain ⟨g7, s1, s2, s3, s4, s5, s6, s7⟩ := sto
  obtain ⟨g', w1, w2, w3, w4⟩ := m_endsLine (g := g7) (MST_n r2 (fun j _ => by rw [s3]) (fun j _ => by rw [s4]))
  have em : pf_M_lakeLine g = some g' := by
    unfold pf_M_lakeLine
    rw [t1, bsm]
    simp only []
    rw [if_neg (by decide), k44 (by decide), k84 (by decide), k152 (by decide), k162 (by decide), k172 (by decide), k191 (by decide)]
    unfold pj_M_lakeLine_203 pj_M_lakeLine_214
    rw [if_pos (by decide), e4, p1, s1, bsm, w1, bsm]
  have e11 : pi g' 417 11 = pi g 417 11 := by rw [w3.2.1 11 (by omega), s3, r3.2.1 11 (by omega), d3.2.1 11 (by omega), c3.2.1 11 (by omega), b3.2.1 11 (by omega), p3.2.1 11 (by omega), t2.2 11 (by omega)]
  have e9 : pi g' 417 9 = max (pi g 417 9) v0 := by rw [w4, s3, r4, d4, c4, b4, p4, t2.2 9 (by omega)]
  have e21 : pi g' 421 = pi g 421 := by rw [MN_i w3 (by decide), s5, MN_i r3 (by decide), MN_i d3 (by decide), MN_i c3 (by decide), MN_i b3 (by decide), MN_i p3 (by decide), fr_fi t2.1 (by decide)]
  have e420 : pi g' 420 = pi g7 420 := MN_i w3 (by decide)
  have R4 : pi g' 420 4 = pi g 420 4 + 1 := by rw [e420]; exact s6
  have fm : FMT g g' := FMT_trans (MN_FMT (MA_MN t2)) (FMT_trans (MN_FMT p3) (FMT_trans (MN_FMT b3) (FMT_trans (MN_FMT c3) (FMT_trans (MN_FMT d3) (FMT_trans (MN_FMT r3) (FMT_trans s2 (MN_FMT w3)))))))
  have te : ∀ h4 k, pi h4 279 8 = (0 : Nat) → pi h4 280 11 = (k : Nat) → k < 6 → pf_Re_tellLine (9 : Nat) h4 = some (pwI (pwI (pwI (pwI (pwI h4 286 k (pi h4 301 0)) 287 k (pi h4 301 1)) 288 k (pi h4 301 2)) 289 k (pi h4 301 3)) 280 11 ((k : Int) + 1)) := fun h4 k e ek k6 => by
    rw [tll e]
    unfold pf_Re_tellLake
    rw [if_neg (by decide), if_neg (by decide), if_neg (by decide), if_neg (by decide), if_neg (by decide), if_neg (by decide), if_neg (by decide), if_neg (by decide), if_neg (by decide), if_pos (by decide), c_addShop ek k6, bsm]
  have cnt : f = 0 → ¬ ovr h 9 → ∃ k : Nat, pi h 280 11 = k ∧ pi g 420 4 = k ∧ k < 6 := fun f0 no => by
    have a := (drr f0).2.2.2.2.1
    have nn : ¬ 6 ≤ pi g 420 4 := fun v => no (ov.mpr v)
    exact ⟨(pi g 420 4).toNat, by rw [a.1]; omega, by omega, by omega⟩
  refine line_gen (l := 9) (a2 := 36) (g' := g') o I (by decide) k1 wl_ (by decide) (by decide) (by decide) (by decide) (by decide) (nOf 9 (by decide)) (by decide +kernel) (by decide +kernel) em (by rw [sl]; exact w2) fm (fun h4 z1 z2 z3 z4 z5 => ?_) (fun h' x5 x6 x7 _ _ => ?_) (fun w0 f0 f00 nov all h4 h5 h' z1 z2 z3 z4 => ?_)
  · rw [sl] at z1
    obtain ⟨y1, y2, y3, y4⟩ := h4_of (by decide) z1
    obtain ⟨k, ka, kb', k6⟩ := cnt z4 z5
    exact ⟨_, te h4 k z2 (by rw [y2 280 (by decide) (by decide)]; exact ka) k6, fr_wI (fr_wI (fr_wI (fr_wI (fr_wI fr_refl (by omega)) (by omega)) (by omega)) (by omega)) (by omega)⟩
  · rw [sl]
    rw [if_pos rfl] at x5
    rw [if_neg (by decide), Int.add_zero] at x6
    rw [if_neg (by decide), Int.add_zero] at x7
    have b := nx_ok (B := B) sn
    have b' := bnd_skp (B := B) (n := n) (s := nx B n s) (k := 4) b.1
    have b2' := nx_ok (B := B) (n := n) (s := skp B n (nx B n s) 4) b'.1
    obtain ⟨n1, n2, n3, n4, n5, n6, n7, n8, n9⟩ := CNN
    have n4 := n4 rfl
    refine ⟨by rw [x5]; clear n4 n5 n6 n7 n8 n9 ov; omega, by rw [x6]; clear n4 n5 n6 n7 n8 n9 ov; omega, by rw [x7]; clear n4 n5 n6 n7 n8 n9 ov; omega, fun _ => ?_, fun v => by omega, fun v => by omega, fun v => absurd rfl v, fun v => by rw [x6]; exact n8 v, fun v => by rw [x7]; exact n9 v⟩
    rw [R4, x5, e11]
    clear n5 n6 n7 n8 n9 ov
    omega
  · rw [sl] at z1 w0 f0
    obtain ⟨y1, y2, y3, y4⟩ := h4_of (by decide) z1
    obtain ⟨k, ka, kb', k6⟩ := cnt f00 nov
    rw [te h4 k z2 (by rw [y2 280 (by decide) (by decide)]; exact ka) k6] at z3
    obtain ⟨m0, r0⟩ := nvl_ok (ls := psc 36) (T := opT B n s f q (ovr h 9)) (k := 0) (m := 4) (lo := 0) (hi := 35) (by decide) w0 f0 (Or.inr (by rw [a0]; decide)) (by rw [a0]; rfl) (by rw [a0]; rfl)
    obtain ⟨m1, r1'⟩ := nvl_ok (ls := psc 36) (T := opT B n s f q (ovr h 9)) (k := 1) (m := 4) (lo := 1) (hi := 99) (by decide) w0 f0 (Or.inr (by rw [a1]; decide)) (by rw [a1]; rfl) (by rw [a1]; rfl)
    obtain ⟨m2, r2'⟩ := nvl_ok (ls := psc 36) (T := opT B n s f q (ovr h 9)) (k := 2) (m := 4) (lo := 0) (hi := 9) (by decide) w0 f0 (Or.inr (by rw [a2]; decide)) (by rw [a2]; rfl) (by rw [a2]; rfl)
    obtain ⟨m3, r3'⟩ := nvl_ok (ls := psc 36) (T := opT B n s f q (ovr h 9)) (k := 3) (m := 4) (lo := 0) (hi := 99) (by decide) w0 f0 (Or.inr (by rw [a3]; decide)) (by rw [a3]; rfl) (by rw [a3]; rfl)
    have x0 : pi h4 301 0 = v0 := by rw [y1 0 (by decide), ← ev0]; exact m0.symm
    have x1 : pi h4 301 1 = v1 := by rw [y1 1 (by decide), ← ev1]; exact m1.symm
    have x2 : pi h4 301 2 = v2 := by rw [y1 2 (by decide), ← ev2]; exact m2.symm
    have x3 : pi h4 301 3 = v3 := by rw [y1 3 (by decide), ← ev3]; exact m3.symm
    have q0 : 0 ≤ v0 ∧ v0 ≤ 35 := by rw [← x0, y1 0 (by decide)]; exact r0
    have q1 : 1 ≤ v1 ∧ v1 ≤ 99 := by rw [← x1, y1 1 (by decide)]; exact r1'
    have q2 : 0 ≤ v2 ∧ v2 ≤ 9 := by rw [← x2, y1 2 (by decide)]; exact r2'
    have q3 : 0 ≤ v3 ∧ v3 ≤ 99 := by rw [← x3, y1 3 (by decide)]; exact r3'
    rw [x0, x1, x2, x3] at z3
    have eH : h5 = pwI (pwI (pwI (pwI (pwI h4 286 k v0) 287 k v1) 288 k v2) 289 k v3) 280 11 ((k : Int) + 1) := by cases z3; rfl
    have s7 := s7 (by rw [kb']; omega)
    rw [kb', Int.toNat_natCast] at s7
    rw [kb'] at R4
    have Wj : ∀ j, j ≠ 4 → pi g' 420 j = if j = 236 + 4 * k then v0 else (if j = 237 + 4 * k then v1 else (if j = 238 + 4 * k then v2 else (if j = 239 + 4 * k then v3 else pi g 420 j))) := fun j hj => by rw [e420]; exact s7 j hj
    have out : ∀ j, j ≠ 4 → (j < 236 + 4 * k ∨ 240 + 4 * k ≤ j) → pi g' 420 j = pi g 420 j := fun j j1 j2 => by rw [Wj j j1, if_neg (by omega), if_neg (by omega), if_neg (by omega), if_neg (by omega)]
    obtain ⟨da, dt, ds, df, dp, dc, dn⟩ := drr f00
    have hb : ∀ b j, 280 ≤ b → b ≤ 300 → pi h' b j = pi h5 b j := fun b j u v => fr_i z4 (by omega)
    have rowk : ∀ b v, (b = 286 ∧ v = v0 ∨ b = 287 ∧ v = v1 ∨ b = 288 ∧ v = v2 ∨ b = 289 ∧ v = v3) → ∀ j, pi h' b j = if j = k then v else pi h b j := fun b v hv j => by
      rw [hb b j (by omega) (by omega), eH]
      have hh : pi h b j = pi h4 b j := by rw [y2 b (by omega) (by omega)]
      rw [hh]
      rcases hv with ⟨rfl, rfl⟩ | ⟨rfl, rfl⟩ | ⟨rfl, rfl⟩ | ⟨rfl, rfl⟩
      · rw [pi_wIa (by decide), pi_wIa (by decide), pi_wIa (by decide), pi_wIa (by decide), pi_wI]
        by_cases e : j = k
        · rw [if_pos ⟨rfl, e⟩, if_pos e]
        · rw [if_neg (fun u => e u.2), if_neg e]
      · rw [pi_wIa (by decide), pi_wIa (by decide), pi_wIa (by decide), pi_wI]
        by_cases e : j = k
        · rw [if_pos ⟨rfl, e⟩, if_pos e]
        · rw [if_neg (fun u => e u.2), if_neg e, pi_wIa (by decide)]
      · rw [pi_wIa (by decide), pi_wIa (by decide), pi_wI]
        by_cases e : j = k
        · rw [if_pos ⟨rfl, e⟩, if_pos e]
        · rw [if_neg (fun u => e u.2), if_neg e, pi_wIa (by decide), pi_wIa (by decide)]
      · rw [pi_wIa (by decide), pi_wI]
        by_cases e : j = k
        · rw [if_pos ⟨rfl, e⟩, if_pos e]
        · rw [if_neg (fun u => e u.2), if_neg e, pi_wIa (by decide), pi_wIa (by decide), pi_wIa (by decide)]
    have pb : ∀ b, 281 ≤ b → b ≤ 285 → pi h' b = pi h b := fun b b1 b2 => by rw [fr_fi z4 (by omega), eH, pi_wIf (by omega), pi_wIf (by omega), pi_wIf (by omega), pi_wIf (by omega), pi_wIf (by omega)]; exact y2 b (by omega) (by omega)
    have p0 : ∀ j, pi h' 280 j = if j = 11 then (k : Int) + 1 else pi h 280 j := fun j => by
      rw [fr_i z4 (by decide), eH, pi_wI]
      by_cases e : j = 11
      · rw [if_pos ⟨rfl, e⟩, if_pos e]
      · rw [if_neg (fun u => e u.2), if_neg e, pi_wIa (by decide), pi_wIa (by decide), pi_wIa (by decide), pi_wIa (by decide), y2 280 (by decide) (by decide)]
    have lb : ∀ b j, 280 ≤ b → b ≤ 300 → (b ≠ 280 ∨ j ≠ 8) → pl h' b j = pl h b j := fun b j b1 b2 hb => by rw [fr_l z4 (by omega), eH]; exact y3 b j b1 b2 hb
    have l8 : pl h' 280 8 = pl h 280 8 ||| plshl 1 v0 := by
      rw [fr_l z4 (by decide), eH]
      show pl h4 280 8 = _
      rw [y4, nXs_nm, nXs_nm, nXs_nm, nXs_nm, if_neg (by rw [a3]; decide), if_neg (by rw [a2]; decide), if_neg (by rw [a1]; decide), if_pos (Or.inl a0), ← y1 0 (by decide), x0]; rfl
    refine ⟨D0a_c da (fun j hj => by rw [p0, if_neg (by omega)]) (fun j hj => out j (by omega) (by omega)), D0t_c dt ⟨pb 281 (by decide) (by decide), pb 282 (by decide) (by decide), pb 283 (by decide) (by decide)⟩ (fun j j1 j2 => out j (by omega) (by omega)) (fun j j1 j2 => out j (by omega) (by omega)), D0s_c ds (lb 280 7 (by decide) (by decide) (Or.inr (by decide))) (fun j j1 j2 => out j (by omega) (by omega)), D0f_c df (by rw [p0, if_neg (by decide)]) (pb 285 (by decide) (by decide)) (out 3 (by decide) (by omega)) (fun j j1 j2 => out j (by omega) (by omega)), ⟨by rw [p0, if_pos rfl, R4], by rw [R4]; omega, fun t ht => ?_⟩, D0c_c dc (funext fun j => lb 284 j (by decide) (by decide) (Or.inl (by decide))) e21 e11, D0n_1 dn q0 l8 e9 ⟨fun t ht => ?_, fun i hi => ?_⟩⟩
    case refine_2 =>
      have dx := dn.2.2.2
      rw [R4] at ht
      rw [e9]
      by_cases e : t = k
      · rw [Wj (236 + 4 * t) (by omega), e, if_pos rfl]; omega
      · rw [out (236 + 4 * t) (by omega) (by omega)]
        have := dx.1 t (by rw [kb']; omega)
        omega
    case refine_3 =>
      have dx := dn.2.2.2
      rw [e11] at hi
      rw [e21, e9]
      have := dx.2 i hi
      omega
    rw [R4] at ht
    rw [rowk 286 v0 (Or.inl ⟨rfl, rfl⟩), rowk 287 v1 (Or.inr (Or.inl ⟨rfl, rfl⟩)), rowk 288 v2 (Or.inr (Or.inr (Or.inl ⟨rfl, rfl⟩))), rowk 289 v3 (Or.inr (Or.inr (Or.inr ⟨rfl, rfl⟩)))]
    by_cases e : t = k
    · rw [if_pos e, if_pos e, if_pos e, if_pos e, Wj (236 + 4 * t) (by omega), Wj (237 + 4 * t) (by omega), Wj (238 + 4 * t) (by omega), Wj (239 + 4 * t) (by omega), e, if_pos rfl, if_neg (by omega), if_pos rfl, if_neg (by omega), if_neg (by omega), if_pos rfl, if_neg (by omega), if_neg (by omega), if_neg (by omega), if_pos rfl]
      exact ⟨⟨rfl, q0⟩, ⟨rfl, q1⟩, ⟨rfl, q2⟩, ⟨rfl, q3⟩⟩
    · rw [if_neg e, if_neg e, if_neg e, if_neg e, out (236 + 4 * t) (by omega) (by omega), out (237 + 4 * t) (by omega) (by omega), out (238 + 4 * t) (by omega) (by omega), out (239 + 4 * t) (by omega) (by omega)]
      exact dp.2.2 t (by rw [kb']; omega)
end Tu
