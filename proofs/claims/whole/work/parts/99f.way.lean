/-! ways: short and spare -/
/-- what is told of a way -/
noncomputable def wyT (o D sp : Int) (P : Nat → Int) : Int := if o = 0 then D + 1 else (if o = 1 then sp else (if 10 ≤ o ∧ o < 10 + (D + 1) then P (o - 10).toNat else -1))
theorem c_tail {o D sp s : Int} {P : Nat → Int} {t : pH} (D0 : 0 ≤ D ∧ D ≤ 35) (e0 : pi t 311 0 = D + 1) (e1 : ∀ i : Nat, (i : Int) ≤ D → pi t 312 i = P i) (es : sp = if s = 1 then pi t 311 1 else 0) : (if o = 0 then (some (pi t 311 0, t)) else (if o = 1 then (if s = 1 then (some (pi t 311 1, t)) else (some (0, t))) else (if o < 10 then (some (-1, t)) else (if (wr (10 + (pi t 311 0))) ≤ o then (some (-1, t)) else (ia_gd (pib (wr (o - 10)) 36) (some (pi t 312 (Int.toNat (wr (o - 10))), t))))))) = some (wyT o D sp P, t) := by
  unfold wyT
  rw [e0, wr_eq (x := 10 + (D + 1)) (by omega) (by omega)]
  by_cases o0 : o = 0
  · rw [if_pos o0, if_pos o0]
  · rw [if_neg o0, if_neg o0]
    by_cases o1 : o = 1
    · rw [if_pos o1, if_pos o1, es]
      split <;> rfl
    · rw [if_neg o1, if_neg o1]
      by_cases o2 : o < 10
      · rw [if_pos o2, if_neg (by omega)]
      · rw [if_neg o2]
        by_cases o3 : 10 + (D + 1) ≤ o
        · rw [if_pos o3, if_neg (by omega)]
        · rw [if_neg o3, if_pos (by omega), wr_eq (by omega) (by omega), gib (by omega) (by omega), e1 _ (by omega)]
theorem m_tail {o D sp x1 x2 x3 x4 x5 x6 x7 x8 : Int} {P : Nat → Int} {t : pH} (D0 : 0 ≤ D ∧ D ≤ 35) (e0 : pi t 417 27 = D + 1) (e1 : ∀ i : Nat, (i : Int) ≤ D → pi t 427 i = P i) : pj_M_way_128 x1 x2 x3 x4 x5 x6 x7 x8 o sp t = some (wyT o D sp P, t) := by
  unfold pj_M_way_128 wyT
  rw [e0, if_neg (by omega), m_isIn, bsm, if1, wr_eq (x := 9 + (D + 1)) (by omega) (by omega)]
  by_cases o0 : o = 0
  · rw [if_pos o0, if_pos o0]
  · rw [if_neg o0, if_neg o0]
    by_cases o1 : o = 1
    · rw [if_pos o1, if_pos o1]
    · rw [if_neg o1, if_neg o1]
      by_cases o2 : 10 ≤ o ∧ o < 10 + (D + 1)
      · rw [if_pos (show 10 ≤ o ∧ o ≤ 9 + (D + 1) by omega), if_pos o2, wr_eq (by omega) (by omega), gib (by omega) (by omega), e1 _ (by omega)]
      · rw [if_neg (show ¬ (10 ≤ o ∧ o ≤ 9 + (D + 1)) by omega), if_neg o2]
theorem p_way01 {x y z n ld fm to s o : Int} (hs : s ≠ 2) : asks (pf_I_way x y z n ld fm to s o) (pf_M_way x y z n ld fm to s o) := by
  by_cases q0 : s = 0 ∨ s = 1
  · refine ask_trip (x := x) (y := y) (z := z) (n := n) (load := ld) (fm := fm) (to := to) (-1) (km := fun v3 => (if v3.1 = 0 then (some (-1, v3.2)) else (if s = 2 then ((pf_M_luckyWay fm to ld v3.2).bind fun v10 => (pj_M_way_128 x y z n ld fm to s o 0 v10)) else (if s = 1 then ((pf_M_isWay fm to ld (-1) v3.2).bind fun v7 => (if v7.1 = 0 then (pj_M_way_113 x y z n ld fm to s o 0 v7.2) else ((pf_M_greatestLoad fm to 20000 v7.2).bind fun v8 => ((pf_M_shortWay fm to v8.1 v8.2).bind fun v9 => (pj_M_way_128 x y z n ld fm to s o (wr (v8.1 - ld)) v9.2))))) else (pj_M_way_113 x y z n ld fm to s o 0 v3.2))))) (fun _ => rfl) (fun _ => rfl) (fun _ => rfl) (fun _ => rfl) (fun v g => by unfold pf_M_way; rw [m_isLoad, bsm, if1, if_neg v]) (fun v g => by unfold pf_M_way; rw [m_isLoad, bsm, if1, if_pos v, m_isIn, bsm, if1, if_pos (by omega)]) (fun _ => rfl) ?_
    intro hl ne p q l w L W S h g ⟨C, K, M, eS, Z, V, TT⟩ hf ht
    have kL := C.2.2.1
    have kW := C.2.2.2.1
    have hW := WS0 kL
    subst eS
    obtain ⟨h1, p1, p2, -, -, p5, p6⟩ := c_survey (tk := 0) hW C K V (by omega) (by omega) (by omega)
    have C1 : CX h1 p q L W := CX_fr C p2 (fun b hb => by omega)
    have f1 : fr CGs h h1 := fr_mono p2 (fun b hb => by unfold CGs; omega)
    simp only []
    rw [if_neg (show ¬ (1 : Int) = 0 by decide), if_neg (show ¬ (1 : Int) = 0 by decide), if_neg hs, p1, bsm]
    unfold pf_Wa_find
    by_cases s0 : s = 0
    · rw [if_pos s0, if_neg (by omega)]
      obtain ⟨h2, r1, r2, r3, -, r5, r6⟩ := c_findShort (load := ld) (c := fm) (to := to) (O := opn L W (pi g 422) (wt0 L) 0 (-1) ld no0) C1 p5 (fun c hc => by rw [p6 c hc]; exact rmv_opn hl.1) hf ht ne
      have f2 : fr CGs h h2 := fr_trans f1 (fr_mono r2 (fun b hb => by unfold CGs; omega))
      obtain ⟨g1, m1, m2, -, -, m4⟩ := m_short1 (load := ld) M V Z hf ht (by omega)
      rw [r1, bsm]
      unfold pj_M_way_113
      rw [m1, bsm]
      by_cases yy : wy L W (pi g 422) (wt0 L) fm to ld
      · have yy' : isw L W (opn L W (pi g 422) (wt0 L) 0 (-1) ld no0) fm to := yy
        have D1 := yy.2
        have D2 := dst_hi (W := W) (O := opn L W (pi g 422) (wt0 L) 0 (-1) ld no0) (to := to) kL hf
        rw [cif_t yy', cif_t yy]
        simp only []
        rw [gd_t (show pz1 1 = true from rfl), bsm]
        simp only []
        rw [if_neg (show ¬ (1 : Int) = 0 by decide), if_neg (show ¬ (1 : Int) = 0 by decide), c_tail (P := pth L W (opn L W (pi g 422) (wt0 L) 0 (-1) ld no0) to fm) (sp := 0) (s := s) ⟨D1, D2⟩ (r6 yy').1 (r6 yy').2 (by rw [if_neg (by omega)]), m_tail (P := pth L W (opn L W (pi g 422) (wt0 L) 0 (-1) ld no0) to fm) ⟨D1, D2⟩ (m4 yy).1 (m4 yy).2.1]
        exact ⟨_, h2, g1, rfl, f2, rfl, MF_MG m2⟩
      · have yy' : ¬ isw L W (opn L W (pi g 422) (wt0 L) 0 (-1) ld no0) fm to := yy
        rw [cif_f yy', cif_f yy]
        simp only []
        rw [gd_t (show pz1 0 = true from rfl), bsm]
        exact ⟨_, h2, g1, rfl, f2, rfl, MF_MG m2⟩
    · have s1 : s = 1 := by omega
      rw [if_neg s0, if_pos s1, if_pos s1]
      have rb := rmv_9801 kL kW hW V ht
      obtain ⟨gl, h2, r1, r2, r3, r4, r5, r6⟩ := c_greatest C1 p5 p6 hf ht ne rb.1 rb.2
      have C2 : CX h2 p q L W := CX_fr C1 r2 (fun b hb => by omega)
      have X2 := WX_fr p5 r2 (by omega)
      obtain ⟨g1, m1, m2, m3⟩ := m_way1 (fm := fm) (to := to) (load := ld) M V Z hf ht (by omega)
      unfold pf_Wa_findSpare
      rw [r1, bsm, m1, bsm]
      simp only []
      rw [wr_eq (x := gl - ld) (by omega) (by omega)]
      by_cases yy : wy L W (pi g 422) (wt0 L) fm to ld
      · have ge : ld ≤ gl := by
          rcases Int.lt_or_le gl ld with v | v
          · exact absurd (wy_mono kL hf (by omega) yy) r6
          · exact v
        have wg := r5 (by omega)
        obtain ⟨gm, g2, u1, u2, u3, u4⟩ := m_greatest (fm := fm) (to := to) (mo := 20000) (MF_MC M m2) (by rw [m3]; exact V) (fun c hc => by rw [MF_24 m2]; exact Z c hc) hf ht (by omega)
        rw [m3] at u3 u4
        have eg : gm = gl := by
          rcases u4 with ⟨e1, e2⟩ | ⟨e1, e2, e3⟩
          · exact absurd (wy_mono kL hf (by omega) yy) e2
          · have a1 : gm ≤ gl := by
              rcases Int.lt_or_le gl gm with v | v
              · exact absurd (wy_mono kL hf (by omega) e2) r6
              · exact v
            rcases e3 with v | v
            · omega
            · have : ¬ gm < gl := fun y => v (wy_mono kL hf (by omega) wg)
              omega
        rw [eg] at u1
        obtain ⟨g3, v1, v2, -, -, v4⟩ := m_short1 (load := gl) (fm := fm) (to := to) (MF_MC M (MF_trans m2 u2)) (by rw [u3]; exact V) (fun c hc => by rw [MF_24 (MF_trans m2 u2)]; exact Z c hc) hf ht (by omega)
        rw [u3] at v1 v4
        obtain ⟨h3, w1, w2, w3, -, w5, w6⟩ := c_findShort (h := pwI h2 311 1 (gl - ld)) (load := gl) (c := fm) (to := to) (O := opn L W (pi g 422) (wt0 L) 0 (-1) gl no0) (p := p) (q := q) (L := L) (W := W) (CX_fr C2 (fr_wI fr_refl rfl : fr (fun b => b = 311) h2 _) (fun b hb => by omega)) X2 (fun c hc => by rw [pi_wIa (by decide), fr_i r2 (by omega), p6 c hc]; exact rmv_opn (by omega)) hf ht ne
        have wg' : isw L W (opn L W (pi g 422) (wt0 L) 0 (-1) gl no0) fm to := wg
        have D1 := wg.2
        have D2 := dst_hi (W := W) (O := opn L W (pi g 422) (wt0 L) 0 (-1) gl no0) (to := to) kL hf
        have e311 : pi h3 311 1 = gl - ld := by rw [w3 1 (by decide), pi_wIs]
        have f3 : fr CGs h h3 := fr_trans f1 (fr_trans (fr_mono r2 (fun b hb => by unfold CGs; omega)) (fr_trans (fr_wI fr_refl (by unfold CGs; omega)) (fr_mono w2 (fun b hb => by unfold CGs; omega))))
        rw [if_neg (by omega), w1, bsm, cif_t yy, cif_t wg']
        simp only []
        rw [if_neg (show ¬ (1 : Int) = 0 by decide), if_neg (show ¬ (1 : Int) = 0 by decide), bsm]
        simp only []
        rw [gd_t (show pz1 1 = true from rfl), bsm]
        simp only []
        rw [if_neg (show ¬ (1 : Int) = 0 by decide), u1, bsm, v1, bsm]
        simp only []
        rw [wr_eq (x := gl - ld) (by omega) (by omega), c_tail (P := pth L W (opn L W (pi g 422) (wt0 L) 0 (-1) gl no0) to fm) (sp := gl - ld) (s := s) ⟨D1, D2⟩ (w6 wg').1 (w6 wg').2 (by rw [if_pos s1, e311]), m_tail (P := pth L W (opn L W (pi g 422) (wt0 L) 0 (-1) gl no0) to fm) ⟨D1, D2⟩ (v4 wg).1 (v4 wg).2.1]
        exact ⟨_, h3, g3, rfl, f3, rfl, MF_MG (MF_trans m2 (MF_trans u2 v2))⟩
      · have lt : gl < ld := by
          rcases Int.lt_or_le gl ld with v | v
          · exact v
          · exact absurd (wy_mono kL hf v (r5 (by omega))) yy
        obtain ⟨g2, v1, v2, -, -, -⟩ := m_short1 (load := ld) (fm := fm) (to := to) (MF_MC M m2) (by rw [m3]; exact V) (fun c hc => by rw [MF_24 m2]; exact Z c hc) hf ht (by omega)
        rw [m3] at v1
        rw [if_pos lt, cif_f yy, bsm]
        unfold pj_M_way_113
        simp only []
        rw [gd_t (show pz1 0 = true from rfl), bsm, v1, cif_f yy]
        exact ⟨_, pwI h2 311 1 (gl - ld), g2, rfl, fr_trans f1 (fr_trans (fr_mono r2 (fun b hb => by unfold CGs; omega)) (fr_wI fr_refl (by unfold CGs; omega))), rfl, MF_MG (MF_trans m2 v2)⟩
  · refine ask_no (-1) (c_no (x := x) (y := y) (z := z) (n := n) (-1) (fun _ => rfl) (fun _ => rfl) ?_) (fun g B I => ⟨g, ?_, MG_refl⟩)
    · intro p q L W S h C K V
      have kL := C.2.2.1
      obtain ⟨h1, p1, p2, -, -, -, -⟩ := c_survey (tk := 0) (WS0 kL) C K V (by omega) (by omega) (by omega)
      have fs : pf_Wa_find s ld fm to h1 = some (0, h1) := by
        unfold pf_Wa_find
        rw [if_neg (by omega), if_neg (by omega), if_neg hs]
      rw [n10]
      simp only []
      rw [c_isTrip C K.1.2.1, bsm, p1, bsm, fs, bsm]
      split
      · exact ⟨h, rfl, fr_refl⟩
      · exact ⟨h1, rfl, fr_mono p2 (fun b hb => by unfold CGs; omega)⟩
    · unfold pf_M_way
      rw [m_isLoad, bsm, if1, m_isIn, bsm, if1, if_neg (show ¬ (0 ≤ s ∧ s ≤ 2) by omega)]
      split <;> rfl
