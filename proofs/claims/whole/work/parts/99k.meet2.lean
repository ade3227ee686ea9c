/-! meet: the ways taken, the question -/
section Dl
variable {h : pH} {a p q l w : Nat} {L W wt sv S : Nat → Int} {u : Bool} {d : Nat} {tk : Int}
def mNo (L W S wt : Nat → Int) (la lb NA NB : Int) (A B : Nat → Int) (x : Nat) : Prop := ∀ j, j < NA.toNat → ¬ mAt L W S wt la lb x NB A B j
theorem c_later {la lb NA NB : Int} {A B : Nat → Int} {a0 a2 : Nat} (hW : WS L wt sv) (C : CX h p q L W) (K : SC h 303 p q L W wt sv false S) (V : SV L S d) (la0 : 1 ≤ la ∧ la ≤ 999) (lb0 : 1 ≤ lb ∧ lb ≤ 999) (nA : 1 ≤ NA ∧ NA ≤ 36) (nB : 1 ≤ NB ∧ NB ≤ 36) (ea : pi h a0 0 = la) (eb : pi h a2 0 = lb) (ea1 : pi h a0 1 = NA) (eb1 : pi h a2 1 = NB) (eA : ∀ i : Nat, (i : Int) < NA → pi h (a0 + 1) i = A i ∧ inr L (A i)) (eB : ∀ i : Nat, (i : Int) < NB → pi h (a2 + 1) i = B i ∧ inr L (B i)) : ∃ r, pf_Ro_fewestLater a0 303 a2 h = some r ∧ FM (mNo L W S wt la lb NA NB A B) 41 r := by
  unfold pf_Ro_fewestLater
  refine lpf (F := fun n (i : Nat) (_ : Unit) => pl_Ro_fewestLater_2 a0 303 a2 h (fun x3 => some x3) (some ((-1))) n i) (Q := fun r => ∃ v, r = some v ∧ FM (mNo L W S wt la lb NA NB A B) 41 v) 41 (fun i _ => ∀ j, j < i → ¬ mNo L W S wt la lb NA NB A B j) ?_ ?_ fu_ 0 () (by omega) (by unfold fu_; omega) (fun j hj => absurd hj (Nat.not_lt_zero _))
  · intro n i _ hi I
    obtain ⟨r, r1, r2⟩ := c_minute (lt := i) hW C K V la0 lb0 (by omega) nA nB ea eb ea1 eb1 eA eB
    have no := (FM_no r2).1
    have e0 : pl_Ro_fewestLater_2 a0 303 a2 h (fun x3 => some x3) (some ((-1))) (n + 1) i = if r = -1 then some (i : Int) else pl_Ro_fewestLater_2 a0 303 a2 h (fun x3 => some x3) (some ((-1))) n (i + 1 : Nat) := by
      rw [pl_Ro_fewestLater_2, if_neg (by omega), r1, bsm, wr_eq (by omega) (by omega)]; rfl
    by_cases q1 : r = -1
    · left
      exact ⟨_, by show pl_Ro_fewestLater_2 a0 303 a2 h (fun x3 => some x3) (some ((-1))) (n + 1) i = _; rw [e0, if_pos q1], Or.inl ⟨i, hi, rfl, no.mp q1, I⟩⟩
    · right
      refine ⟨(), by show pl_Ro_fewestLater_2 a0 303 a2 h (fun x3 => some x3) (some ((-1))) (n + 1) i = _; rw [e0, if_neg q1], fun j hj => ?_⟩
      by_cases y : j = i
      · rw [y]; exact fun k => q1 (no.mpr k)
      · exact I j (by omega)
  · intro n _ I
    refine ⟨-1, ?_, Or.inr ⟨rfl, I⟩⟩
    show pl_Ro_fewestLater_2 a0 303 a2 h (fun x3 => some x3) (some ((-1))) (n + 1) (41 : Nat) = _
    rw [pl_Ro_fewestLater_2, if_pos (by omega)]
theorem m_later {x1 x2 x3 x4 x5 x6 x7 x8 x9 la lb NA NB : Int} {A B : Nat → Int} (M : MC h l w L W wt sv 0) (V : SV L (pi h 422) d) (la0 : 1 ≤ la ∧ la ≤ 999) (lb0 : 1 ≤ lb ∧ lb ≤ 999) (nA : 1 ≤ NA ∧ NA ≤ 36) (nB : 1 ≤ NB ∧ NB ≤ 36) (ea1 : pi h 417 36 = NA) (eb1 : pi h 417 27 = NB) (eA : ∀ i : Nat, (i : Int) < NA → pi h 434 i = A i ∧ inr L (A i)) (eB : ∀ i : Nat, (i : Int) < NB → pi h 427 i = B i ∧ inr L (B i)) : ∃ r, pl_M_meet_235 x1 x2 x3 x4 x5 x6 x7 x8 x9 (fun x12 h => some (x12, h)) (fun h => some ((-1), h)) fu_ la lb 0 h = some (r, h) ∧ FM (mNo L W (pi h 422) wt la lb NA NB A B) 41 r := by
  refine lpf (F := fun n (i : Nat) (_ : Unit) => pl_M_meet_235 x1 x2 x3 x4 x5 x6 x7 x8 x9 (fun x12 h => some (x12, h)) (fun h => some ((-1), h)) n la lb i h) (Q := fun r => ∃ v, r = some (v, h) ∧ FM (mNo L W (pi h 422) wt la lb NA NB A B) 41 v) 41 (fun i _ => ∀ j, j < i → ¬ mNo L W (pi h 422) wt la lb NA NB A B j) ?_ ?_ fu_ 0 () (by omega) (by unfold fu_; omega) (fun j hj => absurd hj (Nat.not_lt_zero _))
  · intro n i _ hi I
    obtain ⟨r, r1, r2⟩ := m_meetAt (lt := i) M V la0 lb0 (by omega) nA nB ea1 eb1 eA eB
    have no := FM_no r2
    have e0 : pl_M_meet_235 x1 x2 x3 x4 x5 x6 x7 x8 x9 (fun x12 h => some (x12, h)) (fun h => some ((-1), h)) (n + 1) la lb i h = if 0 ≤ r then pl_M_meet_235 x1 x2 x3 x4 x5 x6 x7 x8 x9 (fun x12 h => some (x12, h)) (fun h => some ((-1), h)) n la lb (i + 1 : Nat) h else some ((i : Int), h) := by
      rw [pl_M_meet_235, if_neg (by omega), r1, bsm, wr_eq (by omega) (by omega)]; rfl
    by_cases q1 : r = -1
    · left
      exact ⟨_, by show pl_M_meet_235 x1 x2 x3 x4 x5 x6 x7 x8 x9 (fun x12 h => some (x12, h)) (fun h => some ((-1), h)) (n + 1) la lb i h = _; rw [e0, if_neg (by omega)], Or.inl ⟨i, hi, rfl, no.1.mp q1, I⟩⟩
    · right
      have r0 : 0 ≤ r := by
        rcases Int.lt_or_le r 0 with y | y
        · exact absurd (no.2 y) q1
        · exact y
      refine ⟨(), by show pl_M_meet_235 x1 x2 x3 x4 x5 x6 x7 x8 x9 (fun x12 h => some (x12, h)) (fun h => some ((-1), h)) (n + 1) la lb i h = _; rw [e0, if_pos r0], fun j hj => ?_⟩
      by_cases y : j = i
      · rw [y]; exact fun k => q1 (no.1.mpr k)
      · exact I j (by omega)
  · intro n _ I
    refine ⟨-1, ?_, Or.inr ⟨rfl, I⟩⟩
    show pl_M_meet_235 x1 x2 x3 x4 x5 x6 x7 x8 x9 (fun x12 h => some (x12, h)) (fun h => some ((-1), h)) (n + 1) la lb (41 : Nat) h = _
    rw [pl_M_meet_235, if_pos (by omega)]
theorem c_take {a0 : Nat} {x ld fm to : Int} (ha : a0 = 413 ∨ a0 = 415) (ef : Int.tmod x 100 = fm) (et : wr (Int.tdiv x 100) = to) (C : CX h p q L W) (X : WX h p q) (hR : ∀ c : Nat, (c : Int) < ce L → pi h 313 c = rmv L W S wt 0 c) (hf : inr L fm) (ht : inr L to) (ne : fm ≠ to) (hl : 1 ≤ ld) : ∃ h', pf_Ro_take a0 ld x h = some (cif (wy L W S wt fm to ld) 1 0, h') ∧ fr (fun b => b = 311 ∨ b = 312 ∨ b = 314 ∨ b = 315 ∨ b = a0 ∨ b = a0 + 1) h h' ∧ WX h' p q ∧ (wy L W S wt fm to ld → pi h' a0 0 = ld ∧ pi h' a0 1 = dst L W (opn L W S wt 0 (-1) ld no0) to fm + 1 ∧ ∀ i : Nat, (i : Int) ≤ dst L W (opn L W S wt 0 (-1) ld no0) to fm → pi h' (a0 + 1) i = pth L W (opn L W S wt 0 (-1) ld no0) to fm i) := by
  have kL := C.2.2.1
  have f1 : fr (fun b => b = a0) h (pwI h a0 0 ld) := fr_wI fr_refl rfl
  obtain ⟨h2, r1, r2, r3, -, r5, r6⟩ := c_findShort (h := pwI h a0 0 ld) (load := ld) (c := fm) (to := to) (O := opn L W S wt 0 (-1) ld no0) (CX_fr C f1 (fun b hb => by omega)) (WX_fr X f1 (by omega)) (fun c hc => by rw [fr_i f1 (by omega), hR c hc]; exact rmv_opn hl) hf ht ne
  unfold pf_Ro_take
  rw [ef, et, r1, bsm]
  by_cases yy : wy L W S wt fm to ld
  · have yy' : isw L W (opn L W S wt 0 (-1) ld no0) fm to := yy
    obtain ⟨l1, l2⟩ := r6 yy'
    have d0 := yy.2
    have d1 := dst_hi (W := W) (O := opn L W S wt 0 (-1) ld no0) (to := to) kL hf
    rw [cif_t yy', cif_t yy]
    simp only []
    rw [if_neg (show ¬ (1 : Int) = 0 by decide), l1, pi_wIs, gd_t (by unfold pcb; simp; omega)]
    refine ⟨pcpI (pwI h2 a0 1 (dst L W (opn L W S wt 0 (-1) ld no0) to fm + 1)) 312 (a0 + 1) 0 0 (dst L W (opn L W S wt 0 (-1) ld no0) to fm + 1).toNat, rfl, ?_, ?_, fun _ => ⟨?_, ?_, fun i hi => ?_⟩⟩
    · exact fr_cpI (fr_wI (fr_trans (fr_mono f1 (fun b hb => by omega)) (fr_mono r2 (fun b hb => by omega))) (by omega)) (by omega)
    · exact WX_fr r5 (fr_cpI (fr_wI fr_refl (by omega)) (by omega) : fr (fun b => b = a0 ∨ b = a0 + 1) h2 _) (by omega)
    · rw [pi_cpIa (by omega), pi_wIi (by decide), fr_i r2 (by omega), pi_wIs]
    · rw [pi_cpIa (by omega), pi_wIs]
    · rw [pi_cp0 (by omega), pi_wIa (by omega)]; exact l2 i hi
  · have yy' : ¬ isw L W (opn L W S wt 0 (-1) ld no0) fm to := yy
    rw [cif_f yy', cif_f yy]
    exact ⟨h2, rfl, fr_trans (fr_mono f1 (fun b hb => by omega)) (fr_mono r2 (fun b hb => by omega)), r5, fun k => absurd k yy⟩
theorem m_copy {x1 x2 x3 x4 x5 x6 x7 x8 x9 la lb N : Int} {K : Int → Int → pH → Option (Int × pH)} (e : pi h 417 27 = N) (n0 : 0 ≤ N ∧ N ≤ 36) : ∃ h', pl_M_meet_166 x1 x2 x3 x4 x5 x6 x7 x8 x9 K fu_ la lb 0 h = K la lb h' ∧ fr (fun b => b = 434) h h' ∧ ∀ i : Nat, (i : Int) < N → pi h' 434 i = pi h 427 i := by
  refine lpf (F := fun n (i : Nat) t => pl_M_meet_166 x1 x2 x3 x4 x5 x6 x7 x8 x9 K n la lb i t) (Q := fun r => ∃ h', r = K la lb h' ∧ fr (fun b => b = 434) h h' ∧ ∀ i : Nat, (i : Int) < N → pi h' 434 i = pi h 427 i) N.toNat (fun i t => fr (fun b => b = 434) h t ∧ ∀ j : Nat, j < i → pi t 434 j = pi h 427 j) ?_ ?_ fu_ 0 h (by omega) (by unfold fu_; omega) ⟨fr_refl, fun j hj => absurd hj (Nat.not_lt_zero _)⟩
  · intro n i t hi ⟨f, B⟩
    right
    refine ⟨pwI t 434 i (pi t 427 i), ?_, fr_wI f rfl, fun j hj => ?_⟩
    · show pl_M_meet_166 x1 x2 x3 x4 x5 x6 x7 x8 x9 K (n + 1) la lb i t = _
      rw [pl_M_meet_166, fr_i f (by omega), e, if_neg (by omega), gib (by omega) (by omega), gib (by omega) (by omega), wr_eq (by omega) (by omega)]; rfl
    · by_cases y : j = i
      · rw [y, pi_wIs, fr_i f (by omega)]
      · rw [pi_wIi y]; exact B j (by omega)
  · intro n t ⟨f, B⟩
    refine ⟨t, ?_, f, fun i hi => B i (by omega)⟩
    show pl_M_meet_166 x1 x2 x3 x4 x5 x6 x7 x8 x9 K (n + 1) la lb (N.toNat : Nat) t = _
    rw [pl_M_meet_166, fr_i f (by omega), e, if_pos (by omega)]
end Dl
theorem td_neg {x b : Int} (hx : x < 0) (h0 : -2147483648 ≤ x) (hb : b = 100 ∨ b = 1000) : -2147483648 ≤ Int.tdiv x b ∧ Int.tdiv x b ≤ 0 ∧ (Int.tmod x b < 0 ∨ Int.tdiv x b < 0) := by
  have e : Int.tdiv x b = -((-x) / b) := by
    rw [← td_p (show 0 ≤ -x by omega), Int.neg_tdiv, Int.neg_neg]
  have m := Int.tmod_add_mul_tdiv x b
  rcases hb with rfl | rfl
  · omega
  · omega
theorem p_meet {x y z n lo ra rb lt o : Int} (h5 : -2147483648 ≤ lo ∧ lo < 2147483648) (h6 : -2147483648 ≤ ra ∧ ra < 2147483648) (h7 : -2147483648 ≤ rb ∧ rb < 2147483648) : asks (pf_I_meet x y z n lo ra rb lt o) (pf_M_meet x y z n lo ra rb lt o) := by
  by_cases q0 : o = 0 ∧ ¬ (0 ≤ lt ∧ lt ≤ 40)
  · refine ask_no (-1) (fun h A R => ⟨h, ?_, fr_refl⟩) (fun g B I => ⟨g, ?_, MG_refl⟩)
    · unfold pf_I_meet
      rw [if_pos q0.1]
      by_cases q1 : lt < 0
      · rw [if_pos q1]
      · rw [if_neg q1, if_pos (by omega)]
    · unfold pf_M_meet
      rw [m_isLoad, bsm, if1, m_isLoad, bsm, if1, if_pos q0.1, m_isIn, bsm, if1, if_neg q0.2]
      split
      · rfl
      · split
        · split
          · split
            · rfl
            · split <;> rfl
          · rfl
        · rfl
  · have e17 : ∀ h, pf_I_meet x y z n lo ra rb lt o h = pj_I_meet_17 x y z n lo ra rb lt o h := fun h => by
      unfold pf_I_meet
      by_cases q1 : o = 0
      · rw [if_pos q1, if_neg (by omega), if_neg (by omega)]
      · rw [if_neg q1]
    by_cases qA : 0 ≤ lo ∧ 0 ≤ ra ∧ 0 ≤ rb ∧ (1 ≤ wr (Int.tdiv lo 1000) ∧ wr (Int.tdiv lo 1000) ≤ 999)
    · obtain ⟨l0, ra0, rb0, lbk⟩ := qA
      refine ask_trip (x := x) (y := y) (z := z) (n := n) (load := Int.tmod lo 1000) (fm := Int.tmod ra 100) (to := wr (Int.tdiv ra 100)) (-1) (km := fun v3 => (if v3.1 = 0 then (some ((-1), v3.2)) else (if (Int.tmod rb 100) = (wr (Int.tdiv rb 100)) then (some ((-1), v3.2)) else ((pf_M_isCell (pi v3.2 417 14) (Int.tmod rb 100) v3.2).bind fun v4 => (if v4 = 0 then (some ((-1), v3.2)) else ((pf_M_isCell (pi v3.2 417 14) (wr (Int.tdiv rb 100)) v3.2).bind fun v5 => (if v5 = 0 then (some ((-1), v3.2)) else ((pf_M_shortWay (Int.tmod ra 100) (wr (Int.tdiv ra 100)) (Int.tmod lo 1000) v3.2).bind fun v6 => (if v6.1 = 0 then (some ((-1), v6.2)) else (pl_M_meet_166 x y z n lo ra rb lt o (fun x10 x11 h => (pf_M_shortWay (Int.tmod rb 100) (wr (Int.tdiv rb 100)) x11 h).bind fun v9 => (if v9.1 = 0 then (some ((-1), v9.2)) else (if o = 0 then ((pf_M_meetAt x10 x11 lt v9.2).bind fun v11 => (some (v11, v9.2))) else (pl_M_meet_235 x y z n lo ra rb lt o (fun x12 h => some (x12, h)) (fun h => some ((-1), h)) fu_ x10 x11 0 v9.2)))) fu_ (Int.tmod lo 1000) (wr (Int.tdiv lo 1000)) 0 (pwI v6.2 417 36 (pi v6.2 417 27)))))))))))) (fun h => e17 h) (fun _ => rfl) (fun _ => rfl) (fun _ => rfl) (fun v g => ?_) (fun v g => ?_) (fun _ => rfl) ?_
      · unfold pf_M_meet
        rw [if_neg (by omega), m_isLoad, bsm, if1, if_neg v]
      · unfold pf_M_meet
        rw [if_neg (by omega), m_isLoad, bsm, if1, if_pos v, m_isLoad, bsm, if1, if_pos lbk, if_neg (by omega), if_neg (by omega), m_isIn, bsm, if1]
        by_cases q1 : o = 0
        · rw [if_pos q1, if_pos (by omega)]; rfl
        · rw [if_neg q1]; rfl
      · intro hl ne p q l w L W S h g ⟨C, K, M, eS, Z, V, TT⟩ hf ht
        have kL := C.2.2.1
        have hW := WS0 kL
        have zz : 4 ≤ ce L ∧ ce L ≤ 36 := sz_mul kL.1
        subst eS
        have hlM := M.1.2.2.1
        generalize eLa : Int.tmod lo 1000 = la at *
        generalize eLb : wr (Int.tdiv lo 1000) = lb at *
        generalize eFa : Int.tmod ra 100 = fa at *
        generalize eTa : wr (Int.tdiv ra 100) = ta at *
        generalize eFb : Int.tmod rb 100 = fb at *
        generalize eTb : wr (Int.tdiv rb 100) = tb' at *
        simp only []
        rw [if_neg (show ¬ (1 : Int) = 0 by decide), if_neg (show ¬ (1 : Int) = 0 by decide), c_isTrip C K.1.2.1, bsm, M.1.1, m_isCell (by omega) M.1.2.2.2.2.1 kL.1, bsm, if1, m_isCell (by omega) M.1.2.2.2.2.1 kL.1, bsm, if1]
        by_cases q1 : fb = tb'
        · rw [cif_f (fun k => k.2.1 q1), if_pos rfl, if_pos q1]
          exact ⟨_, h, g, rfl, fr_refl, rfl, MG_refl⟩
        · rw [if_neg q1]
          by_cases q2 : 0 ≤ fb ∧ fb < ce L
          · rw [if_pos q2]
            by_cases q3 : 0 ≤ tb' ∧ tb' < ce L
            · have t1 : (1 ≤ lb ∧ lb ≤ 999) ∧ fb ≠ tb' ∧ inr L fb ∧ inr L tb' := ⟨lbk, q1, q2, q3⟩
              rw [if_pos q3, cif_t t1, if_neg (show ¬ (1 : Int) = 0 by decide)]
              obtain ⟨h1, p1, p2, -, -, p5, p6⟩ := c_survey (tk := 0) hW C K V (by omega) (by omega) (by omega)
              have C1 : CX h1 p q L W := CX_fr C p2 (fun b hb => by omega)
              obtain ⟨h2, r1, r2, r3, r4⟩ := c_take (a0 := 413) (x := ra) (ld := la) (Or.inl rfl) eFa eTa C1 p5 p6 hf ht ne hl.1
              have C2 : CX h2 p q L W := CX_fr C1 r2 (fun b hb => by omega)
              have f2 : fr CGs h h2 := fr_trans (fr_mono p2 (fun b hb => by unfold CGs; omega)) (fr_mono r2 (fun b hb => by unfold CGs; omega))
              obtain ⟨g1, m1, m2, m3, -, m5⟩ := m_shortWay (c := fa) (to := ta) (load := la) (X := no0) M V hf ht (by omega) (fun c hc => ⟨fun _ y => y, fun _ => Z c (by omega)⟩)
              have F1 : MF g g1 := ⟨fr_mono m2 (fun b hb => by unfold MFs; omega), fun j _ _ => m3 j (by omega) (by omega) (by omega)⟩
              rw [p1, bsm, r1, bsm, m1, bsm]
              by_cases ya : wy L W (pi g 422) (wt0 L) fa ta la
              · have ya' : isw L W (opn L W (pi g 422) (wt0 L) 0 (-1) la no0) fa ta := ya
                obtain ⟨s1, s2, s3⟩ := r4 ya
                obtain ⟨u1, u2⟩ := m5 ya'
                have dA0 := ya.2
                have dA1 := dst_hi (W := W) (O := opn L W (pi g 422) (wt0 L) 0 (-1) la no0) (to := ta) kL hf
                have inA := fun i => pth_in (W := W) (O := opn L W (pi g 422) (wt0 L) 0 (-1) la no0) (to := ta) kL hf (i := i)
                rw [cif_t ya, cif_t ya']
                simp only []
                rw [if_neg (show ¬ (1 : Int) = 0 by decide), if_neg (show ¬ (1 : Int) = 0 by decide)]
                obtain ⟨h3, v1, v2, v3, v4⟩ := c_take (h := h2) (a0 := 415) (x := rb) (ld := lb) (S := pi g 422) (wt := wt0 L) (Or.inr rfl) eFb eTb C2 r3 (fun c hc => by rw [fr_i r2 (by omega)]; exact p6 c hc) q2 q3 q1 lbk.1
                have C3 : CX h3 p q L W := CX_fr C2 v2 (fun b hb => by omega)
                have f3 : fr CGs h h3 := fr_trans f2 (fr_mono v2 (fun b hb => by unfold CGs; omega))
                have K3 : SC h3 303 p q L W (wt0 L) (sv0 L) false (pi g 422) := SC_fr (SC_fr (SC_fr K p2 (fun b hb => by omega)) r2 (fun b hb => by omega)) v2 (fun b hb => by omega)
                obtain ⟨g2, n1, n2, n3⟩ := m_copy (h := pwI g1 417 36 (pi g1 417 27)) (x1 := x) (x2 := y) (x3 := z) (x4 := n) (x5 := lo) (x6 := ra) (x7 := rb) (x8 := lt) (x9 := o) (la := la) (lb := lb) (K := (fun x10 x11 h => (pf_M_shortWay fb tb' x11 h).bind fun v9 => (if v9.1 = 0 then (some ((-1), v9.2)) else (if o = 0 then ((pf_M_meetAt x10 x11 lt v9.2).bind fun v11 => (some (v11, v9.2))) else (pl_M_meet_235 x y z n lo ra rb lt o (fun x12 h => some (x12, h)) (fun h => some ((-1), h)) fu_ x10 x11 0 v9.2))))) (N := dst L W (opn L W (pi g 422) (wt0 L) 0 (-1) la no0) ta fa + 1) (by rw [pi_wIi (by decide)]; exact u1) (by omega)
                have F2 : MF g g2 := MF_trans (MF_wI F1 (Or.inl rfl) (by omega)) ⟨fr_mono n2 (fun b hb => by unfold MFs; omega), fun j _ _ => fr_i n2 (by omega)⟩
                have e422 : pi g2 422 = pi g 422 := by
                  rw [fr_fi n2 (by omega)]; funext k; rw [pi_wIa (by decide), fr_i m2 (by omega)]
                have M2 := MF_MC M F2
                obtain ⟨g3, k1, k2, k3, -, k5⟩ := m_shortWay (h := g2) (c := fb) (to := tb') (load := lb) (X := no0) M2 (by rw [e422]; exact V) q2 q3 (by omega) (fun c hc => ⟨fun _ y => y, fun _ => by rw [MF_24 F2]; exact Z c (by omega)⟩)
                rw [e422] at k1 k5
                have F3 : MF g g3 := MF_trans F2 ⟨fr_mono k2 (fun b hb => by unfold MFs; omega), fun j _ _ => k3 j (by omega) (by omega) (by omega)⟩
                have e422' : pi g3 422 = pi g 422 := by rw [fr_fi k2 (by omega), e422]
                rw [n1, v1, bsm, k1, bsm]
                by_cases yb : wy L W (pi g 422) (wt0 L) fb tb' lb
                · have yb' : isw L W (opn L W (pi g 422) (wt0 L) 0 (-1) lb no0) fb tb' := yb
                  obtain ⟨w1, w2, w3⟩ := v4 yb
                  obtain ⟨i1, i2⟩ := k5 yb'
                  have dB0 := yb.2
                  have dB1 := dst_hi (W := W) (O := opn L W (pi g 422) (wt0 L) 0 (-1) lb no0) (to := tb') kL q2
                  have inB := fun i => pth_in (W := W) (O := opn L W (pi g 422) (wt0 L) 0 (-1) lb no0) (to := tb') kL q2 (i := i)
                  rw [cif_t yb, cif_t yb']
                  simp only []
                  rw [if_neg (show ¬ (1 : Int) = 0 by decide), if_neg (show ¬ (1 : Int) = 0 by decide)]
                  have M3 := MF_MC M F3
                  have a1 : pi h3 413 0 = la := by rw [fr_i v2 (by omega)]; exact s1
                  have a2 : pi h3 413 1 = dst L W (opn L W (pi g 422) (wt0 L) 0 (-1) la no0) ta fa + 1 := by rw [fr_i v2 (by omega)]; exact s2
                  have a3 : ∀ i : Nat, (i : Int) < dst L W (opn L W (pi g 422) (wt0 L) 0 (-1) la no0) ta fa + 1 → pi h3 (413 + 1) i = pth L W (opn L W (pi g 422) (wt0 L) 0 (-1) la no0) ta fa i ∧ inr L (pth L W (opn L W (pi g 422) (wt0 L) 0 (-1) la no0) ta fa i) := fun i hi => ⟨by rw [fr_i v2 (by omega)]; exact s3 i (by omega), (inA i (by omega)).1⟩
                  have b3 : ∀ i : Nat, (i : Int) < dst L W (opn L W (pi g 422) (wt0 L) 0 (-1) lb no0) tb' fb + 1 → pi h3 (415 + 1) i = pth L W (opn L W (pi g 422) (wt0 L) 0 (-1) lb no0) tb' fb i ∧ inr L (pth L W (opn L W (pi g 422) (wt0 L) 0 (-1) lb no0) tb' fb i) := fun i hi => ⟨w3 i (by omega), (inB i (by omega)).1⟩
                  have c1 : pi g3 417 36 = dst L W (opn L W (pi g 422) (wt0 L) 0 (-1) la no0) ta fa + 1 := by rw [k3 36 (by omega) (by omega) (by omega), fr_i n2 (by omega), pi_wIs]; exact u1
                  have c3 : ∀ i : Nat, (i : Int) < dst L W (opn L W (pi g 422) (wt0 L) 0 (-1) la no0) ta fa + 1 → pi g3 434 i = pth L W (opn L W (pi g 422) (wt0 L) 0 (-1) la no0) ta fa i ∧ inr L (pth L W (opn L W (pi g 422) (wt0 L) 0 (-1) la no0) ta fa i) := fun i hi => ⟨by rw [fr_i k2 (by omega), n3 i hi, pi_wIa (by decide)]; exact u2 i (by omega), (inA i (by omega)).1⟩
                  have d3 : ∀ i : Nat, (i : Int) < dst L W (opn L W (pi g 422) (wt0 L) 0 (-1) lb no0) tb' fb + 1 → pi g3 427 i = pth L W (opn L W (pi g 422) (wt0 L) 0 (-1) lb no0) tb' fb i ∧ inr L (pth L W (opn L W (pi g 422) (wt0 L) 0 (-1) lb no0) tb' fb i) := fun i hi => ⟨i2 i (by omega), (inB i (by omega)).1⟩
                  by_cases o0 : o = 0
                  · rw [if_pos o0, if_pos o0]
                    obtain ⟨r, z1, z2⟩ := c_minute (h := h3) (lt := lt) hW C3 K3 V hl lbk (by omega) (by omega) (by omega) a1 w1 a2 w2 a3 b3
                    obtain ⟨r', y1, y2⟩ := m_meetAt (h := g3) (lt := lt) M3 (by rw [e422']; exact V) hl lbk (by omega) (by omega) (by omega) c1 i1 c3 d3
                    rw [e422'] at y2
                    rw [z1, y1, FM_un y2 z2]
                    exact ⟨_, h3, g3, rfl, f3, rfl, MF_MG F3⟩
                  · rw [if_neg o0, if_neg o0]
                    obtain ⟨r, z1, z2⟩ := c_later (h := h3) hW C3 K3 V hl lbk (by omega) (by omega) a1 w1 a2 w2 a3 b3
                    obtain ⟨r', y1, y2⟩ := m_later (h := g3) (x1 := x) (x2 := y) (x3 := z) (x4 := n) (x5 := lo) (x6 := ra) (x7 := rb) (x8 := lt) (x9 := o) M3 (by rw [e422']; exact V) hl lbk (by omega) (by omega) c1 i1 c3 d3
                    rw [e422'] at y2
                    rw [z1, y1, FM_un y2 z2]
                    exact ⟨_, h3, g3, rfl, f3, rfl, MF_MG F3⟩
                · have yb' : ¬ isw L W (opn L W (pi g 422) (wt0 L) 0 (-1) lb no0) fb tb' := yb
                  rw [cif_f yb, cif_f yb']
                  exact ⟨_, h3, g3, rfl, f3, rfl, MF_MG F3⟩
              · have ya' : ¬ isw L W (opn L W (pi g 422) (wt0 L) 0 (-1) la no0) fa ta := ya
                rw [cif_f ya, cif_f ya']
                exact ⟨_, h2, g1, rfl, f2, rfl, MF_MG F1⟩
            · rw [cif_f (fun k => q3 k.2.2.2), if_pos rfl, if_neg q3]
              exact ⟨_, h, g, rfl, fr_refl, rfl, MG_refl⟩
          · rw [cif_f (fun k => q2 k.2.2.1), if_pos rfl, if_neg q2]
            exact ⟨_, h, g, rfl, fr_refl, rfl, MG_refl⟩
    · have tdr : ∀ v b : Int, (b = 100 ∨ b = 1000) → -2147483648 ≤ v ∧ v < 2147483648 → wr (Int.tdiv v b) = Int.tdiv v b := fun v b hb hv => by
        rcases Int.lt_or_le v 0 with y | y
        · have := td_neg (x := v) (b := b) y hv.1 hb
          exact wr_eq (by omega) (by omega)
        · rw [td_p y]
          rcases hb with rfl | rfl <;> exact wr_eq (by omega) (by omega)
      refine ask_no (-1) (c_no (x := x) (y := y) (z := z) (n := n) (-1) (fun h => e17 h) (fun _ => rfl) ?_) (fun g B I => ⟨g, ?_, MG_refl⟩)
      · intro p q L W S h C K V
        rw [n10]
        simp only []
        rw [c_isTrip C K.1.2.1, bsm]
        by_cases u1 : (1 ≤ Int.tmod lo 1000 ∧ Int.tmod lo 1000 ≤ 999) ∧ Int.tmod ra 100 ≠ wr (Int.tdiv ra 100) ∧ inr L (Int.tmod ra 100) ∧ inr L (wr (Int.tdiv ra 100))
        · rw [cif_t u1, if_neg (show ¬ (1 : Int) = 0 by decide), c_isTrip C K.1.2.1, bsm]
          have u2 : ¬ ((1 ≤ wr (Int.tdiv lo 1000) ∧ wr (Int.tdiv lo 1000) ≤ 999) ∧ Int.tmod rb 100 ≠ wr (Int.tdiv rb 100) ∧ inr L (Int.tmod rb 100) ∧ inr L (wr (Int.tdiv rb 100))) := fun u2 => by
            obtain ⟨a1, -, a3, a4⟩ := u1
            obtain ⟨b1, -, b3, b4⟩ := u2
            have a30 := a3.1
            have a40 := a4.1
            have b30 := b3.1
            have b40 := b4.1
            rw [tdr _ _ (Or.inl rfl) h6] at a40
            rw [tdr _ _ (Or.inl rfl) h7] at b40
            refine qA ⟨?_, ?_, ?_, b1⟩
            · rcases Int.lt_or_le lo 0 with k | k
              · have t := td_neg (x := lo) (b := 1000) k h5.1 (Or.inr rfl)
                rw [tdr _ _ (Or.inr rfl) h5] at b1
                omega
              · exact k
            · rcases Int.lt_or_le ra 0 with k | k
              · have t := td_neg (x := ra) (b := 100) k h6.1 (Or.inl rfl)
                omega
              · exact k
            · rcases Int.lt_or_le rb 0 with k | k
              · have t := td_neg (x := rb) (b := 100) k h7.1 (Or.inl rfl)
                omega
              · exact k
          rw [cif_f u2]
          exact ⟨h, rfl, fr_refl⟩
        · rw [cif_f u1]
          exact ⟨h, rfl, fr_refl⟩
      · unfold pf_M_meet
        by_cases v0 : lo < 0
        · rw [if_pos v0]
        · rw [if_neg v0, m_isLoad, bsm, if1, m_isLoad, bsm, if1]
          split
          · by_cases v1 : 1 ≤ wr (Int.tdiv lo 1000) ∧ wr (Int.tdiv lo 1000) ≤ 999
            · rw [if_pos v1]
              by_cases v2 : ra < 0
              · rw [if_pos v2]
              · rw [if_neg v2, if_pos]
                rcases Int.lt_or_le rb 0 with k | k
                · exact k
                · exact absurd ⟨by omega, by omega, k, v1⟩ qA
            · rw [if_neg v1]
          · rfl
