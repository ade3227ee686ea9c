/-! lacks -/
section Di
variable {h : pH} {a p q l w : Nat} {L W wt sv S T : Nat → Int} {u : Bool} {d : Nat} {tk : Int}
noncomputable def tdw (L W wt S : Nat → Int) (fm to load : Int) (i m : Nat) : Int := fnd (fun j => dc (isw L W (opn L W S wt j (-1) load no0) fm to)) i m
theorem tdw_s {fm to load : Int} {i m : Nat} : tdw L W wt S fm to load i (m + 1) = if dc (isw L W (opn L W S wt i (-1) load no0) fm to) = true then (i : Int) else tdw L W wt S fm to load (i + 1) m := rfl
theorem MC_tk {h h' : pH} {i : Int} (M : MC h l w L W wt sv tk) (e1 : ∀ j, 14 ≤ j → j ≤ 18 → pi h' 417 j = pi h 417 j) (e2 : pi h' 418 = pi h 418) (e3 : pi h' 417 19 = i) (hi : 0 ≤ i ∧ i ≤ 100) : MC h' l w L W wt sv i := by
  obtain ⟨M0, m1, m2, m3, m4, m5⟩ := M
  have g := e1 16 (by omega) (by omega)
  have g1 := e1 17 (by omega) (by omega)
  have g2 := e1 18 (by omega) (by omega)
  refine ⟨?_, ?_, ?_, e3, by rw [g2]; exact m4, hi⟩
  · unfold MS at *
    rw [e2, e1 14 (by omega) (by omega), e1 15 (by omega) (by omega)]
    exact M0
  · intro s hs
    unfold wtM
    rw [g1, g2]
    exact m1 s hs
  · intro s hs
    unfold svM
    rw [g]
    exact m2 s hs
theorem c_thicker {fm to load : Int} (hW : WS L wt sv) (C : CX h p q L W) (K : SC h 303 p q L W wt sv false S) (V : SV L S d) (hf : inr L fm) (ht : inr L to) (ne : fm ≠ to) (hl : 1 ≤ load) : ∃ h', pf_Wa_thickerBy 303 load fm to h = some (tdw L W wt S fm to load 0 100, h') ∧ fr CGs h h' := by
  have kL := C.2.2.1
  unfold pf_Wa_thickerBy
  generalize hr : tdw L W wt S fm to load 0 100 = r
  refine lpf (F := fun n (i : Nat) t => pl_Wa_thickerBy_3 303 load fm to (fun x6 h => some (x6, h)) (fun h => some (-1, h)) n i t) (Q := fun rr => ∃ h', rr = some (r, h') ∧ fr CGs h h') 100 (fun i t => fr CGs h t ∧ SC t 303 p q L W wt sv false S ∧ r = tdw L W wt S fm to load i (100 - i)) ?_ ?_ fu_ 0 h (by omega) (by unfold fu_; omega) ⟨fr_refl, K, hr.symm⟩
  · intro n i t hi ⟨f, Kt, e⟩
    have Ct : CX t p q L W := CX_fr C f (fun b hb => hb.1)
    obtain ⟨h1, p1, p2, -, -, p5, p6⟩ := c_survey (tk := i) hW Ct Kt V (by omega) (by omega) (by omega)
    have C1 : CX h1 p q L W := CX_fr Ct p2 (fun b hb => by omega)
    obtain ⟨h2, m1, m2, -⟩ := c_measure (load := load) (c := fm) (to := to) (O := opn L W S wt i (-1) load no0) C1 p5 (fun c hc => by rw [p6 c hc]; exact rmv_opn hl) hf ht ne
    have f2 : fr CGs h h2 := fr_trans f (fr_trans (fr_mono p2 (fun b hb => by unfold CGs; omega)) (fr_mono m2 (fun b hb => by unfold CGs; omega)))
    have K2 : SC h2 303 p q L W wt sv false S := SC_fr (SC_fr Kt p2 (fun b hb => by omega)) m2 (fun b hb => by omega)
    have dlo := dst_lo (L := L) (W := W) (O := opn L W S wt i (-1) load no0) (to := to) (c := fm)
    rw [show 100 - i = (100 - (i + 1)) + 1 by omega, tdw_s] at e
    show (∃ h', pl_Wa_thickerBy_3 303 load fm to _ _ (n + 1) i t = some (_, h') ∧ _) ∨ ∃ t', pl_Wa_thickerBy_3 303 load fm to _ _ (n + 1) i t = pl_Wa_thickerBy_3 303 load fm to _ _ n (i + 1 : Nat) t' ∧ _
    rw [pl_Wa_thickerBy_3, if_neg (by omega), p1, bsm, m1, bsm]
    simp only []
    rw [wr_eq (by omega) (by omega)]
    by_cases q1 : dst L W (opn L W S wt i (-1) load no0) to fm = -1
    · right
      rw [dc_f (fun v => by have := v.2; omega), if_neg (by decide)] at e
      rw [if_pos q1]
      exact ⟨h2, rfl, f2, K2, e⟩
    · left
      rw [dc_t ⟨ne, by omega⟩, if_pos rfl] at e
      rw [if_neg q1, e]
      exact ⟨h2, rfl, f2⟩
  · intro n t ⟨f, Kt, e⟩
    refine ⟨t, ?_, f⟩
    show pl_Wa_thickerBy_3 303 load fm to _ _ (n + 1) (100 : Nat) t = _
    rw [pl_Wa_thickerBy_3, if_pos (by omega), e]
    rfl
theorem m_thicker {fm to load : Int} (M : MC h l w L W wt sv 0) (V : SV L (pi h 422) d) (Z : ∀ c : Nat, c < 36 → pi h 424 c = 0) (hf : inr L fm) (ht : inr L to) (b : 0 ≤ load ∧ load ≤ 100000) : ∃ h', pf_M_thickerBy fm to load h = some (tdw L W wt (pi h 422) fm to load 0 100, h') ∧ MF h h' := by
  have kL := M.1.2.2.2.2.2.2.1
  have z : 4 ≤ ce L ∧ ce L ≤ 36 := sz_mul kL.1
  unfold pf_M_thickerBy
  generalize hr : tdw L W wt (pi h 422) fm to load 0 100 = r
  refine lp (F := fun n (t : Int × Nat × pH) => pl_M_thickerBy_8 fm to load (fun x4 h => pj_M_thickerBy_56 fm to load x4 h) n t.1 t.2.2) (Q := fun rr => ∃ h', rr = some (r, h') ∧ MF h h') (I := fun t => (fr MFs h t.2.2 ∧ (∀ j, 14 ≤ j → j ≤ 18 → pi t.2.2 417 j = pi h 417 j) ∧ pi t.2.2 417 19 = t.2.1 ∧ pi t.2.2 422 = pi h 422 ∧ t.2.1 ≤ 100) ∧ ((0 ≤ t.1 ∧ t.1 = r) ∨ (t.1 = -1 ∧ r = tdw L W wt (pi h 422) fm to load t.2.1 (100 - t.2.1)))) (fun t => if 0 ≤ t.1 then 0 else 101 - t.2.1) ?_ fu_ (-1, 0, pwI h 417 19 0) ⟨⟨fr_wI fr_refl (by unfold MFs; omega), fun j _ _ => pi_wIi (by omega), pi_wIs, pi_wIf (by decide), by show 0 ≤ 100; omega⟩, Or.inr ⟨rfl, hr.symm⟩⟩ ?_
  · intro n t ⟨⟨i1, i2, i3, i4, i5⟩, i6⟩
    obtain ⟨x, i, t⟩ := t
    have i1 : fr MFs h t := i1
    have i2 : ∀ j, 14 ≤ j → j ≤ 18 → pi t 417 j = pi h 417 j := i2
    have i3 : pi t 417 19 = i := i3
    have i4 : pi t 422 = pi h 422 := i4
    have i5 : i ≤ 100 := i5
    have i6 : (0 ≤ x ∧ x = r) ∨ (x = -1 ∧ r = tdw L W wt (pi h 422) fm to load i (100 - i)) := i6
    have fin : MF h (pwI t 417 19 0) := ⟨fr_wI i1 (by unfold MFs; omega), fun j a b => by
      by_cases y : j = 19
      · rw [y, pi_wIs]; exact M.2.2.2.1.symm
      · rw [pi_wIi y]; exact i2 j a (by omega)⟩
    show (∃ h', pl_M_thickerBy_8 fm to load _ (n + 1) x t = some (_, h') ∧ _) ∨ ∃ t' : Int × Nat × pH, pl_M_thickerBy_8 fm to load _ (n + 1) x t = pl_M_thickerBy_8 fm to load _ n t'.1 t'.2.2 ∧ _
    rw [pl_M_thickerBy_8, i3]
    rcases i6 with ⟨x0, xr⟩ | ⟨x0, e⟩
    · left
      refine ⟨pwI t 417 19 0, ?_, fin⟩
      unfold pj_M_thickerBy_56
      rw [← xr]
      by_cases y : (100 : Int) ≤ i
      · rw [if_pos y]
      · rw [if_neg y, if_pos x0]
    · by_cases y : (100 : Int) ≤ i
      · left
        refine ⟨pwI t 417 19 0, ?_, fin⟩
        unfold pj_M_thickerBy_56
        rw [if_pos y, x0, e, show 100 - i = 0 by omega]
        rfl
      · right
        rw [if_neg y, if_neg (by omega)]
        have Mt : MC t l w L W wt sv i := MC_tk M i2 (fr_fi i1 (by unfold MFs; omega)) i3 (by omega)
        obtain ⟨h3, s1, s2, s3, -⟩ := m_isWay (c := fm) (to := to) (load := load) (mv := -1) (X := no0) Mt (by rw [i4]; exact V) hf ht b (fun c hc => ⟨fun _ y => y, fun _ => by rw [fr_i i1 (by unfold MFs; omega)]; exact Z c (by omega)⟩)
        rw [i4] at s1
        have e19 : pi h3 417 19 = i := by rw [s3 19 (by omega) (by omega)]; exact i3
        rw [s1, bsm]
        unfold pj_M_thickerBy_41
        simp only []
        rw [e19, wr_eq (by omega) (by omega)]
        have I3 : fr MFs h (pwI h3 417 19 ((i : Int) + 1)) ∧ (∀ j, 14 ≤ j → j ≤ 18 → pi (pwI h3 417 19 ((i : Int) + 1)) 417 j = pi h 417 j) ∧ pi (pwI h3 417 19 ((i : Int) + 1)) 417 19 = ((i + 1 : Nat) : Int) ∧ pi (pwI h3 417 19 ((i : Int) + 1)) 422 = pi h 422 ∧ i + 1 ≤ 100 := ⟨fr_wI (fr_trans i1 (fr_mono s2 (fun b hb => by unfold MFs; omega))) (by unfold MFs; omega), fun j a b => by rw [pi_wIi (by omega), s3 j (by omega) (by omega)]; exact i2 j a b, by rw [pi_wIs]; omega, by rw [pi_wIf (by decide), fr_fi s2 (by omega)]; exact i4, by omega⟩
        rw [show 100 - i = (100 - (i + 1)) + 1 by omega, tdw_s] at e
        by_cases q1 : isw L W (opn L W (pi h 422) wt i (-1) load no0) fm to
        · rw [dc_t q1, if_pos rfl] at e
          rw [cif_t q1, if_neg (by decide)]
          refine ⟨((i : Int), i + 1, pwI h3 417 19 ((i : Int) + 1)), rfl, ⟨I3, Or.inl ⟨by show (0 : Int) ≤ i; omega, e.symm⟩⟩, ?_⟩
          show (if 0 ≤ (i : Int) then 0 else 101 - (i + 1)) < (if 0 ≤ x then 0 else 101 - i)
          rw [if_pos (by omega), if_neg (by omega)]
          omega
        · rw [dc_f q1, if_neg (by decide)] at e
          rw [cif_f q1, if_pos rfl]
          refine ⟨(-1, i + 1, pwI h3 417 19 ((i : Int) + 1)), rfl, ⟨I3, Or.inr ⟨rfl, e⟩⟩, ?_⟩
          show (if (0 : Int) ≤ -1 then 0 else 101 - (i + 1)) < (if 0 ≤ x then 0 else 101 - i)
          rw [if_neg (by omega), if_neg (by omega)]
          omega
  · show (if (0 : Int) ≤ -1 then 0 else 101 - 0) < fu_
    rw [if_neg (by omega)]
    unfold fu_
    omega
end Di
theorem p_lacks {x y z n ld fm to o : Int} : asks (pf_I_lacks x y z n ld fm to o) (pf_M_lacks x y z n ld fm to o) := by
  by_cases q0 : 0 ≤ o ∧ o ≤ 2
  · refine ask_trip (x := x) (y := y) (z := z) (n := n) (load := ld) (fm := fm) (to := to) (-1) (km := fun v3 => (if v3.1 = 0 then (some (-1, v3.2)) else (if o = 1 then ((pf_M_thickerBy fm to ld v3.2).bind fun v8 => (some (v8.1, v8.2))) else (if o = 2 then ((pf_M_firstDay fm to ld 1 v3.2).bind fun v7 => (some (v7.1, v7.2))) else ((pf_M_measures to ld (-1) 1 v3.2).bind fun v4 => (ia_gd (pib fm 36) (if 1000000 ≤ (pi v4 425 (Int.toNat fm)) then (some (-1, v4)) else (ia_gd (pib fm 36) (some (pi v4 425 (Int.toNat fm), v4)))))))))) (fun _ => rfl) (fun _ => rfl) (fun _ => rfl) (fun _ => rfl) (fun v g => by unfold pf_M_lacks; rw [m_isLoad, bsm, if1, if_neg v]) (fun v g => by unfold pf_M_lacks; rw [m_isLoad, bsm, if1, if_pos v, m_isIn, bsm, if1, if_pos q0]) (fun _ => rfl) ?_
    intro hl ne p q l w L W S h g ⟨C, K, M, eS, Z, V, TT⟩ hf ht
    have kL := C.2.2.1
    have z0 : 4 ≤ ce L ∧ ce L ≤ 36 := sz_mul kL.1
    subst eS
    simp only []
    rw [if_neg (show ¬ (1 : Int) = 0 by decide), if_neg (show ¬ (1 : Int) = 0 by decide)]
    by_cases o0 : o = 0
    · rw [if_pos o0, if_neg (by omega), if_neg (by omega)]
      obtain ⟨h1, p1, p2, -, -, p5, p6⟩ := c_survey (tk := 0) (WS0 kL) C K V (by omega) (by omega) (by omega)
      have C1 : CX h1 p q L W := CX_fr C p2 (fun b hb => by omega)
      obtain ⟨v, h2, r1, r2, r3⟩ := c_fewestAgainst (load := ld) (O := opn L W (pi g 422) (wt0 L) 0 (-1) ld no0) C1 p5 (fun c hc => by rw [p6 c hc]; exact rmv_opn hl.1) hf ht
      obtain ⟨g2, m1, m2, m3, m4, m5, m6⟩ := m_measures (mv := -1) (each := 1) (X := no0) M V ht (by omega : 0 ≤ ld ∧ ld ≤ 100000) (Or.inr rfl) (fun c hc => ⟨fun _ y => y, fun _ => Z c (by omega)⟩)
      have e := CST_un r3 (m_CST kL hf ht m5 m6)
      have f0 := hf.1
      have f1 := hf.2
      rw [p1, bsm, r1, bsm, m1, bsm, gib f0 (by omega), gib f0 (by omega)]
      refine ⟨v, h2, g2, rfl, fr_trans (fr_mono p2 (fun b hb => by unfold CGs; omega)) (fr_mono r2 (fun b hb => by unfold CGs; omega)), ?_, ⟨fr_mono m2 (fun b hb => by unfold MFs; omega), fun j a b => m3 j (by omega) (by omega)⟩⟩
      rw [e]
      split <;> rfl
    · rw [if_neg o0]
      by_cases o1 : o = 1
      · rw [if_pos o1, if_pos o1]
        obtain ⟨h1, c1, c2⟩ := c_thicker (WS0 kL) C K V hf ht ne hl.1
        obtain ⟨g1, m1, m2⟩ := m_thicker M V Z hf ht (by omega : 0 ≤ ld ∧ ld ≤ 100000)
        rw [c1, m1]
        exact ⟨_, h1, g1, rfl, c2, rfl, MF_MG m2⟩
      · rw [if_neg o1, if_neg o1, if_pos (by omega), if_pos (by omega)]
        obtain ⟨h1, c1, c2⟩ := c_firstDay (flag := 1) (WS0 kL) C K V (by omega) hf ht ne hl.1 (Or.inr rfl)
        obtain ⟨g1, m1, m2⟩ := m_firstDay (flag := 1) M V (by omega) Z hf ht (by omega : 0 ≤ ld ∧ ld ≤ 100000) (Or.inr rfl)
        rw [c1, m1]
        exact ⟨_, h1, g1, rfl, c2, rfl, MF_MG m2⟩
  · refine ask_no (-1) (c_no (x := x) (y := y) (z := z) (n := n) (-1) (fun _ => rfl) (fun _ => rfl) ?_) (fun g B I => ⟨g, ?_, MG_refl⟩)
    · intro p q L W S h C K V
      refine ⟨h, ?_, fr_refl⟩
      rw [n10]
      simp only []
      rw [c_isTrip C K.1.2.1, bsm, if_neg (by omega : ¬ o = 0), if_neg (by omega : ¬ o = 1), if_neg (by omega : ¬ o = 2)]
      split <;> rfl
    · unfold pf_M_lacks
      rw [m_isLoad, bsm, if1, m_isIn, bsm, if1, if_neg q0]
      split <;> rfl
