/-! drawn: the reference -/
section El
variable {h h' : pH} {l w : Nat} {L W wt sv : Nat → Int} {tk : Int} {d : Nat}
theorem m_canGoOff2 {a : Int} (M : MC h l w L W wt sv 0) (V : SV L (pi h 422) d) (Z : ∀ c : Nat, c < 36 → pi h 424 c = 0) : ∃ h', pf_M_canGoOff a h = some (cif ((0 ≤ a ∧ a < L 4) ∧ 0 ≤ pi h 422 (72 + a.toNat) ∧ cgo L W (pi h 422) wt a.toNat) 1 0, h') ∧ MF h h' ∧ pi h' 422 = pi h 422 ∧ fr (fun b => b = 417 ∨ b = 425 ∨ b = 426) h h' := by
  have kL := M.1.2.2.2.2.2.2.1
  have hWS := MC_WS M
  have z : 4 ≤ ce L ∧ ce L ≤ 36 := sz_mul kL.1
  have n6 := NS_le kL
  have en := NS_eq kL
  obtain ⟨e1, e2, hl, hw, hL, hW, -, kW⟩ := M.1
  unfold pf_M_canGoOff
  rw [m_stands M.1, bsm, if1]
  by_cases q1 : (0 ≤ a ∧ a < L 4) ∧ 0 ≤ pi h 422 (72 + a.toNat)
  · have hs : a.toNat < NS L := by omega
    have ea : ((a.toNat : Nat) : Int) = a := by omega
    have ws := hWS _ hs
    have r := V.2.2.1 _ hs
    have t2 : (72 + a).toNat = 72 + a.toNat := by omega
    have t3 : (116 + pi h 422 (72 + a.toNat)).toNat = 116 + (pi h 422 (72 + a.toNat)).toNat := by omega
    rw [if_pos q1, e1]
    simp (disch := omega) only [wr_eq, tn_l, tn_l2, gib, hL, t2, t3]
    by_cases q2 : L (116 + (pi h 422 (72 + a.toNat)).toNat) = 1
    · rw [if_pos q2]
      exact ⟨h, by rw [cif_t ⟨q1.1, q1.2, Or.inl q2⟩], MF_refl, rfl, fr_refl⟩
    · rw [if_neg q2]
      refine lpf (F := fun n (c : Nat) t => pl_M_canGoOff_42 a (fun h => some (1, h)) (fun h => some (0, h)) n (pi h 422 (72 + a.toNat)) c t) (Q := fun r => ∃ h', r = some (cif ((0 ≤ a ∧ a < L 4) ∧ 0 ≤ pi h 422 (72 + a.toNat) ∧ cgo L W (pi h 422) wt a.toNat) 1 0, h') ∧ MF h h' ∧ pi h' 422 = pi h 422 ∧ fr (fun b => b = 417 ∨ b = 425 ∨ b = 426) h h') (ce L).toNat (fun c t => (MF h t ∧ fr (fun b => b = 417 ∨ b = 425 ∨ b = 426) h t) ∧ pi t 422 = pi h 422 ∧ ¬ ∃ e : Nat, e < c ∧ L (116 + e) = 1 ∧ isw L W (opn L W (pi h 422) wt 0 a (wt a.toNat) no0) (pi h 422 (72 + a.toNat)) e) ?_ ?_ fu_ 0 h (by omega) (by unfold fu_; omega) ⟨⟨MF_refl, fr_refl⟩, rfl, fun ⟨e, y, _⟩ => by omega⟩
      · intro n c t hc ⟨⟨f, k⟩, g, I⟩
        have M1 := MF_MC M f
        have e1' := M1.1.1
        have hL' := M1.1.2.2.2.2.1
        have t4 : (116 + (c : Int)).toNat = 116 + c := by omega
        show (∃ h', pl_M_canGoOff_42 a _ _ (n + 1) (pi h 422 (72 + a.toNat)) c t = some (_, h') ∧ _) ∨ ∃ t', pl_M_canGoOff_42 a _ _ (n + 1) (pi h 422 (72 + a.toNat)) c t = pl_M_canGoOff_42 a _ _ n (pi h 422 (72 + a.toNat)) (c + 1 : Nat) t' ∧ _
        rw [pl_M_canGoOff_42, m_cells M1.1, bsm, if_neg (by omega), e1']
        simp (disch := omega) only [wr_eq, tn_l, tn_l2, gib, hL', t4]
        have skip : ¬ (L (116 + c) = 1 ∧ isw L W (opn L W (pi h 422) wt 0 a (wt a.toNat) no0) (pi h 422 (72 + a.toNat)) c) → ¬ ∃ e : Nat, e < c + 1 ∧ L (116 + e) = 1 ∧ isw L W (opn L W (pi h 422) wt 0 a (wt a.toNat) no0) (pi h 422 (72 + a.toNat)) e := fun y ⟨e, v1, v2⟩ => by
          rcases Nat.lt_or_ge e c with v | v
          · exact I ⟨e, v, v2⟩
          · rw [show e = c by omega] at v2; exact y v2
        by_cases q3 : L (116 + c) = 1
        · have wo := m_weightOf (s := a.toNat) M1.1 (by omega) M1.2.2.2.2.1
          rw [ea, M1.2.1 _ hs] at wo
          rw [if_pos q3, wo, bsm]
          obtain ⟨h1, p1, p2, p3, p4⟩ := m_isWay (c := pi h 422 (72 + a.toNat)) (to := c) (load := wt a.toNat) (mv := a) (X := no0) M1 (by rw [g]; exact V) ⟨q1.2, r.2⟩ ⟨by omega, by omega⟩ (by omega) (fun c hc => ⟨fun _ y => y, fun _ => by rw [MF_24 f]; exact Z c (by omega)⟩)
          rw [g] at p1
          rw [p1, bsm]
          have f1 : MF h h1 := MF_trans f ⟨fr_mono p2 (fun b hb => by unfold MFs; omega), fun j a b => p3 j (by omega) (by omega)⟩
          have g1 : pi h1 422 = pi h 422 := by rw [fr_fi p2 (by omega)]; exact g
          by_cases q5 : isw L W (opn L W (pi h 422) wt 0 a (wt a.toNat) no0) (pi h 422 (72 + a.toNat)) c
          · left
            rw [cif_t q5]
            refine ⟨h1, ?_, f1, g1, fr_trans k p2⟩
            rw [cif_t ⟨q1.1, q1.2, Or.inr ⟨c, by omega, q3, by rw [ea]; exact q5⟩⟩]; rfl
          · right
            rw [cif_f q5]
            exact ⟨h1, rfl, ⟨f1, fr_trans k p2⟩, g1, skip (fun y => q5 y.2)⟩
        · right
          rw [if_neg q3]
          exact ⟨t, rfl, ⟨f, k⟩, g, skip (fun y => q3 y.1)⟩
      · intro n t ⟨⟨f, k⟩, g, I⟩
        have M1 := MF_MC M f
        refine ⟨t, ?_, f, g, k⟩
        show pl_M_canGoOff_42 a _ _ (n + 1) (pi h 422 (72 + a.toNat)) ((ce L).toNat : Nat) t = _
        rw [pl_M_canGoOff_42, m_cells M1.1, bsm, if_pos (by omega), cif_f]
        intro y
        rcases y.2.2 with v | ⟨e, v1, v2, v3⟩
        · exact q2 v
        · exact I ⟨e, by omega, v2, by rw [ea] at v3; exact v3⟩
  · rw [if_neg q1]
    exact ⟨h, by rw [cif_f (fun y => q1 ⟨y.1, y.2.1⟩)], MF_refl, rfl, fr_refl⟩
theorem m_leftWorth (M : MS h l w L W) : pf_M_leftWorth h = some (wno L (pi h 422)) := by
  obtain ⟨e1, e2, hl, hw, hL, hW, kL, kW⟩ := M
  have n6 := NS_le kL
  have en := NS_eq kL
  unfold pf_M_leftWorth wno
  refine lpf (F := fun n (i : Nat) (_ : Unit) => pl_M_leftWorth_4 h (fun x1 => some x1) n (sumw (wnof L (pi h 422)) i) i) (Q := fun r => r = some (sumw (wnof L (pi h 422)) (NS L))) (NS L) (fun _ _ => True) ?_ ?_ fu_ 0 () (by omega) (by unfold fu_; omega) trivial
  · intro n i _ hi _
    right
    have sb := sum6 kL (wnof_bd (S := pi h 422) kL) (i := i) (by omega)
    have lb := wnof_bd (S := pi h 422) kL i hi
    have t1 : (72 + (i : Int)).toNat = 72 + i := by omega
    refine ⟨(), ?_, trivial⟩
    show pl_M_leftWorth_4 h _ (n + 1) (sumw (wnof L (pi h 422)) i) i = pl_M_leftWorth_4 h _ n (sumw (wnof L (pi h 422)) (i + 1)) (i + 1 : Nat)
    rw [pl_M_leftWorth_4]
    unfold pj_M_leftWorth_47
    simp (disch := omega) only [e1, wr_eq, tn_l, gib, hL, Int.reduceToNat, t1, sumw]
    rw [if_neg (by omega), m_shopOf (by omega) hL (by omega) (by omega) (by omega) (by omega), bsm, show (236 + 4 * (i : Int) + 3).toNat = 239 + 4 * i by omega]
    by_cases q1 : pi h 422 (72 + i) = -1
    · have e : wnof L (pi h 422) i = 0 := if_pos q1
      rw [e, if_pos q1]; rfl
    · have e : wnof L (pi h 422) i = L (239 + 4 * i) := if_neg q1
      rw [e] at lb ⊢
      rw [if_neg q1, wr_eq (by omega) (by omega)]; rfl
  · intro n _ _
    show pl_M_leftWorth_4 h _ (n + 1) (sumw (wnof L (pi h 422)) (NS L)) (NS L : Nat) = _
    rw [pl_M_leftWorth_4]
    simp (disch := omega) only [e1, wr_eq, tn_l, gib, hL, Int.reduceToNat]
    rw [if_pos (by omega)]
/-- a state that was put by -/
def cst (h : pH) (i j : Nat) : Int := pi h 422 (80 * (1 + i) + j)
theorem up1_E8 {S T : Nat → Int} {i : Nat} {v : Int} (e : E8 S T) : E8 (up1 S i v) (up1 T i v) := fun j hj => by
  by_cases y : j = i
  · rw [y, up1_s, up1_s]
  · rw [up1_n y, up1_n y]; exact e j hj
theorem m_draws {i s : Nat} {T : Nat → Int} (M : MC h l w L W wt sv 0) (Z : ∀ c : Nat, c < 36 → pi h 424 c = 0) (hi : i < 6) (hs : s ≤ 6) (es : pi h 431 i = s) (E : E8 T (cst h i)) (V : SV L T d) (hd : d ≤ 900) : ∃ h' v, pf_M_draws i h = some (v, h') ∧ MF h h' ∧ (∀ k, 80 ≤ k → pi h' 422 k = pi h 422 k) ∧ pi h' 431 = pi h 431 ∧ pi h' 432 = pi h 432 ∧ ((¬ can L W wt T s ∧ v = 0) ∨ (can L W wt T s ∧ v = 1 ∧ E8 (dwn L W wt sv T s) (pi h' 422))) := by
  have kL := M.1.2.2.2.2.2.2.1
  have kW := M.1.2.2.2.2.2.2.2
  have z : 4 ≤ ce L ∧ ce L ≤ 36 := sz_mul kL.1
  have n6 := NS_le kL
  have en := NS_eq kL
  obtain ⟨h1, p1, p2, p3⟩ := m_copies (a := 1 + i) (b := 0) (h := h) (by omega) (by omega) (by omega)
  have F1 : MF h h1 := ⟨fr_mono p2 (fun b hb => by unfold MFs; omega), fun j _ _ => fr_i p2 (by omega)⟩
  have M1 := MF_MC M F1
  have E1 : E8 T (pi h1 422) := fun j hj => by rw [p3 j, if_pos (by omega), E j hj]; unfold cst; exact congrArg _ (by omega)
  have V1 : SV L (pi h1 422) d := SV_c V E1 kL
  have k1 : ∀ k, 80 ≤ k → pi h1 422 k = pi h 422 k := fun k hk => by rw [p3 k, if_neg (by omega)]
  have r1 : pi h1 431 = pi h 431 := fr_fi p2 (by omega)
  have r2 : pi h1 432 = pi h 432 := fr_fi p2 (by omega)
  unfold pf_M_draws
  have e1 : wr (1 + (i : Int)) = ((1 + i : Nat) : Int) := by rw [wr_eq (by omega) (by omega)]; omega
  have p1' : pf_M_copies ((1 + i : Nat) : Int) 0 h = some h1 := p1
  rw [e1, p1', bsm, gib (by omega) (by omega), Int.toNat_natCast, r1, es]
  -- the day behind it
  have day : ∀ h2, MF h h2 → (∀ k, 80 ≤ k → pi h2 422 k = pi h 422 k) → pi h2 431 = pi h 431 → pi h2 432 = pi h 432 → ∀ U, SV L U d → E8 U (pi h2 422) → ∃ h', pj_M_draws_51 i h2 = some (1, h') ∧ MF h h' ∧ (∀ k, 80 ≤ k → pi h' 422 k = pi h 422 k) ∧ pi h' 431 = pi h 431 ∧ pi h' 432 = pi h 432 ∧ E8 (aday L W wt sv 0 U) (pi h' 422) := by
    intro h2 F2 k2 a1 a2 U VU EU
    have V2 : SV L (pi h2 422) d := SV_c VU EU kL
    obtain ⟨h3, q1, q2, q3⟩ := m_aDay (MF_MC M F2) V2 (by omega)
    unfold pj_M_draws_51
    rw [q1, bsm]
    refine ⟨h3, rfl, MF_trans F2 ⟨fr_mono q2 (fun b hb => by unfold MFs; omega), fun j _ _ => fr_i q2 (by omega)⟩, fun k hk => ?_, by rw [fr_fi q2 (by omega)]; exact a1, by rw [fr_fi q2 (by omega)]; exact a2, ?_⟩
    · rw [q3]
      unfold aday
      rw [pday_hi kL kW V2 k hk]
      exact k2 k hk
    · rw [q3]
      exact aday_ext kL kW VU EU
  by_cases y : s < 6
  · rw [if_neg (by omega)]
    obtain ⟨h2, q1, q2, q3, q4⟩ := m_canGoOff2 (a := (s : Int)) M1 V1 (fun c hc => by rw [MF_24 F1]; exact Z c hc)
    rw [q1, bsm, Int.toNat_natCast]
    simp only []
    have F2 : MF h h2 := MF_trans F1 q2
    have s1 : pi h2 431 = pi h 431 := by rw [fr_fi q4 (by omega)]; exact r1
    have s2 : pi h2 432 = pi h 432 := by rw [fr_fi q4 (by omega)]; exact r2
    have k2 : ∀ k, 80 ≤ k → pi h2 422 k = pi h 422 k := fun k hk => by rw [q3]; exact k1 k hk
    have ec : can L W wt T s ↔ ((0 ≤ (s : Int) ∧ (s : Int) < L 4) ∧ 0 ≤ pi h1 422 (72 + s) ∧ cgo L W (pi h1 422) wt s) := by
      have et := E1 (72 + s) (by omega)
      constructor
      · intro c
        rcases c with c | c
        · omega
        · have c1 := c.1
          have c2 := c.2.1
          have rg := V.2.2.1 s c1
          refine ⟨by omega, by omega, (cgo_ext kL E1 c1 ⟨c2, rg.2⟩).mpr c.2.2⟩
      · intro c
        have c0 := c.1
        have c2 := c.2.1
        have rg := V.2.2.1 s (by omega)
        exact Or.inr ⟨by omega, by omega, (cgo_ext kL E1 (by omega) ⟨by omega, rg.2⟩).mp c.2.2⟩
    by_cases c : can L W wt T s
    · have c' := ec.mp c
      rw [cif_t c', if_neg (by decide)]
      unfold pj_M_draws_31
      have t2 : (72 + (s : Int)).toNat = 72 + s := by omega
      rw [if_neg (by omega), wr_eq (by omega) (by omega), gib (by omega) (by omega), t2]
      have hsN : s < NS L := by have := c'.1; omega
      have F3 : MF h (pwI h2 422 (72 + s) (-1)) := MF_wI F2 (by unfold MFs; omega) (Or.inl (by decide))
      have u3 : pi (pwI h2 422 (72 + s) (-1)) 422 = up1 (pi h1 422) (72 + s) (-1) := by rw [up1_pi, q3]
      have V3 : SV L (up1 (pi h1 422) (72 + s) (-1)) d := SV_lift V1 kL hsN (by omega)
      obtain ⟨h4, w1, w2, w3⟩ := m_falls (MF_MC M F3) (by rw [u3]; exact V3)
      rw [u3] at w3
      rw [w1, bsm]
      have VT : SV L (up1 T (72 + s) (-1)) d := SV_lift V kL hsN (by omega)
      obtain ⟨h5, d1, d2, d3, d4, d5, d6⟩ := day h4 (MF_trans F3 ⟨fr_mono w2 (fun b hb => by unfold MFs; omega), fun j _ _ => fr_i w2 (by omega)⟩) (fun k hk => by rw [w3, fl_hi kL V3 k hk, up1_n (by omega)]; exact k1 k hk) (by rw [fr_fi w2 (by omega), pi_wIf (by decide)]; exact s1) (by rw [fr_fi w2 (by omega), pi_wIf (by decide)]; exact s2) (fl L W wt 0 6 (up1 T (72 + s) (-1))) (SV_fl kL VT) (by rw [w3]; exact fl_ext kL VT (up1_E8 E1))
      rw [d1]
      refine ⟨h5, 1, rfl, d2, d3, d4, d5, Or.inr ⟨c, rfl, ?_⟩⟩
      unfold dwn
      rw [if_pos y]
      exact d6
    · rw [cif_f (fun v => c (ec.mpr v)), if_pos rfl]
      exact ⟨h2, 0, rfl, F2, k2, s1, s2, Or.inl ⟨c, rfl⟩⟩
  · have e6 : s = 6 := by omega
    rw [if_pos (by omega)]
    unfold pj_M_draws_31
    rw [if_pos (by omega)]
    obtain ⟨h5, d1, d2, d3, d4, d5, d6⟩ := day h1 F1 k1 r1 r2 T V E1
    rw [d1]
    refine ⟨h5, 1, rfl, d2, d3, d4, d5, Or.inr ⟨Or.inl e6, rfl, ?_⟩⟩
    unfold dwn
    rw [if_neg y]
    exact d6
end El
/-! where the search stands -/
section Em
variable {L W wt sv S : Nat → Int} {N k : Nat} {Ts : Nat → Nat → Int} {rw_ br : Nat → Int} {b : Int}
def DST (L W wt sv S : Nat → Int) (N m : Nat) (Ts : Nat → Nat → Int) (rw_ : Nat → Int) (b : Int) (br : Nat → Int) : Prop :=
  (∃ j, j < m ∧ j < N ∧ (∀ i, i ≤ j → Ts i = ost L W wt sv N S i) ∧ (∀ i, i < j → rw_ i = orw L W wt sv N S i) ∧ rw_ j < orw L W wt sv N S j ∧ (∀ i, j < i → i < m → mv L W wt sv N S < mv L W wt sv (N - i) (Ts i)) ∧ mv L W wt sv N S < b)
  ∨ (b = mv L W wt sv N S ∧ ∀ i, i < N → br i = orw L W wt sv N S i)
def upT (Ts : Nat → Nat → Int) (i : Nat) (X : Nat → Int) : Nat → Nat → Int := fun j => if j = i then X else Ts j
theorem orw_6 (kL : LK L) {i : Nat} : orw L W wt sv N S i ≤ 6 := (kst_ok kL).1
theorem DST_pop (kL : LK L) (D : DST L W wt sv S N (k + 1) Ts rw_ b br) (h : 6 < rw_ k + 1) : DST L W wt sv S N k Ts (up1 rw_ k (rw_ k + 1)) b br := by
  rcases D with ⟨j, j1, j2, j3, j4, j5, j6, j7⟩ | D
  · by_cases y : j = k
    · have := orw_6 (L := L) (W := W) (wt := wt) (sv := sv) (S := S) (N := N) (i := j) kL
      rw [← y] at h
      omega
    · exact Or.inl ⟨j, by omega, j2, j3, fun i hi => by rw [up1_n (by omega)]; exact j4 i hi, by rw [up1_n y]; exact j5, fun i a c => j6 i a (by omega), j7⟩
  · exact Or.inr D
theorem DST_con (kL : LK L) {s : Nat} (D : DST L W wt sv S N (k + 1) Ts rw_ b br) (es : rw_ k + 1 = s) (nc : ¬ can L W wt (Ts k) s) : DST L W wt sv S N (k + 1) Ts (up1 rw_ k (rw_ k + 1)) b br := by
  rcases D with ⟨j, j1, j2, j3, j4, j5, j6, j7⟩ | D
  · by_cases y : j = k
    · subst y
      have q := (kst_ok (L := L) (W := W) (wt := wt) (sv := sv) (S := ost L W wt sv N S j) (n := N - j - 1) kL).2.1
      have ne : s ≠ orw L W wt sv N S j := fun e => nc (by rw [e, j3 j (Nat.le_refl _)]; exact q)
      exact Or.inl ⟨j, j1, j2, j3, fun i hi => by rw [up1_n (by omega)]; exact j4 i hi, by rw [up1_s]; omega, j6, j7⟩
    · exact Or.inl ⟨j, by omega, j2, j3, fun i hi => by rw [up1_n (by omega)]; exact j4 i hi, by rw [up1_n y]; exact j5, j6, j7⟩
  · exact Or.inr D
/-- what the next one can bring -/
theorem DST_next (kL : LK L) {s j : Nat} (hk : k < N) (c : can L W wt (Ts k) s) (j1 : j < k + 1) (j2 : j < N) (j3 : ∀ i, i ≤ j → Ts i = ost L W wt sv N S i) (j6 : ∀ i, j < i → i < k + 1 → mv L W wt sv N S < mv L W wt sv (N - i) (Ts i)) (u : j = k → s < orw L W wt sv N S j) : mv L W wt sv N S < mv L W wt sv (N - (k + 1)) (dwn L W wt sv (Ts k) s) := by
  have en : N - k = (N - (k + 1)) + 1 := by omega
  by_cases y : j = k
  · subst y
    have e := j3 j (Nat.le_refl _)
    have o := ost_ok (L := L) (W := W) (wt := wt) (sv := sv) (S := S) (n := N) (i := j) kL (by omega)
    rw [e] at c ⊢
    rw [en] at o
    rw [← o]
    have q := (kst_ok (L := L) (W := W) (wt := wt) (sv := sv) (S := ost L W wt sv N S j) (n := N - (j + 1)) kL).2.2.2
    refine q s ?_ c
    have := u rfl
    unfold orw at this
    rw [show N - j - 1 = N - (j + 1) by omega] at this
    exact this
  · have a := j6 k (by omega) (by omega)
    have g := mv_le (sv := sv) (n := N - (k + 1)) kL c
    rw [← en] at g
    omega
theorem DST_psh (kL : LK L) {s : Nat} (hk : k + 1 < N) (D : DST L W wt sv S N (k + 1) Ts rw_ b br) (es : rw_ k + 1 = s) (c : can L W wt (Ts k) s) : DST L W wt sv S N (k + 2) (upT Ts (k + 1) (dwn L W wt sv (Ts k) s)) (up1 (up1 rw_ k (rw_ k + 1)) (k + 1) (-1)) b br := by
  rcases D with ⟨j, j1, j2, j3, j4, j5, j6, j7⟩ | D
  · by_cases y : j = k ∧ orw L W wt sv N S j ≤ s
    · obtain ⟨rfl, y⟩ := y
      have e : s = orw L W wt sv N S j := by omega
      refine Or.inl ⟨j + 1, by omega, hk, fun i hi => ?_, fun i hi => ?_, by rw [up1_s]; omega, fun i a e => by omega, j7⟩
      · unfold upT
        by_cases v : i = j + 1
        · rw [if_pos v, v, j3 j (Nat.le_refl _), e]; rfl
        · rw [if_neg v]; exact j3 i (by omega)
      · rw [up1_n (by omega)]
        by_cases v : i = j
        · rw [v, up1_s, es, e]
        · rw [up1_n v]; exact j4 i (by omega)
    · have nx := DST_next kL (by omega) c j1 j2 j3 j6 (fun e => by
        rcases Nat.lt_or_ge s (orw L W wt sv N S j) with u | u
        · exact u
        · exact absurd ⟨e, u⟩ y)
      refine Or.inl ⟨j, by omega, j2, fun i hi => ?_, fun i hi => ?_, ?_, fun i a e => ?_, j7⟩
      · unfold upT
        rw [if_neg (by omega)]; exact j3 i hi
      · rw [up1_n (by omega), up1_n (by omega)]; exact j4 i hi
      · rw [up1_n (by omega)]
        by_cases v : j = k
        · rw [v, up1_s]
          rw [v] at y
          omega
        · rw [up1_n v]; exact j5
      · unfold upT
        by_cases v : i = k + 1
        · rw [if_pos v, v]; exact nx
        · rw [if_neg v]; exact j6 i a (by omega)
  · exact Or.inr D
theorem DST_lea (kL : LK L) {s : Nat} (hk : k + 1 = N) (D : DST L W wt sv S N (k + 1) Ts rw_ b br) (es : rw_ k + 1 = s) (c : can L W wt (Ts k) s) (lo : mv L W wt sv N S ≤ mv L W wt sv (N - k) (Ts k)) : (mv L W wt sv 0 (dwn L W wt sv (Ts k) s) < b → ∀ br' : Nat → Int, (∀ i, i < N → br' i = up1 rw_ k (rw_ k + 1) i) → DST L W wt sv S N (k + 1) Ts (up1 rw_ k (rw_ k + 1)) (mv L W wt sv 0 (dwn L W wt sv (Ts k) s)) br') ∧ (¬ mv L W wt sv 0 (dwn L W wt sv (Ts k) s) < b → DST L W wt sv S N (k + 1) Ts (up1 rw_ k (rw_ k + 1)) b br) := by
  have en : N - k = 0 + 1 := by omega
  have e0 : N - (k + 1) = 0 := by omega
  have g := mv_le (sv := sv) (n := 0) kL c
  rw [en] at lo
  rcases D with ⟨j, j1, j2, j3, j4, j5, j6, j7⟩ | ⟨D1, D2⟩
  · by_cases y : j = k ∧ orw L W wt sv N S j ≤ s
    · obtain ⟨rfl, y⟩ := y
      have e : s = orw L W wt sv N S j := by omega
      have o := ost_ok (L := L) (W := W) (wt := wt) (sv := sv) (S := S) (n := N) (i := j) kL (by omega)
      rw [en] at o
      have q := (kst_ok (L := L) (W := W) (wt := wt) (sv := sv) (S := ost L W wt sv N S j) (n := 0) kL).2.2.1
      have eo : orw L W wt sv N S j = kst L W wt sv 0 (ost L W wt sv N S j) := by unfold orw; rw [show N - j - 1 = 0 by omega]
      have ev : mv L W wt sv 0 (dwn L W wt sv (Ts j) s) = mv L W wt sv N S := by rw [j3 j (Nat.le_refl _), e, eo, q, o]
      rw [ev]
      refine ⟨fun _ br' hb => Or.inr ⟨rfl, fun i hi => ?_⟩, fun v => absurd j7 v⟩
      rw [hb i hi]
      by_cases v : i = j
      · rw [v, up1_s, es, e]
      · rw [up1_n v]; exact j4 i (by omega)
    · have nx := DST_next kL (by omega) c j1 j2 j3 j6 (fun e => by
        rcases Nat.lt_or_ge s (orw L W wt sv N S j) with u | u
        · exact u
        · exact absurd ⟨e, u⟩ y)
      rw [e0] at nx
      have r4 : ∀ i, i < j → up1 rw_ k (rw_ k + 1) i = orw L W wt sv N S i := fun i hi => by rw [up1_n (by omega)]; exact j4 i hi
      have r5 : up1 rw_ k (rw_ k + 1) j < orw L W wt sv N S j := by
        by_cases v : j = k
        · rw [v, up1_s]
          rw [v] at y
          omega
        · rw [up1_n v]; exact j5
      exact ⟨fun _ br' hb => Or.inl ⟨j, j1, j2, j3, r4, r5, j6, nx⟩, fun _ => Or.inl ⟨j, j1, j2, j3, r4, r5, j6, j7⟩⟩
  · exact ⟨fun v => by omega, fun _ => Or.inr ⟨D1, D2⟩⟩
end Em
