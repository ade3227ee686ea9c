/-! the reference: shops move and go off -/
/-- what the reference may change in its rows -/
def MFs (b : Nat) : Prop := b = 417 ∨ b = 422 ∨ b = 423 ∨ (425 ≤ b ∧ b ≤ 434)
def MF (h h' : pH) : Prop := fr MFs h h' ∧ ∀ j, 14 ≤ j → j ≤ 19 → pi h' 417 j = pi h 417 j
theorem MF_refl {h : pH} : MF h h := ⟨fr_refl, fun _ _ _ => rfl⟩
theorem MF_trans {h h1 h2 : pH} (a : MF h h1) (b : MF h1 h2) : MF h h2 := ⟨fr_trans a.1 b.1, fun j x y => by rw [b.2 j x y, a.2 j x y]⟩
theorem MF_wI {h h1 : pH} {a i : Nat} {x : Int} (p : MF h h1) (q : MFs a) (z : a ≠ 417 ∨ i < 14 ∨ 19 < i) : MF h (pwI h1 a i x) := by
  refine ⟨fr_wI p.1 q, fun j h1 h2 => ?_⟩
  rw [← p.2 j h1 h2, pi_wI, if_neg]
  intro e
  rcases z with z | z | z <;> omega
section Mj
variable {h h' : pH} {l w : Nat} {L W wt sv : Nat → Int} {tk : Int} {d : Nat}
theorem MF_MC (M : MC h l w L W wt sv tk) (f : MF h h') : MC h' l w L W wt sv tk := MC_c M f.2 (fr_fi f.1 (by unfold MFs; omega))
theorem MF_24 (f : MF h h') : pi h' 424 = pi h 424 := fr_fi f.1 (by unfold MFs; omega)
theorem MF_18 (f : MF h h') : pi h' 418 = pi h 418 := fr_fi f.1 (by unfold MFs; omega)
theorem m_steps {x y : Int} (M : MS h l w L W) (x0 : 0 ≤ x ∧ x < 100) (y0 : 0 ≤ y ∧ y < 100) : pf_M_steps x y h = some (stp (L 0) x y) := by
  obtain ⟨e1, e2, hl, hw, hL, hW, kL, kW⟩ := M
  obtain ⟨k1, k2, k3, k4⟩ := kL.1
  have ab : ∀ v : Int, -1000 ≤ v → v ≤ 1000 → pf_M_size v h = some (v.natAbs : Int) := fun v _ _ => by
    unfold pf_M_size
    split
    · congr 1; omega
    · rw [wr_eq (by omega) (by omega)]; congr 1; omega
  unfold pf_M_steps
  simp (disch := omega) only [e1, wr_eq, tn_l, gib, hL, Int.toNat_zero, gnz, tm_p, td_p]
  unfold stp
  have : L 0 = 2 ∨ L 0 = 3 ∨ L 0 = 4 ∨ L 0 = 5 ∨ L 0 = 6 := by omega
  rcases this with e | e | e | e | e <;> rw [e] <;> simp (disch := omega) only [wr_eq, ab, bsm]
theorem m_isApart {s : Nat} {c : Int} (M : MC h l w L W wt sv tk) (V : SV L (pi h 422) d) (hs : s < NS L) (hc : inr L c) : pf_M_isApart s c h = some (cif (0 < sv s ∧ hot L W (pi h 422) sv s c) 0 1) := by
  have kL := M.1.2.2.2.2.2.2.1
  have hWS := MC_WS M
  have z : 4 ≤ ce L ∧ ce L ≤ 36 := sz_mul kL.1
  have n6 := NS_le kL
  have en := NS_eq kL
  obtain ⟨c0, c1⟩ := hc
  obtain ⟨e1, e2, hl, hw, hL, hW, -, kW⟩ := M.1
  have ws := hWS s hs
  unfold pf_M_isApart
  refine lpf (F := fun n (i : Nat) (x : Int) => pl_M_isApart_5 s c h (fun x3 => ia_gd (pz1 x3) (some x3)) n x i) (Q := fun r => r = some (cif (0 < sv s ∧ hot L W (pi h 422) sv s c) 0 1)) (NS L) (fun i x => x = cif (0 < sv s ∧ ∃ t : Nat, t < i ∧ (t : Int) ≠ s ∧ 0 ≤ pi h 422 (72 + t) ∧ 0 < sv t ∧ stp (L 0) (pi h 422 (72 + t)) c < W 1) 0 1) ?_ ?_ fu_ 0 1 (by omega) (by unfold fu_; omega) (by rw [cif_f (fun ⟨_, t, y, _⟩ => by omega)])
  · intro n i x hi I
    right
    show ∃ t', pl_M_isApart_5 s c h _ (n + 1) x i = pl_M_isApart_5 s c h _ n t' (i + 1 : Nat) ∧ _
    rw [pl_M_isApart_5]
    have t1 : (72 + (i : Int)).toNat = 72 + i := by omega
    simp (disch := omega) only [e1, e2, wr_eq, tn_l, gib, hL, hW, Int.reduceToNat, t1]
    rw [if_neg (by omega)]
    have hr := V.2.2.1 i hi
    have wi := hWS i hi
    by_cases q0 : x = 0
    · rw [if_pos q0]
      refine ⟨0, rfl, ?_⟩
      by_cases y : 0 < sv s ∧ ∃ t : Nat, t < i ∧ (t : Int) ≠ s ∧ 0 ≤ pi h 422 (72 + t) ∧ 0 < sv t ∧ stp (L 0) (pi h 422 (72 + t)) c < W 1
      · obtain ⟨y1, t, y2, y3⟩ := y
        rw [cif_t ⟨y1, t, by omega, y3⟩]
      · rw [cif_f y] at I; omega
    · have I' : ¬ (0 < sv s ∧ ∃ t : Nat, t < i ∧ (t : Int) ≠ s ∧ 0 ≤ pi h 422 (72 + t) ∧ 0 < sv t ∧ stp (L 0) (pi h 422 (72 + t)) c < W 1) := fun y => q0 (by rw [I, cif_t y])
      rw [if_neg q0]
      have ok : ¬ (0 < sv s ∧ (i : Int) ≠ s ∧ 0 ≤ pi h 422 (72 + i) ∧ 0 < sv i ∧ stp (L 0) (pi h 422 (72 + i)) c < W 1) → (1 : Int) = cif (0 < sv s ∧ ∃ t : Nat, t < i + 1 ∧ (t : Int) ≠ s ∧ 0 ≤ pi h 422 (72 + t) ∧ 0 < sv t ∧ stp (L 0) (pi h 422 (72 + t)) c < W 1) 0 1 := fun y => by
        rw [cif_f]
        intro ⟨v1, t, v2, v3⟩
        rcases Nat.lt_or_ge t i with v | v
        · exact I' ⟨v1, t, v, v3⟩
        · rw [show t = i by omega] at v3; exact y ⟨v1, v3⟩
      by_cases q1 : (i : Int) = s
      · rw [if_pos q1]; exact ⟨1, rfl, ok (fun y => y.2.1 q1)⟩
      · rw [if_neg q1, m_stands M.1, bsm, if1, Int.toNat_natCast]
        by_cases q2 : (0 ≤ (i : Int) ∧ (i : Int) < L 4) ∧ 0 ≤ pi h 422 (72 + i)
        · rw [if_pos q2, m_stoveOf M.1 (by omega), bsm, M.2.2.1 s hs]
          by_cases q3 : sv s = 0
          · rw [if_pos q3]; exact ⟨1, rfl, ok (fun y => by have := y.1; omega)⟩
          · rw [if_neg q3, m_stoveOf M.1 (by omega), bsm, M.2.2.1 i hi]
            by_cases q4 : sv i = 0
            · rw [if_pos q4]; exact ⟨1, rfl, ok (fun y => by have := y.2.2.2.1; omega)⟩
            · rw [if_neg q4, m_steps M.1 ⟨c0, by omega⟩ ⟨by omega, by omega⟩, bsm, stp_sym]
              by_cases q5 : stp (L 0) (pi h 422 (72 + i)) c < W 1
              · rw [if_pos q5]; exact ⟨0, rfl, by rw [cif_t ⟨by omega, i, by omega, q1, q2.2, by omega, q5⟩]⟩
              · rw [if_neg q5]; exact ⟨1, rfl, ok (fun y => q5 y.2.2.2.2)⟩
        · rw [if_neg q2]; exact ⟨1, rfl, ok (fun y => q2 ⟨⟨by omega, by omega⟩, y.2.2.1⟩)⟩
  · intro n x I
    show pl_M_isApart_5 s c h _ (n + 1) x (NS L : Nat) = _
    rw [pl_M_isApart_5]
    simp (disch := omega) only [e1, wr_eq, tn_l, gib, hL, Int.reduceToNat]
    have I2 : x = cif (0 < sv s ∧ hot L W (pi h 422) sv s c) 0 1 := I
    rw [if_pos (by omega), I2]
    by_cases y : 0 < sv s ∧ hot L W (pi h 422) sv s c
    · rw [cif_t y]; rfl
    · rw [cif_f y]; rfl
theorem m_canMove {a b : Int} (M : MC h l w L W wt sv 0) (V : SV L (pi h 422) d) (Z : ∀ c : Nat, c < 36 → pi h 424 c = 0) : ∃ h', pf_M_canMove a b h = some (cif ((0 ≤ a ∧ a < L 4) ∧ 0 ≤ pi h 422 (72 + a.toNat) ∧ cmv L W (pi h 422) wt sv a.toNat b) 1 0, h') ∧ MF h h' ∧ pi h' 422 = pi h 422 := by
  have kL := M.1.2.2.2.2.2.2.1
  have hWS := MC_WS M
  have z : 4 ≤ ce L ∧ ce L ≤ 36 := sz_mul kL.1
  have n6 := NS_le kL
  have en := NS_eq kL
  obtain ⟨e1, e2, hl, hw, hL, hW, -, kW⟩ := M.1
  unfold pf_M_canMove
  rw [m_stands M.1, bsm, if1]
  by_cases q1 : (0 ≤ a ∧ a < L 4) ∧ 0 ≤ pi h 422 (72 + a.toNat)
  · rw [if_pos q1, e1, m_isCell (by omega) hL kL.1, bsm, if1]
    have hs : a.toNat < NS L := by omega
    have ea : ((a.toNat : Nat) : Int) = a := by omega
    have ws := hWS _ hs
    have r := V.2.2.1 _ hs
    by_cases q2 : 0 ≤ b ∧ b < ce L
    · rw [if_pos q2, e2]
      have t1 : (30 + b).toNat = 30 + b.toNat := by omega
      have t2 : (72 + a).toNat = 72 + a.toNat := by omega
      simp (disch := omega) only [wr_eq, tn_l, tn_l2, gib, hW, t1, t2]
      have kb := kW.2.2.2.2.2.2 b.toNat (by omega)
      by_cases q3 : W (30 + b.toNat) = 0
      · have ap := m_isApart (s := a.toNat) (c := b) M V hs q2
        rw [ea] at ap
        have wo := m_weightOf (s := a.toNat) M.1 (by omega) M.2.2.2.2.1
        rw [ea, M.2.1 _ hs] at wo
        rw [if_pos q3, ap, bsm]
        by_cases q4 : 0 < sv a.toNat ∧ hot L W (pi h 422) sv a b
        · rw [cif_t q4, if_pos rfl]
          exact ⟨h, by rw [cif_f (fun y => y.2.2.2.2.1 (by rw [ea]; exact q4))], MF_refl, rfl⟩
        · rw [cif_f q4, if_neg (by decide), wo, bsm]
          obtain ⟨h1, p1, p2, p3, p4⟩ := m_isWay (c := pi h 422 (72 + a.toNat)) (to := b) (load := wt a.toNat) (mv := a) (X := no0) M V ⟨q1.2, r.2⟩ q2 (by omega) (fun c hc => ⟨fun _ y => y, fun _ => Z c (by omega)⟩)
          rw [p1, bsm]
          refine ⟨h1, ?_, ⟨fr_mono p2 (fun b hb => by unfold MFs; omega), fun j a b => p3 j (by omega) (by omega)⟩, fr_fi p2 (by omega)⟩
          by_cases q5 : isw L W (opn L W (pi h 422) wt 0 a (wt a.toNat) no0) (pi h 422 (72 + a.toNat)) b
          · rw [cif_t q5, cif_t ⟨q1.1, q1.2, q2, by omega, by rw [ea]; exact q4, by rw [ea]; exact q5⟩]; rfl
          · rw [cif_f q5, cif_f (fun y => q5 (by have := y.2.2.2.2.2; rw [ea] at this; exact this))]; rfl
      · rw [if_neg q3]
        exact ⟨h, by rw [cif_f (fun y => y.2.2.2.1 (by omega))], MF_refl, rfl⟩
    · rw [if_neg q2]
      exact ⟨h, by rw [cif_f (fun y => q2 y.2.2.1)], MF_refl, rfl⟩
  · rw [if_neg q1]
    exact ⟨h, by rw [cif_f (fun y => q1 ⟨y.1, y.2.1⟩)], MF_refl, rfl⟩
theorem m_canGoOff {a : Int} (M : MC h l w L W wt sv 0) (V : SV L (pi h 422) d) (Z : ∀ c : Nat, c < 36 → pi h 424 c = 0) : ∃ h', pf_M_canGoOff a h = some (cif ((0 ≤ a ∧ a < L 4) ∧ 0 ≤ pi h 422 (72 + a.toNat) ∧ cgo L W (pi h 422) wt a.toNat) 1 0, h') ∧ MF h h' ∧ pi h' 422 = pi h 422 := by
  have kL := M.1.2.2.2.2.2.2.1
  have hWS := MC_WS M
  have z : 4 ≤ ce L ∧ ce L ≤ 36 := sz_mul kL.1
  have n6 := NS_le kL
  have en := NS_eq kL
  obtain ⟨e1, e2, hl, hw, hL, hW, -, kW⟩ := M.1
  unfold pf_M_canGoOff
  rw [m_stands M.1, bsm, if1]
  by_cases q1 : (0 ≤ a ∧ a < L 4) ∧ 0 ≤ pi h 422 (72 + a.toNat)
  · have hs : a.toNat < NS L := by omega
    have ea : ((a.toNat : Nat) : Int) = a := by omega
    have ws := hWS _ hs
    have r := V.2.2.1 _ hs
    have t2 : (72 + a).toNat = 72 + a.toNat := by omega
    have t3 : (116 + pi h 422 (72 + a.toNat)).toNat = 116 + (pi h 422 (72 + a.toNat)).toNat := by omega
    rw [if_pos q1, e1]
    simp (disch := omega) only [wr_eq, tn_l, tn_l2, gib, hL, t2, t3]
    by_cases q2 : L (116 + (pi h 422 (72 + a.toNat)).toNat) = 1
    · rw [if_pos q2]
      exact ⟨h, by rw [cif_t ⟨q1.1, q1.2, Or.inl q2⟩], MF_refl, rfl⟩
    · rw [if_neg q2]
      refine lpf (F := fun n (c : Nat) t => pl_M_canGoOff_42 a (fun h => some (1, h)) (fun h => some (0, h)) n (pi h 422 (72 + a.toNat)) c t) (Q := fun r => ∃ h', r = some (cif ((0 ≤ a ∧ a < L 4) ∧ 0 ≤ pi h 422 (72 + a.toNat) ∧ cgo L W (pi h 422) wt a.toNat) 1 0, h') ∧ MF h h' ∧ pi h' 422 = pi h 422) (ce L).toNat (fun c t => MF h t ∧ pi t 422 = pi h 422 ∧ ¬ ∃ e : Nat, e < c ∧ L (116 + e) = 1 ∧ isw L W (opn L W (pi h 422) wt 0 a (wt a.toNat) no0) (pi h 422 (72 + a.toNat)) e) ?_ ?_ fu_ 0 h (by omega) (by unfold fu_; omega) ⟨MF_refl, rfl, fun ⟨e, y, _⟩ => by omega⟩
      · intro n c t hc ⟨f, g, I⟩
        have M1 := MF_MC M f
        have e1' := M1.1.1
        have hL' := M1.1.2.2.2.2.1
        have t4 : (116 + (c : Int)).toNat = 116 + c := by omega
        show (∃ h', pl_M_canGoOff_42 a _ _ (n + 1) (pi h 422 (72 + a.toNat)) c t = some (_, h') ∧ _) ∨ ∃ t', pl_M_canGoOff_42 a _ _ (n + 1) (pi h 422 (72 + a.toNat)) c t = pl_M_canGoOff_42 a _ _ n (pi h 422 (72 + a.toNat)) (c + 1 : Nat) t' ∧ _
        rw [pl_M_canGoOff_42, m_cells M1.1, bsm, if_neg (by omega), e1']
        simp (disch := omega) only [wr_eq, tn_l, tn_l2, gib, hL', t4]
        have skip : ¬ (L (116 + c) = 1 ∧ isw L W (opn L W (pi h 422) wt 0 a (wt a.toNat) no0) (pi h 422 (72 + a.toNat)) c) → ¬ ∃ e : Nat, e < c + 1 ∧ L (116 + e) = 1 ∧ isw L W (opn L W (pi h 422) wt 0 a (wt a.toNat) no0) (pi h 422 (72 + a.toNat)) e := fun y ⟨e, v1, v2⟩ => by
          rcases Nat.lt_or_ge e c with v | v
          · exact I ⟨e, v, v2⟩
          · rw [show e = c by omega] at v2; exact y v2
        by_cases q3 : L (116 + c) = 1
        · have wo := m_weightOf (s := a.toNat) M1.1 (by omega) M1.2.2.2.2.1
          rw [ea, M1.2.1 _ hs] at wo
          rw [if_pos q3, wo, bsm]
          obtain ⟨h1, p1, p2, p3, p4⟩ := m_isWay (c := pi h 422 (72 + a.toNat)) (to := c) (load := wt a.toNat) (mv := a) (X := no0) M1 (by rw [g]; exact V) ⟨q1.2, r.2⟩ ⟨by omega, by omega⟩ (by omega) (fun c hc => ⟨fun _ y => y, fun _ => by rw [MF_24 f]; exact Z c (by omega)⟩)
          rw [g] at p1
          rw [p1, bsm]
          have f1 : MF h h1 := MF_trans f ⟨fr_mono p2 (fun b hb => by unfold MFs; omega), fun j a b => p3 j (by omega) (by omega)⟩
          have g1 : pi h1 422 = pi h 422 := by rw [fr_fi p2 (by omega)]; exact g
          by_cases q5 : isw L W (opn L W (pi h 422) wt 0 a (wt a.toNat) no0) (pi h 422 (72 + a.toNat)) c
          · left
            rw [cif_t q5]
            refine ⟨h1, ?_, f1, g1⟩
            rw [cif_t ⟨q1.1, q1.2, Or.inr ⟨c, by omega, q3, by rw [ea]; exact q5⟩⟩]; rfl
          · right
            rw [cif_f q5]
            exact ⟨h1, rfl, f1, g1, skip (fun y => q5 y.2)⟩
        · right
          rw [if_neg q3]
          exact ⟨t, rfl, f, g, skip (fun y => q3 y.1)⟩
      · intro n t ⟨f, g, I⟩
        have M1 := MF_MC M f
        refine ⟨t, ?_, f, g⟩
        show pl_M_canGoOff_42 a _ _ (n + 1) (pi h 422 (72 + a.toNat)) ((ce L).toNat : Nat) t = _
        rw [pl_M_canGoOff_42, m_cells M1.1, bsm, if_pos (by omega), cif_f]
        intro y
        rcases y.2.2 with v | ⟨e, v1, v2, v3⟩
        · exact q2 v
        · exact I ⟨e, by omega, v2, by rw [ea] at v3; exact v3⟩
  · rw [if_neg q1]
    exact ⟨h, by rw [cif_f (fun y => q1 ⟨y.1, y.2.1⟩)], MF_refl, rfl⟩
end Mj
