/-! part, from, stop, most -/
theorem p64_i {a : Int} (h0 : -2147483648 ≤ a) (h1 : a < 2147483648) : (p64 a).toInt = a := by
  unfold p64
  rw [Int32.toInt_toInt64]
  exact Int32.toInt_ofInt_of_le h0 h1
theorem p64_add {a b : Int} (a0 : 0 ≤ a) (a1 : a ≤ 1000000) (b0 : 0 ≤ b) (b1 : b ≤ 1000000) : p64 a + p64 b = p64 (a + b) := by
  apply Int64.toInt_inj.mp
  rw [Int64.toInt_add, p64_i (by omega) (by omega), p64_i (by omega) (by omega), p64_i (by omega) (by omega)]
  rw [Int.bmod_def]
  split <;> omega
def dsf (W S : Nat → Int) (y : Int64) (s : Nat) : Int := if 0 ≤ S (72 + s) ∧ tb y (S (72 + s)).toNat = true then W 3 * S (S (72 + s)).toNat / 10 else 0
section De
variable {h : pH} {a p q l w : Nat} {L W wt sv S : Nat → Int} {u : Bool} {d : Nat} {tk : Int}
theorem dsf_bd {y : Int64} (kL : LK L) (kW : WK W) (V : SV L S d) : ∀ s, s < NS L → 0 ≤ dsf W S y s ∧ dsf W S y s ≤ 990 := fun s hs => by
  unfold dsf
  split
  · rename_i q
    have r := V.2.2.1 s hs
    have v := V.1 (S (72 + s)).toNat (by omega)
    have m := mb kW.2.2.2.1.1 kW.2.2.2.1.2 v.1 v.2
    omega
  · omega
theorem dsf_sum {y : Int64} (kL : LK L) (kW : WK W) (V : SV L S d) {i : Nat} (hi : i ≤ NS L) : 0 ≤ sumw (dsf W S y) i ∧ sumw (dsf W S y) i ≤ 6000 := by
  have n6 := NS_le kL
  have b := sumw_bd (B := 990) (by omega) (fun s hs => dsf_bd (y := y) kL kW V s (Nat.lt_of_lt_of_le hs hi))
  omega
theorem c_duesIn {y : Int64} (C : CX h p q L W) (K : SC h a p q L W wt sv false S) (V : SV L S d) : pf_Sc_duesIn a y h = some (sumw (dsf W S y) (NS L)) := by
  have kL := C.2.2.1
  have kW := C.2.2.2.1
  have z : 4 ≤ ce L ∧ ce L ≤ 36 := sz_mul kL.1
  have n6 := NS_le kL
  have en := NS_eq kL
  obtain ⟨⟨ha, ea, eb⟩, k1, k2, k3, k4, k5⟩ := K
  unfold pf_Sc_duesIn
  refine lpf (F := fun n (i : Nat) (_ : Unit) => pl_Sc_duesIn_5 a y h (fun x3 => some x3) n (sumw (dsf W S y) i) i) (Q := fun r => r = some (sumw (dsf W S y) (NS L))) (NS L) (fun _ _ => True) ?_ ?_ fu_ 0 () (by omega) (by unfold fu_; omega) trivial
  · intro n i _ hi _
    right
    have v := (k4 i hi).1
    have r := V.2.2.1 i hi
    have sb := dsf_sum (y := y) kL kW V (i := i) (by omega)
    have db := dsf_bd (y := y) kL kW V i hi
    refine ⟨(), ?_, trivial⟩
    show pl_Sc_duesIn_5 a y h _ (n + 1) (sumw (dsf W S y) i) i = pl_Sc_duesIn_5 a y h _ n (sumw (dsf W S y) (i + 1)) (i + 1 : Nat)
    rw [pl_Sc_duesIn_5, ea, eb, C.1.1.2.2.2.2, if_neg (by omega), sumw]
    simp (disch := omega) only [gib, Int.toNat_natCast, v, wr_eq]
    by_cases q1 : S (72 + i) < 0
    · have e : dsf W S y i = 0 := if_neg (by omega)
      rw [if_pos q1, e, Int.add_zero]; rfl
    · have ec : (((S (72 + i)).toNat : Nat) : Int) = S (72 + i) := by omega
      have hb := c_hasBit (y := y) (n := (S (72 + i)).toNat) (h := h) (by omega)
      rw [ec] at hb
      rw [if_neg q1, hb, bsm, if1]
      by_cases q2 : tb y (S (72 + i)).toNat = true
      · have e : dsf W S y i = W 3 * S (S (72 + i)).toNat / 10 := if_pos ⟨by omega, q2⟩
        have rt := V.1 (S (72 + i)).toNat (by omega)
        have e1 := k1 (S (72 + i)).toNat (by omega) (Or.inl rfl)
        rw [if_pos q2, e1, c_dueFor C rt.1 rt.2]
        simp (disch := omega) only [gib, bsm]
        rw [e] at db
        rw [e, wr_eq (by omega) (by omega)]; rfl
      · have e : dsf W S y i = 0 := if_neg (fun y => q2 y.2)
        rw [if_neg q2, e, Int.add_zero]; rfl
  · intro n _ _
    show pl_Sc_duesIn_5 a y h _ (n + 1) (sumw (dsf W S y) (NS L)) (NS L : Nat) = _
    rw [pl_Sc_duesIn_5, ea, C.1.1.2.2.2.2, if_pos (by omega)]
theorem m_dues {x1 x2 x3 x4 x5 x6 : Int} {y : Int64} {K : Int64 → Int64 → pH → Option (Int64 × pH)} (M : MC h l w L W wt sv tk) (V : SV L (pi h 422) d) : pl_M_part_32 x1 x2 x3 x4 x5 x6 K fu_ y 0 0 h = K y (p64 (sumw (dsf W (pi h 422) y) (NS L))) h := by
  have kL := M.1.2.2.2.2.2.2.1
  have z : 4 ≤ ce L ∧ ce L ≤ 36 := sz_mul kL.1
  have n6 := NS_le kL
  have en := NS_eq kL
  obtain ⟨e1, e2, hl, hw, hL, hW, -, kW⟩ := M.1
  refine lpf (F := fun n (i : Nat) (_ : Unit) => pl_M_part_32 x1 x2 x3 x4 x5 x6 K n y (p64 (sumw (dsf W (pi h 422) y) i)) i h) (Q := fun r => r = K y (p64 (sumw (dsf W (pi h 422) y) (NS L))) h) (NS L) (fun _ _ => True) ?_ ?_ fu_ 0 () (by omega) (by unfold fu_; omega) trivial
  · intro n i _ hi _
    right
    have r := V.2.2.1 i hi
    have sb := dsf_sum (y := y) kL kW V (i := i) (by omega)
    have db := dsf_bd (y := y) kL kW V i hi
    have t1 : (72 + (i : Int)).toNat = 72 + i := by omega
    refine ⟨(), ?_, trivial⟩
    show pl_M_part_32 x1 x2 x3 x4 x5 x6 K (n + 1) y (p64 (sumw (dsf W (pi h 422) y) i)) i h = pl_M_part_32 x1 x2 x3 x4 x5 x6 K n y (p64 (sumw (dsf W (pi h 422) y) (i + 1))) (i + 1 : Nat) h
    rw [pl_M_part_32, sumw, ← p64_add (by omega) (by omega) (by omega) (by omega)]
    simp (disch := omega) only [e1, e2, wr_eq, tn_l, gib, hL, hW, Int.reduceToNat, t1]
    rw [if_neg (by omega), m_stands M.1, bsm, if1, Int.toNat_natCast]
    by_cases q1 : (0 ≤ (i : Int) ∧ (i : Int) < L 4) ∧ 0 ≤ pi h 422 (72 + i)
    · have q1' := q1.2
      have ec : (((pi h 422 (72 + i)).toNat : Nat) : Int) = pi h 422 (72 + i) := by omega
      have s1 := shr1 (y := y) (n := (pi h 422 (72 + i)).toNat) (by omega)
      rw [ec] at s1
      rw [if_pos q1]
      by_cases q2 : tb y (pi h 422 (72 + i)).toNat = true
      · have e : dsf W (pi h 422) y i = W 3 * pi h 422 (pi h 422 (72 + i)).toNat / 10 := if_pos ⟨q1.2, q2⟩
        have rt := V.1 (pi h 422 (72 + i)).toNat (by omega)
        have mm := mb kW.2.2.2.1.1 kW.2.2.2.1.2 rt.1 rt.2
        rw [if_pos (s1.mpr q2), e]
        simp (disch := omega) only [gib, wr_eq, td_p]
        rfl
      · have e : dsf W (pi h 422) y i = 0 := if_neg (fun y => q2 y.2)
        rw [if_neg (fun v => q2 (s1.mp v)), e, show p64 0 = 0 from rfl, Int64.add_zero]; rfl
    · have e : dsf W (pi h 422) y i = 0 := if_neg (fun y => q1 ⟨⟨by omega, by omega⟩, y.1⟩)
      rw [if_neg q1, e, show p64 0 = 0 from rfl, Int64.add_zero]; rfl
  · intro n _ _
    show pl_M_part_32 x1 x2 x3 x4 x5 x6 K (n + 1) y (p64 (sumw (dsf W (pi h 422) y) (NS L))) (NS L : Nat) h = _
    rw [pl_M_part_32]
    simp (disch := omega) only [e1, wr_eq, tn_l, gib, hL, Int.reduceToNat]
    rw [if_pos (by omega)]
end De
theorem p_part {x y z n c o : Int} : asks (pf_I_part x y z n c o) (pf_M_part x y z n c o) := by
  refine ask_gx (x := x) (y := y) (z := z) (n := n) (-1) (km := fun v1 => if v1.1 = 0 then some (-1, v1.2) else ((pf_M_isCell (pi v1.2 417 14) c v1.2).bind fun v2 => (if v2 = 0 then some (-1, v1.2) else ((pf_M_partOf c v1.2).bind fun v2 => (pl_M_part_32 x y z n c o (fun y7 y9 h => if o = 0 then (some (y7, h)) else (some (y9, h))) fu_ v2 0 0 v1.2))))) (fun _ => rfl) ?_ (fun _ => rfl) (fun _ => rfl) ?_
  · intro g
    unfold pf_M_part pf_M_isIce
    cases e : pf_M_isState x y z n g with
    | none => rfl
    | some v =>
      simp only [bsm]
      by_cases e1 : v.1 = 0
      · rw [if_pos e1, if_pos e1]; rfl
      · rw [if_neg e1, if_neg e1]
        cases e2 : pf_M_isCell (pi v.2 417 14) c v.2 with
        | none => rfl
        | some v2 =>
          simp only [bsm]
          by_cases e3 : v2 = 0
          · rw [if_pos e3, if_pos e3]; rfl
          · rw [if_neg e3, if_neg e3]; rfl
  · intro p q l w L W S h g ⟨C, K, M, eS, Z, V, TT⟩
    have kL := C.2.2.1
    have hl := M.1.2.2.1
    subst eS
    rw [n10]
    simp only []
    rw [K.1.2.1, c_isCell C, bsm, if1, if_neg (show ¬ (1 : Int) = 0 by decide), M.1.1, m_isCell (by omega) M.1.2.2.2.2.1 kL.1, bsm, if1]
    by_cases q3 : 0 ≤ c ∧ c < ce L
    · obtain ⟨h1, p1, p2, -⟩ := c_joined (c := c) C q3
      have f1 : fr CGs h h1 := fr_mono p2 (fun b hb => by unfold CGs; omega)
      rw [if_pos q3, if_pos q3, p1, bsm, (m_partOf M.1 q3).1, bsm, m_dues M V]
      by_cases o0 : o = 0
      · rw [if_pos o0, if_pos o0]
        exact ⟨_, h1, g, rfl, f1, rfl, MG_refl⟩
      · rw [if_neg o0, if_neg o0]
        simp only []
        rw [c_duesIn (CX_fr C p2 (fun b hb => by omega)) (SC_fr K p2 (fun b hb => by omega)) V]
        exact ⟨_, h1, g, rfl, f1, rfl, MG_refl⟩
    · rw [if_neg q3, if_neg q3]
      exact ⟨_, h, g, rfl, fr_refl, rfl, MG_refl⟩
theorem p_from {x y z n ld c : Int} : asks (pf_I_from x y z n ld c) (pf_M_from x y z n ld c) := by
  by_cases q1 : 1 ≤ ld ∧ ld ≤ 999
  · refine ask_gx (x := x) (y := y) (z := z) (n := n) (-1) (km := fun v1 => if v1.1 = 0 then some (-1, v1.2) else ((pf_M_isCell (pi v1.2 417 14) c v1.2).bind fun v2 => (if v2 = 0 then some (-1, v1.2) else (pl_M_from_32 x y z n ld c (fun y7 h => some (y7, h)) fu_ 0 0 v1.2)))) (fun _ => rfl) ?_ (fun _ => rfl) (fun _ => rfl) ?_
    · intro g
      unfold pf_M_from pf_M_isIce
      rw [m_isLoad, bsm, if1, if_pos q1]
      cases e : pf_M_isState x y z n g with
      | none => rfl
      | some v =>
        simp only [bsm]
        by_cases e1 : v.1 = 0
        · rw [if_pos e1, if_pos e1]; rfl
        · rw [if_neg e1, if_neg e1]
          cases e2 : pf_M_isCell (pi v.2 417 14) c v.2 with
          | none => rfl
          | some v2 =>
            simp only [bsm]
            by_cases e3 : v2 = 0
            · rw [if_pos e3, if_pos e3]; rfl
            · rw [if_neg e3, if_neg e3]; rfl
    · intro p q l w L W S h g ⟨C, K, M, eS, Z, V, TT⟩
      have kL := C.2.2.1
      have z0 : 4 ≤ ce L ∧ ce L ≤ 36 := sz_mul kL.1
      have hl := M.1.2.2.1
      subst eS
      rw [n10]
      simp only []
      rw [K.1.2.1, c_isCell C, bsm, if1, if_neg (show ¬ (1 : Int) = 0 by decide), M.1.1, m_isCell (by omega) M.1.2.2.2.2.1 kL.1, bsm, if1, c_isLoad, bsm, if1, if_pos q1]
      by_cases q3 : 0 ≤ c ∧ c < ce L
      · rw [if_pos q3, if_pos q3]
        obtain ⟨h1, p1, p2, -, -, p5, p6⟩ := c_survey (tk := 0) (WS0 kL) C K V (by omega) (by omega) (by omega)
        have C1 : CX h1 p q L W := CX_fr C p2 (fun b hb => by omega)
        obtain ⟨yy, h2, r1, r2, r3⟩ := c_reach (load := ld) (c := c) (O := opn L W (pi g 422) (wt0 L) 0 (-1) ld no0) C1 p5 (fun c hc => by rw [p6 c hc]; exact rmv_opn q1.1) q3
        rw [p1, bsm, r1, bsm]
        have mm : ∃ g1, pl_M_from_32 x y z n ld c (fun y7 h => some (y7, h)) fu_ 0 0 g = some (yy, g1) ∧ MG g g1 := by
          refine lpf (F := fun m (e : Nat) (t : Int64 × pH) => pl_M_from_32 x y z n ld c (fun y7 h => some (y7, h)) m t.1 e t.2) (Q := fun r => ∃ g1, r = some (yy, g1) ∧ MG g g1) (ce L).toNat (fun e t => MF g t.2 ∧ pi t.2 422 = pi g 422 ∧ ∀ i : Nat, i < 64 → (tb t.1 i = true ↔ i < e ∧ isw L W (opn L W (pi g 422) (wt0 L) 0 (-1) ld no0) c i)) ?_ ?_ fu_ 0 ((0 : Int64), g) (by omega) (by unfold fu_; omega) ⟨MF_refl, rfl, fun i hi => by
            show tb 0 i = true ↔ _
            rw [tb_0]
            exact ⟨fun v => absurd v (by decide), fun v => by omega⟩⟩
          · intro m e t he ⟨f, g2, I⟩
            right
            obtain ⟨y7, t⟩ := t
            have f : MF g t := f
            have g2 : pi t 422 = pi g 422 := g2
            have M1 := MF_MC M f
            obtain ⟨h3, s1, s2, s3, s4⟩ := m_isWay (c := c) (to := e) (load := ld) (mv := -1) (X := no0) M1 (by rw [g2]; exact V) q3 ⟨by omega, by omega⟩ (by omega) (fun c hc => ⟨fun _ y => y, fun _ => by rw [MF_24 f]; exact Z c (by omega)⟩)
            rw [g2] at s1
            have f3 : MF g h3 := MF_trans f ⟨fr_mono s2 (fun b hb => by unfold MFs; omega), fun j a b => s3 j (by omega) (by omega)⟩
            have g3 : pi h3 422 = pi g 422 := by rw [fr_fi s2 (by omega)]; exact g2
            show ∃ t' : Int64 × pH, pl_M_from_32 x y z n ld c _ (m + 1) y7 e t = pl_M_from_32 x y z n ld c _ m t'.1 (e + 1 : Nat) t'.2 ∧ _
            rw [pl_M_from_32, m_cells M1.1, bsm, if_neg (by omega), s1, bsm]
            unfold pj_M_from_65
            simp only []
            rw [wr_eq (by omega) (by omega)]
            by_cases q5 : isw L W (opn L W (pi g 422) (wt0 L) 0 (-1) ld no0) c e
            · rw [cif_t q5, if_neg (by decide)]
              refine ⟨(y7 ||| plshl 1 e, h3), rfl, f3, g3, fun i hi => ?_⟩
              show tb (y7 ||| plshl 1 e) i = true ↔ _
              rw [tb_or, tb_bit (by omega) hi, Bool.or_eq_true, I i hi, decide_eq_true_eq]
              constructor
              · intro v
                rcases v with v | v
                · exact ⟨by omega, v.2⟩
                · rw [v]; exact ⟨by omega, q5⟩
              · intro ⟨v1, v2⟩
                by_cases v3 : i = e
                · exact Or.inr v3
                · exact Or.inl ⟨by omega, v2⟩
            · rw [cif_f q5, if_pos rfl]
              refine ⟨(y7 ||| 0, h3), rfl, f3, g3, fun i hi => ?_⟩
              show tb (y7 ||| 0) i = true ↔ _
              rw [tb_or, tb_0, Bool.or_false, I i hi]
              constructor
              · intro v; exact ⟨by omega, v.2⟩
              · intro ⟨v1, v2⟩
                refine ⟨?_, v2⟩
                by_cases v3 : i = e
                · rw [v3] at v2; exact absurd v2 q5
                · omega
          · intro m t ⟨f, g2, I⟩
            refine ⟨t.2, ?_, MF_MG f⟩
            show pl_M_from_32 x y z n ld c _ (m + 1) t.1 ((ce L).toNat : Nat) t.2 = _
            rw [pl_M_from_32, m_cells (MF_MC M f).1, bsm, if_pos (by omega)]
            have : t.1 = yy := tb_ext fun i hi => by
              have a := I i hi
              have b := r3 i hi
              cases e1 : tb t.1 i <;> cases e2 : tb yy i
              · rfl
              · have v := b.mp e2
                exact absurd (a.mpr ⟨by have := v.1; omega, v.2⟩) (by rw [e1]; decide)
              · have v := a.mp e1
                exact absurd (b.mpr ⟨by have := v.1; omega, v.2⟩) (by rw [e2]; decide)
              · rfl
            rw [this]
        obtain ⟨g1, m1, m2⟩ := mm
        exact ⟨yy, h2, g1, rfl, fr_trans (fr_mono p2 (fun b hb => by unfold CGs; omega)) (fr_mono r2 (fun b hb => by unfold CGs; omega)), m1, m2⟩
      · rw [if_neg q3, if_neg q3]
        exact ⟨_, h, g, rfl, fr_refl, rfl, MG_refl⟩
  · refine ask_no (-1) (c_no (x := x) (y := y) (z := z) (n := n) (-1) (fun _ => rfl) (fun _ => rfl) ?_) ?_
    · intro p q L W S h C K V
      refine ⟨h, ?_, fr_refl⟩
      rw [n10]
      simp only []
      rw [K.1.2.1, c_isCell C, bsm, if1, c_isLoad, bsm, if1, if_neg q1]
      split <;> rfl
    · intro g B I
      refine ⟨g, ?_, MG_refl⟩
      unfold pf_M_from
      rw [m_isLoad, bsm, if1, if_neg q1]
/-! the greatest load -/
def wy (L W S wt : Nat → Int) (fm to load : Int) : Prop := isw L W (opn L W S wt 0 (-1) load no0) fm to
theorem wy_mono {L W S wt : Nat → Int} {fm to a b : Int} (kL : LK L) (hf : inr L fm) (h : a ≤ b) (g : wy L W S wt fm to b) : wy L W S wt fm to a := by
  refine ⟨g.1, dst_ge.mpr ?_⟩
  obtain ⟨n, hn⟩ := dst_ge.mp g.2
  exact ⟨n, wk_mono kL (fun e he o => ⟨o.1, o.2.1, o.2.2.1, by have := o.2.2.2; omega⟩) hf hn⟩
section Df
variable {h : pH} {a p q l w : Nat} {L W wt sv S : Nat → Int} {u : Bool} {d : Nat} {tk : Int}
theorem c_greatest {fm to : Int} (C : CX h p q L W) (X : WX h p q) (hR : ∀ c : Nat, (c : Int) < ce L → pi h 313 c = rmv L W S wt 0 c) (hf : inr L fm) (ht : inr L to) (ne : fm ≠ to) (hb : rmv L W S wt 0 to ≤ 9801) (hb0 : -10000 ≤ rmv L W S wt 0 to) : ∃ g h', pf_Wa_greatestLoad fm to h = some (g, h') ∧ fr (fun b => b = 314 ∨ b = 315) h h' ∧ 0 ≤ g ∧ g ≤ 9801 ∧ (1 ≤ g → wy L W S wt fm to g) ∧ ¬ wy L W S wt fm to (g + 1) := by
  have kL := C.2.2.1
  have z : 4 ≤ ce L ∧ ce L ≤ 36 := sz_mul kL.1
  have t0 := ht.1
  have t1 := ht.2
  have et : ((to.toNat : Nat) : Int) = to := by omega
  have rt := hR to.toNat (by omega)
  rw [et] at rt
  have top : ∀ v, 1 ≤ v → rmv L W S wt 0 to < v → ¬ wy L W S wt fm to v := fun v hv hr g => by
    have := (rmv_opn (L := L) (W := W) (S := S) (wt := wt) (tk := 0) (c := to) hv).mpr (isw_open g)
    omega
  unfold pf_Wa_greatestLoad
  rw [gib t0 (by omega), rt, wr_eq (by omega) (by omega)]
  refine lp (F := fun n (t : Int × Int × Nat × pH) => pl_Wa_greatestLoad_15 fm to (fun x3 h => some (x3, h)) n t.1 t.2.1 t.2.2.1 t.2.2.2) (Q := fun r => ∃ g h', r = some (g, h') ∧ fr (fun b => b = 314 ∨ b = 315) h h' ∧ 0 ≤ g ∧ g ≤ 9801 ∧ (1 ≤ g → wy L W S wt fm to g) ∧ ¬ wy L W S wt fm to (g + 1)) (I := fun t => fr (fun b => b = 314 ∨ b = 315) h t.2.2.2 ∧ t.2.2.1 ≤ 14 ∧ (0 ≤ t.1 ∧ t.1 ≤ 9801) ∧ (-10000 ≤ t.2.1 ∧ t.2.1 ≤ 9802) ∧ (1 ≤ t.1 → wy L W S wt fm to t.1) ∧ (¬ wy L W S wt fm to (max t.2.1 1)) ∧ t.2.1 - t.1 ≤ 2 ^ (14 - t.2.2.1)) (fun t => 14 - t.2.2.1) ?_ fu_ (0, rmv L W S wt 0 to + 1, 0, h) ⟨fr_refl, by show 0 ≤ 14; omega, ⟨by show (0 : Int) ≤ 0; omega, by show (0 : Int) ≤ 9801; omega⟩, ⟨by show -10000 ≤ rmv L W S wt 0 to + 1; omega, by show rmv L W S wt 0 to + 1 ≤ 9802; omega⟩, fun v => absurd v (by show ¬ (1 : Int) ≤ 0; omega), ?_, ?_⟩ (by show 14 - 0 < fu_; unfold fu_; omega)
  · intro n t ⟨f, i0, i1, i2, i3, i4, i5⟩
    obtain ⟨can, cn, r, t⟩ := t
    have f : fr (fun b => b = 314 ∨ b = 315) h t := f
    have i0 : r ≤ 14 := i0
    have i1 : 0 ≤ can ∧ can ≤ 9801 := i1
    have i2 : -10000 ≤ cn ∧ cn ≤ 9802 := i2
    have i3 : 1 ≤ can → wy L W S wt fm to can := i3
    have i4 : ¬ wy L W S wt fm to (max cn 1) := i4
    have i5 : cn - can ≤ 2 ^ (14 - r) := i5
    have C1 : CX t p q L W := CX_fr C f (fun b hb => by omega)
    have X1 : WX t p q := WX_fr X f (by omega)
    have done : cn ≤ can + 1 → ∃ g h', some (can, t) = some (g, h') ∧ fr (fun b => b = 314 ∨ b = 315) h h' ∧ 0 ≤ g ∧ g ≤ 9801 ∧ (1 ≤ g → wy L W S wt fm to g) ∧ ¬ wy L W S wt fm to (g + 1) := fun v => ⟨can, t, rfl, f, i1.1, i1.2, i3, fun y => i4 (wy_mono kL hf (by omega) y)⟩
    show (∃ g h', pl_Wa_greatestLoad_15 fm to _ (n + 1) can cn r t = some (g, h') ∧ _) ∨ ∃ t' : Int × Int × Nat × pH, pl_Wa_greatestLoad_15 fm to _ (n + 1) can cn r t = pl_Wa_greatestLoad_15 fm to _ n t'.1 t'.2.1 t'.2.2.1 t'.2.2.2 ∧ _
    rw [pl_Wa_greatestLoad_15, wr_eq (show -2147483648 ≤ can + 1 by omega) (by omega)]
    by_cases q1 : (14 : Int) ≤ r
    · left
      rw [if_pos q1]
      have : r = 14 := by omega
      rw [this] at i5
      exact done (by have : (2 : Int) ^ (14 - 14) = 1 := by decide
                     omega)
    · rw [if_neg q1]
      by_cases q2 : cn ≤ can + 1
      · left
        rw [if_pos q2]
        exact done q2
      · right
        rw [if_neg q2]
        have e1 : wr (can + wr (Int.tdiv (wr (cn - can)) 2)) = can + (cn - can) / 2 := by
          rw [wr_eq (x := cn - can) (by omega) (by omega), td_p (by omega)]
          rw [wr_eq (x := (cn - can) / 2) (by omega) (by omega), wr_eq (by omega) (by omega)]
        rw [e1]
        have hl1 : 1 ≤ can + (cn - can) / 2 := by omega
        obtain ⟨h2, m1, m2, m3⟩ := c_measure (load := can + (cn - can) / 2) (c := fm) (to := to) (O := opn L W S wt 0 (-1) (can + (cn - can) / 2) no0) C1 X1 (fun c hc => by rw [fr_i f (by omega), hR c hc]; exact rmv_opn hl1) hf ht ne
        have f2 : fr (fun b => b = 314 ∨ b = 315) h h2 := fr_trans f m2
        have dlo := dst_lo (L := L) (W := W) (O := opn L W S wt 0 (-1) (can + (cn - can) / 2) no0) (to := to) (c := fm)
        have p2 : (2 : Int) ^ (14 - r) = 2 * 2 ^ (14 - (r + 1)) := by
          rw [show 14 - r = (14 - (r + 1)) + 1 by omega, Int.pow_succ]; omega
        rw [m1, bsm]
        simp only []
        rw [wr_eq (show -2147483648 ≤ (r : Int) + 1 by omega) (by omega)]
        by_cases q3 : dst L W (opn L W S wt 0 (-1) (can + (cn - can) / 2) no0) to fm = -1
        · rw [if_pos q3]
          refine ⟨(can, can + (cn - can) / 2, r + 1, h2), rfl, ⟨f2, by show r + 1 ≤ 14; omega, i1, ⟨by show -10000 ≤ can + (cn - can) / 2; omega, by show can + (cn - can) / 2 ≤ 9802; omega⟩, i3, ?_, ?_⟩, by show 14 - (r + 1) < 14 - r; omega⟩
          · show ¬ wy L W S wt fm to (max (can + (cn - can) / 2) 1)
            rw [show max (can + (cn - can) / 2) 1 = can + (cn - can) / 2 by omega]
            intro y
            have := y.2
            omega
          · show can + (cn - can) / 2 - can ≤ 2 ^ (14 - (r + 1))
            omega
        · rw [if_neg q3]
          refine ⟨(can + (cn - can) / 2, cn, r + 1, h2), rfl, ⟨f2, by show r + 1 ≤ 14; omega, ⟨by show 0 ≤ can + (cn - can) / 2; omega, by show can + (cn - can) / 2 ≤ 9801; omega⟩, i2, fun _ => (show wy L W S wt fm to (can + (cn - can) / 2) from ⟨ne, by omega⟩), i4, ?_⟩, by show 14 - (r + 1) < 14 - r; omega⟩
          show cn - (can + (cn - can) / 2) ≤ 2 ^ (14 - (r + 1))
          omega
  · exact top _ (by show 1 ≤ max (rmv L W S wt 0 to + 1) 1; omega) (by show rmv L W S wt 0 to < max (rmv L W S wt 0 to + 1) 1; omega)
  · show rmv L W S wt 0 to + 1 - 0 ≤ 2 ^ (14 - 0)
    have : (2 : Int) ^ (14 - 0) = 16384 := by decide
    omega
theorem m_greatest {fm to mo : Int} (M : MC h l w L W wt sv 0) (V : SV L (pi h 422) d) (Z : ∀ c : Nat, c < 36 → pi h 424 c = 0) (hf : inr L fm) (ht : inr L to) (m1 : 1 ≤ mo ∧ mo ≤ 20000) : ∃ g h', pf_M_greatestLoad fm to mo h = some (g, h') ∧ MF h h' ∧ pi h' 422 = pi h 422 ∧ ((g = -1 ∧ ¬ wy L W (pi h 422) wt fm to 1) ∨ ((1 ≤ g ∧ g ≤ mo) ∧ wy L W (pi h 422) wt fm to g ∧ (g = mo ∨ ¬ wy L W (pi h 422) wt fm to (g + 1)))) := by
  have kL := M.1.2.2.2.2.2.2.1
  have z : 4 ≤ ce L ∧ ce L ≤ 36 := sz_mul kL.1
  have isw1 : ∀ (t : pH) (ld : Int), MF h t → pi t 422 = pi h 422 → 0 ≤ ld ∧ ld ≤ 100000 → ∃ t', pf_M_isWay fm to ld (-1) t = some (cif (wy L W (pi h 422) wt fm to ld) 1 0, t') ∧ MF h t' ∧ pi t' 422 = pi h 422 := by
    intro t ld f g b
    obtain ⟨h3, s1, s2, s3, s4⟩ := m_isWay (c := fm) (to := to) (load := ld) (mv := -1) (X := no0) (MF_MC M f) (by rw [g]; exact V) hf ht b (fun c hc => ⟨fun _ y => y, fun _ => by rw [MF_24 f]; exact Z c (by omega)⟩)
    rw [g] at s1
    exact ⟨h3, s1, MF_trans f ⟨fr_mono s2 (fun b hb => by unfold MFs; omega), fun j a b => s3 j (by omega) (by omega)⟩, by rw [fr_fi s2 (by omega)]; exact g⟩
  unfold pf_M_greatestLoad
  obtain ⟨h1, p1, p2, p3⟩ := isw1 h 1 MF_refl rfl (by omega)
  rw [p1, bsm]
  by_cases q0 : wy L W (pi h 422) wt fm to 1
  · rw [cif_t q0]
    simp only []
    rw [if_neg (by decide), wr_eq (by omega) (by omega)]
    refine lp (F := fun n (t : Int × Int × pH) => pl_M_greatestLoad_24 fm to mo (fun x4 h => some (x4, h)) n t.1 t.2.1 t.2.2) (Q := fun r => ∃ g h', r = some (g, h') ∧ MF h h' ∧ pi h' 422 = pi h 422 ∧ ((g = -1 ∧ ¬ wy L W (pi h 422) wt fm to 1) ∨ ((1 ≤ g ∧ g ≤ mo) ∧ wy L W (pi h 422) wt fm to g ∧ (g = mo ∨ ¬ wy L W (pi h 422) wt fm to (g + 1))))) (I := fun t => MF h t.2.2 ∧ pi t.2.2 422 = pi h 422 ∧ (1 ≤ t.1 ∧ t.1 < t.2.1 ∧ t.2.1 ≤ mo + 1) ∧ wy L W (pi h 422) wt fm to t.1 ∧ (t.2.1 = mo + 1 ∨ ¬ wy L W (pi h 422) wt fm to t.2.1)) (fun t => (t.2.1 - t.1).toNat) ?_ fu_ (1, mo + 1, h1) ⟨p2, p3, ⟨by show (1 : Int) ≤ 1; omega, by show (1 : Int) < mo + 1; omega, by show mo + 1 ≤ mo + 1; omega⟩, q0, Or.inl rfl⟩ (by show (mo + 1 - 1).toNat < fu_; unfold fu_; omega)
    intro n t ⟨f, g, i1, i2, i3⟩
    obtain ⟨lo, hi, t⟩ := t
    have f : MF h t := f
    have g : pi t 422 = pi h 422 := g
    have i1 : 1 ≤ lo ∧ lo < hi ∧ hi ≤ mo + 1 := i1
    have i2 : wy L W (pi h 422) wt fm to lo := i2
    have i3 : hi = mo + 1 ∨ ¬ wy L W (pi h 422) wt fm to hi := i3
    show (∃ g h', pl_M_greatestLoad_24 fm to mo _ (n + 1) lo hi t = some (g, h') ∧ _) ∨ ∃ t' : Int × Int × pH, pl_M_greatestLoad_24 fm to mo _ (n + 1) lo hi t = pl_M_greatestLoad_24 fm to mo _ n t'.1 t'.2.1 t'.2.2 ∧ _
    rw [pl_M_greatestLoad_24, wr_eq (x := hi - lo) (by omega) (by omega)]
    by_cases q1 : hi - lo ≤ 1
    · left
      rw [if_pos q1]
      refine ⟨lo, t, rfl, f, g, Or.inr ⟨by omega, i2, ?_⟩⟩
      rcases i3 with y | y
      · left; omega
      · right; rw [show lo + 1 = hi by omega]; exact y
    · right
      have e1 : wr (Int.tdiv (wr (lo + hi)) 2) = (lo + hi) / 2 := by
        rw [wr_eq (x := lo + hi) (by omega) (by omega), td_p (by omega)]
        rw [wr_eq (by omega) (by omega)]
      obtain ⟨h2, r1, r2, r3⟩ := isw1 t ((lo + hi) / 2) f g (by omega)
      rw [if_neg q1, e1, r1, bsm]
      simp only []
      by_cases q2 : wy L W (pi h 422) wt fm to ((lo + hi) / 2)
      · rw [cif_t q2, if_neg (by decide)]
        exact ⟨((lo + hi) / 2, hi, h2), rfl, ⟨r2, r3, ⟨by show 1 ≤ (lo + hi) / 2; omega, by show (lo + hi) / 2 < hi; omega, i1.2.2⟩, q2, i3⟩, by show (hi - (lo + hi) / 2).toNat < (hi - lo).toNat; omega⟩
      · rw [cif_f q2, if_pos rfl]
        exact ⟨(lo, (lo + hi) / 2, h2), rfl, ⟨r2, r3, ⟨i1.1, by show lo < (lo + hi) / 2; omega, by show (lo + hi) / 2 ≤ mo + 1; omega⟩, i2, Or.inr q2⟩, by show ((lo + hi) / 2 - lo).toNat < (hi - lo).toNat; omega⟩
  · rw [cif_f q0]
    exact ⟨-1, h1, rfl, p2, p3, Or.inl ⟨rfl, q0⟩⟩
theorem rmv_9801 {c : Int} (kL : LK L) (kW : WK W) (hW : WS L wt sv) (V : SV L S d) (hc : inr L c) : rmv L W S wt 0 c ≤ 9801 ∧ -10000 ≤ rmv L W S wt 0 c := by
  have v := V.1 c.toNat (by have := hc.1; have := hc.2; omega)
  have b := rmv_bd (S := S) (tk := 0) (c := c) kL kW hW (by omega) (by omega)
  refine ⟨?_, b.1⟩
  have l := ld_bd (S := S) (wo := -1) (x := c) kL kW hW
  have m := mb v.1 v.2 v.1 v.2
  have k := kL.2.1
  have q : br L S 0 c ≤ 9801 := by
    unfold br
    rw [Int.add_zero]
    have := Int.ediv_le_self (L 2) m.1
    omega
  unfold rmv
  by_cases y : (∀ s, s < NS L → S (72 + s) ≠ c) ∧ W 0 ≤ S c.toNat + 0
  · rw [cif_t y]; omega
  · rw [cif_f y]; omega
end Df
theorem p_most {x y z n fm to : Int} : asks (pf_I_most x y z n fm to) (pf_M_most x y z n fm to) := by
  refine ask_trip (x := x) (y := y) (z := z) (n := n) (load := 1) (fm := fm) (to := to) (-1) (fun _ => rfl) (fun _ => rfl) (fun _ => rfl) (fun _ => rfl) (fun v => absurd (by omega) v) (fun _ _ => rfl) (fun _ => rfl) ?_
  intro _ ne p q l w L W S h g ⟨C, K, M, eS, Z, V, TT⟩ hf ht
  have kL := C.2.2.1
  have kW := C.2.2.2.1
  subst eS
  obtain ⟨h1, p1, p2, -, -, p5, p6⟩ := c_survey (tk := 0) (WS0 kL) C K V (by omega) (by omega) (by omega)
  have C1 : CX h1 p q L W := CX_fr C p2 (fun b hb => by omega)
  have rb := rmv_9801 kL kW (WS0 kL) V ht
  obtain ⟨gl, h2, r1, r2, r3, r4, r5, r6⟩ := c_greatest C1 p5 p6 hf ht ne rb.1 rb.2
  obtain ⟨gm, g2, s1, s2, s3, s4⟩ := m_greatest (mo := 999) M V Z hf ht (by omega)
  have f2 : fr CGs h h2 := fr_trans (fr_mono p2 (fun b hb => by unfold CGs; omega)) (fr_mono r2 (fun b hb => by unfold CGs; omega))
  simp only []
  rw [if_neg (show ¬ (1 : Int) = 0 by decide), if_neg (show ¬ (1 : Int) = 0 by decide), p1, bsm, r1, bsm, s1, bsm]
  simp only []
  rcases s4 with ⟨e1, e2⟩ | ⟨e1, e2, e3⟩
  · have : gl = 0 := by
      rcases (show gl = 0 ∨ 1 ≤ gl by omega) with v | v
      · exact v
      · exact absurd (wy_mono kL hf v (r5 v)) e2
    rw [if_neg (by omega), e1]
    exact ⟨_, h2, g2, rfl, f2, rfl, MF_MG s2⟩
  · have g1 : gm ≤ gl := by
      rcases Int.lt_or_le gl gm with v | v
      · exact absurd (wy_mono kL hf (by omega) e2) r6
      · exact v
    have : min gl 999 = gm := by
      rcases e3 with v | v
      · omega
      · have : ¬ gm < gl := fun y => v (wy_mono kL hf (by omega) (r5 (by omega)))
        omega
    rw [if_pos (by omega), this]
    exact ⟨_, h2, g2, rfl, f2, rfl, MF_MG s2⟩
