/-! fair: the class's days; the question -/
section Dq
variable {h : pH} {a p q l w : Nat} {L W wt sv S : Nat → Int} {u : Bool} {d : Nat} {tk : Int}
theorem c_lowestBit {y : Int64} : ∃ r, pf_I_lowestBit y h = some r ∧ FM (fun c => tb y c = true) 36 r := by
  unfold pf_I_lowestBit
  refine lpf (F := fun n (i : Nat) (_ : Unit) => pl_I_lowestBit_2 y h (fun x2 => some x2) (some ((-1))) n i) (Q := fun r => ∃ v, r = some v ∧ FM (fun c => tb y c = true) 36 v) 36 (fun i _ => ∀ j, j < i → ¬ tb y j = true) ?_ ?_ fu_ 0 () (by omega) (by unfold fu_; omega) (fun j hj => absurd hj (Nat.not_lt_zero _))
  · intro n i _ hi I
    have e0 : pl_I_lowestBit_2 y h (fun x2 => some x2) (some ((-1))) (n + 1) i = if tb y i = true then some (i : Int) else pl_I_lowestBit_2 y h (fun x2 => some x2) (some ((-1))) n (i + 1 : Nat) := by
      rw [pl_I_lowestBit_2, if_neg (by omega), c_hasBit (by omega), bsm, if1, wr_eq (by omega) (by omega)]; rfl
    by_cases q1 : tb y i = true
    · left
      exact ⟨_, by show pl_I_lowestBit_2 y h (fun x2 => some x2) (some ((-1))) (n + 1) i = _; rw [e0, if_pos q1], Or.inl ⟨i, hi, rfl, q1, I⟩⟩
    · right
      refine ⟨(), by show pl_I_lowestBit_2 y h (fun x2 => some x2) (some ((-1))) (n + 1) i = _; rw [e0, if_neg q1], fun j hj => ?_⟩
      by_cases k : j = i
      · rw [k]; exact q1
      · exact I j (by omega)
  · intro n _ I
    refine ⟨-1, ?_, Or.inr ⟨rfl, I⟩⟩
    show pl_I_lowestBit_2 y h (fun x2 => some x2) (some ((-1))) (n + 1) (36 : Nat) = _
    rw [pl_I_lowestBit_2, if_pos (by omega)]
theorem nz_bit {y : Int64} (hy : y ≠ 0) : ∃ c : Nat, c < 64 ∧ tb y c = true := by
  apply Classical.byContradiction
  intro no
  apply hy
  refine tb_ext (fun i hi => ?_)
  rw [tb_0]
  cases k : tb y i with
  | false => rfl
  | true => exact absurd ⟨i, hi, k⟩ no
/-- what is asked: D c are days of block c -/
def FQ (D : Nat → Int) (o r : Int) : Prop := (r = -1 ∧ ∀ c : Nat, c < 64 → D c = -1) ∨ ∃ dm : Nat, (∀ c : Nat, c < 64 → D c ≤ dm) ∧ (∃ c : Nat, c < 64 ∧ D c = dm) ∧ ((o = 0 ∧ FM (fun c => D c = dm) 36 r) ∨ (o ≠ 0 ∧ r = dm))
theorem FM_c {P Q : Nat → Prop} {N : Nat} {r : Int} (e : ∀ c, c < N → (P c ↔ Q c)) (f : FM P N r) : FM Q N r := by
  rcases f with ⟨i, i1, i2, i3, i4⟩ | ⟨a1, a2⟩
  · exact Or.inl ⟨i, i1, i2, (e i i1).mp i3, fun j hj k => i4 j hj ((e j (by omega)).mpr k)⟩
  · exact Or.inr ⟨a1, fun j hj k => a2 j hj ((e j hj).mpr k)⟩
theorem c_fairEnd {g bw bh o : Int} {D : Nat → Int} {y : Int64} {dm : Nat} (hy : ∃ c : Nat, c < 64 ∧ tb y c = true) (e1 : ∀ c : Nat, c < 64 → (tb y c = true ↔ D c = dm)) (e2 : ∀ c : Nat, c < 64 → D c ≤ dm) : ∃ r, pj_Ou_longestFair_85 303 g bw bh o y dm h = some (r, h) ∧ FQ D o r := by
  unfold pj_Ou_longestFair_85
  obtain ⟨c, c1, c2⟩ := hy
  by_cases q1 : o = 0
  · obtain ⟨r, r1, r2⟩ := c_lowestBit (y := y) (h := h)
    rw [if_pos q1, r1]
    exact ⟨r, rfl, Or.inr ⟨dm, e2, ⟨c, c1, (e1 c c1).mp c2⟩, Or.inl ⟨q1, FM_c (fun c hc => e1 c (by omega)) r2⟩⟩⟩
  · rw [if_neg q1]
    exact ⟨dm, rfl, Or.inr ⟨dm, e2, ⟨c, c1, (e1 c c1).mp c2⟩, Or.inr ⟨q1, rfl⟩⟩⟩
theorem c_longest {g bw bh o : Int} (hW : WS L wt sv) (C : CX h p q L W) (K : SC h 303 p q L W wt sv false S) (V : SV L S d) (hd : d ≤ 900) (g0 : 1 ≤ g ∧ g ≤ 999) (b0 : 1 ≤ bw ∧ bw ≤ 6) (b1 : 1 ≤ bh ∧ bh ≤ 6) : ∃ r h', pf_Ou_longestFair 303 g bw bh o h = some (r, h') ∧ fr CGs h h' ∧ FQ (fun c => dys (bld L W wt sv S g bw bh) c 60) o r := by
  have kL := C.2.2.1
  have kW := C.2.2.2.1
  obtain ⟨y1, f1, f2⟩ := c_firm hW C K V g0
  obtain ⟨y2, u1, u2⟩ := c_blocks C K.1.2.1 b0 b1 f2
  unfold pf_Ou_longestFair
  rw [f1, bsm, u1, bsm]
  by_cases q1 : y2 = 0
  · rw [if_pos (plc_0.mpr q1)]
    refine ⟨-1, h, rfl, fr_refl, Or.inl ⟨rfl, fun c hc => ?_⟩⟩
    have nb : ¬ bld L W wt sv S g bw bh 0 c := fun k => by
      have := (u2 c hc).mpr k
      rw [q1, tb_0] at this
      exact Bool.noConfusion this
    have d0 : dys (bld L W wt sv S g bw bh) c 0 = -1 := by rw [dys, cif_f nb]
    have st := dys_st (B := bld L W wt sv S g bw bh) (c := c) (m := 0) (by rw [d0]; decide) (k := 60)
    rw [Nat.zero_add, d0] at st
    exact st
  · rw [if_neg (fun k => q1 (plc_0.mp k))]
    refine lpf (F := fun n (i : Nat) (t : Int64 × pH) => pl_Ou_longestFair_29 303 g bw bh o (fun y6 x8 h => pj_Ou_longestFair_85 303 g bw bh o y6 x8 h) (fun y6 x8 h => pj_Ou_longestFair_85 303 g bw bh o y6 x8 h) n t.1 i ((i : Int) + 1) t.2) (Q := fun r => ∃ v h', r = some (v, h') ∧ fr CGs h h' ∧ FQ (fun c => dys (bld L W wt sv S g bw bh) c 60) o v) 60 (fun i t => fr CGs h t.2 ∧ SC t.2 303 p q L W wt sv false (adn L W wt sv i S) ∧ t.1 ≠ 0 ∧ ∀ c : Nat, c < 64 → (tb t.1 c = true ↔ dys (bld L W wt sv S g bw bh) c i = i)) ?_ ?_ fu_ 0 (y2, h) (by omega) (by unfold fu_; omega) ⟨fr_refl, K, q1, fun c hc => (u2 c hc).trans (show blk L W S wt g bw bh c ↔ dys (bld L W wt sv S g bw bh) c 0 = 0 from (dys_0 (B := bld L W wt sv S g bw bh) (c := c)).symm)⟩
    · intro n i ⟨y, t⟩ hi ⟨f, Kt, ny, B⟩
      simp only [] at f Kt ny B
      have Ct : CX t p q L W := CX_fr C f (fun b hb => hb.1)
      obtain ⟨ff0, h3, d1, d2, d3, d4⟩ := c_day1 hW Ct Kt (SV_adn kL kW V) (by omega)
      have f3 : fr CGs h h3 := fr_trans f (fr_mono d3 (fun b hb => by unfold SF at hb; unfold CGs; omega))
      have C3 : CX h3 p q L W := CX_fr C f3 (fun b hb => hb.1)
      have V3 : SV L (adn L W wt sv (i + 1) S) (d + (i + 1)) := SV_adn kL kW V
      have K3 : SC h3 303 p q L W wt sv false (adn L W wt sv (i + 1) S) := d4
      obtain ⟨z1, g1, g2⟩ := c_firm hW C3 K3 V3 g0
      obtain ⟨z2, w1, w2⟩ := c_blocks C3 K3.1.2.1 b0 b1 g2
      have B2 : ∀ c : Nat, c < 64 → (tb (y &&& z2) c = true ↔ dys (bld L W wt sv S g bw bh) c (i + 1) = ((i + 1 : Nat) : Int)) := fun c hc => by
        rw [tb_and, Bool.and_eq_true, B c hc, w2 c hc, dys_s]; rfl
      have e0 : pl_Ou_longestFair_29 303 g bw bh o (fun y6 x8 h => pj_Ou_longestFair_85 303 g bw bh o y6 x8 h) (fun y6 x8 h => pj_Ou_longestFair_85 303 g bw bh o y6 x8 h) (n + 1) y i ((i : Int) + 1) t = if plc (y &&& z2) 0 = 0 then pj_Ou_longestFair_85 303 g bw bh o y i h3 else pl_Ou_longestFair_29 303 g bw bh o (fun y6 x8 h => pj_Ou_longestFair_85 303 g bw bh o y6 x8 h) (fun y6 x8 h => pj_Ou_longestFair_85 303 g bw bh o y6 x8 h) n (y &&& z2) (i + 1 : Nat) (((i + 1 : Nat) : Int) + 1) h3 := by
        rw [pl_Ou_longestFair_29, if_neg (by omega), d1, bsm, d2, bsm, g1, bsm, w1, bsm, wr_eq (by omega) (by omega)]; rfl
      by_cases q2 : y &&& z2 = 0
      · left
        have nd : ∀ c : Nat, c < 64 → dys (bld L W wt sv S g bw bh) c 60 = dys (bld L W wt sv S g bw bh) c i := fun c hc => by
          have ne : dys (bld L W wt sv S g bw bh) c (i + 1) ≠ ((i + 1 : Nat) : Int) := fun k => by
            have := (B2 c hc).mpr k
            rw [q2, tb_0] at this
            exact Bool.noConfusion this
          have st := dys_st ne (k := 60 - (i + 1))
          rw [show i + 1 + (60 - (i + 1)) = 60 by omega] at st
          rw [st, dys, cif_f (fun k => ne (dys_s.mpr k))]
        obtain ⟨r, r1, r2⟩ := c_fairEnd (h := h3) (g := g) (bw := bw) (bh := bh) (o := o) (D := fun c => dys (bld L W wt sv S g bw bh) c 60) (y := y) (dm := i) (nz_bit ny) (fun c hc => by rw [B c hc]; show _ ↔ dys (bld L W wt sv S g bw bh) c 60 = _; rw [nd c hc]) (fun c hc => by show dys (bld L W wt sv S g bw bh) c 60 ≤ _; rw [nd c hc]; exact dys_bd.2)
        refine ⟨r, h3, ?_, f3, r2⟩
        show pl_Ou_longestFair_29 303 g bw bh o _ _ (n + 1) y i ((i : Int) + 1) t = _
        rw [e0, if_pos (plc_0.mpr q2), r1]
      · right
        refine ⟨(y &&& z2, h3), ?_, f3, K3, q2, B2⟩
        show pl_Ou_longestFair_29 303 g bw bh o _ _ (n + 1) y i ((i : Int) + 1) t = _
        rw [e0, if_neg (fun k => q2 (plc_0.mp k))]
    · intro n ⟨y, t⟩ ⟨f, Kt, ny, B⟩
      simp only [] at f Kt ny B
      obtain ⟨r, r1, r2⟩ := c_fairEnd (h := t) (g := g) (bw := bw) (bh := bh) (o := o) (D := fun c => dys (bld L W wt sv S g bw bh) c 60) (y := y) (dm := 60) (nz_bit ny) B (fun c hc => dys_bd.2)
      refine ⟨r, t, ?_, f, r2⟩
      show pl_Ou_longestFair_29 303 g bw bh o _ _ (n + 1) y ((60 : Nat) : Int) (((60 : Nat) : Int) + 1) t = _
      rw [pl_Ou_longestFair_29, if_pos (by omega), r1]
theorem fair_eq {g bw bh o r v : Int} {b : Nat} (kL : LK L) (F : FQ (fun c => dys (bld L W wt sv S g bw bh) c 60) o r) (b1 : (b : Int) < ce L) (b2 : ∀ c : Nat, (c : Int) < ce L → dys (bld L W wt sv S g bw bh) c 60 ≤ dys (bld L W wt sv S g bw bh) b 60) (b3 : ∀ c : Nat, c < b → dys (bld L W wt sv S g bw bh) c 60 < dys (bld L W wt sv S g bw bh) b 60) (hv : v = if 0 ≤ dys (bld L W wt sv S g bw bh) b 60 then (if o = 0 then (b : Int) else dys (bld L W wt sv S g bw bh) b 60) else -1) : r = v := by
  have zz : 4 ≤ ce L ∧ ce L ≤ 36 := sz_mul kL.1
  rcases F with ⟨e, al⟩ | ⟨dm, d1, ⟨c, c1, c2⟩, d3⟩
  · have := al b (by omega)
    simp only [] at this
    rw [this, if_neg (by decide)] at hv
    rw [e, hv]
  · simp only [] at c2 d1
    have cc : (c : Int) < ce L := by
      apply Classical.byContradiction
      intro no
      have nb : ¬ bld L W wt sv S g bw bh 0 c := fun k => no k.1
      have d0 : dys (bld L W wt sv S g bw bh) c 0 = -1 := by rw [dys, cif_f nb]
      have st := dys_st (B := bld L W wt sv S g bw bh) (c := c) (m := 0) (by rw [d0]; decide) (k := 60)
      rw [Nat.zero_add, d0] at st
      omega
    have e1 := b2 c cc
    have e2 := d1 b (by omega)
    have e3 : dys (bld L W wt sv S g bw bh) b 60 = dm := by omega
    rw [if_pos (by omega)] at hv
    rcases d3 with ⟨o0, fm⟩ | ⟨o0, er⟩
    · rw [if_pos o0] at hv
      rw [hv]
      refine FM_un fm (Or.inl ⟨b, by omega, rfl, e3, fun j hj k => ?_⟩)
      have := b3 j hj
      simp only [] at k
      omega
    · rw [if_neg o0] at hv
      rw [hv, er, e3]
end Dq
theorem p_fair {x y z n g bw bh o : Int} : asks (pf_I_fair x y z n g bw bh o) (pf_M_fair x y z n g bw bh o) := by
  by_cases q1 : (1 ≤ g ∧ g ≤ 999) ∧ (1 ≤ bw ∧ bw ≤ 6) ∧ (1 ≤ bh ∧ bh ≤ 6)
  · obtain ⟨g0, b0, b1⟩ := q1
    refine ask_gx (x := x) (y := y) (z := z) (n := n) (-1) (km := fun v4 => (if v4.1 = 0 then (some ((-1), v4.2)) else (pl_M_fair_47 x y z n g bw bh o (fun h => pl_M_fair_92 x y z n g bw bh o (fun h => pl_M_fair_171 x y z n g bw bh o (fun x9 h => ia_gd (pib x9 36) (if 0 ≤ (pi h 430 (Int.toNat x9)) then (if o = 0 then (some (x9, h)) else (ia_gd (pib x9 36) (some (pi h 430 (Int.toNat x9), h)))) else (some ((-1), h)))) fu_ 0 1 h) fu_ 1 h) fu_ 0 v4.2))) (fun _ => rfl) ?_ (fun _ => rfl) (fun _ => rfl) ?_
    · intro t
      unfold pf_M_fair
      rw [m_isLoad, bsm, if1, if_pos g0, m_isIn, bsm, if1, if_pos b0, m_isIn, bsm, if1, if_pos b1]
    · intro p q l w L W S h t ⟨C, K, M, eS, Z, V, TT⟩
      have kL := C.2.2.1
      have zz : 4 ≤ ce L ∧ ce L ≤ 36 := sz_mul kL.1
      subst eS
      rw [n10]
      simp only []
      rw [c_isLoad, bsm, if1, if_pos g0, if_neg (by omega), if_neg (by omega), if_neg (by omega), if_pos b1.2, if_neg (show ¬ (1 : Int) = 0 by decide)]
      obtain ⟨r, h1, c1, c2, F⟩ := c_longest (o := o) (WS0 kL) C K V (by omega) g0 b0 b1
      obtain ⟨t1, m1, m2, m3⟩ := m_fair47 (x1 := x) (x2 := y) (x3 := z) (x4 := n) (o := o) (K := fun h => pl_M_fair_92 x y z n g bw bh o (fun h => pl_M_fair_171 x y z n g bw bh o (fun x9 h => ia_gd (pib x9 36) (if 0 ≤ (pi h 430 (Int.toNat x9)) then (if o = 0 then (some (x9, h)) else (ia_gd (pib x9 36) (some (pi h 430 (Int.toNat x9), h)))) else (some ((-1), h)))) fu_ 0 1 h) fu_ 1 h) M V g0 b0 b1
      have F1 : MF t t1 := ⟨fr_mono m2 (fun b hb => by unfold MFs; omega), fun j _ _ => fr_i m2 (by omega)⟩
      obtain ⟨t2, k1, k2, k3⟩ := m_fair92 (h := t1) (x1 := x) (x2 := y) (x3 := z) (x4 := n) (o := o) (g := g) (bw := bw) (bh := bh) (T := pi t 422) (K := fun h => pl_M_fair_171 x y z n g bw bh o (fun x9 h => ia_gd (pib x9 36) (if 0 ≤ (pi h 430 (Int.toNat x9)) then (if o = 0 then (some (x9, h)) else (ia_gd (pib x9 36) (some (pi h 430 (Int.toNat x9), h)))) else (some ((-1), h)))) fu_ 0 1 h) (MF_MC M F1) V (by omega) g0 b0 b1 (fr_fi m2 (by omega)) m3
      have F2 := MF_trans F1 k2
      obtain ⟨b, r1, r2, r3, r4⟩ := m_fair171 (h := t2) (x1 := x) (x2 := y) (x3 := z) (x4 := n) (o := o) (g := g) (bw := bw) (bh := bh) (K := fun x9 h => ia_gd (pib x9 36) (if 0 ≤ (pi h 430 (Int.toNat x9)) then (if o = 0 then (some (x9, h)) else (ia_gd (pib x9 36) (some (pi h 430 (Int.toNat x9), h)))) else (some ((-1), h)))) (MF_MC M F2) k3
      have er := fair_eq kL F r2 r3 r4 rfl
      rw [c1, bsm, m1, k1, r1, gib (by omega) (by omega), Int.toNat_natCast, k3 b r2]
      refine ⟨r, h1, t2, rfl, c2, ?_, MF_MG F2⟩
      rw [er]
      by_cases q1 : 0 ≤ dys (bld L W (wt0 L) (sv0 L) (pi t 422) g bw bh) b 60
      · rw [if_pos q1, if_pos q1]
        by_cases q2 : o = 0
        · rw [if_pos q2, if_pos q2]
        · rw [if_neg q2, if_neg q2, gib (by omega) (by omega)]
      · rw [if_neg q1, if_neg q1]
  · refine ask_no (-1) (c_no (x := x) (y := y) (z := z) (n := n) (-1) (fun _ => rfl) (fun _ => rfl) ?_) (fun t B I => ⟨t, ?_, MG_refl⟩)
    · intro p q L W S h C K V
      rw [n10]
      simp only []
      rw [c_isLoad, bsm, if1]
      refine ⟨h, ?_, fr_refl⟩
      by_cases v1 : 1 ≤ g ∧ g ≤ 999
      · rw [if_pos v1]
        by_cases v2 : bw < 1
        · rw [if_pos v2]
        · rw [if_neg v2]
          by_cases v3 : 6 < bw
          · rw [if_pos v3]
          · rw [if_neg v3]
            by_cases v4 : bh < 1
            · rw [if_pos v4]
            · rw [if_neg v4, if_neg (fun k => q1 ⟨v1, by omega, by omega⟩)]
      · rw [if_neg v1]
    · unfold pf_M_fair
      rw [m_isLoad, bsm, if1, m_isIn, bsm, if1, m_isIn, bsm, if1]
      by_cases v1 : 1 ≤ g ∧ g ≤ 999
      · rw [if_pos v1]
        by_cases v2 : 1 ≤ bw ∧ bw ≤ 6
        · rw [if_pos v2, if_neg (fun k => q1 ⟨v1, v2, k⟩)]
        · rw [if_neg v2]
      · rw [if_neg v1]
