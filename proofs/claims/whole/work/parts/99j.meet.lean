/-! meet: two on their ways -/
/-- the first for which it is so, -1 if there is none -/
def FM (P : Nat → Prop) (N : Nat) (r : Int) : Prop := (∃ i : Nat, i < N ∧ r = i ∧ P i ∧ ∀ j, j < i → ¬ P j) ∨ (r = -1 ∧ ∀ j, j < N → ¬ P j)
theorem FM_un {P : Nat → Prop} {N : Nat} {r r' : Int} (a : FM P N r) (b : FM P N r') : r = r' := by
  rcases a with ⟨i, i1, i2, i3, i4⟩ | ⟨a1, a2⟩ <;> rcases b with ⟨j, j1, j2, j3, j4⟩ | ⟨b1, b2⟩
  · have e1 : ¬ i < j := fun k => j4 i k i3
    have e2 : ¬ j < i := fun k => i4 j k j3
    omega
  · exact absurd i3 (b2 i i1)
  · exact absurd j3 (a2 j j1)
  · omega
theorem FM_no {P : Nat → Prop} {N : Nat} {r : Int} (a : FM P N r) : (r = -1 ↔ ∀ j, j < N → ¬ P j) ∧ (r < 0 → r = -1) := by
  rcases a with ⟨i, i1, i2, i3, i4⟩ | ⟨a1, a2⟩
  · exact ⟨⟨fun k => by omega, fun k => absurd i3 (k i i1)⟩, fun k => by omega⟩
  · exact ⟨⟨fun _ => a2, fun _ => a1⟩, fun _ => a1⟩
/-- they meet, one at c with la, one at d with lb -/
def mtt (L W S wt : Nat → Int) (la lb c d : Int) : Prop := c = d ∨ ((∃ s, s4 s ∧ nr L c s = d) ∧ (br L S 0 c < la + ld L W S wt (-1) c + lb * W 2 / 10 ∨ br L S 0 d < lb + ld L W S wt (-1) d + la * W 2 / 10))
section Dk
variable {h : pH} {a p q l w : Nat} {L W wt sv S : Nat → Int} {u : Bool} {d : Nat} {tk : Int}
theorem c_breaks {la lb c : Int} (hW : WS L wt sv) (C : CX h p q L W) (K : SC h 303 p q L W wt sv false S) (V : SV L S d) (hc : inr L c) (a0 : 1 ≤ la ∧ la ≤ 999) (b0 : 1 ≤ lb ∧ lb ≤ 999) : pf_Ro_breaks 303 c la lb h = some (if la + ld L W S wt (-1) c + lb * W 2 / 10 ≤ br L S 0 c then 0 else 1) := by
  have kL := C.2.2.1
  have kW := C.2.2.2.1
  have z : 4 ≤ ce L ∧ ce L ≤ 36 := sz_mul kL.1
  obtain ⟨c0, c1⟩ := hc
  have v := V.1 c.toNat (by omega)
  have ec : ((c.toNat : Nat) : Int) = c := by omega
  have k1 := K.2.1 c.toNat (by omega) (Or.inl rfl)
  have k3 := (K.2.2.2.1 c.toNat (by omega)).1
  rw [ec] at k3
  have lb0 := ld_bd (S := S) (wo := -1) (x := c) kL kW hW
  have sb := mb (a := lb) (b := W 2) (A := 999) (B := 10) (by omega) (by omega) kW.2.2.1.1 kW.2.2.1.2
  unfold pf_Ro_breaks pf_Sc_bears
  rw [K.1.2.1, K.1.2.2, gib c0 (by omega), k1, c_bearing C v.1 (by omega), bsm, bsm, gib c0 (by omega), c_shareOf C (by omega) (by omega), bsm, k3, wr_eq (x := la + ld L W S wt (-1) c) (by omega) (by omega), wr_eq (by omega) (by omega), br, Int.add_zero]
  split <;> rfl
theorem near_iff {c e : Int} (C : CX h p q L W) (hc : inr L c) (he : inr L e) : (stp (L 0) c e = 1 ∧ ¬ tb (pl h (p + 4) c.toNat) e.toNat = true) ↔ ∃ s, s4 s ∧ nr L c s = e := by
  have kL := C.2.2.1
  have z : 4 ≤ ce L ∧ ce L ≤ 36 := sz_mul kL.1
  obtain ⟨c0, c1⟩ := hc
  obtain ⟨e0, e1⟩ := he
  have ec : ((c.toNat : Nat) : Int) = c := by omega
  have ee : ((e.toNat : Nat) : Int) = e := by omega
  have t := C.1.2.2.2.2.2.2 c.toNat e.toNat (by omega) (by omega)
  rw [ec, ee] at t
  rw [stp_1 kL.1 c0 c1 e0 e1, t]
  refine ⟨fun ⟨⟨s, s1, s2⟩, nt⟩ => ⟨s, s1, ?_⟩, fun ⟨s, s1, s2⟩ => ?_⟩
  · have s2' : bs L c s = e := s2
    rw [nr_def, if_neg (by omega), if_neg (show ¬ L (ixc L c s) = 1 from fun k => nt ⟨s, s1, s2, k⟩)]
    exact s2
  · obtain ⟨n1, n2, n3⟩ := nr_ge (L := L) (c := c) (s := s) (by omega)
    refine ⟨⟨s, s1, by rw [← s2, n1]; rfl⟩, fun ⟨s', v1, v2, v3⟩ => n3 ?_⟩
    have es : s' = s := be_inj (w := L 0) (h := L 1) (c := c) kL.1 c0 v1 s1 (by show 0 ≤ bs L c s'; omega) (by show bs L c s' = bs L c s; omega)
    rw [es] at v3
    exact v3
theorem c_clashes {la lb c e : Int} {a0 a3 : Nat} (hW : WS L wt sv) (C : CX h p q L W) (K : SC h 303 p q L W wt sv false S) (V : SV L S d) (hc : inr L c) (he : inr L e) (la0 : 1 ≤ la ∧ la ≤ 999) (lb0 : 1 ≤ lb ∧ lb ≤ 999) (ea : pi h a0 0 = la) (eb : pi h a3 0 = lb) : pf_Ro_clashes a0 303 c a3 e h = some (cif (mtt L W S wt la lb c e) 1 0) := by
  have kL := C.2.2.1
  have z : 4 ≤ ce L ∧ ce L ≤ 36 := sz_mul kL.1
  have nf := near_iff C hc he
  have b1 := c_breaks (c := c) hW C K V hc la0 lb0
  have b2 := c_breaks (c := e) hW C K V he lb0 la0
  obtain ⟨c0, c1⟩ := hc
  obtain ⟨e0, e1⟩ := he
  have ee : ((e.toNat : Nat) : Int) = e := by omega
  unfold pf_Ro_clashes
  by_cases q1 : c = e
  · rw [if_pos q1, cif_t (show mtt L W S wt la lb c e from Or.inl q1)]
  · rw [if_neg q1, K.1.2.1, c_steps C ⟨c0, by omega⟩ ⟨e0, by omega⟩, bsm]
    have hb := c_hasBit (y := pl h (p + 4) c.toNat) (n := e.toNat) (h := h) (by omega)
    rw [ee] at hb
    have nn : ¬ (∃ s, s4 s ∧ nr L c s = e) → ¬ mtt L W S wt la lb c e := fun k y => by
      rcases y with y | y
      · exact q1 y
      · exact k y.1
    have z0 : pj_Ro_clashes_44 a0 303 c a3 e h 0 = some 0 := by unfold pj_Ro_clashes_44; rw [if_pos rfl]
    by_cases q2 : stp (L 0) c e = 1
    · rw [if_pos q2, gib c0 (by omega), hb, bsm, if1]
      by_cases q3 : tb (pl h (p + 4) c.toNat) e.toNat = true
      · rw [if_pos q3, z0, cif_f (nn (fun k => (nf.mpr k).2 q3))]
      · rw [if_neg q3]
        unfold pj_Ro_clashes_44
        rw [if_neg (show ¬ (1 : Int) = 0 by decide), ea, eb, b1, bsm]
        have ex := nf.mp ⟨q2, q3⟩
        by_cases q4 : la + ld L W S wt (-1) c + lb * W 2 / 10 ≤ br L S 0 c
        · rw [if_pos q4, if_pos rfl, b2, bsm]
          by_cases q5 : lb + ld L W S wt (-1) e + la * W 2 / 10 ≤ br L S 0 e
          · rw [if_pos q5, if_pos rfl, cif_f]
            intro y
            rcases y with y | ⟨-, y | y⟩
            · exact q1 y
            · omega
            · omega
          · rw [if_neg q5, if_neg (show ¬ (1 : Int) = 0 by decide), cif_t (show mtt L W S wt la lb c e from Or.inr ⟨ex, Or.inr (by omega)⟩)]
        · rw [if_neg q4, if_neg (show ¬ (1 : Int) = 0 by decide), cif_t (show mtt L W S wt la lb c e from Or.inr ⟨ex, Or.inl (by omega)⟩)]
    · rw [if_neg q2, z0, cif_f (nn (fun k => q2 (nf.mpr k).1))]
theorem m_meetsIn {la lb c e : Int} (M : MC h l w L W wt sv 0) (V : SV L (pi h 422) d) (hc : inr L c) (he : inr L e) (la0 : 1 ≤ la ∧ la ≤ 999) (lb0 : 1 ≤ lb ∧ lb ≤ 999) : pf_M_meetsIn c e la lb h = some (cif (mtt L W (pi h 422) wt la lb c e) 1 0) := by
  have kL := M.1.2.2.2.2.2.2.1
  have hWS := MC_WS M
  have z : 4 ≤ ce L ∧ ce L ≤ 36 := sz_mul kL.1
  have M0 := M.1
  obtain ⟨e1, e2, hl, hw, hL, hW, -, kW⟩ := M.1
  obtain ⟨c0, c1⟩ := hc
  obtain ⟨e0, e1'⟩ := he
  unfold pf_M_meetsIn
  by_cases q1 : c = e
  · rw [if_pos q1, cif_t (show mtt L W (pi h 422) wt la lb c e from Or.inl q1)]
  · rw [if_neg q1]
    refine lpf (F := fun n (i : Nat) (x5 : Int) => pl_M_meetsIn_13 c e la lb h (fun x5 => ia_gd (pib (wr ((pi h 417 15) + 2)) 6528) (if x5 = 0 then (some 0) else ((pf_M_bears c h).bind fun v3 => ((pf_M_loadOf c ((-1)) h).bind fun v4 => (if v3 < (wr ((wr (la + v4)) + (wr (Int.tdiv (wr (lb * (pi h 418 (Int.toNat (wr ((pi h 417 15) + 2)))))) 10)))) then (some 1) else ((pf_M_bears e h).bind fun v5 => ((pf_M_loadOf e ((-1)) h).bind fun v6 => (if (wr ((wr (lb + v6)) + (wr (Int.tdiv (wr (la * (pi h 418 (Int.toNat (wr ((pi h 417 15) + 2)))))) 10)))) ≤ v5 then (some 0) else (some 1))))))))) n x5 i) (Q := fun r => r = some (cif (mtt L W (pi h 422) wt la lb c e) 1 0)) 4 (fun i x5 => x5 = cif (∃ s : Nat, s < i ∧ nr L c s = e) 1 0) ?_ ?_ fu_ 0 0 (by omega) (by unfold fu_; omega) (by rw [cif_f]; exact fun ⟨s, s1, _⟩ => by omega)
    · intro n i x5 hi I
      right
      have nx : ∀ _ : Unit, wr ((i : Int) + 1) = ((i + 1 : Nat) : Int) := fun _ => by rw [wr_eq (by omega) (by omega)]; rfl
      have ni : ¬ (4 : Int) ≤ (i : Int) := by omega
      by_cases q2 : ∃ s : Nat, s < i ∧ nr L c s = e
      · rw [cif_t q2] at I
        have q4 : ∃ s : Nat, s < i + 1 ∧ nr L c s = e := by
          obtain ⟨s, s1, s2⟩ := q2
          exact ⟨s, Nat.lt_succ_of_lt s1, s2⟩
        refine ⟨1, ?_, by rw [cif_t q4]⟩
        show pl_M_meetsIn_13 c e la lb h _ (n + 1) x5 i = _
        rw [pl_M_meetsIn_13, if_neg ni, I, if_neg (show ¬ (1 : Int) = 0 by decide), nx ()]
      · rw [cif_f q2] at I
        by_cases q3 : nr L c i = e
        · have q4 : ∃ s : Nat, s < i + 1 ∧ nr L c s = e := ⟨i, Nat.lt_succ_self i, q3⟩
          refine ⟨1, ?_, by rw [cif_t q4]⟩
          show pl_M_meetsIn_13 c e la lb h _ (n + 1) x5 i = _
          rw [pl_M_meetsIn_13, if_neg ni, I, if_pos rfl, e1, m_near (Nat.le_trans hl (by decide)) hL kL.1 c0 c1, bsm, if_pos q3, nx ()]
        · have q4 : ¬ ∃ s : Nat, s < i + 1 ∧ nr L c s = e := fun ⟨s, s1, s2⟩ => by
            by_cases y : s = i
            · rw [y] at s2; exact q3 s2
            · exact q2 ⟨s, Nat.lt_of_le_of_ne (Nat.le_of_lt_succ s1) y, s2⟩
          refine ⟨0, ?_, by rw [cif_f q4]⟩
          show pl_M_meetsIn_13 c e la lb h _ (n + 1) x5 i = _
          rw [pl_M_meetsIn_13, if_neg ni, I, if_pos rfl, e1, m_near (Nat.le_trans hl (by decide)) hL kL.1 c0 c1, bsm, if_neg q3, nx ()]
    · intro n x5 I
      show pl_M_meetsIn_13 c e la lb h _ (n + 1) x5 (4 : Nat) = _
      have s44 : (∃ s : Nat, s < 4 ∧ nr L c s = e) ↔ ∃ s, s4 s ∧ nr L c s = e := by
        refine ⟨fun ⟨s, s1, s2⟩ => ⟨s, by unfold s4; omega, s2⟩, fun ⟨s, s1, s2⟩ => ⟨s.toNat, by unfold s4 at s1; omega, by rw [show ((s.toNat : Nat) : Int) = s by unfold s4 at s1; omega]; exact s2⟩⟩
      have vc := V.1 c.toNat (by omega)
      have ve := V.1 e.toNat (by omega)
      have b1 := ld_bd (S := pi h 422) (wo := -1) (x := c) kL kW hWS
      have b2 := ld_bd (S := pi h 422) (wo := -1) (x := e) kL kW hWS
      have sa := mb (a := la) (b := W 2) (A := 999) (B := 10) (by omega) (by omega) kW.2.2.1.1 kW.2.2.1.2
      have sb := mb (a := lb) (b := W 2) (A := 999) (B := 10) (by omega) (by omega) kW.2.2.1.1 kW.2.2.1.2
      have w2 := hW 2 (by omega)
      rw [pl_M_meetsIn_13, if_pos (by omega), e2, wr_eq (x := (w : Int) + 2) (by omega) (by omega), gib (by omega) (by omega), show ((w : Int) + 2).toNat = w + 2 by omega, w2, m_bears M c0 (by omega) vc, m_loadOf M V.2.2.2.1 c0 c1, m_bears M e0 (by omega) ve, m_loadOf M V.2.2.2.1 e0 e1', bsm, bsm, bsm, bsm, wr_eq (x := lb * W 2) (by omega) (by omega), wr_eq (x := la * W 2) (by omega) (by omega), td_p sa.1, td_p sb.1, wr_eq (x := lb * W 2 / 10) (by omega) (by omega), wr_eq (x := la * W 2 / 10) (by omega) (by omega), wr_eq (x := la + ld L W (pi h 422) wt (-1) c) (by omega) (by omega), wr_eq (x := lb + ld L W (pi h 422) wt (-1) e) (by omega) (by omega), wr_eq (x := la + ld L W (pi h 422) wt (-1) c + lb * W 2 / 10) (by omega) (by omega), wr_eq (x := lb + ld L W (pi h 422) wt (-1) e + la * W 2 / 10) (by omega) (by omega)]
      by_cases q2 : ∃ s : Nat, s < 4 ∧ nr L c s = e
      · rw [cif_t q2] at I
        rw [I, if_neg (show ¬ (1 : Int) = 0 by decide)]
        have ex := s44.mp q2
        by_cases q4 : br L (pi h 422) 0 c < la + ld L W (pi h 422) wt (-1) c + lb * W 2 / 10
        · rw [if_pos q4, cif_t (show mtt L W (pi h 422) wt la lb c e from Or.inr ⟨ex, Or.inl q4⟩)]
        · rw [if_neg q4]
          by_cases q5 : lb + ld L W (pi h 422) wt (-1) e + la * W 2 / 10 ≤ br L (pi h 422) 0 e
          · rw [if_pos q5, cif_f]
            intro y
            rcases y with y | ⟨-, y | y⟩
            · exact q1 y
            · omega
            · omega
          · rw [if_neg q5, cif_t (show mtt L W (pi h 422) wt la lb c e from Or.inr ⟨ex, Or.inr (by omega)⟩)]
      · rw [cif_f q2] at I
        rw [I, if_pos rfl, cif_f]
        intro y
        rcases y with y | y
        · exact q1 y
        · exact q2 (s44.mpr y.1)
/-- they meet in this minute -/
def mAt (L W S wt : Nat → Int) (la lb lt : Int) (NB : Int) (A B : Nat → Int) (i : Nat) : Prop := 0 ≤ (i : Int) - lt ∧ (i : Int) - lt < NB ∧ mtt L W S wt la lb (A i) (B ((i : Int) - lt).toNat)
theorem c_minute {la lb lt NA NB : Int} {A B : Nat → Int} {a0 a2 : Nat} (hW : WS L wt sv) (C : CX h p q L W) (K : SC h 303 p q L W wt sv false S) (V : SV L S d) (la0 : 1 ≤ la ∧ la ≤ 999) (lb0 : 1 ≤ lb ∧ lb ≤ 999) (lt0 : 0 ≤ lt ∧ lt ≤ 40) (nA : 1 ≤ NA ∧ NA ≤ 36) (nB : 1 ≤ NB ∧ NB ≤ 36) (ea : pi h a0 0 = la) (eb : pi h a2 0 = lb) (ea1 : pi h a0 1 = NA) (eb1 : pi h a2 1 = NB) (eA : ∀ i : Nat, (i : Int) < NA → pi h (a0 + 1) i = A i ∧ inr L (A i)) (eB : ∀ i : Nat, (i : Int) < NB → pi h (a2 + 1) i = B i ∧ inr L (B i)) : ∃ r, pf_Ro_minuteMet a0 303 a2 lt h = some r ∧ FM (mAt L W S wt la lb lt NB A B) NA.toNat r := by
  unfold pf_Ro_minuteMet
  refine lpf (F := fun n (i : Nat) (_ : Unit) => pl_Ro_minuteMet_3 a0 303 a2 lt h (fun x4 => some x4) (some ((-1))) n i) (Q := fun r => ∃ v, r = some v ∧ FM (mAt L W S wt la lb lt NB A B) NA.toNat v) NA.toNat (fun i _ => ∀ j, j < i → ¬ mAt L W S wt la lb lt NB A B j) ?_ ?_ fu_ 0 () (by omega) (by unfold fu_; omega) (fun j hj => absurd hj (Nat.not_lt_zero _))
  · intro n i _ hi I
    have nx : ∀ _ : Unit, wr ((i : Int) + 1) = ((i + 1 : Nat) : Int) := fun _ => by rw [wr_eq (by omega) (by omega)]; rfl
    have I2 : ¬ mAt L W S wt la lb lt NB A B i → ∀ j, j < i + 1 → ¬ mAt L W S wt la lb lt NB A B j := fun k j hj => by
      by_cases y : j = i
      · rw [y]; exact k
      · exact I j (by omega)
    have e0 : pl_Ro_minuteMet_3 a0 303 a2 lt h (fun x4 => some x4) (some ((-1))) (n + 1) i = (if (i : Int) - lt < 0 then (pl_Ro_minuteMet_3 a0 303 a2 lt h (fun x4 => some x4) (some ((-1))) n (i + 1 : Nat)) else (if NB ≤ (i : Int) - lt then (pl_Ro_minuteMet_3 a0 303 a2 lt h (fun x4 => some x4) (some ((-1))) n (i + 1 : Nat)) else (ia_gd (pib i 36) (ia_gd (pib ((i : Int) - lt) 36) ((pf_Ro_clashes a0 303 (pi h (a0 + 1) i) a2 (pi h (a2 + 1) (Int.toNat ((i : Int) - lt))) h).bind fun v3 => (if v3 = 0 then (pl_Ro_minuteMet_3 a0 303 a2 lt h (fun x4 => some x4) (some ((-1))) n (i + 1 : Nat)) else some (i : Int))))))) := by
      rw [pl_Ro_minuteMet_3, ea1, if_neg (by omega), eb1, wr_eq (x := (i : Int) - lt) (by omega) (by omega), nx ()]; rfl
    by_cases q1 : (i : Int) - lt < 0
    · right
      exact ⟨(), by show pl_Ro_minuteMet_3 a0 303 a2 lt h (fun x4 => some x4) (some ((-1))) (n + 1) i = _; rw [e0, if_pos q1], I2 (fun k => by have := k.1; omega)⟩
    · by_cases q2 : NB ≤ (i : Int) - lt
      · right
        exact ⟨(), by show pl_Ro_minuteMet_3 a0 303 a2 lt h (fun x4 => some x4) (some ((-1))) (n + 1) i = _; rw [e0, if_neg q1, if_pos q2], I2 (fun k => by have := k.2.1; omega)⟩
      · obtain ⟨a1, a2'⟩ := eA i (by omega)
        obtain ⟨b1, b2⟩ := eB ((i : Int) - lt).toNat (by omega)
        rw [if_neg q1, if_neg q2, gib (by omega) (by omega), gib (by omega) (by omega), a1, b1, c_clashes hW C K V a2' b2 la0 lb0 ea eb, bsm] at e0
        by_cases q3 : mtt L W S wt la lb (A i) (B ((i : Int) - lt).toNat)
        · left
          exact ⟨_, by show pl_Ro_minuteMet_3 a0 303 a2 lt h (fun x4 => some x4) (some ((-1))) (n + 1) i = _; rw [e0, cif_t q3, if_neg (show ¬ (1 : Int) = 0 by decide)], Or.inl ⟨i, hi, rfl, ⟨by omega, by omega, q3⟩, I⟩⟩
        · right
          exact ⟨(), by show pl_Ro_minuteMet_3 a0 303 a2 lt h (fun x4 => some x4) (some ((-1))) (n + 1) i = _; rw [e0, cif_f q3, if_pos rfl], I2 (fun k => q3 k.2.2)⟩
  · intro n _ I
    refine ⟨-1, ?_, Or.inr ⟨rfl, I⟩⟩
    show pl_Ro_minuteMet_3 a0 303 a2 lt h (fun x4 => some x4) (some ((-1))) (n + 1) (NA.toNat : Nat) = _
    rw [pl_Ro_minuteMet_3, ea1, if_pos (by omega)]
theorem m_atMinute {x n : Int} (n0 : 1 ≤ n ∧ n ≤ 36) : pf_M_atMinute x n h = some (if 0 ≤ x ∧ x < n then x else -1) := by
  unfold pf_M_atMinute
  rw [m_isIn, bsm, if1, wr_eq (by omega) (by omega)]
  by_cases q1 : 0 ≤ x ∧ x < n
  · rw [if_pos (show 0 ≤ x ∧ x ≤ n - 1 by omega), if_pos q1]
  · rw [if_neg (show ¬ (0 ≤ x ∧ x ≤ n - 1) by omega), if_neg q1]
theorem m_meetAt {la lb lt NA NB : Int} {A B : Nat → Int} (M : MC h l w L W wt sv 0) (V : SV L (pi h 422) d) (la0 : 1 ≤ la ∧ la ≤ 999) (lb0 : 1 ≤ lb ∧ lb ≤ 999) (lt0 : 0 ≤ lt ∧ lt ≤ 40) (nA : 1 ≤ NA ∧ NA ≤ 36) (nB : 1 ≤ NB ∧ NB ≤ 36) (ea1 : pi h 417 36 = NA) (eb1 : pi h 417 27 = NB) (eA : ∀ i : Nat, (i : Int) < NA → pi h 434 i = A i ∧ inr L (A i)) (eB : ∀ i : Nat, (i : Int) < NB → pi h 427 i = B i ∧ inr L (B i)) : ∃ r, pf_M_meetAt la lb lt h = some r ∧ FM (mAt L W (pi h 422) wt la lb lt NB A B) NA.toNat r := by
  unfold pf_M_meetAt
  refine lpf (F := fun n (i : Nat) (_ : Unit) => pl_M_meetAt_3 la lb lt h (fun x4 => some x4) (some ((-1))) n i) (Q := fun r => ∃ v, r = some v ∧ FM (mAt L W (pi h 422) wt la lb lt NB A B) NA.toNat v) NA.toNat (fun i _ => ∀ j, j < i → ¬ mAt L W (pi h 422) wt la lb lt NB A B j) ?_ ?_ fu_ 0 () (by omega) (by unfold fu_; omega) (fun j hj => absurd hj (Nat.not_lt_zero _))
  · intro n i _ hi I
    have nx : ∀ _ : Unit, wr ((i : Int) + 1) = ((i + 1 : Nat) : Int) := fun _ => by rw [wr_eq (by omega) (by omega)]; rfl
    have I2 : ¬ mAt L W (pi h 422) wt la lb lt NB A B i → ∀ j, j < i + 1 → ¬ mAt L W (pi h 422) wt la lb lt NB A B j := fun k j hj => by
      by_cases y : j = i
      · rw [y]; exact k
      · exact I j (by omega)
    by_cases q1 : 0 ≤ (i : Int) - lt ∧ (i : Int) - lt < NB
    · obtain ⟨a1, a2'⟩ := eA i (by omega)
      obtain ⟨b1, b2⟩ := eB ((i : Int) - lt).toNat (by omega)
      have e0 : pl_M_meetAt_3 la lb lt h (fun x4 => some x4) (some ((-1))) (n + 1) i = if cif (mtt L W (pi h 422) wt la lb (A i) (B ((i : Int) - lt).toNat)) (1 : Int) 0 = 0 then pl_M_meetAt_3 la lb lt h (fun x4 => some x4) (some ((-1))) n (i + 1 : Nat) else some (i : Int) := by
        rw [pl_M_meetAt_3, ea1, if_neg (by omega), eb1, wr_eq (x := (i : Int) - lt) (by omega) (by omega), nx (), m_atMinute nA, bsm, m_atMinute nB, bsm, if_pos (show 0 ≤ (i : Int) ∧ (i : Int) < NA by omega), if_pos q1, if_neg (by omega), if_neg (by omega), gib (by omega) (by omega), gib (by omega) (by omega), Int.toNat_natCast, a1, b1, m_meetsIn M V a2' b2 la0 lb0, bsm]
      by_cases q3 : mtt L W (pi h 422) wt la lb (A i) (B ((i : Int) - lt).toNat)
      · left
        exact ⟨_, by show pl_M_meetAt_3 la lb lt h (fun x4 => some x4) (some ((-1))) (n + 1) i = _; rw [e0, cif_t q3, if_neg (show ¬ (1 : Int) = 0 by decide)], Or.inl ⟨i, hi, rfl, ⟨q1.1, q1.2, q3⟩, I⟩⟩
      · right
        exact ⟨(), by show pl_M_meetAt_3 la lb lt h (fun x4 => some x4) (some ((-1))) (n + 1) i = _; rw [e0, cif_f q3, if_pos rfl], I2 (fun k => q3 k.2.2)⟩
    · right
      refine ⟨(), ?_, I2 (fun k => q1 ⟨k.1, k.2.1⟩)⟩
      show pl_M_meetAt_3 la lb lt h (fun x4 => some x4) (some ((-1))) (n + 1) i = _
      rw [pl_M_meetAt_3, ea1, if_neg (by omega), eb1, wr_eq (x := (i : Int) - lt) (by omega) (by omega), nx (), m_atMinute nA, bsm, m_atMinute nB, bsm, if_pos (show 0 ≤ (i : Int) ∧ (i : Int) < NA by omega), if_neg q1, if_neg (by omega), if_pos (by omega)]
  · intro n _ I
    refine ⟨-1, ?_, Or.inr ⟨rfl, I⟩⟩
    show pl_M_meetAt_3 la lb lt h (fun x4 => some x4) (some ((-1))) (n + 1) (NA.toNat : Nat) = _
    rw [pl_M_meetAt_3, ea1, if_pos (by omega)]
end Dk
