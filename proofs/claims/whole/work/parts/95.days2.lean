/-! days to come: thaw, opens, branches, old -/
noncomputable def adn (L W wt sv : Nat → Int) (n : Nat) (S : Nat → Int) : Nat → Int := match n with
  | 0 => S
  | n + 1 => aday L W wt sv 0 (adn L W wt sv n S)
noncomputable def dc (P : Prop) : Bool := @decide P (Classical.propDecidable P)
theorem dc_t {P : Prop} (h : P) : dc P = true := @decide_eq_true P (Classical.propDecidable P) h
theorem dc_f {P : Prop} (h : ¬ P) : dc P = false := @decide_eq_false P (Classical.propDecidable P) h
section Dg
variable {h : pH} {a p q l w : Nat} {L W wt sv S T : Nat → Int} {u : Bool} {d : Nat} {tk : Int}
theorem SV_adn (kL : LK L) (kW : WK W) (V : SV L S d) : ∀ {n : Nat}, SV L (adn L W wt sv n S) (d + n)
  | 0 => V
  | n + 1 => SV_pday (SV_adn kL kW V) kL kW
theorem aday_set (kL : LK L) (kW : WK W) (V : SV L S d) : ff L W (aday L W wt sv 0 S) wt 0 < 0 := fl_set kL (SV_pd2 V kL kW) (Nat.le_trans cnt_le (NS_le kL))
theorem adn_set (kL : LK L) (kW : WK W) (V : SV L S d) (TT : ff L W S wt 0 < 0) : ∀ {n : Nat}, ff L W (adn L W wt sv n S) wt 0 < 0
  | 0 => TT
  | n + 1 => aday_set kL kW (SV_adn (n := n) kL kW V)
theorem c_day1 {h : pH} (hW : WS L wt sv) (C : CX h p q L W) (K : SC h a p q L W wt sv false S) (V : SV L S d) (hd : d ≤ 1000) : ∃ f h', pf_Sc_frost a h = some f ∧ pf_Sc_passDay a f h = some h' ∧ fr (SF a) h h' ∧ SC h' a p q L W wt sv false (aday L W wt sv 0 S) := by
  have fb := fro_bd (S := S) C.2.2.1 V.2.2.2.2.1.1
  obtain ⟨h1, p1, p2, p3⟩ := c_passDay (f := fro L S) hW C K V hd (by omega) (by omega)
  exact ⟨_, h1, c_frost C K V.2.2.2.2.1.1, p1, p2, p3⟩
theorem m_day1 {h : pH} (M : MC h l w L W wt sv tk) (V : SV L (pi h 422) d) (hd : d ≤ 1000) : ∃ h', pf_M_aDay h = some h' ∧ MF h h' ∧ pi h' 422 = aday L W wt sv tk (pi h 422) := by
  obtain ⟨h1, p1, p2, p3⟩ := m_aDay M V hd
  exact ⟨h1, p1, ⟨fr_mono p2 (fun b hb => by unfold MFs; omega), fun j _ _ => fr_i p2 (by omega)⟩, p3⟩
theorem m_way1 {h : pH} {fm to load : Int} (M : MC h l w L W wt sv 0) (V : SV L (pi h 422) d) (Z : ∀ c : Nat, c < 36 → pi h 424 c = 0) (hf : inr L fm) (ht : inr L to) (b : 0 ≤ load ∧ load ≤ 100000) : ∃ h', pf_M_isWay fm to load (-1) h = some (cif (wy L W (pi h 422) wt fm to load) 1 0, h') ∧ MF h h' ∧ pi h' 422 = pi h 422 := by
  have kL := M.1.2.2.2.2.2.2.1
  have z : 4 ≤ ce L ∧ ce L ≤ 36 := sz_mul kL.1
  obtain ⟨h3, s1, s2, s3, s4⟩ := m_isWay (c := fm) (to := to) (load := load) (mv := -1) (X := no0) M V hf ht b (fun c hc => ⟨fun _ y => y, fun _ => Z c (by omega)⟩)
  exact ⟨h3, s1, ⟨fr_mono s2 (fun b hb => by unfold MFs; omega), fun j a b => s3 j (by omega) (by omega)⟩, fr_fi s2 (by omega)⟩
/-- the first day of m, counted from i, for which something is so -/
noncomputable def fdw (L W wt sv S : Nat → Int) (fm to load flag : Int) (i m : Nat) : Int := fnd (fun j => dc (wy L W (adn L W wt sv j S) wt fm to load ↔ flag = 1)) i m
theorem fdw_s {fm to load flag : Int} {i m : Nat} : fdw L W wt sv S fm to load flag i (m + 1) = if dc (wy L W (adn L W wt sv i S) wt fm to load ↔ flag = 1) = true then (i : Int) else fdw L W wt sv S fm to load flag (i + 1) m := rfl
theorem c_firstDay {fm to load flag : Int} (hW : WS L wt sv) (C : CX h p q L W) (K : SC h 303 p q L W wt sv false S) (V : SV L S d) (hd : d ≤ 900) (hf : inr L fm) (ht : inr L to) (ne : fm ≠ to) (hl : 1 ≤ load) (fl01 : flag = 0 ∨ flag = 1) : ∃ h', pf_Ou_firstDayWith 303 flag load fm to h = some (fdw L W wt sv S fm to load flag 0 61, h') ∧ fr CGs h h' := by
  have kL := C.2.2.1
  have kW := C.2.2.2.1
  unfold pf_Ou_firstDayWith
  generalize hr : fdw L W wt sv S fm to load flag 0 61 = r
  refine lpf (F := fun n (i : Nat) t => pl_Ou_firstDayWith_3 303 flag load fm to (fun x6 h => some (x6, h)) (fun h => some (-1, h)) n i t) (Q := fun rr => ∃ h', rr = some (r, h') ∧ fr CGs h h') 61 (fun i t => fr CGs h t ∧ SC t 303 p q L W wt sv false (adn L W wt sv i S) ∧ r = fdw L W wt sv S fm to load flag i (61 - i)) ?_ ?_ fu_ 0 h (by omega) (by unfold fu_; omega) ⟨fr_refl, K, hr.symm⟩
  · intro n i t hi ⟨f, Kt, e⟩
    have Ct : CX t p q L W := CX_fr C f (fun b hb => hb.1)
    have Vt := SV_adn (wt := wt) (sv := sv) kL kW V (n := i)
    obtain ⟨h1, p1, p2, -, -, p5, p6⟩ := c_survey (tk := 0) hW Ct Kt Vt (by omega) (by omega) (by omega)
    have C1 : CX h1 p q L W := CX_fr Ct p2 (fun b hb => by omega)
    obtain ⟨h2, m1, m2, -⟩ := c_measure (load := load) (c := fm) (to := to) (O := opn L W (adn L W wt sv i S) wt 0 (-1) load no0) C1 p5 (fun c hc => by rw [p6 c hc]; exact rmv_opn hl) hf ht ne
    have f2 : fr CGs h h2 := fr_trans f (fr_trans (fr_mono p2 (fun b hb => by unfold CGs; omega)) (fr_mono m2 (fun b hb => by unfold CGs; omega)))
    have K2 : SC h2 303 p q L W wt sv false (adn L W wt sv i S) := SC_fr (SC_fr Kt p2 (fun b hb => by omega)) m2 (fun b hb => by omega)
    have C2 : CX h2 p q L W := CX_fr C f2 (fun b hb => hb.1)
    obtain ⟨ff0, h3, d1, d2, d3, d4⟩ := c_day1 hW C2 K2 Vt (by omega)
    have f3 : fr CGs h h3 := fr_trans f2 (fr_mono d3 (fun b hb => by unfold SF at hb; unfold CGs; omega))
    have dlo := dst_lo (L := L) (W := W) (O := opn L W (adn L W wt sv i S) wt 0 (-1) load no0) (to := to) (c := fm)
    rw [show 61 - i = (61 - (i + 1)) + 1 by omega] at e
    rw [fdw_s] at e
    show (∃ h', pl_Ou_firstDayWith_3 303 flag load fm to _ _ (n + 1) i t = some (_, h') ∧ _) ∨ ∃ t', pl_Ou_firstDayWith_3 303 flag load fm to _ _ (n + 1) i t = pl_Ou_firstDayWith_3 303 flag load fm to _ _ n (i + 1 : Nat) t' ∧ _
    rw [pl_Ou_firstDayWith_3, if_neg (by omega), p1, bsm, m1, bsm]
    unfold pj_Ou_firstDayWith_40
    simp only []
    rw [d1, bsm, d2, bsm, wr_eq (by omega) (by omega)]
    have yes : (wy L W (adn L W wt sv i S) wt fm to load ↔ flag = 1) → ∃ h', some ((i : Int), h2) = some (r, h') ∧ fr CGs h h' := fun v => by
      rw [dc_t v, if_pos rfl] at e
      exact ⟨h2, by rw [e], f2⟩
    have no : ¬ (wy L W (adn L W wt sv i S) wt fm to load ↔ flag = 1) → ∃ t', pl_Ou_firstDayWith_3 303 flag load fm to (fun x6 h => some (x6, h)) (fun h => some (-1, h)) n (i + 1 : Nat) h3 = pl_Ou_firstDayWith_3 303 flag load fm to (fun x6 h => some (x6, h)) (fun h => some (-1, h)) n (i + 1 : Nat) t' ∧ (fr CGs h t' ∧ SC t' 303 p q L W wt sv false (adn L W wt sv (i + 1) S) ∧ r = fdw L W wt sv S fm to load flag (i + 1) (61 - (i + 1))) := fun v => by
      rw [dc_f v, if_neg (by decide)] at e
      exact ⟨h3, rfl, f3, d4, e⟩
    by_cases q1 : dst L W (opn L W (adn L W wt sv i S) wt 0 (-1) load no0) to fm = -1
    · have nw : ¬ wy L W (adn L W wt sv i S) wt fm to load := fun v => by have := v.2; omega
      rw [if_pos q1]
      by_cases q2 : 0 = flag
      · rw [if_pos q2]; exact Or.inl (yes ⟨fun v => absurd v nw, fun v => by omega⟩)
      · rw [if_neg q2]; exact Or.inr (no (fun v => nw (v.mpr (by omega))))
    · have nw : wy L W (adn L W wt sv i S) wt fm to load := ⟨ne, by omega⟩
      rw [if_neg q1]
      by_cases q2 : 1 = flag
      · rw [if_pos q2]; exact Or.inl (yes ⟨fun _ => by omega, fun _ => nw⟩)
      · rw [if_neg q2]; exact Or.inr (no (fun v => q2 (v.mp nw).symm))
  · intro n t ⟨f, Kt, e⟩
    refine ⟨t, ?_, f⟩
    show pl_Ou_firstDayWith_3 303 flag load fm to _ _ (n + 1) (61 : Nat) t = _
    rw [pl_Ou_firstDayWith_3, if_pos (by omega), e]
    rfl
theorem m_firstDay {fm to load flag : Int} (M : MC h l w L W wt sv 0) (V : SV L (pi h 422) d) (hd : d ≤ 900) (Z : ∀ c : Nat, c < 36 → pi h 424 c = 0) (hf : inr L fm) (ht : inr L to) (b : 0 ≤ load ∧ load ≤ 100000) (fl01 : flag = 0 ∨ flag = 1) : ∃ h', pf_M_firstDay fm to load flag h = some (fdw L W wt sv (pi h 422) fm to load flag 0 61, h') ∧ MF h h' := by
  have kL := M.1.2.2.2.2.2.2.1
  have kW := M.1.2.2.2.2.2.2.2
  unfold pf_M_firstDay
  generalize hr : fdw L W wt sv (pi h 422) fm to load flag 0 61 = r
  refine lpf (F := fun n (i : Nat) t => pl_M_firstDay_3 fm to load flag (fun x6 h => some (x6, h)) (fun h => some (-1, h)) n i t) (Q := fun rr => ∃ h', rr = some (r, h') ∧ MF h h') 61 (fun i t => MF h t ∧ pi t 422 = adn L W wt sv i (pi h 422) ∧ r = fdw L W wt sv (pi h 422) fm to load flag i (61 - i)) ?_ ?_ fu_ 0 h (by omega) (by unfold fu_; omega) ⟨MF_refl, rfl, hr.symm⟩
  · intro n i t hi ⟨f, g, e⟩
    have Mt := MF_MC M f
    have Vt := SV_adn (wt := wt) (sv := sv) kL kW V (n := i)
    obtain ⟨h1, p1, p2, p3⟩ := m_way1 (fm := fm) (to := to) (load := load) Mt (by rw [g]; exact Vt) (fun c hc => by rw [MF_24 f]; exact Z c hc) hf ht b
    rw [g] at p1 p3
    obtain ⟨h2, d1, d2, d3⟩ := m_day1 (MF_MC Mt p2) (by rw [p3]; exact Vt) (by omega)
    rw [p3] at d3
    rw [show 61 - i = (61 - (i + 1)) + 1 by omega] at e
    rw [fdw_s] at e
    show (∃ h', pl_M_firstDay_3 fm to load flag _ _ (n + 1) i t = some (_, h') ∧ _) ∨ ∃ t', pl_M_firstDay_3 fm to load flag _ _ (n + 1) i t = pl_M_firstDay_3 fm to load flag _ _ n (i + 1 : Nat) t' ∧ _
    rw [pl_M_firstDay_3, if_neg (by omega), p1, bsm]
    simp only []
    rw [d1, bsm, wr_eq (by omega) (by omega)]
    by_cases q1 : wy L W (adn L W wt sv i (pi h 422)) wt fm to load ↔ flag = 1
    · left
      rw [dc_t q1, if_pos rfl] at e
      refine ⟨h1, ?_, MF_trans f p2⟩
      rw [if_pos]
      · rw [e]
      · by_cases q2 : wy L W (adn L W wt sv i (pi h 422)) wt fm to load
        · rw [cif_t q2]; exact (q1.mp q2).symm
        · rw [cif_f q2]; rcases fl01 with v | v
          · exact v.symm
          · exact absurd (q1.mpr v) q2
    · right
      rw [dc_f q1, if_neg (by decide)] at e
      refine ⟨h2, ?_, MF_trans f (MF_trans p2 d2), d3, e⟩
      rw [if_neg]
      · rfl
      · intro v
        by_cases q2 : wy L W (adn L W wt sv i (pi h 422)) wt fm to load
        · rw [cif_t q2] at v; exact q1 ⟨fun _ => v.symm, fun _ => q2⟩
        · rw [cif_f q2] at v; exact q1 ⟨fun y => absurd y q2, fun y => by omega⟩
  · intro n t ⟨f, g, e⟩
    refine ⟨t, ?_, f⟩
    show pl_M_firstDay_3 fm to load flag _ _ (n + 1) (61 : Nat) t = _
    rw [pl_M_firstDay_3, if_pos (by omega), e]
    rfl
/-- bits of a path -/
noncomputable def pbt (L W : Nat → Int) (O : Int → Prop) (to c : Int) (n : Nat) : Int64 := match n with
  | 0 => 0
  | n + 1 => pbt L W O to c n ||| plshl 1 (pth L W O to c n)
noncomputable def scb (L W S wt : Nat → Int) (load fm to : Int) : Int64 := cif (wy L W S wt fm to load) (pbt L W (opn L W S wt 0 (-1) load no0) to fm (dst L W (opn L W S wt 0 (-1) load no0) to fm + 1).toNat) (-1)
theorem pbt_63 {O : Int → Prop} {to c : Int} (kL : LK L) (hc : inr L c) : ∀ {n : Nat}, (n : Int) ≤ dst L W O to c + 1 → ∀ i, 36 ≤ i → i < 64 → tb (pbt L W O to c n) i = false
  | 0, _, i, _, _ => tb_0
  | n + 1, h, i, h1, h2 => by
    have z : 4 ≤ ce L ∧ ce L ≤ 36 := sz_mul kL.1
    have p := (pth_in (W := W) (O := O) (to := to) kL hc (i := n) (by omega)).1
    have p0 := p.1
    have p1 := p.2
    rw [pbt, tb_or, pbt_63 kL hc (by omega) i h1 h2, ← show (((pth L W O to c n).toNat : Nat) : Int) = pth L W O to c n by omega, tb_bit (by omega) h2, decide_eq_false (by omega)]
    rfl
theorem c_pathCells {O : Int → Prop} {to c : Int} (kL : LK L) (hc : inr L c) (d0 : 0 ≤ dst L W O to c) (e0 : pi h 311 0 = dst L W O to c + 1) (e1 : ∀ i : Nat, (i : Int) ≤ dst L W O to c → pi h 312 i = pth L W O to c i) : pf_Wa_pathCells h = some (pbt L W O to c (dst L W O to c + 1).toNat) := by
  have dhi := dst_hi (W := W) (O := O) (to := to) kL hc
  unfold pf_Wa_pathCells
  refine lpf (F := fun n (i : Nat) (_ : Unit) => pl_Wa_pathCells_4 h (fun y1 => some y1) n (pbt L W O to c i) i) (Q := fun r => r = some (pbt L W O to c (dst L W O to c + 1).toNat)) (dst L W O to c + 1).toNat (fun _ _ => True) ?_ ?_ fu_ 0 () (by omega) (by unfold fu_; omega) trivial
  · intro n i _ hi _
    right
    refine ⟨(), ?_, trivial⟩
    show pl_Wa_pathCells_4 h _ (n + 1) (pbt L W O to c i) i = pl_Wa_pathCells_4 h _ n (pbt L W O to c (i + 1)) (i + 1 : Nat)
    rw [pl_Wa_pathCells_4, e0, if_neg (by omega), gib (by omega) (by omega), Int.toNat_natCast, e1 i (by omega), c_bit, bsm, wr_eq (by omega) (by omega)]
    rfl
  · intro n _ _
    show pl_Wa_pathCells_4 h _ (n + 1) (pbt L W O to c (dst L W O to c + 1).toNat) ((dst L W O to c + 1).toNat : Nat) = _
    rw [pl_Wa_pathCells_4, e0, if_pos (by omega)]
theorem m_bits {O : Int → Prop} {to c : Int} (kL : LK L) (hc : inr L c) (d0 : 0 ≤ dst L W O to c) (e0 : pi h 417 27 = dst L W O to c + 1) (e1 : ∀ i : Nat, (i : Int) ≤ dst L W O to c → pi h 427 i = pth L W O to c i) : pf_M_bitsOfPath h = some (pbt L W O to c (dst L W O to c + 1).toNat) := by
  have dhi := dst_hi (W := W) (O := O) (to := to) kL hc
  unfold pf_M_bitsOfPath
  refine lpf (F := fun n (i : Nat) (_ : Unit) => pl_M_bitsOfPath_4 h (fun y1 => some y1) n (pbt L W O to c i) i) (Q := fun r => r = some (pbt L W O to c (dst L W O to c + 1).toNat)) (dst L W O to c + 1).toNat (fun _ _ => True) ?_ ?_ fu_ 0 () (by omega) (by unfold fu_; omega) trivial
  · intro n i _ hi _
    right
    refine ⟨(), ?_, trivial⟩
    show pl_M_bitsOfPath_4 h _ (n + 1) (pbt L W O to c i) i = pl_M_bitsOfPath_4 h _ n (pbt L W O to c (i + 1)) (i + 1 : Nat)
    rw [pl_M_bitsOfPath_4, e0, if_neg (by omega), gib (by omega) (by omega), Int.toNat_natCast, e1 i (by omega), wr_eq (by omega) (by omega)]
    rfl
  · intro n _ _
    show pl_M_bitsOfPath_4 h _ (n + 1) (pbt L W O to c (dst L W O to c + 1).toNat) ((dst L W O to c + 1).toNat : Nat) = _
    rw [pl_M_bitsOfPath_4, e0, if_pos (by omega)]
theorem c_shortCells {load fm to : Int} (hW : WS L wt sv) (C : CX h p q L W) (K : SC h 303 p q L W wt sv false S) (V : SV L S d) (hf : inr L fm) (ht : inr L to) (ne : fm ≠ to) (hl : 1 ≤ load) : ∃ h', pf_Wa_shortCells 303 load fm to h = some (scb L W S wt load fm to, h') ∧ fr (fun b => 311 ≤ b ∧ b ≤ 315) h h' := by
  have kL := C.2.2.1
  obtain ⟨h1, p1, p2, -, -, p5, p6⟩ := c_survey (tk := 0) hW C K V (by omega) (by omega) (by omega)
  have C1 : CX h1 p q L W := CX_fr C p2 (fun b hb => by omega)
  obtain ⟨h2, r1, r2, r3, -, r5, r6⟩ := c_findShort (load := load) (c := fm) (to := to) (O := opn L W S wt 0 (-1) load no0) C1 p5 (fun c hc => by rw [p6 c hc]; exact rmv_opn hl) hf ht ne
  refine ⟨h2, ?_, fr_trans (fr_mono p2 (fun b hb => by omega)) (fr_mono r2 (fun b hb => by omega))⟩
  unfold pf_Wa_shortCells scb
  rw [p1, bsm, r1, bsm]
  simp only []
  by_cases q : wy L W S wt fm to load
  · obtain ⟨l1, l2⟩ := r6 q
    have q' : isw L W (opn L W S wt 0 (-1) load no0) fm to := q
    rw [cif_t q', cif_t q, if_neg (by decide), c_pathCells kL hf q.2 l1 l2]
    rfl
  · have q' : ¬ isw L W (opn L W S wt 0 (-1) load no0) fm to := q
    rw [cif_f q', cif_f q, if_pos rfl]
theorem m_short1 {load fm to : Int} (M : MC h l w L W wt sv 0) (V : SV L (pi h 422) d) (Z : ∀ c : Nat, c < 36 → pi h 424 c = 0) (hf : inr L fm) (ht : inr L to) (b : 0 ≤ load ∧ load ≤ 100000) : ∃ h', pf_M_shortWay fm to load h = some (cif (wy L W (pi h 422) wt fm to load) 1 0, h') ∧ MF h h' ∧ pi h' 422 = pi h 422 ∧ (¬ wy L W (pi h 422) wt fm to load → pi h' 417 27 = 0) ∧ (wy L W (pi h 422) wt fm to load → pi h' 417 27 = dst L W (opn L W (pi h 422) wt 0 (-1) load no0) to fm + 1 ∧ (∀ i : Nat, (i : Int) ≤ dst L W (opn L W (pi h 422) wt 0 (-1) load no0) to fm → pi h' 427 i = pth L W (opn L W (pi h 422) wt 0 (-1) load no0) to fm i) ∧ pf_M_bitsOfPath h' = some (scb L W (pi h 422) wt load fm to)) := by
  have kL := M.1.2.2.2.2.2.2.1
  have z : 4 ≤ ce L ∧ ce L ≤ 36 := sz_mul kL.1
  obtain ⟨h1, p1, p2, p3, p4, p5⟩ := m_shortWay (c := fm) (to := to) (load := load) (X := no0) M V hf ht b (fun c hc => ⟨fun _ y => y, fun _ => Z c (by omega)⟩)
  refine ⟨h1, p1, ⟨fr_mono p2 (fun b hb => by unfold MFs; omega), fun j _ _ => p3 j (by omega) (by omega) (by omega)⟩, fr_fi p2 (by omega), p4, fun v => ?_⟩
  obtain ⟨l1, l2⟩ := p5 v
  refine ⟨l1, l2, ?_⟩
  rw [m_bits kL hf v.2 l1 l2]
  unfold scb
  rw [cif_t v]
end Dg
theorem p_thaw {x y z n ld fm to : Int} : asks (pf_I_thaw x y z n ld fm to) (pf_M_thaw x y z n ld fm to) := by
  refine ask_trip (x := x) (y := y) (z := z) (n := n) (load := ld) (fm := fm) (to := to) (-1) (km := fun v2 => (if v2.1 = 0 then (some (-1, v2.2)) else ((pf_M_firstDay fm to ld 0 v2.2).bind fun v3 => (some (v3.1, v3.2))))) (fun _ => rfl) (fun _ => rfl) (fun _ => rfl) (fun _ => rfl) (fun v g => by unfold pf_M_thaw; rw [m_isLoad, bsm, if1, if_neg v]) (fun v g => by unfold pf_M_thaw; rw [m_isLoad, bsm, if1, if_pos v]) (fun _ => rfl) ?_
  intro hl ne p q l w L W S h g ⟨C, K, M, eS, Z, V, TT⟩ hf ht
  have kL := C.2.2.1
  subst eS
  obtain ⟨h1, c1, c2⟩ := c_firstDay (flag := 0) (WS0 kL) C K V (by omega) hf ht ne hl.1 (Or.inl rfl)
  obtain ⟨g1, m1, m2⟩ := m_firstDay (flag := 0) M V (by omega) Z hf ht (by omega : 0 ≤ ld ∧ ld ≤ 100000) (Or.inl rfl)
  simp only []
  rw [if_neg (show ¬ (1 : Int) = 0 by decide), if_neg (show ¬ (1 : Int) = 0 by decide), c1, m1]
  exact ⟨_, h1, g1, rfl, c2, rfl, MF_MG m2⟩
theorem p_branches {x y z n ld fm to day : Int} : asks (pf_I_branches x y z n ld fm to day) (pf_M_branches x y z n ld fm to day) := by
  by_cases q0 : 0 ≤ day ∧ day ≤ 30
  · refine ask_trip (x := x) (y := y) (z := z) (n := n) (load := ld) (fm := fm) (to := to) (-1) (kc := fun v1 => (if v1.1 = 0 then (some (-1, v1.2)) else ((pf_I_isTrip ld fm to v1.2).bind fun v2 => (if v2 = 0 then (some (-1, v1.2)) else (pl_I_branches_44 x y z n ld fm to day (fun h => (pf_Wa_shortCells 303 ld fm to h).bind fun v5 => (some (v5.1, v5.2))) fu_ 0 v1.2))))) (km := fun v3 => (if v3.1 = 0 then (some (-1, v3.2)) else (pl_M_branches_42 x y z n ld fm to day (fun h => (pf_M_shortWay fm to ld h).bind fun v5 => (if v5.1 = 0 then (some (-1, v5.2)) else ((pf_M_bitsOfPath v5.2).bind fun v6 => (some (v6, v5.2))))) fu_ 0 v3.2))) (fun h => by unfold pf_I_branches; rw [if_neg (by omega), if_neg (by omega)]) (fun _ => rfl) (fun _ => rfl) (fun _ => rfl) (fun v g => by unfold pf_M_branches; rw [m_isLoad, bsm, if1, if_neg v]) (fun v g => by unfold pf_M_branches; rw [m_isLoad, bsm, if1, if_pos v, m_isIn, bsm, if1, if_pos q0]) (fun _ => rfl) ?_
    intro hl ne p q l w L W S h g ⟨C, K, M, eS, Z, V, TT⟩ hf ht
    have kL := C.2.2.1
    have kW := C.2.2.2.1
    subst eS
    have cc : ∃ h1, pl_I_branches_44 x y z n ld fm to day (fun h => (pf_Wa_shortCells 303 ld fm to h).bind fun v5 => (some (v5.1, v5.2))) fu_ 0 h = some (scb L W (adn L W (wt0 L) (sv0 L) day.toNat (pi g 422)) (wt0 L) ld fm to, h1) ∧ fr CGs h h1 := by
      refine lpf (F := fun m (i : Nat) t => pl_I_branches_44 x y z n ld fm to day (fun h => (pf_Wa_shortCells 303 ld fm to h).bind fun v5 => (some (v5.1, v5.2))) m i t) (Q := fun r => ∃ h1, r = some (scb L W (adn L W (wt0 L) (sv0 L) day.toNat (pi g 422)) (wt0 L) ld fm to, h1) ∧ fr CGs h h1) day.toNat (fun i t => fr CGs h t ∧ SC t 303 p q L W (wt0 L) (sv0 L) false (adn L W (wt0 L) (sv0 L) i (pi g 422))) ?_ ?_ fu_ 0 h (by omega) (by unfold fu_; omega) ⟨fr_refl, K⟩
      · intro m i t hi ⟨f, Kt⟩
        right
        have Ct : CX t p q L W := CX_fr C f (fun b hb => hb.1)
        obtain ⟨ff0, h3, d1, d2, d3, d4⟩ := c_day1 (WS0 kL) Ct Kt (SV_adn kL kW V) (by omega)
        refine ⟨h3, ?_, fr_trans f (fr_mono d3 (fun b hb => by unfold SF at hb; unfold CGs; omega)), d4⟩
        show pl_I_branches_44 x y z n ld fm to day _ (m + 1) i t = pl_I_branches_44 x y z n ld fm to day _ m (i + 1 : Nat) h3
        rw [pl_I_branches_44, if_neg (by omega), d1, bsm, d2, bsm, wr_eq (by omega) (by omega)]
        rfl
      · intro m t ⟨f, Kt⟩
        have Ct : CX t p q L W := CX_fr C f (fun b hb => hb.1)
        obtain ⟨h3, s1, s2⟩ := c_shortCells (WS0 kL) Ct Kt (SV_adn kL kW V) hf ht ne hl.1
        refine ⟨h3, ?_, fr_trans f (fr_mono s2 (fun b hb => by unfold CGs; omega))⟩
        show pl_I_branches_44 x y z n ld fm to day _ (m + 1) (day.toNat : Nat) t = _
        rw [pl_I_branches_44, if_pos (by omega), s1]
        rfl
    have mm : ∃ g1, pl_M_branches_42 x y z n ld fm to day (fun h => (pf_M_shortWay fm to ld h).bind fun v5 => (if v5.1 = 0 then (some (-1, v5.2)) else ((pf_M_bitsOfPath v5.2).bind fun v6 => (some (v6, v5.2))))) fu_ 0 g = some (scb L W (adn L W (wt0 L) (sv0 L) day.toNat (pi g 422)) (wt0 L) ld fm to, g1) ∧ MF g g1 := by
      refine lpf (F := fun m (i : Nat) t => pl_M_branches_42 x y z n ld fm to day (fun h => (pf_M_shortWay fm to ld h).bind fun v5 => (if v5.1 = 0 then (some (-1, v5.2)) else ((pf_M_bitsOfPath v5.2).bind fun v6 => (some (v6, v5.2))))) m i t) (Q := fun r => ∃ g1, r = some (scb L W (adn L W (wt0 L) (sv0 L) day.toNat (pi g 422)) (wt0 L) ld fm to, g1) ∧ MF g g1) day.toNat (fun i t => MF g t ∧ pi t 422 = adn L W (wt0 L) (sv0 L) i (pi g 422)) ?_ ?_ fu_ 0 g (by omega) (by unfold fu_; omega) ⟨MF_refl, rfl⟩
      · intro m i t hi ⟨f, e⟩
        right
        obtain ⟨h2, d1, d2, d3⟩ := m_day1 (MF_MC M f) (by rw [e]; exact SV_adn kL kW V) (by omega)
        rw [e] at d3
        refine ⟨h2, ?_, MF_trans f d2, d3⟩
        show pl_M_branches_42 x y z n ld fm to day _ (m + 1) i t = pl_M_branches_42 x y z n ld fm to day _ m (i + 1 : Nat) h2
        rw [pl_M_branches_42, if_neg (by omega), d1, bsm, wr_eq (by omega) (by omega)]
        rfl
      · intro m t ⟨f, e⟩
        obtain ⟨h3, s1, s2, s3, -, s4⟩ := m_short1 (load := ld) (MF_MC M f) (by rw [e]; exact SV_adn kL kW V) (fun c hc => by rw [MF_24 f]; exact Z c hc) hf ht (by omega)
        rw [e] at s1 s4
        refine ⟨h3, ?_, MF_trans f s2⟩
        show pl_M_branches_42 x y z n ld fm to day _ (m + 1) (day.toNat : Nat) t = _
        rw [pl_M_branches_42, if_pos (by omega), s1, bsm]
        simp only []
        by_cases v : wy L W (adn L W (wt0 L) (sv0 L) day.toNat (pi g 422)) (wt0 L) fm to ld
        · rw [cif_t v, if_neg (by decide), (s4 v).2.2]; rfl
        · rw [cif_f v, if_pos rfl]; unfold scb; rw [cif_f v]
    obtain ⟨h1, c1, c2⟩ := cc
    obtain ⟨g1, m1, m2⟩ := mm
    simp only []
    rw [if_neg (show ¬ (1 : Int) = 0 by decide), if_neg (show ¬ (1 : Int) = 0 by decide), c1, m1]
    exact ⟨_, h1, g1, rfl, c2, rfl, MF_MG m2⟩
  · refine ask_no (-1) (fun h A R => ⟨h, ?_, fr_refl⟩) (fun g B I => ⟨g, ?_, MG_refl⟩)
    · unfold pf_I_branches
      by_cases v : day < 0
      · rw [if_pos v]
      · rw [if_neg v, if_pos (by omega)]
    · unfold pf_M_branches
      rw [m_isLoad, bsm, if1, m_isIn, bsm, if1, if_neg q0]
      split <;> rfl
