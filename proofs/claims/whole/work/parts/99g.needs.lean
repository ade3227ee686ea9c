/-! needs: cells that no way can do without -/
/-- what the reference shuts for a cut -/
def cutX (fm to a b c e : Int) : Prop := (e = a ∨ e = b ∨ e = c) ∧ e ≠ fm ∧ e ≠ to
def shv (fm to x : Int) : Int := if x = fm then 0 else if x = to then 0 else 1
theorem pvz_shv {fm to x : Int} : pvz (shv fm to x) = shv fm to x := by
  unfold shv; split <;> (try split) <;> rfl
theorem shv_0 {fm to x : Int} : shv fm to x = 0 ↔ ¬ (x ≠ fm ∧ x ≠ to) := by
  unfold shv
  by_cases q : x = fm
  · rw [if_pos q]; exact ⟨fun _ y => y.1 q, fun _ => rfl⟩
  · rw [if_neg q]
    by_cases q2 : x = to
    · rw [if_pos q2]; exact ⟨fun _ y => y.2 q2, fun _ => rfl⟩
    · rw [if_neg q2]; exact ⟨fun y => absurd y (by decide), fun y => absurd ⟨q, q2⟩ y⟩
theorem isCut_e {fm to ld a b c : Int} {h : pH} (ha : 0 ≤ a ∧ a < 36) (hb : 0 ≤ b ∧ b < 36) (hc : 0 ≤ c ∧ c < 36) : pf_M_isCut fm to ld a b c h = (pf_M_isWay fm to ld (-1) (pwI (pwI (pwI h 424 a.toNat (shv fm to a)) 424 b.toNat (shv fm to b)) 424 c.toNat (shv fm to c))).bind fun v4 => some (if v4.1 = 0 then 1 else 0, pwI (pwI (pwI v4.2 424 a.toNat 0) 424 b.toNat 0) 424 c.toNat 0) := by
  have e3 : ∀ g, pj_M_isCut_71 fm to ld a b c 424 c (shv fm to c) g = (pf_M_isWay fm to ld (-1) (pwI g 424 c.toNat (shv fm to c))).bind fun v4 => some (if v4.1 = 0 then 1 else 0, pwI (pwI (pwI v4.2 424 a.toNat 0) 424 b.toNat 0) 424 c.toNat 0) := fun g => by
    unfold pj_M_isCut_71 pj_M_isCut_88
    rw [gib hc.1 hc.2, pvz_shv]
    congr 1
    funext v4
    split
    · rw [gib ha.1 ha.2, gib hb.1 hb.2, gib hc.1 hc.2]; rfl
    · rw [gib ha.1 ha.2, gib hb.1 hb.2, gib hc.1 hc.2]; rfl
  have e2 : ∀ g, pj_M_isCut_47 fm to ld a b c 424 b (shv fm to b) g = pj_M_isCut_71 fm to ld a b c 424 c (shv fm to c) (pwI g 424 b.toNat (shv fm to b)) := fun g => by
    unfold pj_M_isCut_47
    rw [gib hb.1 hb.2, pvz_shv]
    conv => rhs; rw [shv]
    split
    · rfl
    · split <;> rfl
  have e1 : ∀ g, pj_M_isCut_23 fm to ld a b c 424 a (shv fm to a) g = pj_M_isCut_47 fm to ld a b c 424 b (shv fm to b) (pwI g 424 a.toNat (shv fm to a)) := fun g => by
    unfold pj_M_isCut_23
    rw [gib ha.1 ha.2, pvz_shv]
    conv => rhs; rw [shv]
    split
    · rfl
    · split <;> rfl
  have e0 : pf_M_isCut fm to ld a b c h = pj_M_isCut_23 fm to ld a b c 424 a (shv fm to a) h := by
    unfold pf_M_isCut
    conv => rhs; rw [shv]
    split
    · rfl
    · split <;> rfl
  rw [e0, e1, e2, e3]
section Dh
variable {h : pH} {a p q l w : Nat} {L W wt sv S : Nat → Int} {u : Bool} {d : Nat} {tk : Int}
theorem m_isCut {fm to ld a b c : Int} (M : MC h l w L W wt sv 0) (V : SV L (pi h 422) d) (Z : ∀ c : Nat, c < 36 → pi h 424 c = 0) (hf : inr L fm) (ht : inr L to) (l0 : 0 ≤ ld ∧ ld ≤ 100000) (ha : inr L a) (hb : inr L b) (hc : inr L c) : ∃ h', pf_M_isCut fm to ld a b c h = some (cif (isw L W (opn L W (pi h 422) wt 0 (-1) ld (cutX fm to a b c)) fm to) 0 1, h') ∧ MF h h' ∧ pi h' 422 = pi h 422 := by
  have kL := M.1.2.2.2.2.2.2.1
  have z : 4 ≤ ce L ∧ ce L ≤ 36 := sz_mul kL.1
  obtain ⟨a0, a1⟩ := ha
  obtain ⟨b0, b1⟩ := hb
  obtain ⟨c0, c1⟩ := hc
  rw [isCut_e ⟨a0, by omega⟩ ⟨b0, by omega⟩ ⟨c0, by omega⟩]
  generalize eH : pwI (pwI (pwI h 424 a.toNat (shv fm to a)) 424 b.toNat (shv fm to b)) 424 c.toNat (shv fm to c) = H
  have fH : fr (fun b => b = 424) h H := by rw [← eH]; exact fr_wI (fr_wI (fr_wI fr_refl rfl) rfl) rfl
  have vH : ∀ k : Nat, pi H 424 k = if k = c.toNat then shv fm to c else if k = b.toNat then shv fm to b else if k = a.toNat then shv fm to a else pi h 424 k := fun k => by
    rw [← eH, pi_wI, pi_wI, pi_wI]
    simp only [true_and]
  have M1 : MC H l w L W wt sv 0 := MC_c M (fun j _ _ => fr_i fH (by omega)) (fr_fi fH (by omega))
  have e422 : pi H 422 = pi h 422 := fr_fi fH (by omega)
  obtain ⟨h1, p1, p2, p3, -⟩ := m_isWay (c := fm) (to := to) (load := ld) (mv := -1) (X := cutX fm to a b c) M1 (by rw [e422]; exact V) hf ht l0 (fun k hk => by
    rw [vH]
    unfold cutX
    have z0 := Z k (by omega)
    have sc := shv_0 (fm := fm) (to := to) (x := c)
    have sb := shv_0 (fm := fm) (to := to) (x := b)
    have sa := shv_0 (fm := fm) (to := to) (x := a)
    by_cases k1 : k = c.toNat
    · rw [if_pos k1, sc]
      have e : (k : Int) = c := by omega
      rw [e]
      exact ⟨fun y v => y v.2, fun y v => y ⟨Or.inr (Or.inr rfl), v⟩⟩
    · rw [if_neg k1]
      by_cases k2 : k = b.toNat
      · rw [if_pos k2, sb]
        have e : (k : Int) = b := by omega
        rw [e]
        exact ⟨fun y v => y v.2, fun y v => y ⟨Or.inr (Or.inl rfl), v⟩⟩
      · rw [if_neg k2]
        by_cases k3 : k = a.toNat
        · rw [if_pos k3, sa]
          have e : (k : Int) = a := by omega
          rw [e]
          exact ⟨fun y v => y v.2, fun y v => y ⟨Or.inl rfl, v⟩⟩
        · rw [if_neg k3]
          exact ⟨fun _ v => by omega, fun _ => z0⟩)
  rw [e422] at p1
  rw [p1, bsm]
  refine ⟨pwI (pwI (pwI h1 424 a.toNat 0) 424 b.toNat 0) 424 c.toNat 0, ?_, ?_, ?_⟩
  rotate_left
  · refine ⟨fun x hx k => ?_, fun j _ _ => ?_⟩
    · refine ⟨?_, ?_, ?_⟩
      · show pi (pwI (pwI (pwI h1 424 a.toNat 0) 424 b.toNat 0) 424 c.toNat 0) x k = pi h x k
        rw [pi_wI, pi_wI, pi_wI]
        by_cases q1 : x = 424
        · subst q1
          simp only [true_and]
          rw [fr_i p2 (by omega), vH]
          by_cases k1 : k = c.toNat
          · rw [if_pos k1, k1]; exact (Z _ (by omega)).symm
          · rw [if_neg k1, if_neg k1]
            by_cases k2 : k = b.toNat
            · rw [if_pos k2, k2]; exact (Z _ (by omega)).symm
            · rw [if_neg k2, if_neg k2]
              by_cases k3 : k = a.toNat
              · rw [if_pos k3, k3]; exact (Z _ (by omega)).symm
              · rw [if_neg k3, if_neg k3]
        · unfold MFs at hx
          rw [if_neg (fun y => q1 y.1), if_neg (fun y => q1 y.1), if_neg (fun y => q1 y.1), fr_i p2 (by omega), fr_i fH q1]
      · by_cases q1 : x = 424
        · subst q1
          show pl h1 424 k = pl h 424 k
          rw [(p2 424 (by omega) k).2.1, ← eH]; rfl
        · unfold MFs at hx
          show pl h1 x k = pl h x k
          rw [(p2 x (by omega) k).2.1, (fH x q1 k).2.1]
      · by_cases q1 : x = 424
        · subst q1
          show pr h1 424 k = pr h 424 k
          rw [(p2 424 (by omega) k).2.2, ← eH]; rfl
        · unfold MFs at hx
          show pr h1 x k = pr h x k
          rw [(p2 x (by omega) k).2.2, (fH x q1 k).2.2]
    · show pi (pwI (pwI (pwI h1 424 a.toNat 0) 424 b.toNat 0) 424 c.toNat 0) 417 j = pi h 417 j
      rw [pi_wIa (by decide), pi_wIa (by decide), pi_wIa (by decide), p3 j (by omega) (by omega), fr_i fH (by decide)]
  · funext k
    show pi (pwI (pwI (pwI h1 424 a.toNat 0) 424 b.toNat 0) 424 c.toNat 0) 422 k = pi h 422 k
    rw [pi_wIa (by decide), pi_wIa (by decide), pi_wIa (by decide), fr_i p2 (by omega), fr_i fH (by decide)]
  · by_cases q1 : isw L W (opn L W (pi h 422) wt 0 (-1) ld (cutX fm to a b c)) fm to
    · rw [cif_t q1, cif_t q1]; rfl
    · rw [cif_f q1, cif_f q1]; rfl
theorem pth_wk {O O' : Int → Prop} {to c : Int} (kL : LK L) (hc : inr L c) (hO : ∀ j : Nat, 1 ≤ j → (j : Int) ≤ dst L W O to c → O (pth L W O to c j) → O' (pth L W O to c j)) : ∀ {n : Nat}, (n : Int) ≤ dst L W O to c → wk L W O' n c (pth L W O to c n)
  | 0, _ => rfl
  | n + 1, h => by
    have i := pth_wk (O' := O') kL hc hO (n := n) (by omega)
    have p := pth_in (W := W) (O := O) (to := to) kL hc (i := n) (by omega)
    have s := (nxt_st (W := W) (O := O) (to := to) kL p.1 (by rw [p.2]; omega)).2.1
    exact wk_snoc i ⟨s.1, s.2.1, hO (n + 1) (by omega) h s.2.2⟩
/-- a cell without which there is no way -/
def ndd (L W S wt : Nat → Int) (ld fm to c : Int) : Prop := ¬ isw L W (opn L W S wt 0 (-1) ld (fun e => e = c)) fm to
/-- such a cell lies on the short way -/
theorem ndd_on {ld fm to c : Int} (kL : LK L) (hf : inr L fm) (yy : wy L W S wt fm to ld) (n1 : c ≠ fm) (n2 : c ≠ to) (nd : ndd L W S wt ld fm to c) : ∃ j : Nat, 1 ≤ j ∧ (j : Int) < dst L W (opn L W S wt 0 (-1) ld no0) to fm ∧ pth L W (opn L W S wt 0 (-1) ld no0) to fm j = c := by
  apply Classical.byContradiction
  intro no
  apply nd
  refine ⟨yy.1, dst_ge.mpr ⟨(dst L W (opn L W S wt 0 (-1) ld no0) to fm).toNat, ?_⟩⟩
  have d0 := yy.2
  have p := (pth_in (W := W) (O := opn L W S wt 0 (-1) ld no0) (to := to) kL hf (i := (dst L W (opn L W S wt 0 (-1) ld no0) to fm).toNat) (by omega)).2
  have et := dst_z (L := L) (W := W) (O := opn L W S wt 0 (-1) ld no0) (to := to) (c := pth L W (opn L W S wt 0 (-1) ld no0) to fm (dst L W (opn L W S wt 0 (-1) ld no0) to fm).toNat) (by rw [p]; omega)
  have k := pth_wk (L := L) (W := W) (O := opn L W S wt 0 (-1) ld no0) (O' := opn L W S wt 0 (-1) ld (fun e => e = c)) (to := to) (c := fm) kL hf (fun j j1 j2 o => ⟨fun e => by
    by_cases q : (j : Int) = dst L W (opn L W S wt 0 (-1) ld no0) to fm
    · have : j = (dst L W (opn L W S wt 0 (-1) ld no0) to fm).toNat := by omega
      rw [this, et] at e
      exact n2 e.symm
    · exact no ⟨j, j1, by omega, e⟩, o.2⟩) (n := (dst L W (opn L W S wt 0 (-1) ld no0) to fm).toNat) (by omega)
  rw [et] at k
  exact k
/-- bits of the needed cells -/
def NB (L W S wt : Nat → Int) (ld fm to : Int) (y : Int64) : Prop := ∀ e : Nat, e < 64 → (tb y e = true ↔ (e : Int) < ce L ∧ (e : Int) ≠ fm ∧ (e : Int) ≠ to ∧ ndd L W S wt ld fm to e)
theorem NB_un {ld fm to : Int} {y z : Int64} (a : NB L W S wt ld fm to y) (b : NB L W S wt ld fm to z) : y = z := tb_ext (fun i hi => by
  rw [Bool.eq_iff_iff, a i hi, b i hi])
theorem c_needed {ld fm to : Int} (C : CX h p q L W) (X : WX h p q) (hR : ∀ c : Nat, (c : Int) < ce L → pi h 313 c = rmv L W S wt 0 c) (hf : inr L fm) (ht : inr L to) (ne : fm ≠ to) (hl : 1 ≤ ld) : ∃ y h', pf_Wa_neededCells ld fm to h = some (cif (wy L W S wt fm to ld) y (-1), h') ∧ fr (fun b => 311 ≤ b ∧ b ≤ 315) h h' ∧ (wy L W S wt fm to ld → NB L W S wt ld fm to y) := by
  have kL := C.2.2.1
  have z : 4 ≤ ce L ∧ ce L ≤ 36 := sz_mul kL.1
  obtain ⟨h2, r1, r2, r3, -, r5, r6⟩ := c_findShort (load := ld) (c := fm) (to := to) (O := opn L W S wt 0 (-1) ld no0) C X (fun c hc => by rw [hR c hc]; exact rmv_opn hl) hf ht ne
  unfold pf_Wa_neededCells
  rw [r1, bsm]
  by_cases yy : wy L W S wt fm to ld
  · have yy' : isw L W (opn L W S wt 0 (-1) ld no0) fm to := yy
    obtain ⟨l1, l2⟩ := r6 yy'
    have d0 := yy.2
    have d1 := dst_hi (W := W) (O := opn L W S wt 0 (-1) ld no0) (to := to) kL hf
    have dn : dst L W (opn L W S wt 0 (-1) ld no0) to fm ≠ 0 := fun e => ne (dst_z e)
    have PI := fun i => pth_in (W := W) (O := opn L W S wt 0 (-1) ld no0) (to := to) kL hf (i := i)
    rw [cif_t yy']
    simp only []
    rw [if_neg (show ¬ (1 : Int) = 0 by decide)]
    generalize eD : dst L W (opn L W S wt 0 (-1) ld no0) to fm = D at *
    generalize eP : pth L W (opn L W S wt 0 (-1) ld no0) to fm = P at *
    refine lpf (F := fun n (i : Nat) (t : Int64 × pH) => pl_Wa_neededCells_20 ld fm to (fun y4 h => some (y4, h)) n t.1 i t.2) (Q := fun r => ∃ y h', r = some (cif (wy L W S wt fm to ld) y (-1), h') ∧ fr (fun b => 311 ≤ b ∧ b ≤ 315) h h' ∧ (wy L W S wt fm to ld → NB L W S wt ld fm to y)) D.toNat (fun i t => 1 ≤ i ∧ fr (fun b => b = 313 ∨ b = 314 ∨ b = 315) h2 t.2 ∧ (∀ c : Nat, (c : Int) < ce L → pi t.2 313 c = rmv L W S wt 0 c) ∧ ∀ e : Nat, e < 64 → (tb t.1 e = true ↔ ∃ j : Nat, 1 ≤ j ∧ j < i ∧ P j = (e : Int) ∧ ndd L W S wt ld fm to e)) ?_ ?_ fu_ 1 (0, h2) (by omega) (by unfold fu_; omega) ⟨Nat.le_refl 1, fr_refl, fun c hc => by rw [fr_i r2 (by omega)]; exact hR c hc, fun e he => ⟨fun v => absurd v (by show ¬ tb 0 e = true; rw [tb_0]; exact Bool.false_ne_true), fun ⟨j, v1, v2, _⟩ => by omega⟩⟩
    · intro n i ⟨y, t⟩ hi ⟨i1, f, R, B⟩
      right
      simp only [] at f R B
      have l1' : pi t 311 0 = D + 1 := by rw [fr_i f (by omega)]; exact l1
      have l2' : pi t 312 i = P i := by rw [fr_i f (by omega)]; exact l2 i (by omega)
      obtain ⟨⟨s0, s1⟩, s2⟩ := PI i (by omega)
      have ec : (((P i).toNat : Nat) : Int) = P i := by omega
      have f1 : fr (fun b => b = 313) t (pwI t 313 (P i).toNat 0) := fr_wI fr_refl rfl
      have Ct : CX t p q L W := CX_fr (CX_fr C r2 (fun b hb => by omega)) f (fun b hb => by omega)
      have Xt : WX t p q := WX_fr r5 f (by omega)
      obtain ⟨h3, w1, w2, -⟩ := c_measure (h := pwI t 313 (P i).toNat 0) (load := ld) (c := fm) (to := to) (O := opn L W S wt 0 (-1) ld (fun e => e = P i)) (CX_fr Ct f1 (fun b hb => by omega)) (WX_fr Xt f1 (by omega)) (fun c hc => by
        by_cases k : c = (P i).toNat
        · rw [k, pi_wIs]
          exact ⟨fun v => by omega, fun o => absurd ec o.1⟩
        · rw [pi_wIi k, R c hc, rmv_opn hl]
          exact ⟨fun o => ⟨fun e => k (by omega), o.2⟩, fun o => ⟨fun v => v, o.2⟩⟩) hf ht ne
      have nd : ndd L W S wt ld fm to (P i) ↔ dst L W (opn L W S wt 0 (-1) ld (fun e => e = P i)) to fm = -1 := by
        have lo := dst_lo (L := L) (W := W) (O := opn L W S wt 0 (-1) ld (fun e => e = P i)) (to := to) (c := fm)
        exact ⟨fun v => by
          have : ¬ 0 ≤ dst L W (opn L W S wt 0 (-1) ld (fun e => e = P i)) to fm := fun k => v ⟨ne, k⟩
          omega, fun v k => by have := k.2; omega⟩
      have e0 : pl_Wa_neededCells_20 ld fm to (fun y4 h => some (y4, h)) (n + 1) y i t = pl_Wa_neededCells_20 ld fm to (fun y4 h => some (y4, h)) n (cif (ndd L W S wt ld fm to (P i)) (y ||| plshl 1 (P i)) y) (i + 1 : Nat) (pwI h3 313 (P i).toNat (pi t 313 (P i).toNat)) := by
        rw [pl_Wa_neededCells_20, l1', wr_eq (by omega) (by omega), if_neg (by omega), Int.toNat_natCast, l2', gib (by omega) (by omega), gib s0 (by omega), w1, gib s0 (by omega), bsm]
        simp only []
        by_cases q1 : ndd L W S wt ld fm to (P i)
        · rw [if_pos (nd.mp q1), cif_t q1, c_bit, bsm, pj_Wa_neededCells_78, gib s0 (by omega), wr_eq (by omega) (by omega)]; rfl
        · rw [if_neg (fun v => q1 (nd.mpr v)), cif_f q1, pj_Wa_neededCells_78, gib s0 (by omega), wr_eq (by omega) (by omega)]; rfl
      refine ⟨(cif (ndd L W S wt ld fm to (P i)) (y ||| plshl 1 (P i)) y, pwI h3 313 (P i).toNat (pi t 313 (P i).toNat)), e0, by omega, ?_, ?_, ?_⟩
      · exact fr_trans f (fr_wI (fr_trans (fr_mono f1 (fun b hb => Or.inl hb)) (fr_mono w2 (fun b hb => by omega))) (Or.inl rfl))
      · intro c hc
        show pi (pwI h3 313 (P i).toNat (pi t 313 (P i).toNat)) 313 c = _
        by_cases k : c = (P i).toNat
        · rw [k, pi_wIs]; rw [k] at hc; exact R _ hc
        · rw [pi_wIi k, fr_i w2 (by omega), pi_wIi k]; exact R c hc
      · intro e he
        show tb (cif (ndd L W S wt ld fm to (P i)) (y ||| plshl 1 (P i)) y) e = true ↔ _
        have old : (∃ j : Nat, 1 ≤ j ∧ j < i + 1 ∧ P j = (e : Int) ∧ ndd L W S wt ld fm to e) ↔ (∃ j : Nat, 1 ≤ j ∧ j < i ∧ P j = (e : Int) ∧ ndd L W S wt ld fm to e) ∨ (P i = (e : Int) ∧ ndd L W S wt ld fm to e) :=
          ⟨fun ⟨j, v1, v2, v3⟩ => by
            by_cases k : j = i
            · rw [k] at v3; exact Or.inr v3
            · exact Or.inl ⟨j, v1, by omega, v3⟩, fun v => by
            rcases v with ⟨j, v1, v2, v3⟩ | v
            · exact ⟨j, v1, by omega, v3⟩
            · exact ⟨i, i1, by omega, v⟩⟩
        rw [old, ← B e he]
        by_cases q1 : ndd L W S wt ld fm to (P i)
        · rw [cif_t q1, tb_or, ← ec, tb_bit (by omega) he, Bool.or_eq_true, decide_eq_true_eq]
          refine or_congr Iff.rfl ⟨fun v => ?_, fun v => by omega⟩
          have e3 : (e : Int) = P i := by omega
          rw [ec, e3]; exact ⟨rfl, q1⟩
        · rw [cif_f q1]
          exact ⟨Or.inl, fun v => v.elim id (fun k => absurd (k.1 ▸ k.2) q1)⟩
    · intro n ⟨y, t⟩ ⟨i1, f, R, B⟩
      simp only [] at f R B
      have l1' : pi t 311 0 = D + 1 := by rw [fr_i f (by omega)]; exact l1
      refine ⟨y, t, ?_, fr_trans (fr_mono r2 (fun b hb => by omega)) (fr_mono f (fun b hb => by omega)), fun _ e he => ?_⟩
      · show pl_Wa_neededCells_20 ld fm to (fun y4 h => some (y4, h)) (n + 1) y (D.toNat : Nat) t = _
        rw [pl_Wa_neededCells_20, l1', wr_eq (by omega) (by omega), if_pos (by omega), cif_t yy]
      · rw [B e he]
        refine ⟨fun ⟨j, v1, v2, v3, v4⟩ => ?_, fun ⟨v1, v2, v3, v4⟩ => ?_⟩
        · obtain ⟨⟨s0, s1⟩, s2⟩ := PI j (by omega)
          rw [v3] at s1 s2
          refine ⟨s1, fun k => ?_, fun k => ?_, v4⟩
          · rw [k] at s2; omega
          · rw [k, dst_to] at s2; omega
        · obtain ⟨j, w1, w2, w3⟩ := ndd_on kL hf yy v2 v3 v4
          rw [eD] at w2
          rw [eP] at w3
          exact ⟨j, w1, by omega, w3, v4⟩
  · have yy' : ¬ isw L W (opn L W S wt 0 (-1) ld no0) fm to := yy
    rw [cif_f yy']
    exact ⟨0, h2, by rw [cif_f yy]; rfl, fr_mono r2 (fun b hb => by omega), fun k => absurd k yy⟩
theorem m_needed {x y z n ld fm to : Int} (M : MC h l w L W wt sv 0) (V : SV L (pi h 422) d) (Z : ∀ c : Nat, c < 36 → pi h 424 c = 0) (hf : inr L fm) (ht : inr L to) (l0 : 0 ≤ ld ∧ ld ≤ 100000) : ∃ v h', pl_M_needs_48 x y z n ld fm to (fun y8 h => some (y8, h)) fu_ 0 0 h = some (v, h') ∧ MF h h' ∧ NB L W (pi h 422) wt ld fm to v := by
  have kL := M.1.2.2.2.2.2.2.1
  have zz : 4 ≤ ce L ∧ ce L ≤ 36 := sz_mul kL.1
  refine lpf (F := fun m (i : Nat) (t : Int64 × pH) => pl_M_needs_48 x y z n ld fm to (fun y8 h => some (y8, h)) m t.1 i t.2) (Q := fun r => ∃ v h', r = some (v, h') ∧ MF h h' ∧ NB L W (pi h 422) wt ld fm to v) (ce L).toNat (fun i t => MF h t.2 ∧ pi t.2 422 = pi h 422 ∧ ∀ e : Nat, e < 64 → (tb t.1 e = true ↔ e < i ∧ (e : Int) ≠ fm ∧ (e : Int) ≠ to ∧ ndd L W (pi h 422) wt ld fm to e)) ?_ ?_ fu_ 0 (0, h) (by omega) (by unfold fu_; omega) ⟨MF_refl, rfl, fun e he => ⟨fun v => absurd v (by show ¬ tb 0 e = true; rw [tb_0]; exact Bool.false_ne_true), fun v => by omega⟩⟩
  · intro m i ⟨b, t⟩ hi ⟨f, es, B⟩
    right
    simp only [] at f es B
    have Mt := MF_MC M f
    have ci : inr L (i : Int) := ⟨by omega, by omega⟩
    by_cases q1 : (i : Int) = fm ∨ (i : Int) = to
    · refine ⟨(b ||| 0, t), ?_, f, es, fun e he => ?_⟩
      · show pl_M_needs_48 x y z n ld fm to _ (m + 1) b i t = pl_M_needs_48 x y z n ld fm to _ m (b ||| 0) (i + 1 : Nat) t
        rw [pl_M_needs_48, m_cells Mt.1, bsm, if_neg (by omega)]
        unfold pj_M_needs_100
        rw [wr_eq (by omega) (by omega)]
        by_cases q2 : (i : Int) = fm
        · rw [if_pos q2]; rfl
        · rw [if_neg q2, if_pos (q1.resolve_left q2)]; rfl
      · show tb (b ||| 0) e = true ↔ _
        rw [tb_or, tb_0, Bool.or_false, B e he]
        refine ⟨fun ⟨v1, v2⟩ => ⟨by omega, v2⟩, fun ⟨v1, v2⟩ => ⟨?_, v2⟩⟩
        by_cases k : e = i
        · rw [k] at v2; exact absurd q1 (fun y => y.elim v2.1 v2.2.1)
        · omega
    · obtain ⟨h3, w1, w2, w3⟩ := m_isCut (fm := fm) (to := to) (ld := ld) (a := i) (b := i) (c := i) Mt (by rw [es]; exact V) (fun c hc => by rw [MF_24 f]; exact Z c hc) hf ht l0 ci ci ci
      have eX : cutX fm to i i i = fun e => e = (i : Int) := by
        funext e
        apply propext
        unfold cutX
        exact ⟨fun v => v.1.elim id (fun k => k.elim id id), fun v => ⟨Or.inl v, by rw [v]; exact ⟨fun k => q1 (Or.inl k), fun k => q1 (Or.inr k)⟩⟩⟩
      rw [eX, es] at w1
      refine ⟨(b ||| cif (ndd L W (pi h 422) wt ld fm to i) (plshl 1 i) 0, h3), ?_, MF_trans f w2, by rw [w3, es], fun e he => ?_⟩
      · show pl_M_needs_48 x y z n ld fm to _ (m + 1) b i t = pl_M_needs_48 x y z n ld fm to _ m (b ||| cif (ndd L W (pi h 422) wt ld fm to i) (plshl 1 i) 0) (i + 1 : Nat) h3
        rw [pl_M_needs_48, m_cells Mt.1, bsm, if_neg (by omega), if_neg (fun k => q1 (Or.inl k)), if_neg (fun k => q1 (Or.inr k)), w1, bsm]
        unfold pj_M_needs_100
        rw [wr_eq (by omega) (by omega)]
        by_cases q2 : isw L W (opn L W (pi h 422) wt 0 (-1) ld (fun e => e = (i : Int))) fm to
        · rw [cif_t q2, if_pos rfl, cif_f (show ¬ ndd L W (pi h 422) wt ld fm to i from fun k => k q2)]; rfl
        · rw [cif_f q2, if_neg (show ¬ (1 : Int) = 0 by decide), cif_t (show ndd L W (pi h 422) wt ld fm to i from q2)]; rfl
      · show tb (b ||| cif (ndd L W (pi h 422) wt ld fm to i) (plshl 1 i) 0) e = true ↔ _
        rw [tb_or, Bool.or_eq_true, B e he]
        by_cases q2 : ndd L W (pi h 422) wt ld fm to i
        · rw [cif_t q2, tb_bit (by omega) he, decide_eq_true_eq]
          refine ⟨fun v => ?_, fun ⟨v1, v2⟩ => ?_⟩
          · rcases v with ⟨v1, v2⟩ | v
            · exact ⟨by omega, v2⟩
            · rw [v]; exact ⟨by omega, fun k => q1 (Or.inl k), fun k => q1 (Or.inr k), q2⟩
          · by_cases k : e = i
            · exact Or.inr k
            · exact Or.inl ⟨by omega, v2⟩
        · rw [cif_f q2, tb_0]
          refine ⟨fun v => ?_, fun ⟨v1, v2⟩ => Or.inl ⟨?_, v2⟩⟩
          · rcases v with ⟨v1, v2⟩ | v
            · exact ⟨by omega, v2⟩
            · cases v
          · by_cases k : e = i
            · rw [k] at v2; exact absurd v2.2.2 q2
            · omega
  · intro m ⟨b, t⟩ ⟨f, es, B⟩
    simp only [] at f es B
    refine ⟨b, t, ?_, f, fun e he => ?_⟩
    · show pl_M_needs_48 x y z n ld fm to (fun y8 h => some (y8, h)) (m + 1) b ((ce L).toNat : Nat) t = _
      rw [pl_M_needs_48, m_cells (MF_MC M f).1, bsm, if_pos (by omega)]
    · rw [B e he]
      exact and_congr ⟨fun v => by omega, fun v => by omega⟩ Iff.rfl
end Dh
theorem p_needs {x y z n ld fm to : Int} : asks (pf_I_needs x y z n ld fm to) (pf_M_needs x y z n ld fm to) := by
  refine ask_trip (x := x) (y := y) (z := z) (n := n) (load := ld) (fm := fm) (to := to) (-1) (km := fun v2 => (if v2.1 = 0 then (some ((-1), v2.2)) else ((pf_M_isWay fm to ld ((-1)) v2.2).bind fun v3 => (if v3.1 = 0 then (some ((-1), v3.2)) else (pl_M_needs_48 x y z n ld fm to (fun y8 h => some (y8, h)) fu_ 0 0 v3.2))))) (fun _ => rfl) (fun _ => rfl) (fun _ => rfl) (fun _ => rfl) (fun v g => by unfold pf_M_needs; rw [m_isLoad, bsm, if1, if_neg v]) (fun v g => by unfold pf_M_needs; rw [m_isLoad, bsm, if1, if_pos v]) (fun _ => rfl) ?_
  intro hl ne p q l w L W S h g ⟨C, K, M, eS, Z, V, TT⟩ hf ht
  have kL := C.2.2.1
  subst eS
  obtain ⟨h1, p1, p2, -, -, p5, p6⟩ := c_survey (tk := 0) (WS0 kL) C K V (by omega) (by omega) (by omega)
  obtain ⟨v, h2, c1, c2, c3⟩ := c_needed (ld := ld) (fm := fm) (to := to) (CX_fr C p2 (fun b hb => by omega)) p5 p6 hf ht ne hl.1
  obtain ⟨g1, m1, m2, m3⟩ := m_way1 (fm := fm) (to := to) (load := ld) M V Z hf ht (by omega)
  have f2 : fr CGs h h2 := fr_trans (fr_mono p2 (fun b hb => by unfold CGs; omega)) (fr_mono c2 (fun b hb => by unfold CGs; omega))
  simp only []
  rw [if_neg (show ¬ (1 : Int) = 0 by decide), if_neg (show ¬ (1 : Int) = 0 by decide), p1, bsm, c1, bsm, m1, bsm]
  by_cases yy : wy L W (pi g 422) (wt0 L) fm to ld
  · obtain ⟨v', g2, s1, s2, s3⟩ := m_needed (x := x) (y := y) (z := z) (n := n) (fm := fm) (to := to) (ld := ld) (MF_MC M m2) (by rw [m3]; exact V) (fun c hc => by rw [MF_24 m2]; exact Z c hc) hf ht (by omega)
    rw [m3] at s3
    rw [NB_un s3 (c3 yy)] at s1
    rw [cif_t yy, cif_t yy]
    simp only []
    rw [if_neg (show ¬ (1 : Int) = 0 by decide), s1]
    exact ⟨_, h2, g2, rfl, f2, rfl, MF_MG (MF_trans m2 s2)⟩
  · rw [cif_f yy, cif_f yy]
    exact ⟨_, h2, g1, rfl, f2, rfl, MF_MG m2⟩
