/-! the class's scenes: who falls, days -/
section Cb
variable {h : pH} {a p q : Nat} {L W wt sv S : Nat → Int} {u : Bool} {d : Nat}
theorem SF_lo {a b : Nat} (ha : 303 ≤ a) (h : SF a b) : 303 ≤ b := by unfold SF at h; omega
theorem SC_CX {h' : pH} (C : CX h p q L W) (ha : 303 ≤ a) (f : fr (SF a) h h') : CX h' p q L W := CX_fr C f (fun b hb => SF_lo ha hb)
theorem br_bd {tk c : Int} (kL : LK L) (h0 : 0 ≤ S c.toNat + tk) : 0 ≤ br L S tk c := by
  have := kL.2.1
  unfold br
  exact Int.ediv_nonneg (Int.mul_nonneg h0 h0) (by omega)
theorem c_bearAt {c : Nat} (C : CX h p q L W) (hS : 0 ≤ S c ∧ S c ≤ 99) : pf_La_bearing p (S c) h = some (br L S 0 c) := by
  rw [c_bearing C hS.1 (by omega)]
  unfold br
  rw [Int.toNat_natCast, Int.add_zero]
theorem c_ff (C : CX h p q L W) (K : SC h a p q L W wt sv u S) (V : SV L S d) : pf_Sc_nextToFall a h = some (ff L W S wt 0) := by
  have kL := C.2.2.1
  have z : 4 ≤ ce L ∧ ce L ≤ 36 := sz_mul kL.1
  have n6 := NS_le kL
  have en := NS_eq kL
  obtain ⟨⟨ha, ea, eb⟩, k1, k2, k3, k4, k5⟩ := K
  have e11 := C.1.1.2.2.2.2
  unfold pf_Sc_nextToFall
  have main := lpf (F := fun n (i : Nat) (_ : Unit) => pl_Sc_nextToFall_2 a h (fun x1 => some x1) (some (-1)) n i) (Q := fun r => r = some (ff L W S wt 0)) (NS L) (fun i _ => ff L W S wt 0 = fnd (ffP L W S wt 0) i (NS L - i)) (fun n i _ hi e => by
    have t : ((i : Nat) : Int) = (i : Int) := rfl
    have v := (k4 i hi).1
    have r := V.2.2.1 i hi
    rw [show NS L - i = (NS L - (i + 1)) + 1 by omega, fnd] at e
    show pl_Sc_nextToFall_2 a h _ _ (n + 1) i = _ ∨ _
    rw [pl_Sc_nextToFall_2, ea, e11, if_neg (by omega)]
    simp (disch := omega) only [gib, Int.toNat_natCast, v, wr_eq]
    by_cases q2 : S (72 + i) < 0
    · have qf : ¬ ffP L W S wt 0 i = true := by unfold ffP; rw [Bool.and_eq_true, decide_eq_true_eq, decide_eq_true_eq]; omega
      rw [if_pos q2]
      rw [if_neg qf] at e
      exact Or.inr ⟨(), rfl, e⟩
    · rw [if_neg q2]
      have hc : ((S (72 + i)).toNat : Int) < ce L := by omega
      have ec : (((S (72 + i)).toNat : Nat) : Int) = S (72 + i) := by omega
      have rt := V.1 _ hc
      have e1 := k1 _ hc (Or.inr ⟨i, hi, ec.symm⟩)
      have e3 := (k3 _ hc).1
      rw [ec] at e3
      simp (disch := omega) only [gib, e1, e3]
      rw [c_bearAt C rt, bsm, ec]
      by_cases q3 : ld L W S wt (-1) (S (72 + i)) ≤ br L S 0 (S (72 + i))
      · have qf : ¬ ffP L W S wt 0 i = true := by unfold ffP; rw [Bool.and_eq_true, decide_eq_true_eq, decide_eq_true_eq]; omega
        rw [if_pos q3]
        rw [if_neg qf] at e
        exact Or.inr ⟨(), rfl, e⟩
      · have qf : ffP L W S wt 0 i = true := by unfold ffP; rw [Bool.and_eq_true, decide_eq_true_eq, decide_eq_true_eq]; omega
        rw [if_neg q3]
        rw [if_pos qf] at e
        exact Or.inl (by rw [e])) (fun n _ e => by
    show pl_Sc_nextToFall_2 a h _ _ (n + 1) (NS L : Nat) = _
    rw [Nat.sub_self, fnd] at e
    rw [pl_Sc_nextToFall_2, ea, e11, if_pos (by omega), e]) fu_ 0 () (by omega) (by unfold fu_; omega) rfl
  exact main
theorem SC_thick {c : Nat} {v : Int} (K : SC h a p q L W wt sv u S) (hc : c < 36) : SC (pwI h (a + 1) c v) a p q L W wt sv u (up1 S c v) := by
  obtain ⟨⟨ha, ea, eb⟩, k1, k2, k3, k4, k5⟩ := K
  have cg : ∀ s, s < NS L → up1 S c v (72 + s) = S (72 + s) := fun s _ => up1_n (by omega)
  refine ⟨⟨ha, ea, eb⟩, fun d hd hu => ?_, fun d hd => ?_, fun d hd => ?_, fun t ht => ?_, ?_, ?_⟩
  · by_cases e : d = c
    · rw [e, pi_wIs, up1_s]
    · rw [pi_wIi e, up1_n e]
      refine k1 d hd ?_
      rcases hu with y | ⟨t, ht, y⟩
      · exact Or.inl y
      · rw [cg t ht] at y; exact Or.inr ⟨t, ht, y⟩
  · rw [pi_wIa (by omega), up1_n (by omega)]; exact k2 d hd
  · rw [pi_wIa (by omega), pi_wIa (by omega), ld_c cg, ht_c cg]; exact k3 d hd
  · rw [pi_wIa (by omega), pi_wIa (by omega), pi_wIa (by omega), cg t ht]; exact k4 t ht
  · rw [pi_wIa (by omega), up1_n (by omega)]; exact k5.1
  · rw [pi_wIa (by omega), up1_n (by omega)]; exact k5.2
theorem c_settle_l {k1 k2 : pH → Option pH} (hW : WS L wt sv) : ∀ (m n i : Nat) (h : pH) (S : Nat → Int), i + m = 6 → m < n → CX h p q L W → SC h a p q L W wt sv u S → SV L S d → ∃ h', (pl_Sc_settle_2 a k1 k2 n i h = k1 h' ∨ pl_Sc_settle_2 a k1 k2 n i h = k2 h') ∧ fr (SF a) h h' ∧ SC h' a p q L W wt sv u (fl L W wt 0 m S) := by
  intro m
  induction m with
  | zero =>
    intro n i h S hi hn C K V
    obtain ⟨n, rfl⟩ : ∃ j, n = j + 1 := ⟨n - 1, by omega⟩
    exact ⟨h, Or.inr (by rw [pl_Sc_settle_2, if_pos (by omega)]), fr_refl, K⟩
  | succ m ih =>
    intro n i h S hi hn C K V
    obtain ⟨n, rfl⟩ : ∃ j, n = j + 1 := ⟨n - 1, by omega⟩
    have kL := C.2.2.1
    have z : 4 ≤ ce L ∧ ce L ≤ 36 := sz_mul kL.1
    have n6 := NS_le kL
    rw [pl_Sc_settle_2, if_neg (by omega), c_ff C K V, bsm, fl]
    by_cases q1 : ff L W S wt 0 < 0
    · have : ff L W S wt 0 = -1 := by
        rcases fnd_r (p := ffP L W S wt 0) (m := NS L) (i := 0) with e | e
        · exact e
        · unfold ff at q1; omega
      exact ⟨h, Or.inl (by rw [if_pos this]), fr_refl, by rw [if_pos q1]; exact K⟩
    · rw [if_neg (by omega : ¬ ff L W S wt 0 = -1), if_neg q1]
      obtain ⟨q2, q3⟩ := ff_st (L := L) (W := W) (S := S) (wt := wt) (tk := 0) (by omega)
      have r := V.2.2.1 _ q2
      have e : ff L W S wt 0 = ((ff L W S wt 0).toNat : Nat) := by omega
      have V2 := SV_fa1 V kL q2 q3
      generalize (ff L W S wt 0).toNat = s at *
      rw [e]
      have v := (K.2.2.2.2.1 s q2).1
      simp (disch := omega) only [gib, Int.toNat_natCast, v]
      have f1 : fr (SF a) h (pwI h (a + 1) (S (72 + s)).toNat 0) := fr_wI fr_refl (by unfold SF; omega)
      have K1 := SC_thick (c := (S (72 + s)).toNat) (v := 0) K (by omega)
      have C1 := SC_CX C K.1.1 f1
      have eu : up1 S (S (72 + s)).toNat 0 (72 + s) = S (72 + s) := up1_n (by omega)
      obtain ⟨h2, p1, p2, p3⟩ := c_lift (s := s) (v := -2) C1 K1 hW q2 (by rw [eu]; exact q3) (by rw [eu]; exact r.2) (by omega)
      rw [p1, bsm, wr_eq (by omega) (by omega)]
      obtain ⟨h3, r1, r2, r3⟩ := ih n (i + 1) h2 (fa1 S s) (by omega) (by omega) (SC_CX C1 K.1.1 p2) p3 V2
      exact ⟨h3, r1, fr_trans (fr_trans f1 p2) r2, r3⟩
theorem c_settle (hW : WS L wt sv) (C : CX h p q L W) (K : SC h a p q L W wt sv u S) (V : SV L S d) : ∃ h', pf_Sc_settle a h = some h' ∧ fr (SF a) h h' ∧ SC h' a p q L W wt sv u (fl L W wt 0 6 S) := by
  unfold pf_Sc_settle
  obtain ⟨h', e, f, g⟩ := c_settle_l (a := a) (u := u) (d := d) (k1 := fun h => some h) (k2 := fun h => some h) hW 6 fu_ 0 h S (by omega) (by unfold fu_; omega) C K V
  exact ⟨h', by rcases e with e | e <;> exact e, f, g⟩
theorem clp_mm {v : Int} : max 0 (min 99 v) = clp v := by
  unfold clp
  split
  · omega
  · split <;> omega
theorem c_freeze {c : Nat} {f x y t : Int} (hc : c < 36) (e1 : pi h (a + 1) c = x) (e2 : pi h (a + 2) c = y) (e4 : pi h (a + 4) c = t) (hx : 0 ≤ x ∧ x ≤ 99) (hy : 0 ≤ y ∧ y ≤ 9) (ht : 0 ≤ t ∧ t ≤ 1000) (f0 : -100 ≤ f) (f1 : f ≤ 100) : pf_Sc_freeze a c f h = some (pwI h (a + 1) c (clp (x + (if 0 < f then (if y < f then f - y else 0) else f) - t))) := by
  unfold pf_Sc_freeze pj_Sc_freeze_20
  by_cases q1 : f ≤ 0
  · rw [if_pos q1, if_neg (by omega)]
    simp (disch := omega) only [gib, Int.toNat_natCast, e1, e4, wr_eq, clp_mm]
  · rw [if_neg q1, if_pos (by omega)]
    simp (disch := omega) only [gib, Int.toNat_natCast, e1, e2, e4]
    have em : max 0 (wr (f - y)) = if y < f then f - y else 0 := by
      rw [wr_eq (by omega) (by omega)]
      split <;> omega
    rw [em]
    have hb : 0 ≤ (if y < f then f - y else 0) ∧ (if y < f then f - y else 0) ≤ 100 := by split <;> omega
    simp (disch := omega) only [wr_eq, clp_mm]
theorem c_pay (C : CX h p q L W) (K : SC h a p q L W wt sv u S) (V1 : ∀ c : Nat, (c : Int) < ce L → 0 ≤ S c ∧ S c ≤ 99) (V3 : ∀ s : Nat, s < NS L → -2 ≤ S (72 + s) ∧ S (72 + s) < ce L) (V5 : 0 ≤ S 78 ∧ S 78 ≤ 100000) (V6 : 0 ≤ S 79 ∧ S 79 ≤ 1000000000) : ∃ h', pf_Sc_pay a h = some h' ∧ fr (SF a) h h' ∧ SC h' a p q L W wt sv u (up1 (up1 S 78 (S 78 + 1)) 79 (S 79 + due W S (NS L))) := by
  have kL := C.2.2.1
  have kW := C.2.2.2.1
  have z : 4 ≤ ce L ∧ ce L ≤ 36 := sz_mul kL.1
  have n6 := NS_le kL
  have en := NS_eq kL
  have K0 := K
  obtain ⟨⟨ha, ea, eb⟩, k1, k2, k3, k4, k5⟩ := K
  unfold pf_Sc_pay
  rw [k5.1, wr_eq (by omega) (by omega)]
  refine lpf (F := fun n (i : Nat) h => pl_Sc_pay_12 a (fun h => some h) n i h) (Q := fun r => ∃ h', r = some h' ∧ fr (SF a) h h' ∧ SC h' a p q L W wt sv u (up1 (up1 S 78 (S 78 + 1)) 79 (S 79 + due W S (NS L)))) (NS L) (fun i t => fr (fun b => b = a) h t ∧ pr t a = pr h a ∧ pi t a 9 = S 78 + 1 ∧ pi t a 10 = S 79 + due W S i) ?_ ?_ fu_ 0 _ (by omega) (by unfold fu_; omega) ?_
  · intro n i t hi ⟨f, er, e9, e10⟩
    right
    have C1 : CX t p q L W := CX_fr C f (fun b hb => by omega)
    have v := (k4 i hi).1
    have e5 : pi t (a + 5) = pi h (a + 5) := fr_fi f (by omega)
    have e1 : pi t (a + 1) = pi h (a + 1) := fr_fi f (by omega)
    have r := V3 i hi
    have db := due_bd (W := W) (S := S) kW (n := i) (fun s hs h0 => V1 _ (by have := V3 s (by omega); omega))
    show ∃ t', pl_Sc_pay_12 a _ (n + 1) i t = pl_Sc_pay_12 a _ n (i + 1 : Nat) t' ∧ _
    rw [pl_Sc_pay_12, er, ea, eb, C1.1.1.2.2.2.2, if_neg (by omega), due]
    simp (disch := omega) only [gib, Int.toNat_natCast, e5, e1, v, wr_eq]
    by_cases q2 : S (72 + i) < 0
    · refine ⟨t, by rw [if_pos q2]; rfl, f, er, e9, ?_⟩
      rw [if_neg (by omega)]; omega
    · rw [if_neg q2]
      have hc : ((S (72 + i)).toNat : Int) < ce L := by omega
      have ec : (((S (72 + i)).toNat : Nat) : Int) = S (72 + i) := by omega
      have rt := V1 _ hc
      have ev := k1 _ hc (Or.inr ⟨i, hi, ec.symm⟩)
      have mm := mb kW.2.2.2.1.1 kW.2.2.2.1.2 rt.1 rt.2
      simp (disch := omega) only [gib, ev]
      rw [c_dueFor C1 rt.1 rt.2, bsm, e10, wr_eq (by omega) (by omega)]
      refine ⟨_, rfl, fr_wI f rfl, funext fun j => by rw [pr_wI]; exact congrFun er j, ?_, ?_⟩
      · rw [pi_wIi (by omega)]; exact e9
      · rw [pi_wIs, if_pos (by omega)]; omega
  · intro n t ⟨f, er, e9, e10⟩
    have C1 : CX t p q L W := CX_fr C f (fun b hb => by omega)
    refine ⟨t, ?_, fr_mono f (fun b hb => by unfold SF; omega), ?_⟩
    · show pl_Sc_pay_12 a _ (n + 1) (NS L : Nat) t = _
      rw [pl_Sc_pay_12, er, ea, C1.1.1.2.2.2.2, if_pos (by omega)]
    · have cg : ∀ s, s < NS L → up1 (up1 S 78 (S 78 + 1)) 79 (S 79 + due W S (NS L)) (72 + s) = S (72 + s) := fun s hs => by rw [up1_n (by omega), up1_n (by omega)]
      have y : ∀ i, 1 ≤ i → pi t (a + i) = pi h (a + i) := fun i hi => fr_fi f (by omega)
      refine ⟨⟨ha, by rw [er]; exact ea, by rw [er]; exact eb⟩, fun c hc hu => ?_, fun c hc => ?_, fun c hc => ?_, fun s hs => ?_, ?_, ?_⟩
      · rw [y 1 (by omega), up1_n (by omega), up1_n (by omega)]
        refine k1 c hc ?_
        rcases hu with w | ⟨s, hs, w⟩
        · exact Or.inl w
        · rw [cg s hs] at w; exact Or.inr ⟨s, hs, w⟩
      · rw [y 2 (by omega), up1_n (by omega), up1_n (by omega)]; exact k2 c hc
      · rw [y 3 (by omega), y 4 (by omega), ld_c cg, ht_c cg]; exact k3 c hc
      · rw [y 5 (by omega), y 6 (by omega), y 7 (by omega), cg s hs]; exact k4 s hs
      · rw [e9, up1_n (by omega), up1_s]
      · rw [e10, up1_s]
  · refine ⟨fr_wI fr_refl rfl, funext fun j => pr_wI, pi_wIs, ?_⟩
    rw [pi_wIi (by omega), k5.2, due, Int.add_zero]
theorem SV_c {T : Nat → Int} (V : SV L S d) (e : ∀ i, i < 80 → S i = T i) (kL : LK L) : SV L T d := by
  have z : 4 ≤ ce L ∧ ce L ≤ 36 := sz_mul kL.1
  have n6 := NS_le kL
  obtain ⟨a1, a2, a3, a4, a5, a6⟩ := V
  refine ⟨fun c hc => ?_, fun c hc => ?_, fun s hs => ?_, fun s t h1 h2 h3 => ?_, ?_, ?_⟩
  · rw [← e _ (by omega)]; exact a1 c hc
  · rw [← e _ (by omega)]; exact a2 c hc
  · rw [← e _ (by omega)]; exact a3 s hs
  · rw [← e _ (by omega)] at h3 ⊢; rw [← e _ (by omega)]; exact a4 s t h1 h2 h3
  · rw [← e _ (by omega)]; exact a5
  · rw [← e _ (by omega)]; exact a6
theorem c_passDay {f : Int} (hW : WS L wt sv) (C : CX h p q L W) (K : SC h a p q L W wt sv false S) (V : SV L S d) (hd : d ≤ 1000) (f0 : -100 ≤ f) (f1 : f ≤ 100) : ∃ h', pf_Sc_passDay a f h = some h' ∧ fr (SF a) h h' ∧ SC h' a p q L W wt sv false (pday L W wt sv 0 f S) := by
  have kL := C.2.2.1
  have kW := C.2.2.2.1
  have z : 4 ≤ ce L ∧ ce L ≤ 36 := sz_mul kL.1
  have n6 := NS_le kL
  obtain ⟨⟨ha, ea, eb⟩, k1, k2, k3, k4, k5⟩ := K
  have V2 := SV_pd2 (W := W) (sv := sv) (f := f) V kL kW
  unfold pf_Sc_passDay
  refine lpf (F := fun n (i : Nat) h => pl_Sc_passDay_2 a f (fun h => (pf_Sc_pay a h).bind fun v3 => ((pf_Sc_settle a v3).bind fun v4 => (some v4))) n i h) (Q := fun r => ∃ h', r = some h' ∧ fr (SF a) h h' ∧ SC h' a p q L W wt sv false (pday L W wt sv 0 f S)) (ce L).toNat (fun i t => fr (fun b => b = a + 1) h t ∧ ∀ c : Nat, (c : Int) < ce L → pi t (a + 1) c = if c < i then dcl L S sv f c else S c) ?_ ?_ fu_ 0 h (by omega) (by unfold fu_; omega) ⟨fr_refl, fun c hc => by rw [if_neg (by omega)]; exact k1 c hc (Or.inl rfl)⟩
  · intro n i t hi ⟨g, e⟩
    right
    have C1 : CX t p q L W := CX_fr C g (fun b hb => by omega)
    have hc : (i : Int) < ce L := by omega
    have e1 := e i hc
    rw [if_neg (by omega)] at e1
    have hr := ht_bd (S := S) (x := i) kL hW
    show ∃ t', pl_Sc_passDay_2 a f _ (n + 1) i t = pl_Sc_passDay_2 a f _ n (i + 1 : Nat) t' ∧ _
    rw [pl_Sc_passDay_2, fr_r g (by omega), ea, c_cells C1, bsm, if_neg (by omega), c_freeze (x := S i) (y := S (36 + i)) (t := ht L S sv i) (by omega) e1 (by rw [fr_i g (by omega)]; exact k2 i hc) (by rw [fr_i g (by omega)]; exact (k3 i hc).2) (V.1 i hc) (V.2.1 i hc) hr f0 f1, bsm, wr_eq (by omega) (by omega)]
    refine ⟨_, rfl, fr_wI g rfl, fun c hc => ?_⟩
    by_cases q1 : c = i
    · rw [q1, pi_wIs, if_pos (show i < i + 1 by omega)]; rfl
    · rw [pi_wIi q1, e c hc]
      by_cases q2 : c < i
      · rw [if_pos q2, if_pos (by omega)]
      · rw [if_neg q2, if_neg (by omega)]
  · intro n t ⟨g, e⟩
    have C1 : CX t p q L W := CX_fr C g (fun b hb => by omega)
    have y : ∀ i, i ≠ 1 → pi t (a + i) = pi h (a + i) := fun i hi => fr_fi g (by omega)
    have y0 : pi t a = pi h a := fr_fi g (by omega)
    have er : pr t a = pr h a := fr_fr g (by omega)
    have pn : ∀ i : Nat, ¬ (i : Int) < ce L → pd1 L S sv f i = S i := fun i hi => if_neg hi
    have cg : ∀ s, s < NS L → pd1 L S sv f (72 + s) = S (72 + s) := fun s hs => pn _ (by omega)
    have K1 : SC t a p q L W wt sv false (pd1 L S sv f) := by
      refine ⟨⟨ha, by rw [er]; exact ea, by rw [er]; exact eb⟩, fun c hc hu => ?_, fun c hc => ?_, fun c hc => ?_, fun s hs => ?_, ?_, ?_⟩
      · rw [e c hc, if_pos (by omega)]; exact (if_pos hc).symm
      · rw [y 2 (by omega), pn _ (by omega)]; exact k2 c hc
      · rw [y 3 (by omega), y 4 (by omega), ld_c cg, ht_c cg]; exact k3 c hc
      · rw [y 5 (by omega), y 6 (by omega), y 7 (by omega), cg s hs]; exact k4 s hs
      · rw [y0, pn _ (by omega)]; exact k5.1
      · rw [y0, pn _ (by omega)]; exact k5.2
    have p2 : ∀ i : Nat, i < 78 → pd2 L W S sv f i = pd1 L S sv f i := fun i hi => by unfold pd2; rw [up1_n (by omega), up1_n (by omega)]
    obtain ⟨h2, q1, q2, q3⟩ := c_pay C1 K1 (fun c hc => by rw [← p2 c (by omega)]; exact V2.1 c hc) (fun s hs => by rw [cg s hs]; exact V.2.2.1 s hs) (by rw [pn _ (by omega)]; have := V.2.2.2.2.1; omega) (by rw [pn _ (by omega)]; have := V.2.2.2.2.2; omega)
    have ep : up1 (up1 (pd1 L S sv f) 78 (pd1 L S sv f 78 + 1)) 79 (pd1 L S sv f 79 + due W (pd1 L S sv f) (NS L)) = pd2 L W S sv f := by
      unfold pd2
      rw [pn 78 (by omega), pn 79 (by omega)]
    rw [ep] at q3
    obtain ⟨h3, r1, r2, r3⟩ := c_settle hW (SC_CX C1 ha q2) q3 V2
    refine ⟨h3, ?_, fr_trans (fr_mono g (fun b hb => by unfold SF; omega)) (fr_trans q2 r2), r3⟩
    show pl_Sc_passDay_2 a f _ (n + 1) ((ce L).toNat : Nat) t = _
    rw [pl_Sc_passDay_2, er, ea, c_cells C1, bsm, if_pos (by omega), q1, bsm, r1]
    rfl
theorem c_frost (C : CX h p q L W) (K : SC h a p q L W wt sv u S) (h0 : 0 ≤ S 78) : pf_Sc_frost a h = some (fro L S) := by
  have k3 := C.2.2.1.2.2.1
  obtain ⟨⟨ha, ea, eb⟩, -, -, -, -, k5⟩ := K
  have m1 := Int.emod_nonneg (S 78) (b := L 3) (by omega)
  have m2 := Int.emod_lt_of_pos (S 78) (b := L 3) (by omega)
  have e := C.1.2.2.1 (S 78 % L 3).toNat (by omega)
  unfold pf_Sc_frost fro
  rw [ea, C.1.1.2.2.2.1, k5.1, if_pos (by omega), gnz (by omega), tm_p h0, gib (by omega) (by omega), e]
theorem c_day (hW : WS L wt sv) (C : CX h p q L W) (K : SC h a p q L W wt sv false S) (V : SV L S d) (hd : d ≤ 1000) : ∃ h', ((pf_Sc_frost a h).bind fun f => pf_Sc_passDay a f h) = some h' ∧ fr (SF a) h h' ∧ SC h' a p q L W wt sv false (aday L W wt sv 0 S) := by
  have fb := fro_bd (S := S) C.2.2.1 V.2.2.2.2.1.1
  obtain ⟨h1, p1, p2, p3⟩ := c_passDay (f := fro L S) hW C K V hd (by omega) (by omega)
  rw [c_frost C K V.2.2.2.2.1.1, bsm]
  exact ⟨h1, p1, p2, p3⟩
end Cb
