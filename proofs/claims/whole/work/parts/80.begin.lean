/-! the class's scenes: under shops alone, begun, copied -/
/-! states that are one in their first 80 places -/
def E8 (S T : Nat → Int) : Prop := ∀ j, j < 80 → S j = T j
section Cx
variable {h : pH} {a p q : Nat} {L W wt sv S T : Nat → Int} {u : Bool} {d : Nat}
theorem SC_ext (kL : LK L) (e : E8 S T) (K : SC h a p q L W wt sv u S) : SC h a p q L W wt sv u T := by
  have z : 4 ≤ ce L ∧ ce L ≤ 36 := sz_mul kL.1
  have n6 := NS_le kL
  have cg : ∀ s, s < NS L → S (72 + s) = T (72 + s) := fun s hs => e _ (by omega)
  obtain ⟨k0, k1, k2, k3, k4, k5⟩ := K
  refine ⟨k0, fun c hc hu => ?_, fun c hc => ?_, fun c hc => ?_, fun s hs => ?_, ?_, ?_⟩
  · rw [← e c (by omega)]
    refine k1 c hc ?_
    rcases hu with w | ⟨s, hs, w⟩
    · exact Or.inl w
    · exact Or.inr ⟨s, hs, by rw [cg s hs]; exact w⟩
  · rw [← e _ (by omega)]; exact k2 c hc
  · rw [← ld_c cg, ← ht_c cg]; exact k3 c hc
  · rw [← cg s hs]; exact k4 s hs
  · rw [← e _ (by omega)]; exact k5.1
  · rw [← e _ (by omega)]; exact k5.2
theorem ff_ext (kL : LK L) {tk : Int} (V : SV L S d) (e : E8 S T) : ff L W S wt tk = ff L W T wt tk := by
  have z : 4 ≤ ce L ∧ ce L ≤ 36 := sz_mul kL.1
  have n6 := NS_le kL
  have cg : ∀ s, s < NS L → S (72 + s) = T (72 + s) := fun s hs => e _ (by omega)
  unfold ff
  refine fnd_c (fun j _ hj => ?_)
  have r := V.2.2.1 j (by omega)
  unfold ffP br
  rw [← cg j (by omega), ← ld_c cg]
  by_cases q : 0 ≤ S (72 + j)
  · rw [e (S (72 + j)).toNat (by omega)]
  · rw [decide_eq_false q]; rfl
theorem fa1_ext {s : Nat} (e : E8 S T) (hs : s < 6) : E8 (fa1 S s) (fa1 T s) := by
  intro j hj
  unfold fa1
  rw [e (72 + s) (by omega)]
  by_cases y : j = 72 + s
  · rw [y, up1_s, up1_s]
  · rw [up1_n y, up1_n y]
    by_cases y2 : j = (T (72 + s)).toNat
    · rw [y2, up1_s, up1_s]
    · rw [up1_n y2, up1_n y2]; exact e j hj
theorem fl_ext_n (kL : LK L) {tk : Int} : ∀ {n : Nat} {S T : Nat → Int}, SV L S d → E8 S T → E8 (fl L W wt tk n S) (fl L W wt tk n T)
  | 0, S, T, _, e => e
  | n + 1, S, T, V, e => by
    rw [fl, fl, ← ff_ext kL V e]
    split
    · exact e
    · rename_i q
      obtain ⟨q1, q2⟩ := ff_st (L := L) (W := W) (S := S) (wt := wt) (tk := tk) (by omega)
      have n6 := NS_le kL
      exact fl_ext_n kL (SV_fa1 V kL q1 q2) (fa1_ext e (by omega))
theorem fl_ext (kL : LK L) {tk : Int} (V : SV L S d) (e : E8 S T) : E8 (fl L W wt tk 6 S) (fl L W wt tk 6 T) := fl_ext_n kL V e
theorem pd1_ext (kL : LK L) {f : Int} (e : E8 S T) : E8 (pd1 L S sv f) (pd1 L T sv f) := by
  have z : 4 ≤ ce L ∧ ce L ≤ 36 := sz_mul kL.1
  have n6 := NS_le kL
  have cg : ∀ s, s < NS L → S (72 + s) = T (72 + s) := fun s hs => e _ (by omega)
  intro j hj
  unfold pd1
  by_cases y : (j : Int) < ce L
  · rw [if_pos y, if_pos y]
    unfold dcl grw
    rw [e j hj, e (36 + j) (by omega), ht_c cg]
  · rw [if_neg y, if_neg y]; exact e j hj
theorem pd2_ext (kL : LK L) {f : Int} (V : SV L S d) (e : E8 S T) : E8 (pd2 L W S sv f) (pd2 L W T sv f) := by
  have z : 4 ≤ ce L ∧ ce L ≤ 36 := sz_mul kL.1
  have n6 := NS_le kL
  have e1 := pd1_ext (sv := sv) (f := f) kL e
  have ed : due W (pd1 L S sv f) (NS L) = due W (pd1 L T sv f) (NS L) := due_c (fun s hs => e1 _ (by omega)) (fun s hs h0 => e1 _ (by
    have : pd1 L S sv f (72 + s) = S (72 + s) := if_neg (by omega)
    rw [this]
    have := V.2.2.1 s hs
    omega))
  intro j hj
  unfold pd2
  rw [ed, e 78 (by omega), e 79 (by omega)]
  by_cases y : j = 79
  · rw [y, up1_s, up1_s]
  · rw [up1_n y, up1_n y]
    by_cases y2 : j = 78
    · rw [y2, up1_s, up1_s]
    · rw [up1_n y2, up1_n y2]; exact e1 j hj
theorem pday_ext (kL : LK L) (kW : WK W) {tk f : Int} (V : SV L S d) (e : E8 S T) : E8 (pday L W wt sv tk f S) (pday L W wt sv tk f T) := fl_ext kL (SV_pd2 V kL kW) (pd2_ext kL V e)
theorem aday_ext (kL : LK L) (kW : WK W) {tk : Int} (V : SV L S d) (e : E8 S T) : E8 (aday L W wt sv tk S) (aday L W wt sv tk T) := by
  unfold aday
  have : fro L S = fro L T := by unfold fro; rw [e 78 (by omega)]
  rw [this]
  exact pday_ext kL kW V e
end Cx
section Cc
variable {h : pH} {a b p q : Nat} {L W wt sv S : Nat → Int} {u : Bool} {d : Nat}
theorem c_under {f : Int} (hW : WS L wt sv) (C : CX h p q L W) (K : SC h a p q L W wt sv u S) (V : SV L S d) (hd : d ≤ 1000) (f0 : -100 ≤ f) (f1 : f ≤ 100) : ∃ h', pf_Sc_passDayUnderShops a f h = some h' ∧ fr (SF a) h h' ∧ SC h' a p q L W wt sv true (pday L W wt sv 0 f S) := by
  have kL := C.2.2.1
  have kW := C.2.2.2.1
  have z : 4 ≤ ce L ∧ ce L ≤ 36 := sz_mul kL.1
  have n6 := NS_le kL
  have en := NS_eq kL
  obtain ⟨⟨ha, ea, eb⟩, k1, k2, k3, k4, k5⟩ := K
  have V2 := SV_pd2 (W := W) (sv := sv) (f := f) V kL kW
  unfold pf_Sc_passDayUnderShops
  refine lpf (F := fun n (i : Nat) h => pl_Sc_passDayUnderShops_2 a f (fun h => (pf_Sc_pay a h).bind fun v3 => ((pf_Sc_settle a v3).bind fun v4 => (some v4))) n i h) (Q := fun r => ∃ h', r = some h' ∧ fr (SF a) h h' ∧ SC h' a p q L W wt sv true (pday L W wt sv 0 f S)) (NS L) (fun i t => fr (fun b => b = a + 1) h t ∧ ∀ s : Nat, s < NS L → 0 ≤ S (72 + s) → pi t (a + 1) (S (72 + s)).toNat = if s < i then dcl L S sv f (S (72 + s)).toNat else S (S (72 + s)).toNat) ?_ ?_ fu_ 0 h (by omega) (by unfold fu_; omega) ⟨fr_refl, fun s hs h0 => by rw [if_neg (by omega)]; have := V.2.2.1 s hs; exact k1 _ (by omega) (Or.inr ⟨s, hs, by omega⟩)⟩
  · intro n i t hi ⟨g, e⟩
    right
    have C1 : CX t p q L W := CX_fr C g (fun b hb => by omega)
    have r := V.2.2.1 i hi
    have v : pi t (a + 5) i = S (72 + i) := by rw [fr_i g (by omega)]; exact (k4 i hi).1
    show ∃ t', pl_Sc_passDayUnderShops_2 a f _ (n + 1) i t = pl_Sc_passDayUnderShops_2 a f _ n (i + 1 : Nat) t' ∧ _
    rw [pl_Sc_passDayUnderShops_2, fr_r g (by omega), ea, C1.1.1.2.2.2.2, if_neg (by omega)]
    simp (disch := omega) only [gib, Int.toNat_natCast, v]
    by_cases q2 : S (72 + i) < 0
    · rw [if_pos q2, wr_eq (by omega) (by omega)]
      refine ⟨t, rfl, g, fun s hs h0 => ?_⟩
      have : s ≠ i := fun y => by rw [y] at h0; omega
      rw [e s hs h0]
      by_cases q3 : s < i
      · rw [if_pos q3, if_pos (by omega)]
      · rw [if_neg q3, if_neg (by omega)]
    · rw [if_neg q2]
      have hc : ((S (72 + i)).toNat : Int) < ce L := by omega
      have ec : (((S (72 + i)).toNat : Nat) : Int) = S (72 + i) := by omega
      have e1 := e i hi (by omega)
      rw [if_neg (by omega)] at e1
      have hr := ht_bd (S := S) (x := ((S (72 + i)).toNat : Nat)) kL hW
      have fz := c_freeze (h := t) (a := a) (c := (S (72 + i)).toNat) (f := f) (by omega) e1 (by rw [fr_i g (by omega)]; exact k2 _ hc) (by rw [fr_i g (by omega)]; exact (k3 _ hc).2) (V.1 _ hc) (V.2.1 _ hc) hr f0 f1
      rw [ec] at fz
      rw [fz, bsm, wr_eq (by omega) (by omega)]
      refine ⟨_, rfl, fr_wI g rfl, fun s hs h0 => ?_⟩
      by_cases q3 : s = i
      · rw [q3, pi_wIs, if_pos (show i < i + 1 by omega)]
        unfold dcl grw
        rw [ec]
      · have ne : (S (72 + s)).toNat ≠ (S (72 + i)).toNat := by
          rcases Nat.lt_or_gt_of_ne q3 with y | y
          · have := V.2.2.2.1 s i y hi h0; omega
          · have := V.2.2.2.1 i s y hs (by omega); omega
        rw [pi_wIi ne, e s hs h0]
        by_cases q4 : s < i
        · rw [if_pos q4, if_pos (by omega)]
        · rw [if_neg q4, if_neg (by omega)]
  · intro n t ⟨g, e⟩
    have C1 : CX t p q L W := CX_fr C g (fun b hb => by omega)
    have y : ∀ i, i ≠ 1 → pi t (a + i) = pi h (a + i) := fun i hi => fr_fi g (by omega)
    have y0 : pi t a = pi h a := fr_fi g (by omega)
    have er : pr t a = pr h a := fr_fr g (by omega)
    have pn : ∀ i : Nat, ¬ (i : Int) < ce L → pd1 L S sv f i = S i := fun i hi => if_neg hi
    have cg : ∀ s, s < NS L → pd1 L S sv f (72 + s) = S (72 + s) := fun s hs => pn _ (by omega)
    have K1 : SC t a p q L W wt sv true (pd1 L S sv f) := by
      refine ⟨⟨ha, by rw [er]; exact ea, by rw [er]; exact eb⟩, fun c hc hu => ?_, fun c hc => ?_, fun c hc => ?_, fun s hs => ?_, ?_, ?_⟩
      · rcases hu with w | ⟨s, hs, w⟩
        · exact absurd w (by decide)
        · rw [cg s hs] at w
          have e1 := e s hs (by omega)
          rw [if_pos hs, w, Int.toNat_natCast] at e1
          rw [e1]; exact (if_pos hc).symm
      · rw [y 2 (by omega), pn _ (by omega)]; exact k2 c hc
      · rw [y 3 (by omega), y 4 (by omega), ld_c cg, ht_c cg]; exact k3 c hc
      · rw [y 5 (by omega), y 6 (by omega), y 7 (by omega), cg s hs]; exact k4 s hs
      · rw [y0, pn _ (by omega)]; exact k5.1
      · rw [y0, pn _ (by omega)]; exact k5.2
    have p2 : ∀ i : Nat, i < 78 → pd2 L W S sv f i = pd1 L S sv f i := fun i hi => by unfold pd2; rw [up1_n (by omega), up1_n (by omega)]
    obtain ⟨h2, q1, q2, q3⟩ := c_pay C1 K1 (fun c hc => by rw [← p2 c (by omega)]; exact V2.1 c hc) (fun s hs => by rw [cg s hs]; exact V.2.2.1 s hs) (by rw [pn _ (by omega)]; have := V.2.2.2.2.1; omega) (by rw [pn _ (by omega)]; have := V.2.2.2.2.2; omega)
    have ep : up1 (up1 (pd1 L S sv f) 78 (pd1 L S sv f 78 + 1)) 79 (pd1 L S sv f 79 + due W (pd1 L S sv f) (NS L)) = pd2 L W S sv f := by
      unfold pd2
      rw [pn 78 (by omega), pn 79 (by omega)]
    rw [ep] at q3
    obtain ⟨h3, r1, r2, r3⟩ := c_settle hW (SC_CX C1 ha q2) q3 V2
    refine ⟨h3, ?_, fr_trans (fr_mono g (fun b hb => by unfold SF; omega)) (fr_trans q2 r2), r3⟩
    show pl_Sc_passDayUnderShops_2 a f _ (n + 1) (NS L : Nat) t = _
    rw [pl_Sc_passDayUnderShops_2, er, ea, C1.1.1.2.2.2.2, if_pos (by omega), q1, bsm, r1]
    rfl
theorem c_uday (hW : WS L wt sv) (C : CX h p q L W) (K : SC h a p q L W wt sv u S) (V : SV L S d) (hd : d ≤ 1000) : ∃ h', ((pf_Sc_frost a h).bind fun f => pf_Sc_passDayUnderShops a f h) = some h' ∧ fr (SF a) h h' ∧ SC h' a p q L W wt sv true (aday L W wt sv 0 S) := by
  have fb := fro_bd (S := S) C.2.2.1 V.2.2.2.2.1.1
  obtain ⟨h1, p1, p2, p3⟩ := c_under (f := fro L S) hW C K V hd (by omega) (by omega)
  rw [c_frost C K V.2.2.2.2.1.1, bsm]
  exact ⟨h1, p1, p2, p3⟩
theorem SC_weak (K : SC h a p q L W wt sv false S) : SC h a p q L W wt sv u S := by
  obtain ⟨k0, k1, k2⟩ := K
  exact ⟨k0, fun c hc _ => k1 c hc (Or.inl rfl), k2⟩
theorem c_become (K : SC h b p q L W wt sv u S) (kL : LK L) (ha : 303 ≤ a) (hab : b + 7 < a ∨ a + 7 < b) : ∃ h', pf_Sc_become a b h = some h' ∧ fr (SF a) h h' ∧ SC h' a p q L W wt sv u S := by
  have z : 4 ≤ ce L ∧ ce L ≤ 36 := sz_mul kL.1
  have n6 := NS_le kL
  obtain ⟨⟨hb, ea, eb⟩, k1, k2, k3, k4, k5⟩ := K
  have m : ∀ i, i ≤ 7 → SF a (a + i) := fun i hi => by unfold SF; omega
  have m0 : SF a a := m 0 (by omega)
  unfold pf_Sc_become pj_Sc_become_121
  refine ⟨_, rfl, ?_, ⟨ha, ?_, ?_⟩, fun c hc hu => ?_, fun c hc => ?_, fun c hc => ?_, fun s hs => ?_, ?_, ?_⟩
  · exact fr_wI (fr_wI (fr_cpI (fr_cpI (fr_cpI (fr_cpI (fr_cpI (fr_cpI (fr_cpI (fr_wR (fr_wR fr_refl m0) m0) (m 1 (by omega))) (m 2 (by omega))) (m 3 (by omega))) (m 4 (by omega))) (m 5 (by omega))) (m 6 (by omega))) (m 7 (by omega))) m0) m0
  · simp only [pr_wI, pr_cpI]
    rw [pr_wRi (by decide), pr_wRs]; exact ea
  · simp only [pr_wI, pr_cpI]
    rw [pr_wRs, pr_wRa (by omega)]; exact eb
  · simp (disch := omega) only [pi_wIa, pi_cpIa, pi_cp0, pi_wR]
    exact k1 c hc hu
  · simp (disch := omega) only [pi_wIa, pi_cpIa, pi_cp0, pi_wR]
    exact k2 c hc
  · simp (disch := omega) only [pi_wIa, pi_cpIa, pi_cp0, pi_wR]
    exact k3 c hc
  · simp (disch := omega) only [pi_wIa, pi_cpIa, pi_cp0, pi_wR]
    exact k4 s hs
  · rw [pi_wIi (by decide), pi_wIs]
    simp (disch := omega) only [pi_wIa, pi_cpIa, pi_cp0, pi_wR]
    exact k5.1
  · rw [pi_wIs]
    simp (disch := omega) only [pi_wIa, pi_cpIa, pi_cp0, pi_wR]
    exact k5.2
def wt0 (L : Nat → Int) (s : Nat) : Int := L (237 + 4 * s)
def sv0 (L : Nat → Int) (s : Nat) : Int := L (238 + 4 * s)
theorem WS0 (kL : LK L) : WS L (wt0 L) (sv0 L) := by
  intro s hs
  have r := kL.2.2.2.2.2.2.2.2.2.1 s (by have := NS_eq kL; omega)
  unfold wt0 sv0
  omega
/-- as a state begins, the first i shops in their cells -/
def bg (L : Nat → Int) (i : Nat) : Nat → Int := fun j => if 72 ≤ j ∧ j < 78 then (if j - 72 < i then L (236 + 4 * (j - 72)) else -1) else an0 L (fun _ => 0) j
theorem one_out {T g : Nat → Int} {x : Int} : ∀ {n : Nat}, (∀ s, s < n → T (72 + s) < 0) → 0 ≤ x → one T g (-1) x n = 0 := fun h hx => one_z (fun s hs e => by have := h s hs; omega)
theorem ld_out {T : Nat → Int} {x : Int} (h : ∀ s, s < NS L → T (72 + s) < 0) (hx : 0 ≤ x) : ld L W T wt (-1) x = 0 ∧ ht L T sv x = 0 := by
  have o : ∀ (g : Nat → Int) (y : Int), on1 T g (-1) y (NS L) = 0 := fun g y => by
    unfold on1
    split
    · rfl
    · exact one_out h (by omega)
  unfold ld ht
  simp only [one_out h hx, o]
  omega
theorem c_begin (C : CX h p q L W) (ha : 303 ≤ a) (l3 : (kd_D (a + 3)).2 = 36) (l4 : (kd_D (a + 4)).2 = 36) (l5 : (kd_D (a + 5)).2 = 6) : ∃ h', pf_Sc_begin a p q h = some h' ∧ fr (SF a) h h' ∧ ∀ T, SC h' a p q L W (wt0 L) (sv0 L) false (anw L W (wt0 L) 0 T) := by
  have kL := C.2.2.1
  have z : 4 ≤ ce L ∧ ce L ≤ 36 := sz_mul kL.1
  have n6 := NS_le kL
  have en := NS_eq kL
  have p2 := C.2.2.2.2
  have hW := WS0 kL
  have m : ∀ i, i ≤ 7 → SF a (a + i) := fun i hi => by unfold SF; omega
  have m0 : SF a a := m 0 (by omega)
  unfold pf_Sc_begin pj_Sc_begin_64
  simp only [pr_wRi (show (0 : Nat) ≠ 1 by decide), pr_wRs, pr_cpI]
  have f0 : fr (SF a) h (pcpI (pcpI (pcpI (pcpI (pwR (pwR h a 0 p) a 1 q) (p + 1) (a + 1) 0 0 36) (p + 2) (a + 2) 0 0 36) (p + 7) (a + 6) 0 0 6) (p + 8) (a + 7) 0 0 6) := fr_cpI (fr_cpI (fr_cpI (fr_cpI (fr_wR (fr_wR fr_refl m0) m0) (m 1 (by omega))) (m 2 (by omega))) (m 6 (by omega))) (m 7 (by omega))
  have g0r : ∀ x, pr (pcpI (pcpI (pcpI (pcpI (pwR (pwR h a 0 p) a 1 q) (p + 1) (a + 1) 0 0 36) (p + 2) (a + 2) 0 0 36) (p + 7) (a + 6) 0 0 6) (p + 8) (a + 7) 0 0 6) a x = pr (pwR (pwR h a 0 p) a 1 q) a x := fun x => by simp only [pr_cpI]
  have g01 : ∀ c, c < 36 → pi (pcpI (pcpI (pcpI (pcpI (pwR (pwR h a 0 p) a 1 q) (p + 1) (a + 1) 0 0 36) (p + 2) (a + 2) 0 0 36) (p + 7) (a + 6) 0 0 6) (p + 8) (a + 7) 0 0 6) (a + 1) c = L (8 + c) := fun c hc => by
    simp (disch := omega) only [pi_cpIa, pi_cp0, pi_wR]
    exact (C.1.2.1 c hc).1
  have g02 : ∀ c, c < 36 → pi (pcpI (pcpI (pcpI (pcpI (pwR (pwR h a 0 p) a 1 q) (p + 1) (a + 1) 0 0 36) (p + 2) (a + 2) 0 0 36) (p + 7) (a + 6) 0 0 6) (p + 8) (a + 7) 0 0 6) (a + 2) c = L (44 + c) := fun c hc => by
    simp (disch := omega) only [pi_cpIa, pi_cp0, pi_wR]
    exact (C.1.2.1 c hc).2.1
  have g06 : ∀ s, s < NS L → pi (pcpI (pcpI (pcpI (pcpI (pwR (pwR h a 0 p) a 1 q) (p + 1) (a + 1) 0 0 36) (p + 2) (a + 2) 0 0 36) (p + 7) (a + 6) 0 0 6) (p + 8) (a + 7) 0 0 6) (a + 6) s = wt0 L s := fun s hs => by
    simp (disch := omega) only [pi_cpIa, pi_cp0, pi_wR]
    exact (C.1.2.2.2.1 s hs).2.1
  have g07 : ∀ s, s < NS L → pi (pcpI (pcpI (pcpI (pcpI (pwR (pwR h a 0 p) a 1 q) (p + 1) (a + 1) 0 0 36) (p + 2) (a + 2) 0 0 36) (p + 7) (a + 6) 0 0 6) (p + 8) (a + 7) 0 0 6) (a + 7) s = sv0 L s := fun s hs => by
    simp (disch := omega) only [pi_cpIa, pi_cp0, pi_wR]
    exact (C.1.2.2.2.1 s hs).2.2.1
  generalize pcpI (pcpI (pcpI (pcpI (pwR (pwR h a 0 p) a 1 q) (p + 1) (a + 1) 0 0 36) (p + 2) (a + 2) 0 0 36) (p + 7) (a + 6) 0 0 6) (p + 8) (a + 7) 0 0 6 = g at *
  obtain ⟨g1, q1, r1, v1⟩ := c_fill (v := 0) (h := g) l3 (by omega)
  rw [q1, bsm]
  obtain ⟨g2, q2, r2, v2⟩ := c_fill (v := 0) (h := g1) l4 (by omega)
  rw [q2, bsm]
  obtain ⟨g3, q3, r3, v3⟩ := c_fill (v := -1) (h := g2) l5 (by omega)
  rw [q3, bsm]
  have f3 : fr (SF a) h (pwI (pwI g3 a 9 0) a 10 0) := fr_wI (fr_wI (fr_trans (fr_trans (fr_trans f0 (fr_mono r1 (fun b hb => by rw [hb]; exact m 3 (by omega)))) (fr_mono r2 (fun b hb => by rw [hb]; exact m 4 (by omega)))) (fr_mono r3 (fun b hb => by rw [hb]; exact m 5 (by omega)))) m0) m0
  have bn : ∀ j, ¬ (72 ≤ j ∧ j < 78) → ∀ i, bg L i j = an0 L (fun _ => 0) j := fun j hj i => if_neg hj
  have ba : ∀ i s, s < 6 → bg L i (72 + s) = if s < i then L (236 + 4 * s) else -1 := fun i s hs => by
    unfold bg
    rw [if_pos (by omega), show 72 + s - 72 = s by omega]
  have K0 : SC (pwI (pwI g3 a 9 0) a 10 0) a p q L W (wt0 L) (sv0 L) false (bg L 0) := by
    refine ⟨⟨ha, ?_, ?_⟩, fun c hc hu => ?_, fun c hc => ?_, fun c hc => ?_, fun s hs => ?_, ?_, ?_⟩
    · rw [pr_wI, pr_wI, fr_r r3 (by omega), fr_r r2 (by omega), fr_r r1 (by omega), g0r, pr_wRi (by decide), pr_wRs]
    · rw [pr_wI, pr_wI, fr_r r3 (by omega), fr_r r2 (by omega), fr_r r1 (by omega), g0r, pr_wRs]
    · rw [pi_wIa (by omega), pi_wIa (by omega), fr_i r3 (by omega), fr_i r2 (by omega), fr_i r1 (by omega), g01 c (by omega), bn c (by omega)]
      unfold an0
      rw [if_neg (by omega), if_pos hc]
    · rw [pi_wIa (by omega), pi_wIa (by omega), fr_i r3 (by omega), fr_i r2 (by omega), fr_i r1 (by omega), g02 c (by omega), bn _ (by omega)]
      unfold an0
      rw [if_neg (by omega), if_neg (by omega), if_pos (by omega), show 36 + c - 36 = c by omega]
    · have o := ld_out (L := L) (W := W) (wt := wt0 L) (sv := sv0 L) (T := bg L 0) (x := c) (fun s hs => by rw [ba 0 s (by omega), if_neg (by omega)]; omega) (by omega)
      rw [pi_wIa (by omega), pi_wIa (by omega), pi_wIa (by omega), pi_wIa (by omega), fr_i r3 (by omega), fr_i r3 (by omega), fr_i r2 (by omega), v2 c, v1 c, if_pos (by omega), if_pos (by omega)]
      exact ⟨o.1.symm, o.2.symm⟩
    · rw [pi_wIa (by omega), pi_wIa (by omega), pi_wIa (by omega), pi_wIa (by omega), pi_wIa (by omega), pi_wIa (by omega), fr_i r3 (a := a + 6) (by omega), fr_i r3 (a := a + 7) (by omega), fr_i r2 (a := a + 6) (by omega), fr_i r2 (a := a + 7) (by omega), fr_i r1 (a := a + 6) (by omega), fr_i r1 (a := a + 7) (by omega), v3 s, if_pos (by omega), ba 0 s (by omega), if_neg (by omega)]
      exact ⟨rfl, g06 s hs, g07 s hs⟩
    · rw [pi_wIi (by decide), pi_wIs, bn _ (by omega)]
      unfold an0
      rw [if_neg (by omega), if_neg (by omega), if_neg (by omega), if_neg (by omega)]
    · rw [pi_wIs, bn _ (by omega)]
      unfold an0
      rw [if_neg (by omega), if_neg (by omega), if_neg (by omega), if_neg (by omega)]
  generalize pwI (pwI g3 a 9 0) a 10 0 = g4 at *
  clear v1 v2 v3 r1 r2 r3 q1 q2 q3 g01 g02 g06 g07 g0r f0
  refine lpf (F := fun n (i : Nat) h => pl_Sc_begin_118 a p q (fun h => (pf_Sc_settle a h).bind fun v6 => (some v6)) n i h) (Q := fun r => ∃ h', r = some h' ∧ fr (SF a) h h' ∧ ∀ T, SC h' a p q L W (wt0 L) (sv0 L) false (anw L W (wt0 L) 0 T)) (NS L) (fun i t => fr (SF a) h t ∧ SC t a p q L W (wt0 L) (sv0 L) false (bg L i)) ?_ ?_ fu_ 0 g4 (by omega) (by unfold fu_; omega) ⟨f3, K0⟩
  · intro n i t hi ⟨f, K⟩
    right
    have C1 := SC_CX C ha f
    have sc := C1.1.2.2.2.1 i hi
    have r := kL.2.2.2.2.2.2.2.2.2.1 i (by omega)
    show ∃ t', pl_Sc_begin_118 a p q _ (n + 1) i t = pl_Sc_begin_118 a p q _ n (i + 1 : Nat) t' ∧ _
    rw [pl_Sc_begin_118, K.1.2.1, C1.1.1.2.2.2.2, if_neg (by omega)]
    simp (disch := omega) only [gib, Int.toNat_natCast, sc.1]
    have ec : (((L (236 + 4 * i)).toNat : Nat) : Int) = L (236 + 4 * i) := by omega
    obtain ⟨t2, p1, p2, p3⟩ := c_lower (s := i) (c := (L (236 + 4 * i)).toNat) C1 K hW hi (by rw [ba i i (by omega), if_neg (by omega)]; omega) (by rw [ec]; exact r.1.2)
    rw [ec] at p1 p3
    rw [p1, bsm, wr_eq (by omega) (by omega)]
    refine ⟨t2, rfl, fr_trans f p2, ?_⟩
    have eb : up1 (bg L i) (72 + i) (L (236 + 4 * i)) = bg L (i + 1) := by
      funext j
      by_cases y : j = 72 + i
      · rw [y, up1_s, ba (i + 1) i (by omega), if_pos (by omega)]
      · rw [up1_n y]
        unfold bg
        by_cases y2 : 72 ≤ j ∧ j < 78
        · rw [if_pos y2, if_pos y2]
          by_cases y3 : j - 72 < i
          · rw [if_pos y3, if_pos (by omega)]
          · rw [if_neg y3, if_neg (by omega)]
        · rw [if_neg y2, if_neg y2]
    rw [eb] at p3
    exact p3
  · intro n t ⟨f, K⟩
    have C1 := SC_CX C ha f
    have eT : ∀ T, ∀ j, j < 80 → bg L (NS L) j = an0 L T j := fun T j hj => by
      unfold bg an0
      by_cases y : 72 ≤ j ∧ j < 78
      · rw [if_pos y, if_neg (show ¬ 80 ≤ j by omega), if_neg (show ¬ (j : Int) < ce L by omega), if_neg (show ¬ (36 ≤ j ∧ ((j - 36 : Nat) : Int) < ce L) by omega), if_pos y]
      · rw [if_neg y, if_neg (show ¬ 80 ≤ j by omega), if_neg (show ¬ 80 ≤ j by omega)]
    have V0 : SV L (bg L (NS L)) 0 := SV_c (SV_an0 (S := fun _ => 0) kL) (fun j hj => (eT _ j hj).symm) kL
    obtain ⟨h3, s1, s2, s3⟩ := c_settle hW C1 K V0
    refine ⟨h3, ?_, fr_trans f s2, fun T => ?_⟩
    · show pl_Sc_begin_118 a p q _ (n + 1) (NS L : Nat) t = _
      rw [pl_Sc_begin_118, K.1.2.1, C1.1.1.2.2.2.2, if_pos (by omega), s1]
      rfl
    · exact SC_ext kL (fl_ext kL V0 (eT T)) s3
end Cc
