/-! shops move and go off -/
theorem stp_sym {w a b : Int} : stp w a b = stp w b a := by unfold stp; omega
theorem stp_bd {w a b : Int} (hw : 2 ≤ w ∧ w ≤ 6) (a0 : 0 ≤ a ∧ a < 100) (b0 : 0 ≤ b ∧ b < 100) : 0 ≤ stp w a b ∧ stp w a b ≤ 200 := by
  unfold stp
  have : w = 2 ∨ w = 3 ∨ w = 4 ∨ w = 5 ∨ w = 6 := by omega
  rcases this with rfl | rfl | rfl | rfl | rfl <;> omega
/-- a stove stands too near to c -/
def hot (L W S sv : Nat → Int) (s c : Int) : Prop := ∃ t : Nat, t < NS L ∧ (t : Int) ≠ s ∧ 0 ≤ S (72 + t) ∧ 0 < sv t ∧ stp (L 0) (S (72 + t)) c < W 1
/-- a shop at s can be moved to c -/
def cmv (L W S wt sv : Nat → Int) (s : Nat) (c : Int) : Prop := inr L c ∧ W (30 + c.toNat) ≠ 1 ∧ ¬ (0 < sv s ∧ hot L W S sv s c) ∧ isw L W (opn L W S wt 0 s (wt s) no0) (S (72 + s)) c
/-- it can go off -/
def cgo (L W S wt : Nat → Int) (s : Nat) : Prop := L (116 + (S (72 + s)).toNat) = 1 ∨ ∃ c : Nat, (c : Int) < ce L ∧ L (116 + c) = 1 ∧ isw L W (opn L W S wt 0 s (wt s) no0) (S (72 + s)) c
theorem one_wo {S g : Nat → Int} {x v : Int} {s : Nat} (hv : v < 0) (hx : 0 ≤ x) : ∀ {n : Nat}, one (up1 S (72 + s) v) g (-1) x n = one S g s x n
  | 0 => rfl
  | n + 1 => by
    rw [one, one, one_wo hv hx]
    by_cases e : n = s
    · rw [e, up1_s, if_neg (by omega), if_neg (by omega)]
    · rw [up1_n (by omega)]
      by_cases q : S (72 + n) = x
      · rw [if_pos ⟨q, by omega⟩, if_pos ⟨q, by omega⟩]
      · rw [if_neg (fun y => q y.1), if_neg (fun y => q y.1)]
theorem on1_wo {S g : Nat → Int} {x v : Int} {s n : Nat} (hv : v < 0) : on1 (up1 S (72 + s) v) g (-1) x n = on1 S g s x n := by
  unfold on1
  split
  · rfl
  · exact one_wo hv (by omega)
theorem ld_wo {L W S wt : Nat → Int} {x v : Int} {s : Nat} (hv : v < 0) (hx : 0 ≤ x) : ld L W (up1 S (72 + s) v) wt (-1) x = ld L W S wt s x := by
  unfold ld
  rw [one_wo hv hx, on1_wo hv, on1_wo hv, on1_wo hv, on1_wo hv]
theorem isw_from {L W : Nat → Int} {O O' : Int → Prop} {c to : Int} (kL : LK L) (hc : inr L c) (h : ∀ e, inr L e → e ≠ c → O e → O' e) (g : isw L W O c to) : isw L W O' c to := by
  obtain ⟨ne, g0⟩ := g
  refine ⟨ne, dst_ge.mpr ?_⟩
  obtain ⟨n, h1, h2⟩ := least (P := fun n => wk L W O n c to) (dst_ge.mp g0)
  have : ∀ (j : Nat) (e : Int), j ≤ n → inr L e → wk L W O j e to → wk L W O' j e to := by
    intro j
    induction j with
    | zero => intro e _ _ w; exact w
    | succ j ih =>
      intro e hj he ⟨f, w1, w2⟩
      have hf := sd_in kL he w1.1
      have fc : f ≠ c := fun y => h2 j (by omega) (by rw [← y]; exact w2)
      exact ⟨f, ⟨w1.1, w1.2.1, h f hf fc w1.2.2⟩, ih f (by omega) hf w2⟩
  exact ⟨n, this n c (Nat.le_refl _) hc h1⟩
theorem opn_lift {L W S wt : Nat → Int} {load e : Int} {s : Nat} (hs : s < NS L) (kL : LK L) (he : inr L e) (ne : e ≠ S (72 + s)) : opn L W (up1 S (72 + s) (-1)) wt 0 (-1) load no0 e ↔ opn L W S wt 0 s load no0 e := by
  have z : 4 ≤ ce L ∧ ce L ≤ 36 := sz_mul kL.1
  have e0 := he.1
  have e1 := he.2
  unfold opn br
  rw [ld_wo (by omega) e0, up1_n (by omega)]
  have : (∀ t, t < NS L → up1 S (72 + s) (-1) (72 + t) ≠ e) ↔ (∀ t, t < NS L → S (72 + t) ≠ e) := by
    constructor
    · intro h t ht
      by_cases y : t = s
      · rw [y]; exact fun v => ne v.symm
      · have := h t ht; rw [up1_n (by omega)] at this; exact this
    · intro h t ht
      by_cases y : t = s
      · rw [y, up1_s]; omega
      · rw [up1_n (by omega)]; exact h t ht
  rw [this]
theorem isw_lift {L W S wt : Nat → Int} {load to : Int} {s : Nat} (hs : s < NS L) (kL : LK L) (hc : inr L (S (72 + s))) : isw L W (opn L W (up1 S (72 + s) (-1)) wt 0 (-1) load no0) (S (72 + s)) to ↔ isw L W (opn L W S wt 0 s load no0) (S (72 + s)) to :=
  ⟨isw_from kL hc (fun _ he ne => (opn_lift hs kL he ne).mp), isw_from kL hc (fun _ he ne => (opn_lift hs kL he ne).mpr)⟩
section Cg
variable {h : pH} {a p q : Nat} {L W wt sv S : Nat → Int} {u : Bool} {d : Nat}
theorem c_steps {x y : Int} (C : CX h p q L W) (x0 : 0 ≤ x ∧ x < 100) (y0 : 0 ≤ y ∧ y < 100) : pf_La_steps p x y h = some (stp (L 0) x y) := by
  have k := C.2.2.1.1
  obtain ⟨k1, k2, k3, k4⟩ := k
  have ab : ∀ v : Int, -1000 ≤ v → v ≤ 1000 → pabs v = v.natAbs := fun v _ _ => by
    unfold pabs
    split
    · omega
    · rw [wr_eq (by omega) (by omega)]; omega
  unfold pf_La_steps pj_La_steps_16
  rw [C.1.1.1, if_pos (by omega)]
  simp (disch := omega) only [gnz, tm_p, td_p]
  unfold stp
  have : L 0 = 2 ∨ L 0 = 3 ∨ L 0 = 4 ∨ L 0 = 5 ∨ L 0 = 6 := by omega
  rcases this with e | e | e | e | e <;> rw [e] <;> simp (disch := omega) only [wr_eq, ab]
theorem c_tooHot {s : Int} {c : Nat} (C : CX h p q L W) (K : SC h a p q L W wt sv u S) (V : SV L S d) (hc : (c : Int) < ce L) : pf_Sc_isTooHot a s c h = some (cif (hot L W S sv s c) 1 0) := by
  have kL := C.2.2.1
  have z : 4 ≤ ce L ∧ ce L ≤ 36 := sz_mul kL.1
  have n6 := NS_le kL
  have en := NS_eq kL
  obtain ⟨⟨ha, ea, eb⟩, k1, k2, k3, k4, k5⟩ := K
  unfold pf_Sc_isTooHot
  refine lpf (F := fun n (i : Nat) (_ : Unit) => pl_Sc_isTooHot_2 a s c h (some 1) (some 0) n i) (Q := fun r => r = some (cif (hot L W S sv s c) 1 0)) (NS L) (fun i _ => ¬ ∃ t : Nat, t < i ∧ (t : Int) ≠ s ∧ 0 ≤ S (72 + t) ∧ 0 < sv t ∧ stp (L 0) (S (72 + t)) c < W 1) ?_ ?_ fu_ 0 () (by omega) (by unfold fu_; omega) (fun ⟨t, y, _⟩ => by omega)
  · intro n i _ hi I
    show pl_Sc_isTooHot_2 a s c h _ _ (n + 1) i = _ ∨ ∃ t' : Unit, pl_Sc_isTooHot_2 a s c h _ _ (n + 1) i = pl_Sc_isTooHot_2 a s c h _ _ n (i + 1 : Nat) ∧ _
    have v := k4 i hi
    have r := V.2.2.1 i hi
    rw [pl_Sc_isTooHot_2, ea, eb, C.1.1.2.2.2.2, if_neg (by omega)]
    simp (disch := omega) only [gib, Int.toNat_natCast, v.1, v.2.2, wr_eq]
    have skip : ¬ ((i : Int) ≠ s ∧ 0 ≤ S (72 + i) ∧ 0 < sv i ∧ stp (L 0) (S (72 + i)) c < W 1) → ¬ ∃ t : Nat, t < i + 1 ∧ (t : Int) ≠ s ∧ 0 ≤ S (72 + t) ∧ 0 < sv t ∧ stp (L 0) (S (72 + t)) c < W 1 := fun w ⟨t, t1, t2⟩ => by
      rcases Nat.lt_or_ge t i with y | y
      · exact I ⟨t, y, t2⟩
      · rw [show t = i by omega] at t2; exact w t2
    by_cases q0 : (i : Int) = s
    · rw [if_pos q0]; exact Or.inr ⟨(), rfl, skip (fun y => y.1 q0)⟩
    · rw [if_neg q0]
      by_cases q1 : S (72 + i) < 0
      · rw [if_pos q1]; exact Or.inr ⟨(), rfl, skip (fun y => by have := y.2.1; omega)⟩
      · rw [if_neg q1]
        by_cases q2 : sv i ≤ 0
        · rw [if_pos q2]; exact Or.inr ⟨(), rfl, skip (fun y => by have := y.2.2.1; omega)⟩
        · rw [if_neg q2, c_steps C ⟨by omega, by omega⟩ ⟨by omega, by omega⟩, bsm, C.2.1.1.2.1]
          by_cases q3 : W 1 ≤ stp (L 0) (S (72 + i)) c
          · rw [if_pos q3]; exact Or.inr ⟨(), rfl, skip (fun y => by have := y.2.2.2; omega)⟩
          · rw [if_neg q3]
            left
            rw [cif_t ⟨i, hi, q0, by omega, by omega, by omega⟩]
  · intro n _ I
    show pl_Sc_isTooHot_2 a s c h _ _ (n + 1) (NS L : Nat) = _
    rw [pl_Sc_isTooHot_2, ea, C.1.1.2.2.2.2, if_pos (by omega), cif_f (p := hot L W S sv s c) I]
theorem SV_lift {s : Nat} {v : Int} (V : SV L S d) (kL : LK L) (hs : s < NS L) (hv : -2 ≤ v ∧ v < 0) : SV L (up1 S (72 + s) v) d := by
  have z : 4 ≤ ce L ∧ ce L ≤ 36 := sz_mul kL.1
  have n6 := NS_le kL
  obtain ⟨a1, a2, a3, a4, a5, a6⟩ := V
  refine ⟨fun c hc => ?_, fun c hc => ?_, fun t ht => ?_, DSn_off a4 (by omega), ?_, ?_⟩
  · rw [up1_n (by omega)]; exact a1 c hc
  · rw [up1_n (by omega)]; exact a2 c hc
  · by_cases e : t = s
    · rw [e, up1_s]; omega
    · rw [up1_n (by omega)]; exact a3 t ht
  · rw [up1_n (by omega)]; exact a5
  · rw [up1_n (by omega)]; exact a6
/-- a place that a scene can have -/
def SP (a : Nat) : Prop := a = 303 ∨ 327 ≤ a
theorem c_surveyWithout {s : Nat} (hW : WS L wt sv) (C : CX h p q L W) (K : SC h a p q L W wt sv false S) (V : SV L S d) (ha : SP a) (hs : s < NS L) (h0 : 0 ≤ S (72 + s)) : ∃ h', pf_Wa_surveyWithout a s h = some h' ∧ fr (fun b => b = 311 ∨ b = 313 ∨ SF a b) h h' ∧ pi h' 311 = pi h 311 ∧ pl h' 311 = pl h 311 ∧ WX h' p q ∧ SC h' a p q L W wt sv false S ∧ ∀ c : Nat, (c : Int) < ce L → pi h' 313 c = rmv L W (up1 S (72 + s) (-1)) wt 0 c := by
  have kL := C.2.2.1
  have z : 4 ≤ ce L ∧ ce L ≤ 36 := sz_mul kL.1
  have n6 := NS_le kL
  have r := V.2.2.1 s hs
  have w := K.2.2.2.2.1 s hs
  unfold SP at ha
  have n311 : ¬ SF a 311 := by unfold SF; omega
  have n313 : ¬ SF a 313 := by unfold SF; omega
  obtain ⟨h1, p1, p2, p3⟩ := c_lift (s := s) (v := -1) C K hW hs h0 r.2 (by omega)
  have C1 := SC_CX C K.1.1 p2
  have V1 := SV_lift (s := s) (v := -1) V kL hs (by omega)
  obtain ⟨h2, q1, q2, q3, q4, q5, q6⟩ := c_survey (tk := 0) hW C1 p3 V1 (by omega) (by omega) (by omega)
  have C2 : CX h2 p q L W := CX_fr C1 q2 (fun b hb => by omega)
  have K2 := SC_fr p3 q2 (fun b hb => by omega)
  have ec : (((S (72 + s)).toNat : Nat) : Int) = S (72 + s) := by omega
  obtain ⟨h3, r1, r2, r3⟩ := c_lower (s := s) (c := (S (72 + s)).toNat) C2 K2 hW hs (by rw [up1_s]; omega) (by omega)
  rw [ec] at r1 r3
  have eS : up1 (up1 S (72 + s) (-1)) (72 + s) (S (72 + s)) = S := by
    funext j
    unfold up1
    by_cases y : j = 72 + s
    · rw [if_pos y, y]
    · rw [if_neg y, if_neg y]
  rw [eS] at r3
  refine ⟨h3, ?_, fr_trans (fr_mono p2 (fun b hb => Or.inr (Or.inr hb))) (fr_trans (fr_mono q2 (fun b hb => by omega)) (fr_mono r2 (fun b hb => Or.inr (Or.inr hb)))), ?_, ?_, WX_fr q5 r2 n311, r3, fun c hc => ?_⟩
  · unfold pf_Wa_surveyWithout
    rw [gib (by omega) (by omega), p1, bsm, q1, bsm, Int.toNat_natCast, w.1, r1]
    rfl
  · rw [fr_fi r2 n311, q3, fr_fi p2 n311]
  · rw [fr_fl r2 n311, q4, fr_fl p2 n311]
  · rw [fr_i r2 n313]; exact q6 c hc
theorem c_movesOf {s : Nat} (hW : WS L wt sv) (C : CX h p q L W) (K : SC h a p q L W wt sv false S) (V : SV L S d) (ha : SP a) (hs : s < NS L) (h0 : 0 ≤ S (72 + s)) : ∃ (y : Int64) (h' : pH), pf_Wa_movesOf a s h = some (y, h') ∧ fr (fun b => b = 311 ∨ b = 313 ∨ b = 315 ∨ SF a b) h h' ∧ pi h' 311 = pi h 311 ∧ pl h' 311 = pl h 311 ∧ SC h' a p q L W wt sv false S ∧ ∀ e : Nat, e < 64 → (tb y e = true ↔ cmv L W S wt sv s e) := by
  have kL := C.2.2.1
  have z : 4 ≤ ce L ∧ ce L ≤ 36 := sz_mul kL.1
  have n6 := NS_le kL
  have r := V.2.2.1 s hs
  have hws := hW s hs
  have n315 : ¬ SF a 315 := by unfold SP at ha; unfold SF; omega
  obtain ⟨h1, p1, p2, p3, p4, p5, p6, p7⟩ := c_surveyWithout hW C K V ha hs h0
  have C1 : CX h1 p q L W := CX_fr C p2 (fun b hb => by have := K.1.1; unfold SF at hb; omega)
  have w := p6.2.2.2.2.1 s hs
  have hin : inr L (S (72 + s)) := ⟨h0, r.2⟩
  obtain ⟨y, h2, q1, q2, q3⟩ := c_reach (load := wt s) (c := S (72 + s)) (O := opn L W (up1 S (72 + s) (-1)) wt 0 (-1) (wt s) no0) C1 p5 (fun c hc => by rw [p7 c hc]; exact rmv_opn hws.1.1) hin
  have C2 : CX h2 p q L W := CX_fr C1 q2 (fun b hb => by omega)
  have K2 := SC_fr p6 q2 (fun b hb => by unfold SP at ha; omega)
  have X2 := WX_fr p5 q2 (by omega)
  have w2 := K2.2.2.2.2.1 s hs
  have f2 : fr (fun b => b = 311 ∨ b = 313 ∨ b = 315 ∨ SF a b) h h2 := fr_trans (fr_mono p2 (fun b hb => by rcases hb with v | v | v; exact Or.inl v; exact Or.inr (Or.inl v); exact Or.inr (Or.inr (Or.inr v)))) (fr_mono q2 (fun b hb => Or.inr (Or.inr (Or.inl hb))))
  have base : ∀ e : Nat, e < 64 → (tb (y &&& (pl h2 q 7 ^^^ (-1))) e = true ↔ inr L e ∧ W (30 + e) ≠ 1 ∧ isw L W (opn L W S wt 0 s (wt s) no0) (S (72 + s)) e) := fun e he => by
    rw [tb_and, tb_nx he, Bool.and_eq_true, q3 e he, isw_lift hs kL hin]
    constructor
    · intro ⟨⟨v1, v2⟩, v3⟩
      refine ⟨⟨by omega, v1⟩, fun v4 => ?_, v2⟩
      rw [(C2.2.1.2.2.1 e (by omega)).mpr v4] at v3
      exact absurd v3 (by decide)
    · intro ⟨v1, v2, v3⟩
      refine ⟨⟨v1.2, v3⟩, ?_⟩
      have : ¬ tb (pl h2 q 7) e = true := fun v4 => v2 ((C2.2.1.2.2.1 e (by have := v1.2; omega)).mp v4)
      simpa using this
  have g1 : pi h2 311 = pi h 311 := by rw [fr_fi q2 (by omega)]; exact p3
  have g2 : pl h2 311 = pl h 311 := by rw [fr_fl q2 (by omega)]; exact p4
  unfold pf_Wa_movesOf
  rw [p1, bsm]
  simp (disch := omega) only [gib, Int.toNat_natCast, w.1, w.2.1, q1, bsm, w2.2.2, X2.2]
  by_cases hot0 : sv s ≤ 0
  · rw [if_pos hot0]
    refine ⟨_, h2, rfl, f2, g1, g2, K2, fun e he => ?_⟩
    rw [base e he]
    unfold cmv
    rw [Int.toNat_natCast]
    exact ⟨fun v => ⟨v.1, v.2.1, fun w => by have := w.1; omega, v.2.2⟩, fun v => ⟨v.1, v.2.1, v.2.2.2⟩⟩
  · rw [if_neg hot0]
    refine lpf (F := fun n (c : Nat) (t : Int64) => pl_Wa_movesOf_47 a s (fun y3 h => some (y3, h)) n t c h2) (Q := fun rr => ∃ (y : Int64) (h' : pH), rr = some (y, h') ∧ fr (fun b => b = 311 ∨ b = 313 ∨ b = 315 ∨ SF a b) h h' ∧ pi h' 311 = pi h 311 ∧ pl h' 311 = pl h 311 ∧ SC h' a p q L W wt sv false S ∧ ∀ e : Nat, e < 64 → (tb y e = true ↔ cmv L W S wt sv s e)) (ce L).toNat (fun c t => ∀ e : Nat, e < 64 → (tb t e = true ↔ (inr L e ∧ W (30 + e) ≠ 1 ∧ isw L W (opn L W S wt 0 s (wt s) no0) (S (72 + s)) e) ∧ (e < c → ¬ hot L W S sv s e))) ?_ ?_ fu_ 0 _ (by omega) (by unfold fu_; omega) (fun e he => by rw [base e he]; exact ⟨fun v => ⟨v, fun w => by omega⟩, fun v => v.1⟩)
    · intro n c t hc I
      right
      show ∃ t', pl_Wa_movesOf_47 a s _ (n + 1) t c h2 = pl_Wa_movesOf_47 a s _ n t' (c + 1 : Nat) h2 ∧ _
      rw [pl_Wa_movesOf_47, X2.1, c_cells C2, bsm, if_neg (by omega), c_hasBit (by omega), bsm, if1, wr_eq (by omega) (by omega)]
      by_cases y1 : tb t c = true
      · rw [if_pos y1, c_tooHot (s := s) C2 K2 V (by omega), bsm]
        by_cases y2 : hot L W S sv s c
        · rw [cif_t y2, if_neg (by decide), c_bit, bsm]
          refine ⟨_, rfl, fun e he => ?_⟩
          rw [tb_and, tb_nx he, tb_bit (by omega) he, Bool.and_eq_true, I e he]
          constructor
          · intro ⟨v1, v2⟩
            refine ⟨v1.1, fun v3 => ?_⟩
            by_cases v4 : e = c
            · rw [decide_eq_true v4] at v2; exact absurd v2 (by decide)
            · exact v1.2 (by omega)
          · intro ⟨v1, v2⟩
            refine ⟨⟨v1, fun v3 => v2 (by omega)⟩, ?_⟩
            by_cases v4 : e = c
            · rw [v4] at v2; exact absurd y2 (v2 (by omega))
            · rw [decide_eq_false v4]; rfl
        · rw [cif_f y2, if_pos rfl]
          refine ⟨t, rfl, fun e he => ?_⟩
          rw [I e he]
          exact ⟨fun v => ⟨v.1, fun w => by
            by_cases v4 : e = c
            · rw [v4]; exact y2
            · exact v.2 (by omega)⟩, fun v => ⟨v.1, fun w => v.2 (by omega)⟩⟩
      · rw [if_neg y1]
        refine ⟨t, rfl, fun e he => ?_⟩
        by_cases v4 : e = c
        · rw [v4]
          constructor
          · intro v; exact absurd v y1
          · intro v; exact (I c (by omega)).mpr ⟨v.1, fun w => by omega⟩
        · rw [I e he]
          exact ⟨fun v => ⟨v.1, fun w => v.2 (by omega)⟩, fun v => ⟨v.1, fun w => v.2 (by omega)⟩⟩
    · intro n t I
      refine ⟨t, h2, ?_, f2, g1, g2, K2, fun e he => ?_⟩
      · show pl_Wa_movesOf_47 a s _ (n + 1) t ((ce L).toNat : Nat) h2 = _
        rw [pl_Wa_movesOf_47, X2.1, c_cells C2, bsm, if_pos (by omega)]
      · rw [I e he]
        unfold cmv
        rw [Int.toNat_natCast]
        exact ⟨fun v => ⟨v.1.1, v.1.2.1, fun w => v.2 (by have := v.1.1.2; omega) w.2, v.1.2.2⟩, fun v => ⟨⟨v.1, v.2.1, v.2.2.2⟩, fun w1 w2 => v.2.2.1 ⟨by omega, w2⟩⟩⟩
/-- a shore is reached from c -/
def rsh (L W : Nat → Int) (O : Int → Prop) (c : Int) : Prop := L (116 + c.toNat) = 1 ∨ ∃ e : Nat, (e : Int) < ce L ∧ L (116 + e) = 1 ∧ isw L W O c e
theorem c_reachesShore {load c : Int} {O : Int → Prop} (C : CX h p q L W) (X : WX h p q) (hO : ∀ c : Nat, (c : Int) < ce L → (load ≤ pi h 313 c ↔ O c)) (hc : inr L c) : ∃ h', pf_Wa_reachesShore load c h = some (cif (rsh L W O c) 1 0, h') ∧ fr (fun b => b = 315) h h' := by
  have kL := C.2.2.1
  have z : 4 ≤ ce L ∧ ce L ≤ 36 := sz_mul kL.1
  have c0 := hc.1
  have c1 := hc.2
  have ec : ((c.toNat : Nat) : Int) = c := by omega
  unfold pf_Wa_reachesShore
  have hb := c_hasBit (y := pl h p 7) (n := c.toNat) (h := h) (by omega)
  rw [ec] at hb
  rw [X.1, hb, bsm, if1]
  have s0 := C.1.2.2.2.2.2.1 c.toNat (by omega)
  by_cases y1 : tb (pl h p 7) c.toNat = true
  · rw [if_pos y1, cif_t (p := rsh L W O c) (Or.inl (s0.mp y1))]
    exact ⟨h, rfl, fr_refl⟩
  · rw [if_neg y1]
    obtain ⟨y, h2, q1, q2, q3⟩ := c_reach C X hO hc
    have X2 := WX_fr X q2 (by omega)
    have el : pl h2 p 7 = pl h p 7 := fr_l q2 (by have := C.2.2.2.2.1; omega)
    rw [q1, bsm]
    simp only [X2.1, el]
    refine ⟨h2, ?_, q2⟩
    by_cases y2 : rsh L W O c
    · rw [cif_t y2, if_neg ?_]
      rw [plc_0]
      intro v
      rcases y2 with y2 | ⟨e, e1, e2, e3⟩
      · exact y1 (s0.mpr y2)
      · have t1 : tb (y &&& pl h p 7) e = true := by
          rw [tb_and, Bool.and_eq_true]
          exact ⟨(q3 e (by omega)).mpr ⟨e1, e3⟩, (C.1.2.2.2.2.2.1 e e1).mpr e2⟩
        rw [v, tb_0] at t1
        exact absurd t1 (by decide)
    · rw [cif_f y2, if_pos ?_]
      rw [plc_0]
      refine tb_ext fun e he => ?_
      rw [tb_0, tb_and]
      cases e1 : tb y e <;> cases e2 : tb (pl h p 7) e
      · rfl
      · rfl
      · rfl
      · have v := (q3 e he).mp e1
        exact absurd (Or.inr ⟨e, v.1, (C.1.2.2.2.2.2.1 e v.1).mp e2, v.2⟩) y2
theorem c_canLeave {s : Nat} (hW : WS L wt sv) (C : CX h p q L W) (K : SC h a p q L W wt sv false S) (V : SV L S d) (ha : SP a) (hs : s < NS L) (h0 : 0 ≤ S (72 + s)) : ∃ h' : pH, pf_Wa_canLeave a s h = some (cif (cgo L W S wt s) 1 0, h') ∧ fr (fun b => b = 311 ∨ b = 313 ∨ b = 315 ∨ SF a b) h h' ∧ pi h' 311 = pi h 311 ∧ pl h' 311 = pl h 311 ∧ SC h' a p q L W wt sv false S := by
  have kL := C.2.2.1
  have z : 4 ≤ ce L ∧ ce L ≤ 36 := sz_mul kL.1
  have n6 := NS_le kL
  have r := V.2.2.1 s hs
  have hws := hW s hs
  obtain ⟨h1, p1, p2, p3, p4, p5, p6, p7⟩ := c_surveyWithout hW C K V ha hs h0
  have C1 : CX h1 p q L W := CX_fr C p2 (fun b hb => by have := K.1.1; unfold SF at hb; omega)
  have w := p6.2.2.2.2.1 s hs
  have hin : inr L (S (72 + s)) := ⟨h0, r.2⟩
  obtain ⟨h2, q1, q2⟩ := c_reachesShore (load := wt s) (c := S (72 + s)) (O := opn L W (up1 S (72 + s) (-1)) wt 0 (-1) (wt s) no0) C1 p5 (fun c hc => by rw [p7 c hc]; exact rmv_opn hws.1.1) hin
  have iff : rsh L W (opn L W (up1 S (72 + s) (-1)) wt 0 (-1) (wt s) no0) (S (72 + s)) ↔ cgo L W S wt s := by
    unfold rsh cgo
    constructor
    · intro v
      rcases v with v | ⟨e, v1, v2, v3⟩
      · exact Or.inl v
      · exact Or.inr ⟨e, v1, v2, (isw_lift hs kL hin).mp v3⟩
    · intro v
      rcases v with v | ⟨e, v1, v2, v3⟩
      · exact Or.inl v
      · exact Or.inr ⟨e, v1, v2, (isw_lift hs kL hin).mpr v3⟩
  refine ⟨h2, ?_, fr_trans (fr_mono p2 (fun b hb => by rcases hb with v | v | v; exact Or.inl v; exact Or.inr (Or.inl v); exact Or.inr (Or.inr (Or.inr v)))) (fr_mono q2 (fun b hb => Or.inr (Or.inr (Or.inl hb)))), by rw [fr_fi q2 (by omega)]; exact p3, by rw [fr_fl q2 (by omega)]; exact p4, SC_fr p6 q2 (fun b hb => by unfold SP at ha; omega)⟩
  unfold pf_Wa_canLeave
  rw [p1, bsm]
  simp (disch := omega) only [gib, Int.toNat_natCast, w.1, w.2.1, q1, bsm]
  by_cases y : cgo L W S wt s
  · rw [cif_t (iff.mpr y), cif_t y]; rfl
  · rw [cif_f (fun v => y (iff.mp v)), cif_f y]; rfl
end Cg
