/-! acts -/
noncomputable def swp (L W : Nat → Int) (O : Int → Prop) (to c : Int) (S : Nat → Int) (i : Nat) : Nat → Int := match i with
  | 0 => S
  | i + 1 => up1 (swp L W O to c S i) (36 + (pth L W O to c i).toNat) 0
noncomputable def dsp (L W wt sv : Nat → Int) (k a b c : Int) (S : Nat → Int) : Option (Nat → Int) :=
  if k = 1 then cif ((0 ≤ a ∧ a < L 4) ∧ 0 ≤ S (72 + a.toNat) ∧ cmv L W S wt sv a.toNat b) (some (fl L W wt 0 6 (up1 S (72 + a.toNat) b))) none
  else if k = 2 then cif ((0 ≤ a ∧ a < L 4) ∧ 0 ≤ S (72 + a.toNat) ∧ cgo L W S wt a.toNat) (some (fl L W wt 0 6 (up1 S (72 + a.toNat) (-1)))) none
  else if k = 3 then cif (inr L b ∧ inr L c ∧ isw L W (opn L W S wt 0 (-1) a no0) b c) (some (swp L W (opn L W S wt 0 (-1) a no0) c b S (dst L W (opn L W S wt 0 (-1) a no0) c b + 1).toNat)) none
  else if k = 4 then cif (inr L a) (some (up1 S (36 + a.toNat) 0)) none
  else some (aday L W wt sv 0 S)
def PA (k a b c : Int) : Prop := (0 ≤ k ∧ k ≤ 4) ∧ (k = 3 → (1 ≤ a ∧ a ≤ 99) ∧ b ≠ c)
section Da
variable {L W wt sv S : Nat → Int} {d : Nat}
theorem fl_id {tk : Int} (h : ff L W S wt tk < 0) : ∀ {n : Nat}, fl L W wt tk n S = S
  | 0 => rfl
  | n + 1 => by rw [fl, if_pos h]
theorem ff_snow {j : Nat} {v : Int} (h1 : 36 ≤ j) (h2 : j < 72) (kL : LK L) (V : SV L S d) : ff L W (up1 S j v) wt 0 = ff L W S wt 0 := by
  have z : 4 ≤ ce L ∧ ce L ≤ 36 := sz_mul kL.1
  have cg : ∀ s, s < NS L → up1 S j v (72 + s) = S (72 + s) := fun s _ => up1_n (by omega)
  unfold ff
  refine fnd_c (fun i _ hi => ?_)
  have r := V.2.2.1 i (by omega)
  unfold ffP br
  rw [cg i (by omega), ld_c cg]
  by_cases q : 0 ≤ S (72 + i)
  · rw [up1_n (by omega)]
  · rw [decide_eq_false q]; rfl
theorem SV_snow {j : Nat} (h1 : 36 ≤ j) (h2 : j < 72) (kL : LK L) (V : SV L S d) : SV L (up1 S j 0) d := by
  have z : 4 ≤ ce L ∧ ce L ≤ 36 := sz_mul kL.1
  have n6 := NS_le kL
  obtain ⟨a1, a2, a3, a4, a5, a6⟩ := V
  refine ⟨fun c hc => ?_, fun c hc => ?_, fun t ht => ?_, fun s t x y w => ?_, ?_, ?_⟩
  · rw [up1_n (by omega)]; exact a1 c hc
  · by_cases e : 36 + c = j
    · rw [e, up1_s]; omega
    · rw [up1_n e]; exact a2 c hc
  · rw [up1_n (by omega)]; exact a3 t ht
  · rw [up1_n (by omega)] at w ⊢; rw [up1_n (by omega)]; exact a4 s t x y w
  · rw [up1_n (by omega)]; exact a5
  · rw [up1_n (by omega)]; exact a6
theorem swp_ok {O : Int → Prop} {to c : Int} (kL : LK L) (V : SV L S d) (hc : inr L c) : ∀ {i : Nat}, (i : Int) ≤ dst L W O to c + 1 → SV L (swp L W O to c S i) d ∧ ff L W (swp L W O to c S i) wt 0 = ff L W S wt 0
  | 0, _ => ⟨V, rfl⟩
  | i + 1, h => by
    have z : 4 ≤ ce L ∧ ce L ≤ 36 := sz_mul kL.1
    obtain ⟨h1, h2⟩ := swp_ok (i := i) (O := O) (to := to) kL V hc (by omega)
    have p := (pth_in (W := W) (O := O) (to := to) kL hc (i := i) (by omega)).1
    have p0 := p.1
    have p1 := p.2
    rw [swp]
    exact ⟨SV_snow (by omega) (by omega) kL h1, by rw [ff_snow (by omega) (by omega) kL h1]; exact h2⟩
theorem SV_mv {s : Nat} {v : Int} (V : SV L S d) (kL : LK L) (hs : s < NS L) (hv : inr L v) (no : ∀ t, t < NS L → S (72 + t) ≠ v) : SV L (up1 S (72 + s) v) d := by
  have z : 4 ≤ ce L ∧ ce L ≤ 36 := sz_mul kL.1
  have n6 := NS_le kL
  have v0 := hv.1
  have v1 := hv.2
  obtain ⟨a1, a2, a3, a4, a5, a6⟩ := V
  refine ⟨fun c hc => ?_, fun c hc => ?_, fun t ht => ?_, fun x y x1 x2 x3 => ?_, ?_, ?_⟩
  · rw [up1_n (by omega)]; exact a1 c hc
  · rw [up1_n (by omega)]; exact a2 c hc
  · by_cases e : t = s
    · rw [e, up1_s]; omega
    · rw [up1_n (by omega)]; exact a3 t ht
  · by_cases e : x = s
    · rw [e, up1_s, up1_n (by omega)]; exact fun w => no y x2 w.symm
    · rw [up1_n (by omega)] at x3 ⊢
      by_cases e2 : y = s
      · rw [e2, up1_s]; exact no x (by omega)
      · rw [up1_n (by omega)]; exact a4 x y x1 x2 x3
  · rw [up1_n (by omega)]; exact a5
  · rw [up1_n (by omega)]; exact a6
theorem isw_open {O : Int → Prop} {c to : Int} (h : isw L W O c to) : O to := by
  obtain ⟨n, hn⟩ := dst_ge.mp h.2
  cases n with
  | zero => exact absurd hn h.1
  | succ n => exact wk_open hn
theorem SV_up {d' : Nat} (V : SV L S d) (h : d ≤ d') : SV L S d' := by
  obtain ⟨a1, a2, a3, a4, a5, a6⟩ := V
  exact ⟨a1, a2, a3, a4, by omega, by omega⟩
theorem dsp_ok {k a b c : Int} {S' : Nat → Int} (kL : LK L) (kW : WK W) (V : SV L S d) (T : ff L W S wt 0 < 0) (e : dsp L W wt sv k a b c S = some S') : SV L S' (d + 1) ∧ ff L W S' wt 0 < 0 := by
  have n6 := NS_le kL
  have en := NS_eq kL
  have cl : ∀ S0, SV L S0 (d + 1) → ff L W (fl L W wt 0 6 S0) wt 0 < 0 := fun S0 V0 => fl_set kL V0 (Nat.le_trans cnt_le n6)
  unfold dsp at e
  split at e
  · by_cases q : (0 ≤ a ∧ a < L 4) ∧ 0 ≤ S (72 + a.toNat) ∧ cmv L W S wt sv a.toNat b
    · rw [cif_t q] at e
      cases e
      have V1 := SV_mv (s := a.toNat) (SV_up V (Nat.le_succ d)) kL (by omega) q.2.2.1 (isw_open q.2.2.2.2.2).2.1
      exact ⟨SV_fl kL V1, cl _ V1⟩
    · rw [cif_f q] at e; cases e
  · split at e
    · by_cases q : (0 ≤ a ∧ a < L 4) ∧ 0 ≤ S (72 + a.toNat) ∧ cgo L W S wt a.toNat
      · rw [cif_t q] at e
        cases e
        have V1 := SV_lift (s := a.toNat) (v := -1) (SV_up V (Nat.le_succ d)) kL (by omega) (by omega)
        exact ⟨SV_fl kL V1, cl _ V1⟩
      · rw [cif_f q] at e; cases e
    · split at e
      · by_cases q : inr L b ∧ inr L c ∧ isw L W (opn L W S wt 0 (-1) a no0) b c
        · rw [cif_t q] at e
          cases e
          have o := swp_ok (W := W) (wt := wt) (O := opn L W S wt 0 (-1) a no0) (to := c) (c := b) (i := (dst L W (opn L W S wt 0 (-1) a no0) c b + 1).toNat) kL V q.1 (by have := q.2.2.2; omega)
          exact ⟨SV_up o.1 (Nat.le_succ d), by rw [o.2]; exact T⟩
        · rw [cif_f q] at e; cases e
      · split at e
        · by_cases q : inr L a
          · rw [cif_t q] at e
            cases e
            have q0 := q.1
            have q1 := q.2
            have z : 4 ≤ ce L ∧ ce L ≤ 36 := sz_mul kL.1
            exact ⟨SV_up (SV_snow (by omega) (by omega) kL V) (Nat.le_succ d), by rw [ff_snow (by omega) (by omega) kL V]; exact T⟩
          · rw [cif_f q] at e; cases e
        · cases e
          have V1 := SV_pd2 (W := W) (sv := sv) (f := fro L S) V kL kW
          exact ⟨SV_pday V kL kW, cl _ V1⟩
end Da
section Mk
variable {h h' : pH} {l w : Nat} {L W wt sv : Nat → Int} {d : Nat}
theorem m_does {x : Nat} {k a b c : Int} (M : MC h l w L W wt sv 0) (V : SV L (pi h 422) d) (hd : d ≤ 1000) (Z : ∀ c : Nat, c < 36 → pi h 424 c = 0) (T : ff L W (pi h 422) wt 0 < 0) (hx : x + 3 < 6528) (e0 : pi h 418 x = k) (e1 : pi h 418 (x + 1) = a) (e2 : pi h 418 (x + 2) = b) (e3 : pi h 418 (x + 3) = c) (A : PA k a b c) : ∃ r h', pf_M_does x h = some (r, h') ∧ MF h h' ∧ ((dsp L W wt sv k a b c (pi h 422) = none ∧ r = 0) ∨ (dsp L W wt sv k a b c (pi h 422) = some (pi h' 422) ∧ r = 1)) := by
  have kL := M.1.2.2.2.2.2.2.1
  have kW := M.1.2.2.2.2.2.2.2
  have z : 4 ≤ ce L ∧ ce L ≤ 36 := sz_mul kL.1
  have n6 := NS_le kL
  have en := NS_eq kL
  obtain ⟨f1, f2, hl, hw, hL, hW, -, -⟩ := M.1
  have t1 : ((x : Int) + 1).toNat = x + 1 := by omega
  have t2 : ((x : Int) + 2).toNat = x + 2 := by omega
  have t3 : ((x : Int) + 3).toNat = x + 3 := by omega
  have fin : ∀ (h1 : pH) (S0 : Nat → Int), MF h h1 → pi h1 422 = S0 → SV L S0 d → ∃ h', pj_M_does_215 x h1 = some (1, h') ∧ MF h h' ∧ pi h' 422 = fl L W wt 0 6 S0 := fun h1 S0 g1 g2 g3 => by
    obtain ⟨h2, p1, p2, p3⟩ := m_falls (d := d) (MF_MC M g1) (by rw [g2]; exact g3)
    unfold pj_M_does_215
    rw [p1, bsm]
    exact ⟨h2, rfl, MF_trans g1 ⟨fr_mono p2 (fun b hb => by unfold MFs; omega), fun j _ _ => fr_i p2 (by omega)⟩, by rw [p3, g2]⟩
  unfold pf_M_does
  simp (disch := omega) only [wr_eq, gib, t1, t2, t3, Int.toNat_natCast, e0, e1, e2, e3]
  unfold dsp
  by_cases k1 : k = 1
  · rw [if_pos k1, if_pos k1]
    obtain ⟨h1, p1, p2, p3⟩ := m_canMove (a := a) (b := b) M V Z
    rw [p1, bsm]
    by_cases q : (0 ≤ a ∧ a < L 4) ∧ 0 ≤ pi h 422 (72 + a.toNat) ∧ cmv L W (pi h 422) wt sv a.toNat b
    · rw [cif_t q, cif_t q]
      have t4 : (72 + a).toNat = 72 + a.toNat := by omega
      simp (disch := omega) only [wr_eq, gib, t4]
      rw [if_neg (by decide)]
      obtain ⟨h2, r1, r2, r3⟩ := fin (pwI h1 422 (72 + a.toNat) b) _ (MF_wI p2 (by unfold MFs; omega) (by omega)) rfl (by rw [up1_pi, p3]; exact SV_mv V kL (by omega) q.2.2.1 (isw_open q.2.2.2.2.2).2.1)
      rw [up1_pi, p3] at r3
      exact ⟨1, h2, r1, r2, Or.inr ⟨by rw [r3], rfl⟩⟩
    · rw [cif_f q, cif_f q]
      exact ⟨0, h1, rfl, p2, Or.inl ⟨rfl, rfl⟩⟩
  · rw [if_neg k1, if_neg k1]
    by_cases k2 : k = 2
    · rw [if_pos k2, if_pos k2]
      obtain ⟨h1, p1, p2, p3⟩ := m_canGoOff (a := a) M V Z
      rw [p1, bsm]
      by_cases q : (0 ≤ a ∧ a < L 4) ∧ 0 ≤ pi h 422 (72 + a.toNat) ∧ cgo L W (pi h 422) wt a.toNat
      · rw [cif_t q, cif_t q]
        have t4 : (72 + a).toNat = 72 + a.toNat := by omega
        simp (disch := omega) only [wr_eq, gib, t4]
        rw [if_neg (by decide)]
        obtain ⟨h2, r1, r2, r3⟩ := fin (pwI h1 422 (72 + a.toNat) (-1)) _ (MF_wI p2 (by unfold MFs; omega) (by omega)) rfl (by rw [up1_pi, p3]; exact SV_lift V kL (by omega) (by omega))
        rw [up1_pi, p3] at r3
        exact ⟨1, h2, r1, r2, Or.inr ⟨by rw [r3], rfl⟩⟩
      · rw [cif_f q, cif_f q]
        exact ⟨0, h1, rfl, p2, Or.inl ⟨rfl, rfl⟩⟩
    · rw [if_neg k2, if_neg k2]
      by_cases k3 : k = 3
      · rw [if_pos k3, if_pos k3, f1, m_isCell (by omega) hL kL.1, bsm, if1, m_isCell (by omega) hL kL.1, bsm, if1]
        obtain ⟨A1, A2⟩ := A.2 k3
        by_cases q1 : 0 ≤ b ∧ b < ce L
        · rw [if_pos q1]
          by_cases q2 : 0 ≤ c ∧ c < ce L
          · rw [if_pos q2]
            obtain ⟨h1, p1, p2, p3, p4, p5⟩ := m_shortWay (c := b) (to := c) (load := a) (X := no0) M V q1 q2 (by omega) (fun c hc => ⟨fun _ y => y, fun _ => Z c (by omega)⟩)
            have g1 : MF h h1 := ⟨fr_mono p2 (fun b hb => by unfold MFs; omega), fun j _ _ => p3 j (by omega) (by omega) (by omega)⟩
            rw [p1, bsm]
            by_cases q3 : isw L W (opn L W (pi h 422) wt 0 (-1) a no0) b c
            · obtain ⟨p6, p7⟩ := p5 q3
              have g2 : pi h1 422 = pi h 422 := fr_fi p2 (by omega)
              rw [cif_t q3, cif_t ⟨q1, q2, q3⟩]
              simp only []
              rw [if_neg (by decide)]
              generalize opn L W (pi h 422) wt 0 (-1) a no0 = O at *
              have dhi := dst_hi (W := W) (O := O) (to := c) kL q1
              have d0 := q3.2
              refine lpf (F := fun n (i : Nat) t => pl_M_does_143 x (fun h => pj_M_does_215 x h) n i t) (Q := fun r => ∃ r' h', r = some (r', h') ∧ MF h h' ∧ ((some (swp L W O c b (pi h 422) (dst L W O c b + 1).toNat) = none ∧ r' = 0) ∨ (some (swp L W O c b (pi h 422) (dst L W O c b + 1).toNat) = some (pi h' 422) ∧ r' = 1))) (dst L W O c b + 1).toNat (fun i t => MF h t ∧ pi t 417 27 = dst L W O c b + 1 ∧ (∀ j : Nat, (j : Int) ≤ dst L W O c b → pi t 427 j = pth L W O c b j) ∧ pi t 422 = swp L W O c b (pi h 422) i) ?_ ?_ fu_ 0 h1 (by omega) (by unfold fu_; omega) ⟨g1, p6, p7, g2⟩
              · intro n i t hi ⟨i1, i2, i3, i4⟩
                right
                have pin := (pth_in (W := W) (O := O) (to := c) kL q1 (i := i) (by omega)).1
                have pin0 := pin.1
                have pin1 := pin.2
                have t5 : (36 + pth L W O c b i).toNat = 36 + (pth L W O c b i).toNat := by omega
                show ∃ t', pl_M_does_143 x _ (n + 1) i t = pl_M_does_143 x _ n (i + 1 : Nat) t' ∧ _
                rw [pl_M_does_143, i2, if_neg (by omega)]
                simp (disch := omega) only [gib, Int.toNat_natCast, i3 i (by omega), wr_eq, t5]
                refine ⟨_, rfl, MF_wI i1 (by unfold MFs; omega) (by omega), by rw [pi_wIa (by decide)]; exact i2, fun j hj => by rw [pi_wIa (by decide)]; exact i3 j hj, ?_⟩
                rw [up1_pi, i4]
                rfl
              · intro n t ⟨i1, i2, i3, i4⟩
                have o := swp_ok (W := W) (wt := wt) (O := O) (to := c) (c := b) (i := (dst L W O c b + 1).toNat) kL V q1 (by omega)
                obtain ⟨h2, r1, r2, r3⟩ := fin t _ i1 i4 o.1
                refine ⟨1, h2, ?_, r2, Or.inr ⟨?_, rfl⟩⟩
                · show pl_M_does_143 x _ (n + 1) ((dst L W O c b + 1).toNat : Nat) t = _
                  rw [pl_M_does_143, i2, if_pos (by omega)]
                  exact r1
                · rw [r3, fl_id (by rw [o.2]; exact T)]
            · rw [cif_f q3, cif_f (fun y => q3 y.2.2)]
              exact ⟨0, h1, rfl, g1, Or.inl ⟨rfl, rfl⟩⟩
          · rw [if_neg q2, cif_f (fun y => q2 y.2.1)]
            exact ⟨0, h, rfl, MF_refl, Or.inl ⟨rfl, rfl⟩⟩
        · rw [if_neg q1, cif_f (fun y => q1 y.1)]
          exact ⟨0, h, rfl, MF_refl, Or.inl ⟨rfl, rfl⟩⟩
      · rw [if_neg k3, if_neg k3]
        by_cases k4 : k = 4
        · rw [if_pos k4, if_pos k4, f1, m_isCell (by omega) hL kL.1, bsm, if1]
          by_cases q1 : 0 ≤ a ∧ a < ce L
          · have t4 : (36 + a).toNat = 36 + a.toNat := by omega
            rw [if_pos q1, cif_t (p := inr L a) q1]
            simp (disch := omega) only [wr_eq, gib, t4]
            obtain ⟨h2, r1, r2, r3⟩ := fin (pwI h 422 (36 + a.toNat) 0) _ (MF_wI MF_refl (by unfold MFs; omega) (by omega)) rfl (by rw [up1_pi]; exact SV_snow (by omega) (by omega) kL V)
            rw [up1_pi, fl_id (by rw [ff_snow (by omega) (by omega) kL V]; exact T)] at r3
            exact ⟨1, h2, r1, r2, Or.inr ⟨by rw [r3], rfl⟩⟩
          · rw [if_neg q1, cif_f (p := inr L a) q1]
            exact ⟨0, h, rfl, MF_refl, Or.inl ⟨rfl, rfl⟩⟩
        · rw [if_neg k4, if_neg k4]
          obtain ⟨h1, p1, p2, p3⟩ := m_aDay M V hd
          rw [p1, bsm]
          exact ⟨1, h1, rfl, ⟨fr_mono p2 (fun b hb => by unfold MFs; omega), fun j _ _ => fr_i p2 (by omega)⟩, Or.inr ⟨by rw [p3], rfl⟩⟩
end Mk
section Ch
variable {h : pH} {a p q : Nat} {L W wt sv S : Nat → Int} {u : Bool} {d : Nat}
/-- what an act changes in the class's rows -/
def CFs (a b : Nat) : Prop := (311 ≤ b ∧ b ≤ 315) ∨ SF a b
theorem CF_CX {h' : pH} (C : CX h p q L W) (ha : 303 ≤ a) (f : fr (CFs a) h h') : CX h' p q L W := CX_fr C f (fun b hb => by unfold CFs SF at hb; omega)
theorem c_stands {s : Int} (C : CX h p q L W) (K : SC h a p q L W wt sv u S) : pf_Sc_stands a s h = some (if (0 ≤ s ∧ s < L 4) ∧ 0 ≤ S (72 + s.toNat) then 1 else 0) := by
  have kL := C.2.2.1
  have n6 := NS_le kL
  have en := NS_eq kL
  obtain ⟨⟨ha, ea, eb⟩, k1, k2, k3, k4, k5⟩ := K
  unfold pf_Sc_stands
  rw [ea, C.1.1.2.2.2.2]
  by_cases q0 : s < 0
  · rw [if_pos q0, if_neg (by omega)]
  · rw [if_neg q0]
    by_cases q1 : L 4 ≤ s
    · rw [if_pos q1, if_neg (by omega)]
    · have v := (k4 s.toNat (by omega)).1
      rw [if_neg q1, gib (by omega) (by omega), v]
      by_cases q2 : S (72 + s.toNat) < 0
      · rw [if_pos q2, if_neg (by omega)]
      · rw [if_neg q2, if_pos ⟨⟨by omega, by omega⟩, by omega⟩]
theorem c_shift {s : Nat} {c : Int} (hW : WS L wt sv) (C : CX h p q L W) (K : SC h a p q L W wt sv false S) (V : SV L S d) (hs : s < NS L) (h0 : 0 ≤ S (72 + s)) (hc : inr L c) (no : ∀ t, t < NS L → S (72 + t) ≠ c) : ∃ h', pf_Sc_shift a s c h = some h' ∧ fr (SF a) h h' ∧ SC h' a p q L W wt sv false (fl L W wt 0 6 (up1 S (72 + s) c)) := by
  have kL := C.2.2.1
  have r := V.2.2.1 s hs
  have c0 := hc.1
  have c1 := hc.2
  have ec : ((c.toNat : Nat) : Int) = c := by omega
  obtain ⟨h1, p1, p2, p3⟩ := c_lift (s := s) (v := -1) C K hW hs h0 r.2 (by omega)
  have C1 := SC_CX C K.1.1 p2
  obtain ⟨h2, q1, q2, q3⟩ := c_lower (s := s) (c := c.toNat) C1 p3 hW hs (by rw [up1_s]; omega) (by omega)
  rw [ec] at q1 q3
  have eS : up1 (up1 S (72 + s) (-1)) (72 + s) c = up1 S (72 + s) c := by
    funext j
    unfold up1
    by_cases y : j = 72 + s
    · rw [if_pos y, if_pos y]
    · rw [if_neg y, if_neg y, if_neg y]
  rw [eS] at q3
  obtain ⟨h3, r1, r2, r3⟩ := c_settle hW (SC_CX C1 K.1.1 q2) q3 (SV_mv V kL hs hc no)
  refine ⟨h3, ?_, fr_trans p2 (fr_trans q2 r2), r3⟩
  unfold pf_Sc_shift
  rw [p1, bsm, q1, bsm, r1]
  rfl
theorem c_drawOff {s : Nat} (hW : WS L wt sv) (C : CX h p q L W) (K : SC h a p q L W wt sv u S) (V : SV L S d) (hs : s < NS L) (h0 : 0 ≤ S (72 + s)) : ∃ h', pf_Sc_drawOff a s h = some h' ∧ fr (SF a) h h' ∧ SC h' a p q L W wt sv u (fl L W wt 0 6 (up1 S (72 + s) (-1))) := by
  have kL := C.2.2.1
  have r := V.2.2.1 s hs
  obtain ⟨h1, p1, p2, p3⟩ := c_lift (s := s) (v := -1) C K hW hs h0 r.2 (by omega)
  obtain ⟨h3, r1, r2, r3⟩ := c_settle hW (SC_CX C K.1.1 p2) p3 (SV_lift V kL hs (by omega))
  refine ⟨h3, ?_, fr_trans p2 r2, r3⟩
  unfold pf_Sc_drawOff
  rw [p1, bsm, r1]
  rfl
theorem SC_snow {j : Nat} {v : Int} (K : SC h a p q L W wt sv u S) (kL : LK L) (hj : j < 36) : SC (pwI h (a + 2) j v) a p q L W wt sv u (up1 S (36 + j) v) := by
  have z : 4 ≤ ce L ∧ ce L ≤ 36 := sz_mul kL.1
  obtain ⟨⟨ha, ea, eb⟩, k1, k2, k3, k4, k5⟩ := K
  have cg : ∀ s, s < NS L → up1 S (36 + j) v (72 + s) = S (72 + s) := fun s _ => up1_n (by omega)
  refine ⟨⟨ha, ea, eb⟩, fun d hd hu => ?_, fun d hd => ?_, fun d hd => ?_, fun t ht => ?_, ?_, ?_⟩
  · rw [pi_wIa (by omega), up1_n (by omega)]
    refine k1 d hd ?_
    rcases hu with y | ⟨t, ht, y⟩
    · exact Or.inl y
    · rw [cg t ht] at y; exact Or.inr ⟨t, ht, y⟩
  · by_cases e : d = j
    · rw [e, pi_wIs, up1_s]
    · rw [pi_wIi e, up1_n (by omega)]; exact k2 d hd
  · rw [pi_wIa (by omega), pi_wIa (by omega), ld_c cg, ht_c cg]; exact k3 d hd
  · rw [pi_wIa (by omega), pi_wIa (by omega), pi_wIa (by omega), cg t ht]; exact k4 t ht
  · rw [pi_wIa (by omega), up1_n (by omega)]; exact k5.1
  · rw [pi_wIa (by omega), up1_n (by omega)]; exact k5.2
theorem c_perform {r i : Nat} {k x y c : Int} (hW : WS L wt sv) (C : CX h p q L W) (K : SC h a p q L W wt sv false S) (V : SV L S d) (hd : d ≤ 1000) (ha : SP a) (hi : i < 30) (e0 : pi h (r + 1) i = k) (e1 : pi h (r + 2) i = x) (e2 : pi h (r + 3) i = y) (e3 : pi h (r + 4) i = c) (A : PA k x y c) : ∃ v h', pf_De_perform a r i h = some (v, h') ∧ fr (CFs a) h h' ∧ ((dsp L W wt sv k x y c S = none ∧ v = 0) ∨ (∃ S', dsp L W wt sv k x y c S = some S' ∧ v = 1 ∧ SC h' a p q L W wt sv false S')) := by
  have kL := C.2.2.1
  have kW := C.2.2.2.1
  have z : 4 ≤ ce L ∧ ce L ≤ 36 := sz_mul kL.1
  have n6 := NS_le kL
  have en := NS_eq kL
  have ha3 := K.1.1
  have ea := K.1.2.1
  unfold pf_De_perform
  simp (disch := omega) only [gib, Int.toNat_natCast, e0, e1, e2, e3]
  unfold dsp
  by_cases k0 : k = 0
  · rw [if_pos k0, if_neg (by omega), if_neg (by omega), if_neg (by omega), if_neg (by omega)]
    obtain ⟨h1, p1, p2, p3⟩ := c_day hW C K V hd
    rw [c_frost C K V.2.2.2.2.1.1, bsm] at p1 ⊢
    rw [p1, bsm]
    exact ⟨1, h1, rfl, fr_mono p2 (fun b hb => Or.inr hb), Or.inr ⟨_, rfl, rfl, p3⟩⟩
  · rw [if_neg k0]
    by_cases k1 : k = 1
    · rw [if_pos k1, if_pos k1]
      unfold pf_De_moveShop
      rw [c_stands C K, bsm, if1]
      by_cases q1 : (0 ≤ x ∧ x < L 4) ∧ 0 ≤ S (72 + x.toNat)
      · rw [if_pos q1, ea, c_isCell C, bsm, if1]
        have ex : ((x.toNat : Nat) : Int) = x := by omega
        by_cases q2 : 0 ≤ y ∧ y < ce L
        · rw [if_pos q2]
          have ey : ((y.toNat : Nat) : Int) = y := by omega
          obtain ⟨b, h1, p1, p2, -, -, p5, p6⟩ := c_movesOf (s := x.toNat) hW C K V ha (by omega) q1.2
          rw [ex] at p1
          rw [p1, bsm]
          have hb := c_hasBit (y := b) (n := y.toNat) (h := h1) (by omega)
          rw [ey] at hb
          simp only []
          rw [hb, bsm, if1]
          have iff := p6 y.toNat (by omega)
          rw [ey] at iff
          have f1 : fr (CFs a) h h1 := fr_mono p2 (fun b hb => by unfold SF at hb; unfold CFs SF; omega)
          by_cases q3 : tb b y.toNat = true
          · have cm := iff.mp q3
            obtain ⟨h2, r1, r2, r3⟩ := c_shift (s := x.toNat) (c := y) hW (CF_CX C ha3 f1) p5 V (by omega) q1.2 q2 (isw_open cm.2.2.2).2.1
            rw [ex] at r1
            rw [if_pos q3, r1, cif_t ⟨q1.1, q1.2, cm⟩]
            exact ⟨1, h2, rfl, fr_trans f1 (fr_mono r2 (fun b hb => Or.inr hb)), Or.inr ⟨_, rfl, rfl, r3⟩⟩
          · rw [if_neg q3, cif_f (fun v => q3 (iff.mpr v.2.2))]
            exact ⟨0, h1, rfl, f1, Or.inl ⟨rfl, rfl⟩⟩
        · rw [if_neg q2, cif_f (fun v => q2 v.2.2.1)]
          exact ⟨0, h, rfl, fr_refl, Or.inl ⟨rfl, rfl⟩⟩
      · rw [if_neg q1, cif_f (fun v => q1 ⟨v.1, v.2.1⟩)]
        exact ⟨0, h, rfl, fr_refl, Or.inl ⟨rfl, rfl⟩⟩
    · rw [if_neg k1, if_neg k1]
      by_cases k2 : k = 2
      · rw [if_pos k2, if_pos k2]
        unfold pf_De_drawShop
        rw [c_stands C K, bsm, if1]
        by_cases q1 : (0 ≤ x ∧ x < L 4) ∧ 0 ≤ S (72 + x.toNat)
        · rw [if_pos q1]
          have ex : ((x.toNat : Nat) : Int) = x := by omega
          obtain ⟨h1, p1, p2, -, -, p5⟩ := c_canLeave (s := x.toNat) hW C K V ha (by omega) q1.2
          rw [ex] at p1
          rw [p1, bsm]
          have f1 : fr (CFs a) h h1 := fr_mono p2 (fun b hb => by unfold SF at hb; unfold CFs SF; omega)
          by_cases q3 : cgo L W S wt x.toNat
          · obtain ⟨h2, r1, r2, r3⟩ := c_drawOff (s := x.toNat) hW (CF_CX C ha3 f1) p5 V (by omega) q1.2
            rw [ex] at r1
            rw [cif_t q3, cif_t ⟨q1.1, q1.2, q3⟩]
            simp only []
            rw [if_neg (by decide), r1]
            exact ⟨1, h2, rfl, fr_trans f1 (fr_mono r2 (fun b hb => Or.inr hb)), Or.inr ⟨_, rfl, rfl, r3⟩⟩
          · rw [cif_f q3, cif_f (fun v => q3 v.2.2)]
            exact ⟨0, h1, rfl, f1, Or.inl ⟨rfl, rfl⟩⟩
        · rw [if_neg q1, cif_f (fun v => q1 ⟨v.1, v.2.1⟩)]
          exact ⟨0, h, rfl, fr_refl, Or.inl ⟨rfl, rfl⟩⟩
      · rw [if_neg k2, if_neg k2]
        by_cases k3 : k = 3
        · rw [if_pos k3, if_pos k3]
          obtain ⟨A1, A2⟩ := A.2 k3
          unfold pf_De_ride
          rw [ea, c_isCell C, bsm, if1, c_isCell C, bsm, if1]
          by_cases q1 : 0 ≤ y ∧ y < ce L
          · rw [if_pos q1]
            by_cases q2 : 0 ≤ c ∧ c < ce L
            · rw [if_pos q2]
              obtain ⟨h1, p1, p2, -, -, p5, p6⟩ := c_survey (tk := 0) hW C K V (by unfold SP at ha; omega) (by omega) (by omega)
              have C1 : CX h1 p q L W := CX_fr C p2 (fun b hb => by omega)
              have K1 := SC_fr K p2 (fun b hb => by unfold SP at ha; omega)
              obtain ⟨h2, r1, r2, r3, -, r5, r6⟩ := c_findShort (load := x) (c := y) (to := c) (O := opn L W S wt 0 (-1) x no0) C1 p5 (fun c hc => by rw [p6 c hc]; exact rmv_opn A1.1) q1 q2 A2
              have K2 := SC_fr K1 r2 (fun b hb => by unfold SP at ha; omega)
              have f2 : fr (CFs a) h h2 := fr_trans (fr_mono p2 (fun b hb => by unfold CFs; omega)) (fr_mono r2 (fun b hb => by unfold CFs; omega))
              rw [p1, bsm, r1, bsm]
              by_cases q3 : isw L W (opn L W S wt 0 (-1) x no0) y c
              · obtain ⟨l1, l2⟩ := r6 q3
                rw [cif_t q3, cif_t ⟨q1, q2, q3⟩]
                simp only []
                rw [if_neg (by decide)]
                generalize opn L W S wt 0 (-1) x no0 = O at *
                have dhi := dst_hi (W := W) (O := O) (to := c) kL q1
                have d0 := q3.2
                have main : ∃ h', pl_De_ride_53 a x y c (fun h => some (1, h)) fu_ 0 h2 = some (1, h') ∧ fr (SF a) h2 h' ∧ SC h' a p q L W wt sv false (swp L W O c y S (dst L W O c y + 1).toNat) := by
                  refine lpf (F := fun n (i : Nat) t => pl_De_ride_53 a x y c (fun h => some (1, h)) n i t) (Q := fun r => ∃ h', r = some (1, h') ∧ fr (SF a) h2 h' ∧ SC h' a p q L W wt sv false (swp L W O c y S (dst L W O c y + 1).toNat)) (dst L W O c y + 1).toNat (fun i t => fr (SF a) h2 t ∧ SC t a p q L W wt sv false (swp L W O c y S i)) ?_ ?_ fu_ 0 h2 (by omega) (by unfold fu_; omega) ⟨fr_refl, K2⟩
                  · intro n i t hi ⟨i1, i2⟩
                    right
                    have pin := (pth_in (W := W) (O := O) (to := c) kL q1 (i := i) (by omega)).1
                    have pin0 := pin.1
                    have pin1 := pin.2
                    have n1 : ¬ SF a 311 := by unfold SP at ha; unfold SF; omega
                    have n2 : ¬ SF a 312 := by unfold SP at ha; unfold SF; omega
                    show ∃ t', pl_De_ride_53 a x y c _ (n + 1) i t = pl_De_ride_53 a x y c _ n (i + 1 : Nat) t' ∧ _
                    rw [pl_De_ride_53, fr_i i1 n1, l1, if_neg (by omega), fr_i i1 n2, Int.toNat_natCast, l2 i (by omega)]
                    simp (disch := omega) only [gib, wr_eq]
                    exact ⟨_, rfl, fr_wI i1 (by unfold SF; omega), SC_snow i2 kL (by omega)⟩
                  · intro n t ⟨i1, i2⟩
                    have n1 : ¬ SF a 311 := by unfold SP at ha; unfold SF; omega
                    refine ⟨t, ?_, i1, i2⟩
                    show pl_De_ride_53 a x y c _ (n + 1) ((dst L W O c y + 1).toNat : Nat) t = _
                    rw [pl_De_ride_53, fr_i i1 n1, l1, if_pos (by omega)]
                obtain ⟨h3, s1, s2, s3⟩ := main
                rw [s1]
                exact ⟨1, h3, rfl, fr_trans f2 (fr_mono s2 (fun b hb => Or.inr hb)), Or.inr ⟨_, rfl, rfl, s3⟩⟩
              · rw [cif_f q3, cif_f (fun v => q3 v.2.2)]
                exact ⟨0, h2, rfl, f2, Or.inl ⟨rfl, rfl⟩⟩
            · rw [if_neg q2, cif_f (fun v => q2 v.2.1)]
              exact ⟨0, h, rfl, fr_refl, Or.inl ⟨rfl, rfl⟩⟩
          · rw [if_neg q1, cif_f (fun v => q1 v.1)]
            exact ⟨0, h, rfl, fr_refl, Or.inl ⟨rfl, rfl⟩⟩
        · have k4 : k = 4 := by have := A.1; omega
          rw [if_neg k3, if_neg k3, if_pos k4, if_pos k4]
          unfold pf_De_sweepCell
          rw [ea, c_isCell C, bsm, if1]
          by_cases q1 : 0 ≤ x ∧ x < ce L
          · rw [if_pos q1, gib q1.1 (by omega), cif_t (p := inr L x) q1]
            exact ⟨1, _, rfl, fr_wI fr_refl (by unfold CFs SF; omega), Or.inr ⟨_, rfl, rfl, SC_snow K kL (by omega)⟩⟩
          · rw [if_neg q1, cif_f (p := inr L x) q1]
            exact ⟨0, h, rfl, fr_refl, Or.inl ⟨rfl, rfl⟩⟩
end Ch
