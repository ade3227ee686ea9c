/-! what is told: the class against the reference -/
def lk (A : Nat → Int) (i j : Nat) : Int := A (610 + 260 * i + j)
def lw (A : Nat → Int) (i j : Nat) : Int := A (1130 + 68 * i + j)
def pn (A : Nat → Int) (i j : Nat) : Int := A (1266 + 122 * i + j)
def PK (P : Nat → Int) : Prop := (0 ≤ P 0 ∧ P 0 ≤ 30) ∧ ∀ k : Nat, (k : Int) < P 0 → PA (P (1 + 4 * k)) (P (2 + 4 * k)) (P (3 + 4 * k)) (P (4 + 4 * k))
def PR (h : pH) (r : Nat) (P : Nat → Int) : Prop := pi h r 0 = P 0 ∧ ∀ k : Nat, (k : Int) < P 0 → pi h (r + 1) k = P (1 + 4 * k) ∧ pi h (r + 2) k = P (2 + 4 * k) ∧ pi h (r + 3) k = P (3 + 4 * k) ∧ pi h (r + 4) k = P (4 + 4 * k)
/-- what is told at t is what A has -/
def TR (h : pH) (t : Nat) (A : Nat → Int) : Prop :=
  ((0 ≤ A 0 ∧ A 0 ≤ 2) ∧ (0 ≤ A 1 ∧ A 1 ≤ 2) ∧ (0 ≤ A 2 ∧ A 2 ≤ 3))
  ∧ (pi h (t + 2) 0 = A 0 ∧ pi h (t + 2) 1 = A 1 ∧ pi h (t + 2) 2 = A 2)
  ∧ ((pi h t 1 = A 3 ∧ pi h t 2 = A 4 ∧ pi h t 3 = A 5) ∧ (0 ≤ A 3 ∧ A 3 ≤ 600))
  ∧ (∀ i : Nat, (i : Int) < A 3 → (-128 ≤ pi h (t + 1) i ∧ pi h (t + 1) i ≤ 127) ∧ A (10 + i) = pi h (t + 1) i % 256)
  ∧ (∀ i : Nat, (i : Int) < A 0 → LR h (t + 4 + 12 * i) (lk A i) ∧ LK (lk A i))
  ∧ (∀ i : Nat, (i : Int) < A 1 → WR h (t + 29 + 4 * i) (lw A i) ∧ WK (lw A i))
  ∧ (∀ i : Nat, (i : Int) < A 2 → PR h (t + 38 + 5 * i) (pn A i) ∧ PK (pn A i))
/-- the reference's other fields -/
def MI (h : pH) : Prop := (pi h 417 16 = -1 ∧ pi h 417 17 = -1 ∧ pi h 417 18 = 0 ∧ pi h 417 19 = 0) ∧ ∀ c : Nat, c < 36 → pi h 424 c = 0
noncomputable def rns (L W wt sv P : Nat → Int) (S : Nat → Int) (n : Nat) : Option (Nat → Int) := match n with
  | 0 => some S
  | n + 1 => (rns L W wt sv P S n).bind fun T => dsp L W wt sv (P (1 + 4 * n)) (P (2 + 4 * n)) (P (3 + 4 * n)) (P (4 + 4 * n)) T
/-- the state that is asked for -/
noncomputable def gst (A : Nat → Int) (x y z n : Int) (T : Nat → Int) : Option (Nat → Int) :=
  cif ((0 ≤ x ∧ x < A 0) ∧ (0 ≤ y ∧ y < A 1) ∧ 0 ≤ n ∧ ((z = -1 ∧ n = 0) ∨ ((0 ≤ z ∧ z < A 2) ∧ n ≤ pn A z.toNat 0))) (rns (lk A x.toNat) (lw A y.toNat) (wt0 (lk A x.toNat)) (sv0 (lk A x.toNat)) (pn A z.toNat) (anw (lk A x.toNat) (lw A y.toNat) (wt0 (lk A x.toNat)) 0 T) n.toNat) none
section Db
variable {L W wt sv P S S' : Nat → Int} {d : Nat}
theorem anw_ok (kL : LK L) : SV L (anw L W wt 0 S) 0 ∧ ff L W (anw L W wt 0 S) wt 0 < 0 := ⟨SV_fl kL (SV_an0 kL), fl_set kL (SV_an0 (S := S) kL) (Nat.le_trans cnt_le (NS_le kL))⟩
theorem rns_ok (kL : LK L) (kW : WK W) (V : SV L S d) (T : ff L W S wt 0 < 0) : ∀ {n : Nat} {S'}, rns L W wt sv P S n = some S' → SV L S' (d + n) ∧ ff L W S' wt 0 < 0
  | 0, S', e => by cases e; exact ⟨V, T⟩
  | n + 1, S', e => by
    rw [rns] at e
    cases g : rns L W wt sv P S n with
    | none => rw [g] at e; cases e
    | some S1 =>
      rw [g] at e
      obtain ⟨V1, T1⟩ := rns_ok kL kW V T g
      exact dsp_ok kL kW V1 T1 e
theorem rns_no : ∀ {n m : Nat}, n ≤ m → rns L W wt sv P S n = none → rns L W wt sv P S m = none
  | n, m, h, e => by
    induction m with
    | zero => rw [show n = 0 by omega] at e; exact e
    | succ m ih =>
      rcases Nat.lt_or_ge n (m + 1) with y | y
      · rw [rns, ih (by omega)]; rfl
      · rw [show m + 1 = n by omega]; exact e
end Db
/-- what the class may change while it asks -/
def CGs (b : Nat) : Prop := 303 ≤ b ∧ b ≤ 416
section Ci
variable {h : pH} {A : Nat → Int}
theorem TR_fr {F : Nat → Prop} {h' : pH} {t : Nat} (k : TR h t A) (f : fr F h h') (q : ∀ i, i ≤ 52 → ¬ F (t + i)) : TR h' t A := by
  obtain ⟨a0, a1, a2, a3, a4, a5, a6⟩ := k
  have q0 : ¬ F t := q 0 (by omega)
  refine ⟨a0, by rw [fr_fi f (q 2 (by omega))]; exact a1, by rw [fr_fi f q0]; exact a2, by rw [fr_fi f (q 1 (by omega))]; exact a3, fun i hi => ⟨LR_fr (a4 i hi).1 f (fun j hj => by rw [show t + 4 + 12 * i + j = t + (4 + 12 * i + j) by omega]; exact q _ (by omega)), (a4 i hi).2⟩, fun i hi => ⟨WR_fr (a5 i hi).1 f (fun j hj => by rw [show t + 29 + 4 * i + j = t + (29 + 4 * i + j) by omega]; exact q _ (by omega)), (a5 i hi).2⟩, fun i hi => ⟨?_, (a6 i hi).2⟩⟩
  have g := (a6 i hi).1
  have z : ∀ j, j ≤ 4 → ¬ F (t + 38 + 5 * i + j) := fun j hj => by rw [show t + 38 + 5 * i + j = t + (38 + 5 * i + j) by omega]; exact q _ (by omega)
  have z0 : ¬ F (t + 38 + 5 * i) := z 0 (by omega)
  unfold PR at *
  rw [fr_fi f z0, fr_fi f (z 1 (by omega)), fr_fi f (z 2 (by omega)), fr_fi f (z 3 (by omega)), fr_fi f (z 4 (by omega))]
  exact g
theorem c_has {k : Nat} {x : Int} (R : TR h 65 A) (hk : k < 3) : pf_To_has 65 k x h = some (if 0 ≤ x ∧ x < A k then 1 else 0) := by
  have e : pi h (65 + 2) k = A k := by
    obtain ⟨a, b, c⟩ := R.2.1
    rcases (show k = 0 ∨ k = 1 ∨ k = 2 by omega) with rfl | rfl | rfl
    · exact a
    · exact b
    · exact c
  unfold pf_To_has
  by_cases q1 : x < 0
  · rw [if_pos q1, if_neg (by omega)]
  · rw [if_neg q1, gib (by omega) (by omega), Int.toNat_natCast, e]
    by_cases q2 : A k ≤ x
    · rw [if_pos q2, if_neg (by omega)]
    · rw [if_neg q2, if_pos (by omega)]
/-- the scene stands for what was asked -/
def GS (h : pH) (A : Nat → Int) (x y : Int) (S : Nat → Int) : Prop := CX h (69 + 12 * x.toNat) (94 + 4 * y.toNat) (lk A x.toNat) (lw A y.toNat) ∧ SC h 303 (69 + 12 * x.toNat) (94 + 4 * y.toNat) (lk A x.toNat) (lw A y.toNat) (wt0 (lk A x.toNat)) (sv0 (lk A x.toNat)) false S
theorem c_acts {x y z n : Int} {T : Nat → Int} {K0 K1 : pH → Option (Int × pH)} (R : TR h 65 A) (hx : 0 ≤ x ∧ x < A 0) (hy : 0 ≤ y ∧ y < A 1) (hz : 0 ≤ z ∧ z < A 2) (n0 : 0 ≤ n) (n1 : n ≤ pn A z.toNat 0) (G : GS h A x y (anw (lk A x.toNat) (lw A y.toNat) (wt0 (lk A x.toNat)) 0 T)) : ∃ h', fr CGs h h' ∧ ((rns (lk A x.toNat) (lw A y.toNat) (wt0 (lk A x.toNat)) (sv0 (lk A x.toNat)) (pn A z.toNat) (anw (lk A x.toNat) (lw A y.toNat) (wt0 (lk A x.toNat)) 0 T) n.toNat = none ∧ pl_I_stage_108 x y z n K0 K1 fu_ 0 h = K0 h') ∨ (∃ S, rns (lk A x.toNat) (lw A y.toNat) (wt0 (lk A x.toNat)) (sv0 (lk A x.toNat)) (pn A z.toNat) (anw (lk A x.toNat) (lw A y.toNat) (wt0 (lk A x.toNat)) 0 T) n.toNat = some S ∧ pl_I_stage_108 x y z n K0 K1 fu_ 0 h = K1 h' ∧ GS h' A x y S)) := by
  obtain ⟨C, K⟩ := G
  have kL := C.2.2.1
  have kW := C.2.2.2.1
  have hW := WS0 kL
  have ao := anw_ok (W := lw A y.toNat) (wt := wt0 (lk A x.toNat)) (S := T) kL
  have zR := R.2.2.2.2.2.2 z.toNat (by omega)
  have z3 := R.1.2.2
  have p30 := zR.2.1
  generalize hS0 : anw (lk A x.toNat) (lw A y.toNat) (wt0 (lk A x.toNat)) 0 T = S0 at *
  generalize hL : lk A x.toNat = L at *
  generalize hWW : lw A y.toNat = W at *
  refine lpf (F := fun m (i : Nat) t => pl_I_stage_108 x y z n K0 K1 m i t) (Q := fun r => ∃ h', fr CGs h h' ∧ ((rns L W (wt0 L) (sv0 L) (pn A z.toNat) S0 n.toNat = none ∧ r = K0 h') ∨ (∃ S, rns L W (wt0 L) (sv0 L) (pn A z.toNat) S0 n.toNat = some S ∧ r = K1 h' ∧ GS h' A x y S))) n.toNat (fun i t => fr CGs h t ∧ ∃ S, rns L W (wt0 L) (sv0 L) (pn A z.toNat) S0 i = some S ∧ SC t 303 (69 + 12 * x.toNat) (94 + 4 * y.toNat) L W (wt0 L) (sv0 L) false S) ?_ ?_ fu_ 0 h (by omega) (by unfold fu_; omega) ⟨fr_refl, S0, rfl, K⟩
  · intro m i t hi ⟨f, S, e, Kt⟩
    obtain ⟨V, TT⟩ := rns_ok kL kW ao.1 ao.2 e
    have Ct : CX t (69 + 12 * x.toNat) (94 + 4 * y.toNat) L W := CX_fr C f (fun b hb => hb.1)
    have g := zR.1.2 i (by omega)
    have a0 := R.1
    have fe : ∀ b, b < 303 → pi t b = pi h b := fun b hb => fr_fi f (by unfold CGs; omega)
    obtain ⟨v, h', p1, p2, p3⟩ := c_perform (r := 103 + 5 * z.toNat) (i := i) (a := 303) hW Ct Kt V (by omega) (Or.inl rfl) (by omega) (by rw [fe _ (by omega)]; exact g.1) (by rw [fe _ (by omega)]; exact g.2.1) (by rw [fe _ (by omega)]; exact g.2.2.1) (by rw [fe _ (by omega)]; exact g.2.2.2) (zR.2.2 i (by omega))
    have f' : fr CGs h h' := fr_trans f (fr_mono p2 (fun b hb => by unfold CFs SF at hb; unfold CGs; omega))
    show (∃ h', fr CGs h h' ∧ ((_ ∧ pl_I_stage_108 x y z n K0 K1 (m + 1) i t = K0 h') ∨ (∃ S, _ ∧ pl_I_stage_108 x y z n K0 K1 (m + 1) i t = K1 h' ∧ _))) ∨ ∃ t', pl_I_stage_108 x y z n K0 K1 (m + 1) i t = pl_I_stage_108 x y z n K0 K1 m (i + 1 : Nat) t' ∧ _
    rw [pl_I_stage_108, if_neg (by omega), gib hz.1 (by omega), show 102 + 1 + 5 * z.toNat = 103 + 5 * z.toNat by omega, p1, bsm]
    have en : rns L W (wt0 L) (sv0 L) (pn A z.toNat) S0 (i + 1) = dsp L W (wt0 L) (sv0 L) (pn A z.toNat (1 + 4 * i)) (pn A z.toNat (2 + 4 * i)) (pn A z.toNat (3 + 4 * i)) (pn A z.toNat (4 + 4 * i)) S := by rw [rns, e]; rfl
    rcases p3 with ⟨q1, q2⟩ | ⟨S', q1, q2, q3⟩
    · left
      refine ⟨h', f', Or.inl ⟨rns_no (n := i + 1) (by omega) (by rw [en]; exact q1), ?_⟩⟩
      rw [q2]; rfl
    · right
      refine ⟨h', ?_, f', S', by rw [en]; exact q1, q3⟩
      rw [q2]
      simp only []
      rw [if_neg (by decide), wr_eq (by omega) (by omega)]
      rfl
  · intro m t ⟨f, S, e, Kt⟩
    have Ct : CX t (69 + 12 * x.toNat) (94 + 4 * y.toNat) L W := CX_fr C f (fun b hb => hb.1)
    refine ⟨t, f, Or.inr ⟨S, e, ?_, ?_⟩⟩
    · show pl_I_stage_108 x y z n K0 K1 (m + 1) (n.toNat : Nat) t = _
      rw [pl_I_stage_108, if_pos (by omega)]
    · unfold GS; rw [hL, hWW]; exact ⟨Ct, Kt⟩
theorem c_beginAt {x y : Int} (R : TR h 65 A) (hx : 0 ≤ x ∧ x < A 0) (hy : 0 ≤ y ∧ y < A 1) : ∃ h', pf_Sc_begin 303 (69 + 12 * x.toNat) (94 + 4 * y.toNat) h = some h' ∧ fr CGs h h' ∧ ∀ T, GS h' A x y (anw (lk A x.toNat) (lw A y.toNat) (wt0 (lk A x.toNat)) 0 T) := by
  have rl := R.2.2.2.2.1 x.toNat (by omega)
  have rw_ := R.2.2.2.2.2.1 y.toNat (by omega)
  have a0 := R.1
  have C : CX h (69 + 12 * x.toNat) (94 + 4 * y.toNat) (lk A x.toNat) (lw A y.toNat) := ⟨by have := rl.1; rw [show 65 + 4 + 12 * x.toNat = 69 + 12 * x.toNat by omega] at this; exact this, by have := rw_.1; rw [show 65 + 29 + 4 * y.toNat = 94 + 4 * y.toNat by omega] at this; exact this, rl.2, rw_.2, by omega, by omega⟩
  obtain ⟨h', p1, p2, p3⟩ := c_begin (a := 303) C (by omega) (by decide +kernel) (by decide +kernel) (by decide +kernel)
  exact ⟨h', p1, fr_mono p2 (fun b hb => by unfold SF at hb; unfold CGs; omega), fun T => ⟨SC_CX C (by omega) p2, p3 T⟩⟩
theorem c_stage {x y z n : Int} (R : TR h 65 A) (T : Nat → Int) : ∃ v h', pf_I_stage x y z n h = some (v, h') ∧ fr CGs h h' ∧ ((gst A x y z n T = none ∧ v = 0) ∨ (∃ S, gst A x y z n T = some S ∧ v = 1 ∧ GS h' A x y S)) := by
  have a0 := R.1
  unfold pf_I_stage gst
  have e0 := c_has (k := 0) (x := x) R (by omega)
  have e1 := c_has (k := 1) (x := y) R (by omega)
  have e2 := c_has (k := 2) (x := z) R (by omega)
  rw [show ((0 : Nat) : Int) = 0 from rfl] at e0
  rw [show ((1 : Nat) : Int) = 1 from rfl] at e1
  rw [show ((2 : Nat) : Int) = 2 from rfl] at e2
  rw [e0, bsm, if1]
  by_cases q1 : 0 ≤ x ∧ x < A 0
  · rw [if_pos q1, e1, bsm, if1]
    by_cases q2 : 0 ≤ y ∧ y < A 1
    · rw [if_pos q2]
      obtain ⟨h1, b1, b2, b3⟩ := c_beginAt R q1 q2
      have b3' := b3 T
      unfold pj_I_stage_43 pj_I_stage_64
      by_cases q3 : z = -1
      · rw [if_pos q3, if_pos q3]
        by_cases q4 : n < 0
        · rw [if_pos q4, cif_f (fun v => by have := v.2.2.1; omega)]
          exact ⟨0, h, rfl, fr_refl, Or.inl ⟨rfl, rfl⟩⟩
        · rw [if_neg q4]
          by_cases q5 : n ≤ 0
          · have n0 : n = 0 := by omega
            rw [if_pos q5, cif_t ⟨q1, q2, by omega, Or.inl ⟨q3, n0⟩⟩, gib q1.1 (by omega), gib q2.1 (by omega), show 68 + 1 + 12 * x.toNat = 69 + 12 * x.toNat by omega, show 93 + 1 + 4 * y.toNat = 94 + 4 * y.toNat by omega, b1, bsm, show fu_ = 1099511627775 + 1 from rfl, pl_I_stage_108, if_pos (by omega), n0]
            exact ⟨1, h1, rfl, b2, Or.inr ⟨_, rfl, rfl, b3'⟩⟩
          · rw [if_neg q5, cif_f (fun v => by rcases v.2.2.2 with w | w <;> omega)]
            exact ⟨0, h, rfl, fr_refl, Or.inl ⟨rfl, rfl⟩⟩
      · rw [if_neg q3, if_neg q3, e2, bsm, if1]
        by_cases q4 : 0 ≤ z ∧ z < A 2
        · have zR := R.2.2.2.2.2.2 z.toNat (by omega)
          have z0 : pi h (102 + 1 + 5 * z.toNat) 0 = pn A z.toNat 0 := by rw [show 102 + 1 + 5 * z.toNat = 65 + 38 + 5 * z.toNat by omega]; exact zR.1.1
          rw [if_pos q4, gib q4.1 (by omega), z0]
          by_cases q5 : n < 0
          · rw [if_pos q5, cif_f (fun v => by have := v.2.2.1; omega)]
            exact ⟨0, h, rfl, fr_refl, Or.inl ⟨rfl, rfl⟩⟩
          · rw [if_neg q5]
            by_cases q6 : n ≤ pn A z.toNat 0
            · rw [if_pos q6, cif_t ⟨q1, q2, by omega, Or.inr ⟨q4, q6⟩⟩, gib q1.1 (by omega), gib q2.1 (by omega), show 68 + 1 + 12 * x.toNat = 69 + 12 * x.toNat by omega, show 93 + 1 + 4 * y.toNat = 94 + 4 * y.toNat by omega, b1, bsm]
              have R1 := TR_fr R b2 (fun i hi v => by have := v.1; omega)
              obtain ⟨h2, c1, c2⟩ := c_acts (K0 := fun h => some (0, h)) (K1 := fun h => some (1, h)) R1 q1 q2 q4 (by omega) q6 b3'
              rcases c2 with ⟨c3, c4⟩ | ⟨S, c3, c4, c5⟩
              · rw [c4, c3]; exact ⟨0, h2, rfl, fr_trans b2 c1, Or.inl ⟨rfl, rfl⟩⟩
              · rw [c4, c3]; exact ⟨1, h2, rfl, fr_trans b2 c1, Or.inr ⟨S, rfl, rfl, c5⟩⟩
            · rw [if_neg q6, cif_f (fun v => by rcases v.2.2.2 with w | w <;> omega)]
              exact ⟨0, h, rfl, fr_refl, Or.inl ⟨rfl, rfl⟩⟩
        · rw [if_neg q4, cif_f (fun v => by rcases v.2.2.2 with w | w; exact q3 w.1; exact q4 w.1)]
          exact ⟨0, h, rfl, fr_refl, Or.inl ⟨rfl, rfl⟩⟩
    · rw [if_neg q2, cif_f (fun v => q2 v.2.1)]
      exact ⟨0, h, rfl, fr_refl, Or.inl ⟨rfl, rfl⟩⟩
  · rw [if_neg q1, cif_f (fun v => q1 v.1)]
    exact ⟨0, h, rfl, fr_refl, Or.inl ⟨rfl, rfl⟩⟩
end Ci
section Ml
variable {h : pH} {A : Nat → Int}
/-- the bounds of what is told -/
def TB (A : Nat → Int) : Prop := ((0 ≤ A 0 ∧ A 0 ≤ 2) ∧ (0 ≤ A 1 ∧ A 1 ≤ 2) ∧ (0 ≤ A 2 ∧ A 2 ≤ 3)) ∧ (∀ i : Nat, (i : Int) < A 0 → LK (lk A i)) ∧ (∀ i : Nat, (i : Int) < A 1 → WK (lw A i)) ∧ (∀ i : Nat, (i : Int) < A 2 → PK (pn A i))
theorem TR_TB {t : Nat} (R : TR h t A) : TB A := ⟨R.1, fun i hi => (R.2.2.2.2.1 i hi).2, fun i hi => (R.2.2.2.2.2.1 i hi).2, fun i hi => (R.2.2.2.2.2.2 i hi).2⟩
def GM (h : pH) (A : Nat → Int) (x y : Int) (S : Nat → Int) : Prop := MC h (610 + 260 * x.toNat) (1130 + 68 * y.toNat) (lk A x.toNat) (lw A y.toNat) (wt0 (lk A x.toNat)) (sv0 (lk A x.toNat)) 0 ∧ pi h 422 = S ∧ ∀ c : Nat, c < 36 → pi h 424 c = 0
theorem m_isOf {k : Nat} {x : Int} (B : TB (pi h 418)) (hk : k < 3) : pf_M_isOf k x h = some (if 0 ≤ x ∧ x < pi h 418 k then 1 else 0) := by
  have b : 0 ≤ pi h 418 k ∧ pi h 418 k ≤ 3 := by
    obtain ⟨a, b, c⟩ := B.1
    rcases (show k = 0 ∨ k = 1 ∨ k = 2 by omega) with rfl | rfl | rfl <;> omega
  unfold pf_M_isOf
  simp (disch := omega) only [gib, Int.toNat_natCast, wr_eq, m_isIn, bsm, gz1]
  congr 1
  split <;> split <;> first | rfl | (exfalso; omega)
/-- but for the lake and the law that it looks at -/
def MG (h h' : pH) : Prop := fr MFs h h' ∧ ∀ j, 16 ≤ j → j ≤ 19 → pi h' 417 j = pi h 417 j
theorem MG_refl {h : pH} : MG h h := ⟨fr_refl, fun _ _ _ => rfl⟩
theorem MG_trans {h h1 h2 : pH} (a : MG h h1) (b : MG h1 h2) : MG h h2 := ⟨fr_trans a.1 b.1, fun j x y => by rw [b.2 j x y, a.2 j x y]⟩
theorem MF_MG {h h1 : pH} (a : MF h h1) : MG h h1 := ⟨a.1, fun j x y => a.2 j (by omega) y⟩
theorem MG_18 {h h' : pH} (f : MG h h') : pi h' 418 = pi h 418 := fr_fi f.1 (by unfold MFs; omega)
theorem MG_MI {h h' : pH} (f : MG h h') (I : MI h) : MI h' := by
  refine ⟨?_, fun c hc => by rw [fr_i f.1 (by unfold MFs; omega)]; exact I.2 c hc⟩
  rw [f.2 16 (by omega) (by omega), f.2 17 (by omega) (by omega), f.2 18 (by omega) (by omega), f.2 19 (by omega) (by omega)]
  exact I.1
theorem m_areBoth {x y : Int} (B : TB (pi h 418)) (I : MI h) : ∃ r h', pf_M_areBoth x y h = some (r, h') ∧ MG h h' ∧ pi h' 422 = pi h 422 ∧ ((¬ ((0 ≤ x ∧ x < pi h 418 0) ∧ (0 ≤ y ∧ y < pi h 418 1)) ∧ r = 0) ∨ (((0 ≤ x ∧ x < pi h 418 0) ∧ (0 ≤ y ∧ y < pi h 418 1)) ∧ r = 1 ∧ GM h' (pi h 418) x y (pi h 422))) := by
  unfold pf_M_areBoth
  have e0 := m_isOf (k := 0) (x := x) B (by omega)
  have e1 := m_isOf (k := 1) (x := y) B (by omega)
  rw [show ((0 : Nat) : Int) = 0 from rfl] at e0
  rw [show ((1 : Nat) : Int) = 1 from rfl] at e1
  rw [e0, bsm, if1]
  by_cases q1 : 0 ≤ x ∧ x < pi h 418 0
  · rw [if_pos q1, e1, bsm, if1]
    by_cases q2 : 0 ≤ y ∧ y < pi h 418 1
    · have b := B.1
      rw [if_pos q2]
      have p0 : pf_M_placeOf 0 x h = some ((610 + 260 * x.toNat : Nat) : Int) := by
        unfold pf_M_placeOf
        rw [if_pos rfl]
        simp (disch := omega) only [wr_eq]
        congr 1
        omega
      rw [p0, bsm]
      have p1 : ∀ g, pf_M_placeOf 1 y g = some ((1130 + 68 * y.toNat : Nat) : Int) := fun g => by
        unfold pf_M_placeOf
        rw [if_neg (by decide), if_pos rfl]
        simp (disch := omega) only [wr_eq]
        congr 1
        omega
      rw [p1, bsm]
      have f : MG h (pwI (pwI h 417 14 ((610 + 260 * x.toNat : Nat) : Int)) 417 15 ((1130 + 68 * y.toNat : Nat) : Int)) := ⟨fr_wI (fr_wI fr_refl (by unfold MFs; omega)) (by unfold MFs; omega), fun j h1 h2 => by rw [pi_wIi (by omega), pi_wIi (by omega)]⟩
      have kL := B.2.1 x.toNat (by omega)
      have kW := B.2.2.1 y.toNat (by omega)
      refine ⟨1, _, rfl, f, by rw [pi_wIf (by decide), pi_wIf (by decide)], Or.inr ⟨⟨q1, q2⟩, rfl, ⟨⟨?_, ?_, by omega, by omega, fun j hj => ?_, fun j hj => ?_, kL, kW⟩, fun s hs => ?_, fun s hs => ?_, ?_, ?_, by omega⟩, ?_, fun c hc => ?_⟩⟩
      · rw [pi_wIi (by decide), pi_wIs]
      · rw [pi_wIs]
      · rw [pi_wIa (by decide), pi_wIa (by decide)]; rfl
      · rw [pi_wIa (by decide), pi_wIa (by decide)]; rfl
      · unfold wtM
        rw [pi_wIi (by decide), pi_wIi (by decide), pi_wIi (by decide), pi_wIi (by decide), I.1.2.1, if_neg (by omega), Int.add_zero]
        rfl
      · unfold svM
        rw [pi_wIi (by decide), pi_wIi (by decide), I.1.1, if_neg (by omega)]
        rfl
      · rw [pi_wIi (by decide), pi_wIi (by decide)]; exact I.1.2.2.2
      · rw [pi_wIi (by decide), pi_wIi (by decide), I.1.2.2.1]; omega
      · rw [pi_wIf (by decide), pi_wIf (by decide)]
      · rw [pi_wIa (by decide), pi_wIa (by decide)]; exact I.2 c hc
    · rw [if_neg q2]
      exact ⟨0, h, rfl, MG_refl, rfl, Or.inl ⟨fun v => q2 v.2, rfl⟩⟩
  · rw [if_neg q1]
    exact ⟨0, h, rfl, MG_refl, rfl, Or.inl ⟨fun v => q1 v.1, rfl⟩⟩
theorem GM_MF {h h' : pH} {x y : Int} {S : Nat → Int} (G : GM h A x y S) (f : MF h h') : GM h' A x y (pi h' 422) := ⟨MF_MC G.1 f, rfl, fun c hc => by rw [MF_24 f]; exact G.2.2 c hc⟩
theorem m_anewG {x y : Int} {S : Nat → Int} (G : GM h A x y S) : ∃ h', pf_M_anew h = some h' ∧ MF h h' ∧ GM h' A x y (anw (lk A x.toNat) (lw A y.toNat) (wt0 (lk A x.toNat)) 0 S) := by
  obtain ⟨h1, p1, p2, p3⟩ := m_anew G.1
  have f : MF h h1 := ⟨fr_mono p2 (fun b hb => by unfold MFs; omega), fun j _ _ => fr_i p2 (by omega)⟩
  rw [G.2.1] at p3
  have := GM_MF G f
  rw [p3] at this
  exact ⟨h1, p1, f, this⟩
theorem m_runs {x y z most : Int} {S0 : Nat → Int} (hA : pi h 418 = A) (B : TB A) (G : GM h A x y S0) (hz : 0 ≤ z ∧ z < A 2) (m0 : 0 ≤ most) : ∃ (n : Nat) (h' : pH), pf_M_runs z most h = some ((n : Int), h') ∧ MF h h' ∧ (n : Int) ≤ most ∧ (n : Int) ≤ pn A z.toNat 0 ∧ (∃ S, rns (lk A x.toNat) (lw A y.toNat) (wt0 (lk A x.toNat)) (sv0 (lk A x.toNat)) (pn A z.toNat) (anw (lk A x.toNat) (lw A y.toNat) (wt0 (lk A x.toNat)) 0 S0) n = some S ∧ (((n : Int) = most ∨ (n : Int) = pn A z.toNat 0) ∧ GM h' A x y S ∨ rns (lk A x.toNat) (lw A y.toNat) (wt0 (lk A x.toNat)) (sv0 (lk A x.toNat)) (pn A z.toNat) (anw (lk A x.toNat) (lw A y.toNat) (wt0 (lk A x.toNat)) 0 S0) (n + 1) = none ∧ (n : Int) < most ∧ (n : Int) < pn A z.toNat 0)) := by
  have kL := G.1.1.2.2.2.2.2.2.1
  have kW := G.1.1.2.2.2.2.2.2.2
  have b := B.1
  have zK := B.2.2.2 z.toNat (by omega)
  have p30 := zK.1
  obtain ⟨h1, p1, p2, p3⟩ := m_anewG G
  have ao := anw_ok (W := lw A y.toNat) (wt := wt0 (lk A x.toNat)) (S := S0) kL
  unfold pf_M_runs
  rw [p1, bsm]
  have pl0 : pf_M_placeOf 2 z h1 = some ((1266 + 122 * z.toNat : Nat) : Int) := by
    unfold pf_M_placeOf
    rw [if_neg (by decide), if_neg (by decide)]
    simp (disch := omega) only [wr_eq]
    exact congrArg some (by omega)
  rw [pl0, bsm]
  generalize hS0 : anw (lk A x.toNat) (lw A y.toNat) (wt0 (lk A x.toNat)) 0 S0 = S1 at *
  refine lp (F := fun m (t : Nat × pH) => pl_M_runs_13 z most (fun x4 h => some (x4, h)) m ((1266 + 122 * z.toNat : Nat) : Int) t.1 t.2) (Q := fun r => ∃ (n : Nat) (h' : pH), r = some ((n : Int), h') ∧ MF h h' ∧ (n : Int) ≤ most ∧ (n : Int) ≤ pn A z.toNat 0 ∧ (∃ S, rns (lk A x.toNat) (lw A y.toNat) (wt0 (lk A x.toNat)) (sv0 (lk A x.toNat)) (pn A z.toNat) S1 n = some S ∧ (((n : Int) = most ∨ (n : Int) = pn A z.toNat 0) ∧ GM h' A x y S ∨ rns (lk A x.toNat) (lw A y.toNat) (wt0 (lk A x.toNat)) (sv0 (lk A x.toNat)) (pn A z.toNat) S1 (n + 1) = none ∧ (n : Int) < most ∧ (n : Int) < pn A z.toNat 0))) (I := fun t => MF h t.2 ∧ (t.1 : Int) ≤ most ∧ (t.1 : Int) ≤ pn A z.toNat 0 ∧ ∃ S, rns (lk A x.toNat) (lw A y.toNat) (wt0 (lk A x.toNat)) (sv0 (lk A x.toNat)) (pn A z.toNat) S1 t.1 = some S ∧ GM t.2 A x y S) (fun t => 40 - t.1) ?_ fu_ (0, h1) ⟨p2, m0, p30.1, S1, rfl, p3⟩ (by show 40 - 0 < fu_; unfold fu_; omega)
  intro m t ⟨f, i1, i2, S, e, Gt⟩
  obtain ⟨n, t⟩ := t
  have f : MF h t := f
  have i1 : (n : Int) ≤ most := i1
  have i2 : (n : Int) ≤ pn A z.toNat 0 := i2
  have e : rns (lk A x.toNat) (lw A y.toNat) (wt0 (lk A x.toNat)) (sv0 (lk A x.toNat)) (pn A z.toNat) S1 n = some S := e
  have Gt : GM t A x y S := Gt
  have e18 : pi t 418 = A := by rw [MF_18 f]; exact hA
  obtain ⟨V, TT⟩ := rns_ok kL kW ao.1 ao.2 e
  show (∃ (n' : Nat) (h' : pH), pl_M_runs_13 z most _ (m + 1) _ n t = some ((n' : Int), h') ∧ _) ∨ ∃ t' : Nat × pH, pl_M_runs_13 z most _ (m + 1) _ n t = pl_M_runs_13 z most _ m _ t'.1 t'.2 ∧ _
  rw [pl_M_runs_13]
  by_cases q1 : most ≤ (n : Int)
  · left
    rw [if_pos q1]
    exact ⟨n, t, rfl, f, i1, i2, S, e, Or.inl ⟨Or.inl (by omega), Gt⟩⟩
  · have e0 : pi t 418 (1266 + 122 * z.toNat) = pn A z.toNat 0 := by rw [e18]; rfl
    rw [if_neg q1, gib (by omega) (by omega), Int.toNat_natCast, e0]
    by_cases q2 : pn A z.toNat 0 ≤ (n : Int)
    · left
      rw [if_pos q2]
      exact ⟨n, t, rfl, f, i1, i2, S, e, Or.inl ⟨Or.inr (by omega), Gt⟩⟩
    · rw [if_neg q2]
      have ex : wr (wr (((1266 + 122 * z.toNat : Nat) : Int) + 1) + wr (4 * (n : Int))) = ((1267 + 122 * z.toNat + 4 * n : Nat) : Int) := by
        simp (disch := omega) only [wr_eq]
        omega
      obtain ⟨r, h2, d1, d2, d3⟩ := m_does (x := 1267 + 122 * z.toNat + 4 * n) (k := pn A z.toNat (1 + 4 * n)) (a := pn A z.toNat (2 + 4 * n)) (b := pn A z.toNat (3 + 4 * n)) (c := pn A z.toNat (4 + 4 * n)) Gt.1 (by rw [Gt.2.1]; exact V) (by omega) Gt.2.2 (by rw [Gt.2.1]; exact TT) (by omega) (by rw [e18]; unfold pn; exact congrArg A (by omega)) (by rw [e18]; unfold pn; exact congrArg A (by omega)) (by rw [e18]; unfold pn; exact congrArg A (by omega)) (by rw [e18]; unfold pn; exact congrArg A (by omega)) (zK.2 n (by omega))
      rw [ex, d1, bsm]
      rw [Gt.2.1] at d3
      have en : rns (lk A x.toNat) (lw A y.toNat) (wt0 (lk A x.toNat)) (sv0 (lk A x.toNat)) (pn A z.toNat) S1 (n + 1) = dsp (lk A x.toNat) (lw A y.toNat) (wt0 (lk A x.toNat)) (sv0 (lk A x.toNat)) (pn A z.toNat (1 + 4 * n)) (pn A z.toNat (2 + 4 * n)) (pn A z.toNat (3 + 4 * n)) (pn A z.toNat (4 + 4 * n)) S := by rw [rns, e]; rfl
      rcases d3 with ⟨c1, c2⟩ | ⟨c1, c2⟩
      · left
        refine ⟨n, h2, by rw [c2]; rfl, MF_trans f d2, i1, i2, S, e, Or.inr ⟨by rw [en]; exact c1, by omega, by omega⟩⟩
      · right
        refine ⟨(n + 1, h2), ?_, ⟨MF_trans f d2, by show ((n + 1 : Nat) : Int) ≤ most; omega, by show ((n + 1 : Nat) : Int) ≤ pn A z.toNat 0; omega, pi h2 422, by show rns _ _ _ _ _ _ (n + 1) = _; rw [en]; exact c1, GM_MF Gt d2⟩, by show 40 - (n + 1) < 40 - n; omega⟩
        rw [c2]
        simp only []
        rw [if_neg (by decide), wr_eq (by omega) (by omega)]
        rfl
theorem m_isState {x y z n : Int} (hA : pi h 418 = A) (B : TB A) (I : MI h) : ∃ r h', pf_M_isState x y z n h = some (r, h') ∧ MG h h' ∧ ((gst A x y z n (pi h 422) = none ∧ r = 0) ∨ (∃ S, gst A x y z n (pi h 422) = some S ∧ r = 1 ∧ GM h' A x y S)) := by
  obtain ⟨r, h1, p1, p2, p3, p4⟩ := m_areBoth (x := x) (y := y) (by rw [hA]; exact B) I
  rw [hA] at p4
  have b := B.1
  unfold pf_M_isState gst
  rw [p1, bsm]
  rcases p4 with ⟨q1, q2⟩ | ⟨q1, q2, G⟩
  · rw [q2, cif_f (fun v => q1 ⟨v.1, v.2.1⟩)]
    exact ⟨0, h1, rfl, p2, Or.inl ⟨rfl, rfl⟩⟩
  · have e18 : pi h1 418 = A := by rw [MG_18 p2]; exact hA
    rw [q2]
    simp only []
    rw [if_neg (by decide)]
    by_cases q3 : n < 0
    · rw [if_pos q3, cif_f (fun v => by have := v.2.2.1; omega)]
      exact ⟨0, h1, rfl, p2, Or.inl ⟨rfl, rfl⟩⟩
    · rw [if_neg q3]
      unfold pj_M_isState_30
      by_cases q4 : z = -1
      · rw [if_pos q4, if_pos q4]
        obtain ⟨h2, a1, a2, a3⟩ := m_anewG G
        rw [a1, bsm]
        by_cases q5 : n = 0
        · rw [if_pos q5, cif_t ⟨q1.1, q1.2, by omega, Or.inl ⟨q4, q5⟩⟩, q5]
          exact ⟨1, h2, rfl, MG_trans p2 (MF_MG a2), Or.inr ⟨_, rfl, rfl, a3⟩⟩
        · rw [if_neg q5, cif_f (fun v => by rcases v.2.2.2 with w | w; exact q5 w.2; omega)]
          exact ⟨0, h2, rfl, MG_trans p2 (MF_MG a2), Or.inl ⟨rfl, rfl⟩⟩
      · rw [if_neg q4, if_neg q4]
        have e2 := m_isOf (h := h1) (k := 2) (x := z) (by rw [e18]; exact B) (by omega)
        rw [show ((2 : Nat) : Int) = 2 from rfl, e18] at e2
        rw [e2, bsm, if1]
        by_cases q5 : 0 ≤ z ∧ z < A 2
        · rw [if_pos q5]
          have zK := B.2.2.2 z.toNat (by omega)
          have p30 := zK.1
          obtain ⟨k, h2, r1, r2, r3, r4, S, r5, r6⟩ := m_runs (most := n) e18 B G q5 (by omega)
          rw [r1, bsm]
          simp only []
          have f2 := MG_trans p2 (MF_MG r2)
          by_cases q6 : (k : Int) = n
          · rw [if_pos q6]
            have hk : n.toNat = k := by omega
            rw [cif_t ⟨q1.1, q1.2, by omega, Or.inr ⟨q5, by omega⟩⟩, hk, r5]
            rcases r6 with ⟨_, r7⟩ | ⟨_, r7, _⟩
            · exact ⟨1, h2, rfl, f2, Or.inr ⟨S, rfl, rfl, r7⟩⟩
            · omega
          · rw [if_neg q6]
            refine ⟨0, h2, rfl, f2, Or.inl ⟨?_, rfl⟩⟩
            by_cases q7 : n ≤ pn A z.toNat 0
            · rcases r6 with ⟨r7, _⟩ | ⟨r7, r8, r9⟩
              · omega
              · rw [cif_t ⟨q1.1, q1.2, by omega, Or.inr ⟨q5, q7⟩⟩]
                exact rns_no (n := k + 1) (by omega) r7
            · rw [cif_f (fun v => by rcases v.2.2.2 with w | w <;> omega)]
        · rw [if_neg q5, cif_f (fun v => by rcases v.2.2.2 with w | w; exact q4 w.1; exact q5 w.1)]
          exact ⟨0, h1, rfl, p2, Or.inl ⟨rfl, rfl⟩⟩
end Ml
