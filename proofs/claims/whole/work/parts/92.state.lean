/-! what is asked: class and reference answer alike -/
def asks {α : Type} (cf mf : pH → Option (α × pH)) : Prop := ∀ h A, TR h 65 A → pi h 418 = A → MI h → ∃ r h1 h2, cf h = some (r, h1) ∧ fr CGs h h1 ∧ mf h1 = some (r, h2) ∧ MG h1 h2
theorem CG_i {h h1 : pH} {b : Nat} (f : fr CGs h h1) (q : b < 303 ∨ 416 < b) : pi h1 b = pi h b := fr_fi f (by unfold CGs; omega)
theorem CG_MI {h h1 : pH} (f : fr CGs h h1) (I : MI h) : MI h1 := by
  unfold MI at *
  rw [CG_i f (Or.inr (by omega)), CG_i f (Or.inr (by omega))]
  exact I
theorem gst_ok {A : Nat → Int} {x y z n : Int} {T S : Nat → Int} (B : TB A) (e : gst A x y z n T = some S) : (0 ≤ x ∧ x < A 0) ∧ (0 ≤ y ∧ y < A 1) ∧ LK (lk A x.toNat) ∧ WK (lw A y.toNat) ∧ SV (lk A x.toNat) S 31 ∧ ff (lk A x.toNat) (lw A y.toNat) S (wt0 (lk A x.toNat)) 0 < 0 := by
  unfold gst at e
  by_cases q : (0 ≤ x ∧ x < A 0) ∧ (0 ≤ y ∧ y < A 1) ∧ 0 ≤ n ∧ ((z = -1 ∧ n = 0) ∨ ((0 ≤ z ∧ z < A 2) ∧ n ≤ pn A z.toNat 0))
  · rw [cif_t q] at e
    have kL := B.2.1 x.toNat (by omega)
    have kW := B.2.2.1 y.toNat (by omega)
    have ao := anw_ok (W := lw A y.toNat) (wt := wt0 (lk A x.toNat)) (S := T) kL
    have n30 : n ≤ 30 := by
      rcases q.2.2.2 with w | w
      · omega
      · have := (B.2.2.2 z.toNat (by omega)).1; omega
    obtain ⟨V, TT⟩ := rns_ok kL kW ao.1 ao.2 e
    exact ⟨q.1, q.2.1, kL, kW, SV_up V (by omega), TT⟩
  · rw [cif_f q] at e; cases e
theorem m_isState1 {h h1 : pH} {A : Nat → Int} {x y z n : Int} (R : TR h 65 A) (hA : pi h 418 = A) (I : MI h) (f : fr CGs h h1) : ∃ r h', pf_M_isState x y z n h1 = some (r, h') ∧ MG h1 h' ∧ ((gst A x y z n (pi h 422) = none ∧ r = 0) ∨ (∃ S, gst A x y z n (pi h 422) = some S ∧ r = 1 ∧ GM h' A x y S)) := by
  have e := m_isState (x := x) (y := y) (z := z) (n := n) (h := h1) (A := A) (by rw [CG_i f (Or.inr (by omega))]; exact hA) (TR_TB R) (CG_MI f I)
  rw [CG_i f (Or.inr (by omega))] at e
  exact e
/-- the frame of an answer: class, then reference -/
theorem ask_by {α : Type} {cf mf : pH → Option (α × pH)} {x y z n : Int} (no : α) {kc km : Int × pH → Option (α × pH)} (hc : ∀ h, cf h = (pf_I_stage x y z n h).bind kc) (hm : ∀ h, mf h = (pf_M_isState x y z n h).bind km) (nc : ∀ h, kc (0, h) = some (no, h)) (nm : ∀ h, km (0, h) = some (no, h)) (main : ∀ (A : Nat → Int) (S : Nat → Int) (h g : pH), TB A → (0 ≤ x ∧ x < A 0) → (0 ≤ y ∧ y < A 1) → SV (lk A x.toNat) S 31 → ff (lk A x.toNat) (lw A y.toNat) S (wt0 (lk A x.toNat)) 0 < 0 → GS h A x y S → GM g A x y S → MI g → ∃ r h1 g1, kc (1, h) = some (r, h1) ∧ fr CGs h h1 ∧ km (1, g) = some (r, g1) ∧ MG g g1) : asks cf mf := by
  intro h A R hA I
  obtain ⟨v, h1, p1, p2, p3⟩ := c_stage (x := x) (y := y) (z := z) (n := n) R (pi h 422)
  rw [hc, p1, bsm]
  rcases p3 with ⟨q1, q2⟩ | ⟨S, q1, q2, q3⟩
  · obtain ⟨r, h2, r1, r2, r3⟩ := m_isState1 (x := x) (y := y) (z := z) (n := n) R hA I p2
    rcases r3 with ⟨s1, s2⟩ | ⟨S, s1, _⟩
    · refine ⟨no, h1, h2, by rw [q2]; exact nc h1, p2, ?_, r2⟩
      rw [hm, r1, bsm, s2]; exact nm h2
    · rw [q1] at s1; cases s1
  · obtain ⟨g1, g2, -, -, g5, g6⟩ := gst_ok (TR_TB R) q1
    have key : ∀ hh, fr CGs h hh → ∃ r g', pf_M_isState x y z n hh = some (r, g') ∧ MG hh g' ∧ r = 1 ∧ GM g' A x y S ∧ MI g' := by
      intro hh f
      obtain ⟨r, h2, r1, r2, r3⟩ := m_isState1 (x := x) (y := y) (z := z) (n := n) R hA I f
      rcases r3 with ⟨s1, s2⟩ | ⟨S', s1, s2, s3⟩
      · rw [q1] at s1; cases s1
      · rw [q1] at s1; cases s1; exact ⟨r, h2, r1, r2, s2, s3, MG_MI r2 (CG_MI f I)⟩
    rw [q2]
    obtain ⟨-, g0, -, -, -, G0, I0⟩ := key h1 p2
    obtain ⟨r, hh, -, b1, b2, -, -⟩ := main A S h1 g0 (TR_TB R) g1 g2 g5 g6 q3 G0 I0
    obtain ⟨r', g', k1, k2, k3, k4, k5⟩ := key hh (fr_trans p2 b2)
    obtain ⟨r2, hh2, g2', c1, c2, c3, c4⟩ := main A S h1 g' (TR_TB R) g1 g2 g5 g6 q3 k4 k5
    rw [b1] at c1
    cases c1
    refine ⟨r, hh, g2', b1, fr_trans p2 b2, ?_, MG_trans k2 c4⟩
    rw [hm, k1, bsm, k3, c3]
theorem n10 {α : Type} {x y : α} {h : pH} : (if ((1 : Int), h).1 = 0 then x else y) = y := if_neg (show ¬ (1 : Int) = 0 by decide)
theorem n00 {α : Type} {x y : α} {h : pH} : (if ((0 : Int), h).1 = 0 then x else y) = x := if_pos rfl
def sumw (f : Nat → Int) (n : Nat) : Int := match n with
  | 0 => 0
  | n + 1 => sumw f n + f n
theorem sumw_bd {f : Nat → Int} {B : Int} (hB : 0 ≤ B) : ∀ {n : Nat}, (∀ s, s < n → 0 ≤ f s ∧ f s ≤ B) → 0 ≤ sumw f n ∧ sumw f n ≤ n * B
  | 0, _ => by simp [sumw]
  | n + 1, h => by
    have i := sumw_bd (f := f) hB (n := n) (fun s hs => h s (by omega))
    have q := h n (by omega)
    have e : ((n + 1 : Nat) : Int) * B = n * B + B := by rw [Int.natCast_add, Int.add_mul]; simp
    rw [sumw, e]
    omega
def lstf (L S : Nat → Int) (s : Nat) : Int := if S (72 + s) = -2 then L (239 + 4 * s) else 0
def wnof (L S : Nat → Int) (s : Nat) : Int := if S (72 + s) = -1 then 0 else L (239 + 4 * s)
def stdf (S : Nat → Int) (s : Nat) : Int := if S (72 + s) < 0 then 0 else 1
section Dc
variable {h : pH} {a p q l w : Nat} {L W wt sv S : Nat → Int} {u : Bool} {d : Nat} {tk : Int}
theorem lstf_bd (kL : LK L) : ∀ s, s < NS L → 0 ≤ lstf L S s ∧ lstf L S s ≤ 99 := fun s hs => by
  have r := kL.2.2.2.2.2.2.2.2.2.1 s (by have := NS_eq kL; omega)
  unfold lstf
  split <;> omega
theorem wnof_bd (kL : LK L) : ∀ s, s < NS L → 0 ≤ wnof L S s ∧ wnof L S s ≤ 99 := fun s hs => by
  have r := kL.2.2.2.2.2.2.2.2.2.1 s (by have := NS_eq kL; omega)
  unfold wnof
  split <;> omega
theorem sum6 {f : Nat → Int} (kL : LK L) (hf : ∀ s, s < NS L → 0 ≤ f s ∧ f s ≤ 99) {i : Nat} (hi : i ≤ NS L) : 0 ≤ sumw f i ∧ sumw f i ≤ 600 := by
  have n6 := NS_le kL
  have b := sumw_bd (B := 99) (by omega) (fun s hs => hf s (Nat.lt_of_lt_of_le hs hi))
  omega
theorem c_lost (C : CX h p q L W) (K : SC h a p q L W wt sv u S) : pf_Sc_lost a h = some (sumw (lstf L S) (NS L)) := by
  have kL := C.2.2.1
  have n6 := NS_le kL
  have en := NS_eq kL
  obtain ⟨⟨ha, ea, eb⟩, k1, k2, k3, k4, k5⟩ := K
  unfold pf_Sc_lost
  refine lpf (F := fun n (i : Nat) (_ : Unit) => pl_Sc_lost_4 a h (fun x1 => some x1) n (sumw (lstf L S) i) i) (Q := fun r => r = some (sumw (lstf L S) (NS L))) (NS L) (fun _ _ => True) ?_ ?_ fu_ 0 () (by omega) (by unfold fu_; omega) trivial
  · intro n i _ hi _
    right
    have v := (k4 i hi).1
    have w9 := (C.1.2.2.2.1 i hi).2.2.2
    have sb := sum6 kL (lstf_bd (S := S) kL) (i := i) (by omega)
    have lb := lstf_bd (S := S) kL i hi
    refine ⟨(), ?_, trivial⟩
    show pl_Sc_lost_4 a h _ (n + 1) (sumw (lstf L S) i) i = pl_Sc_lost_4 a h _ n (sumw (lstf L S) (i + 1)) (i + 1 : Nat)
    rw [pl_Sc_lost_4, ea, C.1.1.2.2.2.2, if_neg (by omega)]
    unfold pj_Sc_lost_40
    simp (disch := omega) only [gib, Int.toNat_natCast, v, w9, sumw]
    by_cases q1 : S (72 + i) = -2
    · have e : lstf L S i = L (239 + 4 * i) := if_pos q1
      rw [e] at lb ⊢
      rw [if_pos q1, wr_eq (by omega) (by omega), wr_eq (by omega) (by omega)]; rfl
    · have e : lstf L S i = 0 := if_neg q1
      rw [e, if_neg q1, wr_eq (by omega) (by omega), wr_eq (by omega) (by omega)]; rfl
  · intro n _ _
    show pl_Sc_lost_4 a h _ (n + 1) (sumw (lstf L S) (NS L)) (NS L : Nat) = _
    rw [pl_Sc_lost_4, ea, C.1.1.2.2.2.2, if_pos (by omega)]
theorem c_worthNotOff (C : CX h p q L W) (K : SC h a p q L W wt sv u S) : pf_Sc_worthNotOff a h = some (sumw (wnof L S) (NS L)) := by
  have kL := C.2.2.1
  have n6 := NS_le kL
  have en := NS_eq kL
  obtain ⟨⟨ha, ea, eb⟩, k1, k2, k3, k4, k5⟩ := K
  unfold pf_Sc_worthNotOff
  refine lpf (F := fun n (i : Nat) (_ : Unit) => pl_Sc_worthNotOff_4 a h (fun x1 => some x1) n (sumw (wnof L S) i) i) (Q := fun r => r = some (sumw (wnof L S) (NS L))) (NS L) (fun _ _ => True) ?_ ?_ fu_ 0 () (by omega) (by unfold fu_; omega) trivial
  · intro n i _ hi _
    right
    have v := (k4 i hi).1
    have w9 := (C.1.2.2.2.1 i hi).2.2.2
    have sb := sum6 kL (wnof_bd (S := S) kL) (i := i) (by omega)
    have lb := wnof_bd (S := S) kL i hi
    refine ⟨(), ?_, trivial⟩
    show pl_Sc_worthNotOff_4 a h _ (n + 1) (sumw (wnof L S) i) i = pl_Sc_worthNotOff_4 a h _ n (sumw (wnof L S) (i + 1)) (i + 1 : Nat)
    rw [pl_Sc_worthNotOff_4, ea, C.1.1.2.2.2.2, if_neg (by omega)]
    unfold pj_Sc_worthNotOff_39
    simp (disch := omega) only [gib, Int.toNat_natCast, v, w9, sumw]
    by_cases q1 : S (72 + i) = -1
    · have e : wnof L S i = 0 := if_pos q1
      rw [e, if_pos q1, wr_eq (by omega) (by omega), wr_eq (by omega) (by omega)]; rfl
    · have e : wnof L S i = L (239 + 4 * i) := if_neg q1
      rw [e] at lb ⊢
      rw [if_neg q1, wr_eq (by omega) (by omega), wr_eq (by omega) (by omega)]; rfl
  · intro n _ _
    show pl_Sc_worthNotOff_4 a h _ (n + 1) (sumw (wnof L S) (NS L)) (NS L : Nat) = _
    rw [pl_Sc_worthNotOff_4, ea, C.1.1.2.2.2.2, if_pos (by omega)]
theorem c_standing (C : CX h p q L W) (K : SC h a p q L W wt sv u S) : pf_Sc_standing a h = some (sumw (stdf S) (NS L)) := by
  have kL := C.2.2.1
  have n6 := NS_le kL
  have en := NS_eq kL
  obtain ⟨⟨ha, ea, eb⟩, k1, k2, k3, k4, k5⟩ := K
  unfold pf_Sc_standing
  refine lpf (F := fun n (i : Nat) (_ : Unit) => pl_Sc_standing_4 a h (fun x1 => some x1) n (sumw (stdf S) i) i) (Q := fun r => r = some (sumw (stdf S) (NS L))) (NS L) (fun _ _ => True) ?_ ?_ fu_ 0 () (by omega) (by unfold fu_; omega) trivial
  · intro n i _ hi _
    right
    have v := (k4 i hi).1
    have sb := sum6 kL (f := stdf S) (fun s _ => by unfold stdf; split <;> omega) (i := i) (by omega)
    refine ⟨(), ?_, trivial⟩
    show pl_Sc_standing_4 a h _ (n + 1) (sumw (stdf S) i) i = pl_Sc_standing_4 a h _ n (sumw (stdf S) (i + 1)) (i + 1 : Nat)
    rw [pl_Sc_standing_4, ea, C.1.1.2.2.2.2, if_neg (by omega)]
    unfold pj_Sc_standing_30
    simp (disch := omega) only [gib, Int.toNat_natCast, v, sumw]
    by_cases q1 : S (72 + i) < 0
    · have e : stdf S i = 0 := if_pos q1
      rw [e, if_pos q1, wr_eq (by omega) (by omega), wr_eq (by omega) (by omega)]; rfl
    · have e : stdf S i = 1 := if_neg q1
      rw [e, if_neg q1, wr_eq (by omega) (by omega), wr_eq (by omega) (by omega)]; rfl
  · intro n _ _
    show pl_Sc_standing_4 a h _ (n + 1) (sumw (stdf S) (NS L)) (NS L : Nat) = _
    rw [pl_Sc_standing_4, ea, C.1.1.2.2.2.2, if_pos (by omega)]
theorem m_lost (M : MS h l w L W) : pf_M_lost h = some (sumw (lstf L (pi h 422)) (NS L)) := by
  obtain ⟨e1, e2, hl, hw, hL, hW, kL, kW⟩ := M
  have n6 := NS_le kL
  have en := NS_eq kL
  unfold pf_M_lost
  refine lpf (F := fun n (i : Nat) (_ : Unit) => pl_M_lost_4 h (fun x1 => some x1) n (sumw (lstf L (pi h 422)) i) i) (Q := fun r => r = some (sumw (lstf L (pi h 422)) (NS L))) (NS L) (fun _ _ => True) ?_ ?_ fu_ 0 () (by omega) (by unfold fu_; omega) trivial
  · intro n i _ hi _
    right
    have sb := sum6 kL (lstf_bd (S := pi h 422) kL) (i := i) (by omega)
    have lb := lstf_bd (S := pi h 422) kL i hi
    have t1 : (72 + (i : Int)).toNat = 72 + i := by omega
    refine ⟨(), ?_, trivial⟩
    show pl_M_lost_4 h _ (n + 1) (sumw (lstf L (pi h 422)) i) i = pl_M_lost_4 h _ n (sumw (lstf L (pi h 422)) (i + 1)) (i + 1 : Nat)
    rw [pl_M_lost_4]
    unfold pj_M_lost_48
    simp (disch := omega) only [e1, wr_eq, tn_l, gib, hL, Int.reduceToNat, t1, sumw]
    rw [if_neg (by omega), m_shopOf (by omega) hL (by omega) (by omega) (by omega) (by omega), bsm, show (236 + 4 * (i : Int) + 3).toNat = 239 + 4 * i by omega]
    by_cases q1 : pi h 422 (72 + i) = -2
    · have e : lstf L (pi h 422) i = L (239 + 4 * i) := if_pos q1
      rw [e] at lb ⊢
      rw [if_pos q1, wr_eq (by omega) (by omega)]; rfl
    · have e : lstf L (pi h 422) i = 0 := if_neg q1
      rw [e, if_neg q1]; rfl
  · intro n _ _
    show pl_M_lost_4 h _ (n + 1) (sumw (lstf L (pi h 422)) (NS L)) (NS L : Nat) = _
    rw [pl_M_lost_4]
    simp (disch := omega) only [e1, wr_eq, tn_l, gib, hL, Int.reduceToNat]
    rw [if_pos (by omega)]
/-- laws broken, as bits -/
noncomputable def bkn (L W S sv : Nat → Int) (n : Nat) : Int := match n with
  | 0 => 0
  | n + 1 => cif (0 ≤ S (72 + n) ∧ (W (30 + (S (72 + n)).toNat) = 1 ∨ (0 < sv n ∧ hot L W S sv n (S (72 + n))))) (por (bkn L W S sv n) (pshl 1 n)) (bkn L W S sv n)
theorem por_r {x y : Int} : -2147483648 ≤ por x y ∧ por x y < 2147483648 := by unfold por; exact ⟨tI_lo _, tI_hi _⟩
theorem por_0 {x : Int} (h0 : -2147483648 ≤ x) (h1 : x < 2147483648) : por x 0 = x := by
  unfold por
  rw [show Int32.ofInt 0 = 0 from rfl, Int32.or_zero]
  exact Int32.toInt_ofInt_of_le h0 h1
theorem bkn_r : ∀ {n : Nat}, -2147483648 ≤ bkn L W S sv n ∧ bkn L W S sv n < 2147483648
  | 0 => by rw [bkn]; omega
  | n + 1 => by
    rw [bkn]
    by_cases q : 0 ≤ S (72 + n) ∧ (W (30 + (S (72 + n)).toNat) = 1 ∨ (0 < sv n ∧ hot L W S sv n (S (72 + n))))
    · rw [cif_t q]; exact por_r
    · rw [cif_f q]; exact bkn_r
theorem c_broken (C : CX h p q L W) (K : SC h a p q L W wt sv u S) (V : SV L S d) : pf_Sc_broken a h = some (bkn L W S sv (NS L)) := by
  have kL := C.2.2.1
  have z : 4 ≤ ce L ∧ ce L ≤ 36 := sz_mul kL.1
  have n6 := NS_le kL
  have en := NS_eq kL
  have K0 := K
  obtain ⟨⟨ha, ea, eb⟩, k1, k2, k3, k4, k5⟩ := K
  unfold pf_Sc_broken
  refine lpf (F := fun n (i : Nat) (_ : Unit) => pl_Sc_broken_4 a h (fun x1 => some x1) n (bkn L W S sv i) i) (Q := fun r => r = some (bkn L W S sv (NS L))) (NS L) (fun _ _ => True) ?_ ?_ fu_ 0 () (by omega) (by unfold fu_; omega) trivial
  · intro n i _ hi _
    right
    have v := k4 i hi
    have r := V.2.2.1 i hi
    refine ⟨(), ?_, trivial⟩
    show pl_Sc_broken_4 a h _ (n + 1) (bkn L W S sv i) i = pl_Sc_broken_4 a h _ n (bkn L W S sv (i + 1)) (i + 1 : Nat)
    rw [pl_Sc_broken_4, ea, eb, C.1.1.2.2.2.2, if_neg (by omega)]
    unfold pj_Sc_broken_66
    simp (disch := omega) only [gib, Int.toNat_natCast, v.1, v.2.2, wr_eq]
    rw [bkn]
    by_cases q1 : S (72 + i) < 0
    · rw [if_pos q1, cif_f (fun y => by have := y.1; omega)]; rfl
    · have ec : (((S (72 + i)).toNat : Nat) : Int) = S (72 + i) := by omega
      have hb := c_hasBit (y := pl h q 7) (n := (S (72 + i)).toNat) (h := h) (by omega)
      have wb := C.2.1.2.2.1 (S (72 + i)).toNat (by omega)
      have th := c_tooHot (s := i) (c := (S (72 + i)).toNat) C K0 V (by omega)
      rw [ec] at hb th
      rw [if_neg q1, hb, bsm, if1]
      by_cases q2 : tb (pl h q 7) (S (72 + i)).toNat = true
      · rw [if_pos q2, cif_t ⟨by omega, Or.inl (wb.mp q2)⟩]; rfl
      · rw [if_neg q2]
        by_cases q3 : sv i ≤ 0
        · rw [if_pos q3, cif_f (fun y => by rcases y.2 with y | y; exact q2 (wb.mpr y); omega)]; rfl
        · rw [if_neg q3, th, bsm]
          by_cases q4 : hot L W S sv i (S (72 + i))
          · rw [cif_t q4, if_neg (by decide), cif_t ⟨by omega, Or.inr ⟨by omega, q4⟩⟩]; rfl
          · rw [cif_f q4, if_pos rfl, cif_f (fun y => by rcases y.2 with y | y; exact q2 (wb.mpr y); exact q4 y.2)]; rfl
  · intro n _ _
    show pl_Sc_broken_4 a h _ (n + 1) (bkn L W S sv (NS L)) (NS L : Nat) = _
    rw [pl_Sc_broken_4, ea, C.1.1.2.2.2.2, if_pos (by omega)]
theorem m_broken (M : MC h l w L W wt sv tk) (V : SV L (pi h 422) d) : pf_M_broken h = some (bkn L W (pi h 422) sv (NS L)) := by
  have kL := M.1.2.2.2.2.2.2.1
  have z : 4 ≤ ce L ∧ ce L ≤ 36 := sz_mul kL.1
  have n6 := NS_le kL
  have en := NS_eq kL
  obtain ⟨e1, e2, hl, hw, hL, hW, -, kW⟩ := M.1
  unfold pf_M_broken
  refine lpf (F := fun n (i : Nat) (_ : Unit) => pl_M_broken_4 h (fun x1 => some x1) n (bkn L W (pi h 422) sv i) i) (Q := fun r => r = some (bkn L W (pi h 422) sv (NS L))) (NS L) (fun _ _ => True) ?_ ?_ fu_ 0 () (by omega) (by unfold fu_; omega) trivial
  · intro n i _ hi _
    right
    have r := V.2.2.1 i hi
    have br := bkn_r (L := L) (W := W) (S := pi h 422) (sv := sv) (n := i)
    have t1 : (72 + (i : Int)).toNat = 72 + i := by omega
    refine ⟨(), ?_, trivial⟩
    show pl_M_broken_4 h _ (n + 1) (bkn L W (pi h 422) sv i) i = pl_M_broken_4 h _ n (bkn L W (pi h 422) sv (i + 1)) (i + 1 : Nat)
    rw [pl_M_broken_4]
    unfold pj_M_broken_71 pj_M_broken_78
    simp (disch := omega) only [e1, e2, wr_eq, tn_l, gib, hL, Int.reduceToNat, t1]
    rw [if_neg (by omega), m_stands M.1, bsm, if1, Int.toNat_natCast, bkn]
    by_cases q1 : (0 ≤ (i : Int) ∧ (i : Int) < L 4) ∧ 0 ≤ pi h 422 (72 + i)
    · have q1' := q1.2
      have t3 : (30 + pi h 422 (72 + i)).toNat = 30 + (pi h 422 (72 + i)).toNat := by omega
      rw [if_pos q1]
      simp (disch := omega) only [wr_eq, tn_l, tn_l2, gib, hW, t3]
      by_cases q2 : W (30 + (pi h 422 (72 + i)).toNat) = 1
      · rw [if_pos q2, cif_t ⟨q1.2, Or.inl q2⟩]; rfl
      · rw [if_neg q2, m_isApart M V hi ⟨q1.2, r.2⟩, bsm]
        by_cases q3 : 0 < sv i ∧ hot L W (pi h 422) sv i (pi h 422 (72 + i))
        · rw [cif_t q3, if_pos rfl, cif_t ⟨q1.2, Or.inr q3⟩]; rfl
        · rw [cif_f q3, if_neg (by decide), por_0 br.1 br.2, cif_f (fun y => by rcases y.2 with y | y; exact q2 y; exact q3 y)]; rfl
    · rw [if_neg q1, por_0 br.1 br.2, cif_f (fun y => q1 ⟨⟨by omega, by omega⟩, y.1⟩)]; rfl
  · intro n _ _
    show pl_M_broken_4 h _ (n + 1) (bkn L W (pi h 422) sv (NS L)) (NS L : Nat) = _
    rw [pl_M_broken_4]
    simp (disch := omega) only [e1, wr_eq, tn_l, gib, hL, Int.reduceToNat]
    rw [if_pos (by omega)]
end Dc
theorem p_state {x y z n o : Int} : asks (pf_I_state x y z n o) (pf_M_state x y z n o) := by
  refine ask_by (-100) (fun _ => rfl) (fun _ => rfl) (fun _ => rfl) (fun _ => rfl) ?_
  intro A S h g B hx hy V TT G H _
  obtain ⟨C, K⟩ := G
  obtain ⟨M, eS, Z⟩ := H
  have kL := C.2.2.1
  have n6 := NS_le kL
  have en := NS_eq kL
  have n4 := kL.2.2.2.1
  subst eS
  generalize lk A x.toNat = L at *
  generalize lw A y.toNat = W at *
  generalize 69 + 12 * x.toNat = p at *
  generalize 94 + 4 * y.toNat = q at *
  generalize 610 + 260 * x.toNat = l at *
  generalize 1130 + 68 * y.toNat = w at *
  rw [n10, n10]
  by_cases o0 : o = 0
  · rw [if_pos o0, if_pos o0, K.2.2.2.2.2.1]; exact ⟨_, h, g, rfl, fr_refl, rfl, MG_refl⟩
  · rw [if_neg o0, if_neg o0]
    by_cases o1 : o = 1
    · rw [if_pos o1, if_pos o1, K.2.2.2.2.2.2]; exact ⟨_, h, g, rfl, fr_refl, rfl, MG_refl⟩
    · rw [if_neg o1, if_neg o1]
      by_cases o2 : o = 2
      · rw [if_pos o2, if_pos o2, c_lost C K, m_lost M.1]; exact ⟨_, h, g, rfl, fr_refl, rfl, MG_refl⟩
      · rw [if_neg o2, if_neg o2]
        by_cases o3 : o = 3
        · rw [if_pos o3, if_pos o3, c_broken C K V, m_broken M V]; exact ⟨_, h, g, rfl, fr_refl, rfl, MG_refl⟩
        · rw [if_neg o3, if_neg o3]
          by_cases o4 : o = 4
          · obtain ⟨h1, p1, p2⟩ := c_partCount C
            rw [if_pos o4, if_pos o4, K.1.2.1, p1, m_parts M.1]
            exact ⟨_, h1, g, rfl, fr_mono p2 (fun b hb => by unfold CGs; omega), rfl, MG_refl⟩
          · rw [if_neg o4, if_neg o4, K.1.2.1, C.1.1.2.2.2.2]
            obtain ⟨e1, e2, hl, hw, hL, hW, -, -⟩ := M.1
            simp (disch := omega) only [e1, wr_eq, tn_l, gib, hL, Int.reduceToNat, m_isIn, bsm, if1]
            by_cases o5 : o < 10
            · rw [if_pos o5, if_neg (by omega)]; exact ⟨_, h, g, rfl, fr_refl, rfl, MG_refl⟩
            · rw [if_neg o5]
              by_cases o6 : 10 + L 4 ≤ o
              · rw [if_pos o6, if_neg (by omega)]; exact ⟨_, h, g, rfl, fr_refl, rfl, MG_refl⟩
              · have v := (K.2.2.2.2.1 (o - 10).toNat (by omega)).1
                have t1 : (72 + o - 10).toNat = 72 + (o - 10).toNat := by omega
                rw [if_neg o6, if_pos (by omega)]
                simp (disch := omega) only [wr_eq, gib, t1]
                rw [v]
                exact ⟨_, h, g, rfl, fr_refl, rfl, MG_refl⟩
