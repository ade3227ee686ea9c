/-! drawn: no more can be hoped for -/
def bts : Nat → Nat → Bool := fun x s => x.testBit s
def clr (x s : Nat) : Nat := if x.testBit s then x - 2 ^ s else x
theorem clr_b : ∀ x, x < 64 → ∀ s, s < 6 → ∀ t, t < 6 → (clr x s).testBit t = (x.testBit t && !(decide (t = s))) := by decide +kernel
theorem clr_c : ∀ x, x < 64 → ∀ s, s < 6 → ∀ t, t < 6 → clr (clr x s) t = clr (clr x t) s := by decide +kernel
theorem clr_l : ∀ x, x < 64 → ∀ s, s < 6 → clr x s < 64 := by decide +kernel
/-- the dearest of n -/
def am (w : Nat → Int) (x n : Nat) : Int := match n with
  | 0 => -1
  | n + 1 => if x.testBit n = true ∧ (am w x n = -1 ∨ w (am w x n).toNat < w n) then (n : Int) else am w x n
theorem am_ok {w : Nat → Int} {x : Nat} : ∀ {n : Nat}, (am w x n = -1 ∧ ∀ s, s < n → x.testBit s = false) ∨ ((0 ≤ am w x n ∧ am w x n < n) ∧ x.testBit (am w x n).toNat = true ∧ ∀ s, s < n → x.testBit s = true → w s ≤ w (am w x n).toNat ∧ ((s : Int) < am w x n → w s < w (am w x n).toNat))
  | 0 => Or.inl ⟨rfl, fun s hs => by omega⟩
  | n + 1 => by
    have i := am_ok (w := w) (x := x) (n := n)
    rw [am]
    by_cases q : x.testBit n = true ∧ (am w x n = -1 ∨ w (am w x n).toNat < w n)
    · rw [if_pos q]
      refine Or.inr ⟨by omega, by rw [Int.toNat_natCast]; exact q.1, fun s hs hb => ?_⟩
      rw [Int.toNat_natCast]
      rcases i with ⟨i1, i2⟩ | ⟨i1, i2, i3⟩
      · by_cases e : s = n
        · rw [e]; exact ⟨Int.le_refl _, fun v => by omega⟩
        · rw [i2 s (by omega)] at hb; cases hb
      · have q2 : w (am w x n).toNat < w n := by
          rcases q.2 with v | v
          · omega
          · exact v
        by_cases e : s = n
        · rw [e]; exact ⟨Int.le_refl _, fun v => by omega⟩
        · have := (i3 s (by omega) hb).1
          exact ⟨by omega, fun _ => by omega⟩
    · rw [if_neg q]
      rcases i with ⟨i1, i2⟩ | ⟨i1, i2, i3⟩
      · refine Or.inl ⟨i1, fun s hs => ?_⟩
        by_cases e : s = n
        · rw [e]
          cases hb : x.testBit n with
          | true => exact absurd ⟨hb, Or.inl i1⟩ q
          | false => rfl
        · exact i2 s (by omega)
      · refine Or.inr ⟨by omega, i2, fun s hs hb => ?_⟩
        by_cases e : s = n
        · rw [e] at hb ⊢
          have : ¬ w (am w x n).toNat < w n := fun v => q ⟨hb, Or.inr v⟩
          exact ⟨by omega, fun v => by omega⟩
        · exact i3 s (by omega) hb
theorem am_un {w : Nat → Int} {x n m : Nat} (hm : m < n) (hb : x.testBit m = true) (h : ∀ s, s < n → x.testBit s = true → w s ≤ w m ∧ (s < m → w s < w m)) : am w x n = m := by
  rcases am_ok (w := w) (x := x) (n := n) with ⟨i1, i2⟩ | ⟨i1, i2, i3⟩
  · rw [i2 m hm] at hb; cases hb
  · have a := h _ (by omega : (am w x n).toNat < n) i2
    have b := i3 m hm hb
    rcases Int.lt_trichotomy (am w x n) m with y | y | y
    · have := a.2 (by omega); omega
    · exact y
    · have := b.2 y; omega
/-- the worth of the r dearest -/
def bdw (w : Nat → Int) (n r x : Nat) : Int := match r with
  | 0 => 0
  | r + 1 => if am w x n = -1 then 0 else w (am w x n).toNat + bdw w n r (clr x (am w x n).toNat)
theorem bdw_0 {w : Nat → Int} {n : Nat} (hn : n ≤ 6) (hw : ∀ s, s < n → 0 ≤ w s) : ∀ {r x : Nat}, x < 64 → 0 ≤ bdw w n r x
  | 0, x, _ => Int.le_refl _
  | r + 1, x, hx => by
    rw [bdw]
    rcases am_ok (w := w) (x := x) (n := n) with ⟨i1, i2⟩ | ⟨i1, i2, i3⟩
    · rw [if_pos i1]; omega
    · rw [if_neg (by omega)]
      have := hw (am w x n).toNat (by omega)
      have := bdw_0 (r := r) hn hw (clr_l x hx (am w x n).toNat (by omega))
      omega
theorem bdw_s {w : Nat → Int} {n : Nat} (hn : n ≤ 6) (hw : ∀ s, s < n → 0 ≤ w s) : ∀ {r x : Nat}, x < 64 → bdw w n r x ≤ bdw w n (r + 1) x
  | 0, x, hx => bdw_0 hn hw hx
  | r + 1, x, hx => by
    rw [bdw, bdw]
    rcases am_ok (w := w) (x := x) (n := n) with ⟨i1, i2⟩ | ⟨i1, i2, i3⟩
    · rw [if_pos i1, if_pos i1]; omega
    · rw [if_neg (by omega), if_neg (by omega)]
      have := bdw_s (r := r) hn hw (clr_l x hx (am w x n).toNat (by omega))
      omega
theorem bdw_g {w : Nat → Int} {n : Nat} (hn : n ≤ 6) (hw : ∀ s, s < n → 0 ≤ w s) : ∀ {r x s : Nat}, x < 64 → s < n → x.testBit s = true → w s + bdw w n r (clr x s) ≤ bdw w n (r + 1) x
  | r, x, s, hx, hs, hb => by
    rcases am_ok (w := w) (x := x) (n := n) with ⟨i1, i2⟩ | ⟨i1, i2, i3⟩
    · rw [i2 s hs] at hb; cases hb
    · obtain ⟨m, em⟩ : ∃ m : Nat, am w x n = m := ⟨(am w x n).toNat, by omega⟩
      have hm : m < n := by omega
      have b1 : bdw w n (r + 1) x = w m + bdw w n r (clr x m) := by
        rw [bdw, if_neg (by omega), em, Int.toNat_natCast]
      rw [em, Int.toNat_natCast] at i2 i3
      rw [b1]
      by_cases e : s = m
      · rw [e]; exact Int.le_refl _
      · match r with
        | 0 =>
          have := (i3 s hs hb).1
          show w s + 0 ≤ w m + 0
          omega
        | r + 1 =>
          have cb := clr_b x hx s (by omega) m (by omega)
          rw [i2, decide_eq_false (fun v => e v.symm)] at cb
          have a2 : am w (clr x s) n = m := am_un hm cb (fun t ht hbt => by
            have c2 := clr_b x hx s (by omega) t (by omega)
            rw [hbt] at c2
            have c3 : x.testBit t = true := by
              cases h : x.testBit t with
              | true => rfl
              | false => rw [h] at c2; cases c2
            have c4 := i3 t ht c3
            exact ⟨c4.1, fun v => c4.2 (by omega)⟩)
          have b2 : bdw w n (r + 1) (clr x s) = w m + bdw w n r (clr (clr x s) m) := by
            rw [bdw, if_neg (by omega), a2, Int.toNat_natCast]
          have cs := clr_b x hx m (by omega) s (by omega)
          rw [hb, decide_eq_false e] at cs
          have ih := bdw_g hn hw (r := r) (x := clr x m) (s := s) (clr_l x hx m (by omega)) hs cs
          rw [b2, clr_c x hx s (by omega) m (by omega)]
          omega
/-! hoping: no shop stands, no ice grows thinner -/
section Ei
variable {L W wt sv : Nat → Int}
noncomputable def hdy (L W wt sv : Nat → Int) (B : Nat → Int) : Nat → Int := pday L W wt sv 0 (max 0 (fro L B)) B
noncomputable def hch (L W wt sv : Nat → Int) (B : Nat → Int) (k : Nat) : Nat → Int := match k with
  | 0 => B
  | k + 1 => hdy L W wt sv (hch L W wt sv B k)
theorem hch_s {B : Nat → Int} : ∀ {k : Nat}, hch L W wt sv (hdy L W wt sv B) k = hch L W wt sv B (k + 1)
  | 0 => rfl
  | k + 1 => by rw [hch, hch_s (k := k)]; rfl
/-- no better than hoped -/
def Dm (L A B : Nat → Int) : Prop := (∀ c : Nat, (c : Int) < ce L → A c ≤ B c) ∧ (∀ c : Nat, (c : Int) < ce L → A (36 + c) = B (36 + c)) ∧ A 78 = B 78 ∧ ∀ s, s < NS L → B (72 + s) < 0
theorem clp_mono {a b : Int} (h : a ≤ b) : clp a ≤ clp b := by
  unfold clp
  repeat' split
  all_goals omega
theorem grw_max {A B : Nat → Int} {c : Nat} {f : Int} (e : A (36 + c) = B (36 + c)) (h9 : 0 ≤ A (36 + c)) : grw A f c ≤ grw B (max 0 f) c ∧ 0 ≤ grw B (max 0 f) c := by
  unfold grw
  rw [e] at *
  repeat' split
  all_goals omega
theorem hdy_c (kL : LK L) (kW : WK W) {B : Nat → Int} {d : Nat} (V : SV L B d) (no : ∀ s, s < NS L → B (72 + s) < 0) : (∀ c : Nat, (c : Int) < ce L → hdy L W wt sv B c = clp (B c + grw B (max 0 (fro L B)) c)) ∧ (∀ c : Nat, (c : Int) < ce L → hdy L W wt sv B (36 + c) = B (36 + c)) ∧ hdy L W wt sv B 78 = B 78 + 1 ∧ (∀ s, s < NS L → hdy L W wt sv B (72 + s) < 0) ∧ SV L (hdy L W wt sv B) (d + 1) := by
  have z : 4 ≤ ce L ∧ ce L ≤ 36 := sz_mul kL.1
  have n6 := NS_le kL
  have V1 := SV_pd2 (sv := sv) (f := max 0 (fro L B)) V kL kW
  have nf : ff L W (pd2 L W B sv (max 0 (fro L B))) wt 0 < 0 := by
    rcases Int.lt_or_le (ff L W (pd2 L W B sv (max 0 (fro L B))) wt 0) 0 with y | y
    · exact y
    · obtain ⟨q1, q2⟩ := ff_st y
      rw [pd2_at kL (by omega)] at q2
      have := no _ q1
      omega
  have e : hdy L W wt sv B = pd2 L W B sv (max 0 (fro L B)) := by
    unfold hdy pday
    exact fl_id nf
  rw [e]
  refine ⟨fun c hc => ?_, fun c hc => ?_, ?_, fun s hs => ?_, V1⟩
  · unfold pd2
    rw [up1_n (by omega), up1_n (by omega)]
    show (if (c : Int) < ce L then dcl L B sv (max 0 (fro L B)) c else B c) = _
    rw [if_pos hc]
    unfold dcl
    rw [(ld_out (W := W) (wt := wt) (sv := sv) no (by omega)).2, Int.sub_zero]
  · unfold pd2
    rw [up1_n (by omega), up1_n (by omega)]
    exact if_neg (by omega)
  · unfold pd2
    rw [up1_n (by omega), up1_s]
  · rw [pd2_at kL (by omega)]; exact no s hs
theorem Dm_day (kL : LK L) (kW : WK W) (hW : WS L wt sv) {A B : Nat → Int} {d e : Nat} (VA : SV L A d) (VB : SV L B e) (D : Dm L A B) : Dm L (aday L W wt sv 0 A) (hdy L W wt sv B) := by
  have z : 4 ≤ ce L ∧ ce L ≤ 36 := sz_mul kL.1
  obtain ⟨d1, d2, d3, d4⟩ := D
  obtain ⟨b1, b2, b3, b4, b5⟩ := hdy_c (wt := wt) (sv := sv) kL kW VB d4
  have ef : fro L A = fro L B := by unfold fro; rw [d3]
  have V1 := SV_pd2 (sv := sv) (f := fro L A) VA kL kW
  obtain ⟨f1, f2, f3, f4⟩ := fl_eff (W := W) (wt := wt) (tk := 0) (n := 6) kL V1
  refine ⟨fun c hc => ?_, fun c hc => ?_, ?_, b4⟩
  · have h0 : pd2 L W A sv (fro L A) c = dcl L A sv (fro L A) c := by
      unfold pd2
      rw [up1_n (by omega), up1_n (by omega)]
      exact if_pos hc
    have k1 : dcl L A sv (fro L A) c ≤ hdy L W wt sv B c := by
      rw [b1 c hc]
      unfold dcl
      have hb := ht_bd (wt := wt) (S := A) (x := (c : Int)) kL hW
      have g := grw_max (f := fro L A) (d2 c hc) (VA.2.1 c hc).1
      rw [ef] at g
      exact clp_mono (by have := d1 c hc; rw [ef]; omega)
    have k2 : 0 ≤ hdy L W wt sv B c := by rw [b1 c hc]; exact clp_r.1
    show fl L W wt 0 6 (pd2 L W A sv (fro L A)) c ≤ _
    rcases f1 c hc with y | y
    · rw [y, h0]; exact k1
    · rw [y]; exact k2
  · show fl L W wt 0 6 (pd2 L W A sv (fro L A)) (36 + c) = _
    rw [f2 _ (by omega) (by omega), b2 c hc]
    unfold pd2
    rw [up1_n (by omega), up1_n (by omega)]
    show (if ((36 + c : Nat) : Int) < ce L then _ else A (36 + c)) = _
    rw [if_neg (by omega)]
    exact d2 c hc
  · show fl L W wt 0 6 (pd2 L W A sv (fro L A)) 78 = _
    rw [f3, b3]
    unfold pd2
    rw [up1_n (by omega), up1_s, d3]
theorem Dm_dwn (kL : LK L) (kW : WK W) (hW : WS L wt sv) {A B : Nat → Int} {d e : Nat} (VA : SV L A d) (VB : SV L B e) (D : Dm L A B) {s : Nat} (h : can L W wt A s) : Dm L (dwn L W wt sv A s) (hdy L W wt sv B) := by
  have z : 4 ≤ ce L ∧ ce L ≤ 36 := sz_mul kL.1
  refine Dm_day kL kW hW (SV_dw0 kL VA h) VB ?_
  by_cases q : s < 6
  · rw [if_pos q]
    rcases h with h | h
    · omega
    · obtain ⟨d1, d2, d3, d4⟩ := D
      have V1 := SV_lift (v := -1) VA kL h.1 (by omega)
      obtain ⟨f1, f2, f3, f4⟩ := fl_eff (W := W) (wt := wt) (tk := 0) (n := 6) kL V1
      refine ⟨fun c hc => ?_, fun c hc => ?_, ?_, d4⟩
      · have a := d1 c hc
        have b := (VA.1 c hc).1
        rcases f1 c hc with y | y
        · rw [y, up1_n (by omega)]; exact a
        · rw [y]; omega
      · rw [f2 _ (by omega) (by omega), up1_n (by omega)]; exact d2 c hc
      · rw [f3, up1_n (by omega)]; exact d3
  · rw [if_neg q]; exact D
theorem Dm_more (kL : LK L) (kW : WK W) {A B : Nat → Int} {d : Nat} (VB : SV L B d) (no : ∀ s, s < NS L → B (72 + s) < 0) (h : ∀ c : Nat, (c : Int) < ce L → A c ≤ B c) : ∀ {k : Nat}, (∀ c : Nat, (c : Int) < ce L → A c ≤ hch L W wt sv B k c) ∧ (∀ s, s < NS L → hch L W wt sv B k (72 + s) < 0) ∧ SV L (hch L W wt sv B k) (d + k)
  | 0 => ⟨h, no, VB⟩
  | k + 1 => by
    obtain ⟨i1, i2, i3⟩ := Dm_more (k := k) kL kW VB no h
    obtain ⟨b1, b2, b3, b4, b5⟩ := hdy_c (wt := wt) (sv := sv) kL kW i3 i2
    refine ⟨fun c hc => ?_, b4, b5⟩
    rw [hch, b1 c hc]
    have a := i1 c hc
    have r := i3.1 c hc
    have g := (grw_max (A := hch L W wt sv B k) (B := hch L W wt sv B k) (f := fro L (hch L W wt sv B k)) rfl (i3.2.1 c hc).1).2
    unfold clp
    repeat' split
    all_goals omega
/-- a shop that can go off is one of whom it is hoped -/
theorem cgo_hope (kL : LK L) (kW : WK W) (hW : WS L wt sv) {A B : Nat → Int} {d e : Nat} (VA : SV L A d) (VB : SV L B e) (h : ∀ c : Nat, (c : Int) < ce L → A c ≤ B c) (no : ∀ s, s < NS L → B (72 + s) < 0) {s : Nat} (hs : s < NS L) (h0 : 0 ≤ A (72 + s)) (g : cgo L W A wt s) : rsh L W (opn L W B wt 0 (-1) (wt s) no0) (A (72 + s)) := by
  have z : 4 ≤ ce L ∧ ce L ≤ 36 := sz_mul kL.1
  have hin : inr L (A (72 + s)) := ⟨h0, (VA.2.2.1 s hs).2⟩
  rcases g with g | ⟨c, c1, c2, c3⟩
  · exact Or.inl g
  · refine Or.inr ⟨c, c1, c2, isw_from kL hin (fun x hx hn ho => ?_) c3⟩
    obtain ⟨o1, o2, o3, o4⟩ := ho
    have x0 := hx.1
    have x1 := hx.2
    have ab := h x.toNat (by omega)
    have ra := VA.1 x.toNat (by omega)
    have lb := ld_bd (S := A) (wo := (s : Int)) (x := x) kL kW hW
    have l2 := kL.2.1
    refine ⟨o1, fun t ht y => by have := no t ht; omega, by omega, ?_⟩
    rw [(ld_out (W := W) (wt := wt) (sv := sv) no x0).1]
    have bm : br L A 0 x ≤ br L B 0 x := by
      unfold br
      exact Int.ediv_le_ediv (by omega) (Int.mul_le_mul (by omega) (by omega) (by omega) (by omega))
    omega
theorem rsh_mono (kL : LK L) {O O' : Int → Prop} {c : Int} (hc : inr L c) (h : ∀ e, inr L e → O e → O' e) (g : rsh L W O c) : rsh L W O' c := by
  rcases g with g | ⟨e, e1, e2, e3⟩
  · exact Or.inl g
  · exact Or.inr ⟨e, e1, e2, isw_from kL hc (fun x hx _ ho => h x hx ho) e3⟩
/-- what is left is no less than what is hoped for -/
theorem mv_lb (kL : LK L) (kW : WK W) (hW : WS L wt sv) : ∀ {r : Nat} {S B : Nat → Int} {d e x : Nat}, SV L S d → SV L B e → Dm L S B → x < 64 → (0 < r → ∀ s, s < NS L → 0 ≤ S (72 + s) → rsh L W (opn L W (hch L W wt sv B (r - 1)) wt 0 (-1) (wt s) no0) (S (72 + s)) → x.testBit s = true) → wno L S - bdw (fun s => L (239 + 4 * s)) (NS L) r x ≤ mv L W wt sv r S
  | 0, S, B, d, e, x, _, _, _, _, _ => by
    rw [bdw, mv]
    omega
  | r + 1, S, B, d, e, x, VS, VB, D, hx, hh => by
    have n6 := NS_le kL
    have hw : ∀ s, s < NS L → 0 ≤ L (239 + 4 * s) := fun s hs => (kL.2.2.2.2.2.2.2.2.2.1 s (by have := NS_eq kL; omega)).2.2.2.1
    obtain ⟨s, c1, c2⟩ := mv_at (L := L) (W := W) (wt := wt) (sv := sv) (S := S) (n := r)
    have VD := SV_dwn (sv := sv) kL kW VS c1
    have DD := Dm_dwn kL kW hW VS VB D c1
    obtain ⟨b1, b2, b3, b4, VB'⟩ := hdy_c (wt := wt) (sv := sv) kL kW VB D.2.2.2
    have wn := wno_dwn (sv := sv) kL kW VS c1
    have hh' := hh (by omega)
    rw [Nat.add_sub_cancel] at hh'
    have stay : ∀ t, t < NS L → 0 ≤ dwn L W wt sv S s (72 + t) → t ≠ s ∧ dwn L W wt sv S s (72 + t) = S (72 + t) := fun t ht h0 => by
      obtain ⟨a1, a2⟩ := dwn_at (sv := sv) (t := t) kL kW VS c1 (by omega)
      by_cases y : t = s
      · have := a1 y; omega
      · rcases a2 y with v | v
        · exact ⟨y, v⟩
        · omega
    have sub : ∀ t, t < NS L → 0 ≤ dwn L W wt sv S s (72 + t) → 0 < r → rsh L W (opn L W (hch L W wt sv (hdy L W wt sv B) (r - 1)) wt 0 (-1) (wt t) no0) (dwn L W wt sv S s (72 + t)) → x.testBit t = true := fun t ht h0 hr g => by
      obtain ⟨y1, y2⟩ := stay t ht h0
      rw [hch_s, show r - 1 + 1 = r by omega, y2] at g
      exact hh' t ht (by omega) g
    rw [c2]
    by_cases q : s < 6
    · have c1' := c1
      rcases c1' with h | h
      · omega
      · have mo := Dm_more (k := r) (wt := wt) (sv := sv) kL kW VB D.2.2.2 D.1
        have bx : x.testBit s = true := hh' s h.1 h.2.1 (cgo_hope kL kW hW VS mo.2.2 mo.1 mo.2.1 h.1 h.2.1 h.2.2)
        have ih := mv_lb kL kW hW (r := r) (x := clr x s) VD VB' DD (clr_l x hx s q) (fun hr t ht h0 g => by
          have bt := sub t ht h0 hr g
          rw [clr_b x hx s q t (by omega), bt, decide_eq_false (stay t ht h0).1]
          rfl)
        have gr := bdw_g (w := fun s => L (239 + 4 * s)) (r := r) n6 hw hx h.1 bx
        rw [wn, if_pos q] at ih
        have gr : L (239 + 4 * s) + bdw (fun s => L (239 + 4 * s)) (NS L) r (clr x s) ≤ bdw (fun s => L (239 + 4 * s)) (NS L) (r + 1) x := gr
        omega
    · have ih := mv_lb kL kW hW (r := r) (x := x) VD VB' DD hx (fun hr t ht h0 g => sub t ht h0 hr g)
      have gr := bdw_s (w := fun s => L (239 + 4 * s)) (r := r) n6 hw hx
      rw [wn, if_neg q] at ih
      omega
end Ei
