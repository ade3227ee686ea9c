/-! drawn: the words -/
section Eg
variable (L W wt sv : Nat → Int)
/-- a shop goes off, or none (6) does; then a day goes by -/
noncomputable def dwn (S : Nat → Int) (s : Nat) : Nat → Int := aday L W wt sv 0 (if s < 6 then fl L W wt 0 6 (up1 S (72 + s) (-1)) else S)
def can (S : Nat → Int) (s : Nat) : Prop := s = 6 ∨ (s < NS L ∧ 0 ≤ S (72 + s) ∧ cgo L W S wt s)
noncomputable def mnf (f : Nat → Int) (c : Nat → Prop) (k : Nat) : Int := match k with
  | 0 => f 6
  | k + 1 => cif (c k) (min (mnf f c k) (f k)) (mnf f c k)
noncomputable def wno (S : Nat → Int) : Int := sumw (wnof L S) (NS L)
/-- the least worth that is left -/
noncomputable def mv (n : Nat) (S : Nat → Int) : Int := match n with
  | 0 => wno L S
  | n + 1 => mnf (fun s => mv n (dwn L W wt sv S s)) (can L W wt S) 6
noncomputable def kst (n : Nat) (S : Nat → Int) : Nat := (fnd (fun s => dc (can L W wt S s ∧ mv L W wt sv n (dwn L W wt sv S s) = mv L W wt sv (n + 1) S)) 0 7).toNat
noncomputable def ost (n : Nat) (S : Nat → Int) (i : Nat) : Nat → Int := match i with
  | 0 => S
  | i + 1 => dwn L W wt sv (ost n S i) (kst L W wt sv (n - i - 1) (ost n S i))
noncomputable def orw (n : Nat) (S : Nat → Int) (i : Nat) : Nat := kst L W wt sv (n - i - 1) (ost L W wt sv n S i)
end Eg
theorem mnf_le {f : Nat → Int} {c : Nat → Prop} : ∀ {k s : Nat}, (s < k ∧ c s) ∨ s = 6 → mnf f c k ≤ f s
  | 0, s, h => by
    rcases h with h | h
    · omega
    · rw [h]; exact Int.le_refl _
  | k + 1, s, h => by
    rw [mnf]
    by_cases q : c k
    · rw [cif_t q]
      by_cases e : s = k
      · rw [e]; exact Int.min_le_right _ _
      · exact Int.le_trans (Int.min_le_left _ _) (mnf_le (k := k) (by rcases h with h | h; exact Or.inl ⟨by omega, h.2⟩; exact Or.inr h))
    · rw [cif_f q]
      refine mnf_le (k := k) ?_
      rcases h with h | h
      · refine Or.inl ⟨?_, h.2⟩
        by_cases e : s = k
        · rw [e] at h; exact absurd h.2 q
        · omega
      · exact Or.inr h
theorem mnf_at {f : Nat → Int} {c : Nat → Prop} : ∀ {k : Nat}, ∃ s, ((s < k ∧ c s) ∨ s = 6) ∧ mnf f c k = f s
  | 0 => ⟨6, Or.inr rfl, rfl⟩
  | k + 1 => by
    obtain ⟨s, h1, h2⟩ := mnf_at (f := f) (c := c) (k := k)
    have h1' : (s < k + 1 ∧ c s) ∨ s = 6 := by
      rcases h1 with h | h
      · exact Or.inl ⟨by omega, h.2⟩
      · exact Or.inr h
    rw [mnf]
    by_cases q : c k
    · rw [cif_t q]
      rcases Int.le_total (mnf f c k) (f k) with y | y
      · exact ⟨s, h1', by rw [Int.min_eq_left y]; exact h2⟩
      · exact ⟨k, Or.inl ⟨by omega, q⟩, Int.min_eq_right y⟩
    · rw [cif_f q]
      exact ⟨s, h1', h2⟩
section Eh
variable {L W wt sv S : Nat → Int} {d : Nat}
theorem can_6 (kL : LK L) {s : Nat} (h : can L W wt S s) : s ≤ 6 ∧ ((s < 6 ∧ can L W wt S s) ∨ s = 6) := by
  have := NS_le kL
  rcases h with h | h
  · exact ⟨by omega, Or.inr h⟩
  · exact ⟨by omega, Or.inl ⟨by omega, Or.inr h⟩⟩
theorem mv_le (kL : LK L) {n s : Nat} (h : can L W wt S s) : mv L W wt sv (n + 1) S ≤ mv L W wt sv n (dwn L W wt sv S s) := by
  rw [mv]
  exact mnf_le (f := fun s => mv L W wt sv n (dwn L W wt sv S s)) (can_6 kL h).2
theorem mv_at {n : Nat} : ∃ s, can L W wt S s ∧ mv L W wt sv (n + 1) S = mv L W wt sv n (dwn L W wt sv S s) := by
  obtain ⟨s, h1, h2⟩ := mnf_at (f := fun s => mv L W wt sv n (dwn L W wt sv S s)) (c := can L W wt S) (k := 6)
  refine ⟨s, ?_, by rw [mv]; exact h2⟩
  rcases h1 with h | h
  · exact h.2
  · exact Or.inl h
theorem kst_ok (kL : LK L) {n : Nat} : kst L W wt sv n S ≤ 6 ∧ can L W wt S (kst L W wt sv n S) ∧ mv L W wt sv n (dwn L W wt sv S (kst L W wt sv n S)) = mv L W wt sv (n + 1) S ∧ ∀ s, s < kst L W wt sv n S → can L W wt S s → mv L W wt sv (n + 1) S < mv L W wt sv n (dwn L W wt sv S s) := by
  have r := fnd_r (p := fun s => dc (can L W wt S s ∧ mv L W wt sv n (dwn L W wt sv S s) = mv L W wt sv (n + 1) S)) (m := 7) (i := 0)
  obtain ⟨t, t1, t2⟩ := mv_at (L := L) (W := W) (wt := wt) (sv := sv) (S := S) (n := n)
  have p0 : 0 ≤ fnd (fun s => dc (can L W wt S s ∧ mv L W wt sv n (dwn L W wt sv S s) = mv L W wt sv (n + 1) S)) 0 7 := by
    rcases Int.lt_or_le (fnd (fun s => dc (can L W wt S s ∧ mv L W wt sv n (dwn L W wt sv S s) = mv L W wt sv (n + 1) S)) 0 7) 0 with y | y
    · have := fnd_n y t (by omega) (by have := (can_6 kL t1).1; omega)
      rw [dc_t ⟨t1, t2.symm⟩] at this
      cases this
    · exact y
  have ft := fnd_t p0
  have fl := fnd_lt p0
  unfold kst
  have cn : can L W wt S (fnd (fun s => dc (can L W wt S s ∧ mv L W wt sv n (dwn L W wt sv S s) = mv L W wt sv (n + 1) S)) 0 7).toNat ∧ mv L W wt sv n (dwn L W wt sv S (fnd (fun s => dc (can L W wt S s ∧ mv L W wt sv n (dwn L W wt sv S s) = mv L W wt sv (n + 1) S)) 0 7).toNat) = mv L W wt sv (n + 1) S := by
    rcases Classical.em (can L W wt S (fnd (fun s => dc (can L W wt S s ∧ mv L W wt sv n (dwn L W wt sv S s) = mv L W wt sv (n + 1) S)) 0 7).toNat ∧ mv L W wt sv n (dwn L W wt sv S (fnd (fun s => dc (can L W wt S s ∧ mv L W wt sv n (dwn L W wt sv S s) = mv L W wt sv (n + 1) S)) 0 7).toNat) = mv L W wt sv (n + 1) S) with y | y
    · exact y
    · rw [dc_f y] at ft; cases ft
  refine ⟨by omega, cn.1, cn.2, fun s hs hc => ?_⟩
  have g := mv_le (L := L) (W := W) (wt := wt) (sv := sv) (S := S) (n := n) kL hc
  rcases Int.lt_or_eq_of_le g with y | y
  · exact y
  · have := fl s (by omega) (by omega)
    rw [dc_t ⟨hc, y.symm⟩] at this
    cases this
theorem ost_ok (kL : LK L) {n : Nat} : ∀ {i : Nat}, i ≤ n → mv L W wt sv (n - i) (ost L W wt sv n S i) = mv L W wt sv n S
  | 0, _ => rfl
  | i + 1, h => by
    have g := ost_ok (i := i) kL (n := n) (by omega)
    obtain ⟨m, em⟩ : ∃ m, n - i = m + 1 := ⟨n - i - 1, by omega⟩
    have e1 : n - i - 1 = m := by omega
    have e2 : n - (i + 1) = m := by omega
    rw [em] at g
    rw [ost, e1, e2, (kst_ok kL).2.2.1]
    exact g
theorem ost_s {n : Nat} : ∀ {i : Nat}, ost L W wt sv (n + 1) S (i + 1) = ost L W wt sv n (dwn L W wt sv S (kst L W wt sv n S)) i
  | 0 => rfl
  | i + 1 => by
    rw [ost, ost_s (i := i), ost, show n + 1 - (i + 1) - 1 = n - i - 1 by omega]
theorem orw_0 {n : Nat} : orw L W wt sv (n + 1) S 0 = kst L W wt sv n S := rfl
theorem orw_s {n i : Nat} : orw L W wt sv (n + 1) S (i + 1) = orw L W wt sv n (dwn L W wt sv S (kst L W wt sv n S)) i := by
  unfold orw
  rw [ost_s, show n + 1 - (i + 1) - 1 = n - i - 1 by omega]
/-! what falls does to a state -/
theorem fl_eff (kL : LK L) {tk : Int} : ∀ {n : Nat} {S : Nat → Int}, SV L S d → (∀ c : Nat, (c : Int) < ce L → fl L W wt tk n S c = S c ∨ fl L W wt tk n S c = 0) ∧ (∀ j, 36 ≤ j → j < 72 → fl L W wt tk n S j = S j) ∧ fl L W wt tk n S 78 = S 78 ∧ ∀ s, s < 6 → fl L W wt tk n S (72 + s) = S (72 + s) ∨ (0 ≤ S (72 + s) ∧ fl L W wt tk n S (72 + s) = -2)
  | 0, S, _ => ⟨fun c _ => Or.inl rfl, fun j _ _ => rfl, rfl, fun s _ => Or.inl rfl⟩
  | n + 1, S, V => by
    have z : 4 ≤ ce L ∧ ce L ≤ 36 := sz_mul kL.1
    have n6 := NS_le kL
    rw [fl]
    split
    · exact ⟨fun c _ => Or.inl rfl, fun j _ _ => rfl, rfl, fun s _ => Or.inl rfl⟩
    · rename_i q
      obtain ⟨q1, q2⟩ := ff_st (L := L) (W := W) (S := S) (wt := wt) (tk := tk) (by omega)
      have r := V.2.2.1 _ q1
      obtain ⟨i1, i2, i3, i4⟩ := fl_eff (n := n) kL (tk := tk) (SV_fa1 V kL q1 q2)
      generalize (ff L W S wt tk).toNat = t at *
      refine ⟨fun c hc => ?_, fun j j1 j2 => ?_, ?_, fun s hs => ?_⟩
      · rcases i1 c hc with y | y
        · rw [y]
          unfold fa1
          rw [up1_n (by omega)]
          by_cases e : c = (S (72 + t)).toNat
          · rw [e, up1_s]; exact Or.inr rfl
          · rw [up1_n e]; exact Or.inl rfl
        · exact Or.inr y
      · rw [i2 j j1 j2]
        unfold fa1
        rw [up1_n (by omega), up1_n (by omega)]
      · rw [i3]
        unfold fa1
        rw [up1_n (by omega), up1_n (by omega)]
      · have e1 : fa1 S t (72 + s) = if s = t then -2 else S (72 + s) := by
          unfold fa1
          by_cases e : s = t
          · rw [if_pos e, e, up1_s]
          · rw [if_neg e, up1_n (by omega), up1_n (by omega)]
        rcases i4 s hs with y | ⟨y1, y2⟩
        · rw [y, e1]
          by_cases e : s = t
          · rw [if_pos e, e]; exact Or.inr ⟨q2, rfl⟩
          · rw [if_neg e]; exact Or.inl rfl
        · rw [e1] at y1
          by_cases e : s = t
          · rw [if_pos e] at y1; omega
          · rw [if_neg e] at y1; exact Or.inr ⟨y1, y2⟩
theorem pday_at (kL : LK L) (kW : WK W) {tk f : Int} (V : SV L S d) {s : Nat} (hs : s < 6) : pday L W wt sv tk f S (72 + s) = S (72 + s) ∨ (0 ≤ S (72 + s) ∧ pday L W wt sv tk f S (72 + s) = -2) := by
  have g := (fl_eff (W := W) (wt := wt) (tk := tk) (n := 6) kL (SV_pd2 (sv := sv) (f := f) V kL kW)).2.2.2 s hs
  rw [pd2_at kL hs] at g
  exact g
theorem SV_dw0 (kL : LK L) (V : SV L S d) {s : Nat} (h : can L W wt S s) : SV L (if s < 6 then fl L W wt 0 6 (up1 S (72 + s) (-1)) else S) d := by
  by_cases q : s < 6
  · rw [if_pos q]
    rcases h with h | h
    · omega
    · exact SV_fl kL (SV_lift V kL h.1 (by omega))
  · rw [if_neg q]; exact V
theorem SV_dwn (kL : LK L) (kW : WK W) (V : SV L S d) {s : Nat} (h : can L W wt S s) : SV L (dwn L W wt sv S s) (d + 1) := SV_pday (SV_dw0 kL V h) kL kW
/-- where the others are then -/
theorem dwn_at (kL : LK L) (kW : WK W) (V : SV L S d) {s t : Nat} (h : can L W wt S s) (ht : t < 6) : (t = s → dwn L W wt sv S s (72 + t) = -1) ∧ (t ≠ s → dwn L W wt sv S s (72 + t) = S (72 + t) ∨ (0 ≤ S (72 + t) ∧ dwn L W wt sv S s (72 + t) = -2)) := by
  have V0 := SV_dw0 kL V h
  have g := pday_at (W := W) (wt := wt) (sv := sv) (tk := 0) (f := fro L (if s < 6 then fl L W wt 0 6 (up1 S (72 + s) (-1)) else S)) kL kW V0 ht
  have ed : dwn L W wt sv S s = pday L W wt sv 0 (fro L (if s < 6 then fl L W wt 0 6 (up1 S (72 + s) (-1)) else S)) (if s < 6 then fl L W wt 0 6 (up1 S (72 + s) (-1)) else S) := rfl
  rw [ed]
  generalize pday L W wt sv 0 (fro L (if s < 6 then fl L W wt 0 6 (up1 S (72 + s) (-1)) else S)) (if s < 6 then fl L W wt 0 6 (up1 S (72 + s) (-1)) else S) (72 + t) = y at *
  by_cases q : s < 6
  · rw [if_pos q] at g
    rcases h with h | h
    · omega
    · have V1 := SV_lift (v := -1) V kL h.1 (by omega)
      have e := (fl_eff (W := W) (wt := wt) (tk := 0) (n := 6) kL V1).2.2.2 t ht
      generalize fl L W wt 0 6 (up1 S (72 + s) (-1)) (72 + t) = x at *
      refine ⟨fun e1 => ?_, fun e1 => ?_⟩
      · rw [e1, up1_s] at e
        omega
      · rw [up1_n (by omega)] at e
        omega
  · rw [if_neg q] at g
    exact ⟨fun e1 => by omega, fun e1 => g⟩
theorem sumw_c {f g : Nat → Int} : ∀ {n : Nat}, (∀ s, s < n → f s = g s) → sumw f n = sumw g n
  | 0, _ => rfl
  | n + 1, h => by rw [sumw, sumw, sumw_c (n := n) (fun s hs => h s (by omega)), h n (by omega)]
theorem sumw_d {f g : Nat → Int} {t : Nat} : ∀ {n : Nat}, t < n → (∀ s, s < n → s ≠ t → f s = g s) → sumw f n = sumw g n - g t + f t
  | 0, h, _ => by omega
  | n + 1, h, e => by
    rw [sumw, sumw]
    by_cases y : t = n
    · rw [y, sumw_c (n := n) (fun s hs => e s (by omega) (by omega))]; omega
    · rw [sumw_d (n := n) (by omega) (fun s hs hn => e s (by omega) hn), e n (by omega) (by omega)]; omega
theorem wno_dwn (kL : LK L) (kW : WK W) (V : SV L S d) {s : Nat} (h : can L W wt S s) : wno L (dwn L W wt sv S s) = wno L S - (if s < 6 then L (239 + 4 * s) else 0) := by
  have n6 := NS_le kL
  unfold wno
  by_cases q : s < 6
  · rw [if_pos q]
    have h2 := h
    rcases h2 with h2 | h2
    · omega
    · have a1 := (dwn_at (sv := sv) kL kW V h q).1 rfl
      rw [sumw_d (f := wnof L (dwn L W wt sv S s)) (g := wnof L S) (t := s) h2.1 (fun t ht hn => ?_)]
      · have e1 : wnof L (dwn L W wt sv S s) s = 0 := if_pos a1
        have e2 : wnof L S s = L (239 + 4 * s) := if_neg (by omega)
        rw [e1, e2]; omega
      · have a2 := (dwn_at (sv := sv) (t := t) kL kW V h (by omega)).2 hn
        unfold wnof
        rcases a2 with a | a
        · rw [a]
        · rw [a.2, if_neg (by decide), if_neg (by omega)]
  · rw [if_neg q, Int.sub_zero]
    refine sumw_c (fun t ht => ?_)
    have a2 := (dwn_at (sv := sv) (t := t) kL kW V h (by omega)).2 (by omega)
    unfold wnof
    rcases a2 with a | a
    · rw [a]
    · rw [a.2, if_neg (by decide), if_neg (by omega)]
theorem wno_bd (kL : LK L) : 0 ≤ wno L S ∧ wno L S ≤ 600 := sum6 kL (wnof_bd (S := S) kL) (Nat.le_refl _)
theorem mv_bd (kL : LK L) : ∀ {n : Nat} {S : Nat → Int}, 0 ≤ mv L W wt sv n S ∧ mv L W wt sv n S ≤ 600
  | 0, S => wno_bd kL
  | n + 1, S => by
    obtain ⟨s, _, h⟩ := mv_at (L := L) (W := W) (wt := wt) (sv := sv) (S := S) (n := n)
    rw [h]
    exact mv_bd (n := n) kL
end Eh
