/-! drawn: the class -/
theorem b6_set : ∀ x, x < 64 → ∀ s, s < 6 → por ((x : Nat) : Int) (pshl 1 ((s : Nat) : Int)) = ((x ||| 2 ^ s : Nat) : Int) ∧ x ||| 2 ^ s < 64 := by decide +kernel
theorem b6_st : ∀ x, x < 64 → ∀ s, s < 6 → ∀ t, t < 6 → (x ||| 2 ^ s).testBit t = (x.testBit t || decide (t = s)) := by decide +kernel
theorem b6_get : ∀ x, x < 64 → ∀ s, s < 6 → pand (pshr ((x : Nat) : Int) ((s : Nat) : Int)) 1 = (if x.testBit s = true then 1 else 0) := by decide +kernel
theorem b6_clr : ∀ x, x < 64 → ∀ s, s < 6 → x.testBit s = true → pand ((x : Nat) : Int) (pxor (pshl 1 ((s : Nat) : Int)) (-1)) = ((clr x s : Nat) : Int) := by decide +kernel
def hpl (S : Nat → Int) (k : Nat) : Nat → Int := match k with
  | 0 => S
  | k + 1 => if S (72 + k) < 0 then hpl S k else up1 (hpl S k) (72 + k) (-1)
theorem hpl_s {S : Nat → Int} : ∀ {k j : Nat}, (∀ s, s < k → j = 72 + s → S j < 0) → hpl S k j = S j
  | 0, j, _ => rfl
  | k + 1, j, h => by
    rw [hpl]
    split
    · exact hpl_s (k := k) (fun s hs e => h s (by omega) e)
    · rename_i q
      rw [up1_n (fun e => q (by have := h k (by omega) e; rw [e] at this; exact this))]
      exact hpl_s (k := k) (fun s hs e => h s (by omega) e)
theorem hpl_o {S : Nat → Int} : ∀ {k s : Nat}, s < k → hpl S k (72 + s) < 0
  | 0, s, h => by omega
  | k + 1, s, h => by
    rw [hpl]
    by_cases y : s = k
    · subst y
      split
      · rename_i q
        rw [hpl_s (fun t ht e => by omega)]
        exact q
      · rw [up1_s]; decide
    · split
      · exact hpl_o (k := k) (by omega)
      · rw [up1_n (by omega)]; exact hpl_o (k := k) (by omega)
section Ej
variable {h : pH} {a p q : Nat} {L W wt sv S : Nat → Int} {d : Nat}
theorem SV_hpl (V : SV L S d) (kL : LK L) : ∀ {k : Nat}, k ≤ NS L → SV L (hpl S k) d
  | 0, _ => V
  | k + 1, h => by
    rw [hpl]
    split
    · exact SV_hpl (k := k) V kL (by omega)
    · exact SV_lift (SV_hpl (k := k) V kL (by omega)) kL (by omega) (by omega)
theorem Dm_hpl (kL : LK L) : Dm L S (hpl S (NS L)) := by
  have z : 4 ≤ ce L ∧ ce L ≤ 36 := sz_mul kL.1
  have n6 := NS_le kL
  refine ⟨fun c hc => ?_, fun c hc => ?_, ?_, fun s hs => hpl_o hs⟩
  · rw [hpl_s (fun s hs e => by omega)]; exact Int.le_refl _
  · rw [hpl_s (fun s hs e => by omega)]
  · rw [hpl_s (fun s hs e => by omega)]
theorem c_hope {r : Nat} (hW : WS L wt sv) (C : CX h p q L W) (K : SC h a p q L W wt sv false S) (V : SV L S d) (hd : d + r ≤ 900) (ha : 327 ≤ a ∧ a + 7 < 405) (r0 : 1 ≤ r ∧ r ≤ 6) : ∃ (x : Nat) (h' : pH), pf_Dr_shopsWithHope a r h = some ((x : Int), h') ∧ x < 64 ∧ fr (fun b => (311 ≤ b ∧ b ≤ 315) ∨ SF 405 b) h h' ∧ ∀ s, s < NS L → 0 ≤ S (72 + s) → rsh L W (opn L W (hch L W wt sv (hpl S (NS L)) (r - 1)) wt 0 (-1) (wt s) no0) (S (72 + s)) → x.testBit s = true := by
  have kL := C.2.2.1
  have kW := C.2.2.2.1
  have z : 4 ≤ ce L ∧ ce L ≤ 36 := sz_mul kL.1
  have n6 := NS_le kL
  have en := NS_eq kL
  obtain ⟨h1, p1, p2, p3⟩ := c_become (a := 405) (b := a) K kL (by omega) (by omega)
  have Ka : ∀ t, fr (fun b => (311 ≤ b ∧ b ≤ 315) ∨ SF 405 b) h t → SC t a p q L W wt sv false S := fun t f => SC_fr K f (fun b hb => by unfold SF at hb; omega)
  have Ca : ∀ t, fr (fun b => (311 ≤ b ∧ b ≤ 315) ∨ SF 405 b) h t → CX t p q L W := fun t f => CX_fr C f (fun b hb => by unfold SF at hb; omega)
  have f1 : fr (fun b => (311 ≤ b ∧ b ≤ 315) ∨ SF 405 b) h h1 := fr_mono p2 (fun b hb => Or.inr hb)
  unfold pf_Dr_shopsWithHope
  rw [p1, bsm]
  refine lpf (F := fun n (i : Nat) t => pl_Dr_shopsWithHope_10 a r (fun h => pl_Dr_shopsWithHope_47 a r (fun h => (pf_Wa_survey 405 0 h).bind fun v6 => (pl_Dr_shopsWithHope_93 a r (fun x3 h => some (x3, h)) fu_ 0 0 v6)) fu_ 1 h) n i t) (Q := fun res => ∃ (x : Nat) (h' : pH), res = some ((x : Int), h') ∧ x < 64 ∧ fr (fun b => (311 ≤ b ∧ b ≤ 315) ∨ SF 405 b) h h' ∧ ∀ s, s < NS L → 0 ≤ S (72 + s) → rsh L W (opn L W (hch L W wt sv (hpl S (NS L)) (r - 1)) wt 0 (-1) (wt s) no0) (S (72 + s)) → x.testBit s = true) (NS L) (fun i t => fr (fun b => (311 ≤ b ∧ b ≤ 315) ∨ SF 405 b) h t ∧ SC t 405 p q L W wt sv false (hpl S i)) ?_ ?_ fu_ 0 h1 (by omega) (by unfold fu_; omega) ⟨f1, p3⟩
  · intro n i t hi ⟨f, Kt⟩
    right
    have Kt0 := Ka t f
    have Ct := Ca t f
    have v := (Kt0.2.2.2.2.1 i hi).1
    have Vi := SV_hpl (k := i) V kL (by omega)
    have rg := V.2.2.1 i hi
    show ∃ t', pl_Dr_shopsWithHope_10 a r _ (n + 1) i t = pl_Dr_shopsWithHope_10 a r _ n (i + 1 : Nat) t' ∧ _
    rw [pl_Dr_shopsWithHope_10, Kt0.1.2.1, Ct.1.1.2.2.2.2, if_neg (by omega), gib (by omega) (by omega), Int.toNat_natCast, v, wr_eq (by omega) (by omega)]
    by_cases y : S (72 + i) < 0
    · rw [if_pos y]
      refine ⟨t, rfl, f, ?_⟩
      rw [hpl, if_pos y]; exact Kt
    · have e : hpl S i (72 + i) = S (72 + i) := hpl_s (fun s hs e => by omega)
      obtain ⟨t', l1, l2, l3⟩ := c_lift (s := i) (v := -1) Ct Kt hW hi (by rw [e]; omega) (by rw [e]; exact rg.2) (by decide)
      rw [if_neg y, l1, bsm]
      refine ⟨t', rfl, fr_trans f (fr_mono l2 (fun b hb => Or.inr hb)), ?_⟩
      rw [hpl, if_neg y]; exact l3
  · intro n t ⟨f, Kt⟩
    have Kt0 := Ka t f
    have Ct := Ca t f
    have VB := SV_hpl (k := NS L) V kL (Nat.le_refl _)
    have no : ∀ s, s < NS L → hpl S (NS L) (72 + s) < 0 := fun s hs => hpl_o hs
    show ∃ (x : Nat) (h' : pH), pl_Dr_shopsWithHope_10 a r _ (n + 1) (NS L : Nat) t = some ((x : Int), h') ∧ _
    rw [pl_Dr_shopsWithHope_10, Kt0.1.2.1, Ct.1.1.2.2.2.2, if_pos (by omega)]
    generalize hpl S (NS L) = B at *
    refine lpf (F := fun n (i : Nat) t => pl_Dr_shopsWithHope_47 a r (fun h => (pf_Wa_survey 405 0 h).bind fun v6 => (pl_Dr_shopsWithHope_93 a r (fun x3 h => some (x3, h)) fu_ 0 0 v6)) n ((i + 1 : Nat) : Int) t) (Q := fun res => ∃ (x : Nat) (h' : pH), res = some ((x : Int), h') ∧ x < 64 ∧ fr (fun b => (311 ≤ b ∧ b ≤ 315) ∨ SF 405 b) h h' ∧ ∀ s, s < NS L → 0 ≤ S (72 + s) → rsh L W (opn L W (hch L W wt sv B (r - 1)) wt 0 (-1) (wt s) no0) (S (72 + s)) → x.testBit s = true) (r - 1) (fun i t => fr (fun b => (311 ≤ b ∧ b ≤ 315) ∨ SF 405 b) h t ∧ SC t 405 p q L W wt sv false (hch L W wt sv B i)) ?_ ?_ fu_ 0 t (by omega) (by unfold fu_; omega) ⟨f, Kt⟩
    · intro n i t hi ⟨f, Kt⟩
      right
      have Ct := Ca t f
      have mo := Dm_more (A := B) (k := i) (wt := wt) (sv := sv) kL kW VB no (fun c hc => Int.le_refl _)
      have fb := fro_bd (S := hch L W wt sv B i) kL mo.2.2.2.2.2.2.1.1
      obtain ⟨t', l1, l2, l3⟩ := c_passDay (f := max 0 (fro L (hch L W wt sv B i))) hW Ct Kt mo.2.2 (by omega) (by omega) (by omega)
      refine ⟨t', ?_, fr_trans f (fr_mono l2 (fun b hb => Or.inr hb)), l3⟩
      show pl_Dr_shopsWithHope_47 a r _ (n + 1) ((i + 1 : Nat) : Int) t = pl_Dr_shopsWithHope_47 a r _ n ((i + 1 + 1 : Nat) : Int) t'
      rw [pl_Dr_shopsWithHope_47, if_neg (by omega), c_frost Ct Kt mo.2.2.2.2.2.2.1.1, bsm, l1, bsm, wr_eq (by omega) (by omega)]
      rfl
    · intro n t ⟨f, Kt⟩
      have Ct := Ca t f
      have mo := Dm_more (A := B) (k := r - 1) (wt := wt) (sv := sv) kL kW VB no (fun c hc => Int.le_refl _)
      show ∃ (x : Nat) (h' : pH), pl_Dr_shopsWithHope_47 a r _ (n + 1) ((r - 1 + 1 : Nat) : Int) t = some ((x : Int), h') ∧ _
      rw [pl_Dr_shopsWithHope_47, if_pos (by omega)]
      obtain ⟨h2, s1, s2, -, -, s5, s6⟩ := c_survey (tk := 0) hW Ct Kt mo.2.2 (by omega) (by omega) (by omega)
      have f2 : fr (fun b => (311 ≤ b ∧ b ≤ 315) ∨ SF 405 b) h h2 := fr_trans f (fr_mono s2 (fun b hb => by omega))
      rw [s1, bsm]
      generalize hch L W wt sv B (r - 1) = T at *
      refine lpf (F := fun n (i : Nat) (t : Nat × pH) => pl_Dr_shopsWithHope_93 a r (fun x3 h => some (x3, h)) n (t.1 : Int) i t.2) (Q := fun res => ∃ (x : Nat) (h' : pH), res = some ((x : Int), h') ∧ x < 64 ∧ fr (fun b => (311 ≤ b ∧ b ≤ 315) ∨ SF 405 b) h h' ∧ ∀ s, s < NS L → 0 ≤ S (72 + s) → rsh L W (opn L W T wt 0 (-1) (wt s) no0) (S (72 + s)) → x.testBit s = true) (NS L) (fun i t => fr (fun b => b = 315) h2 t.2 ∧ t.1 < 64 ∧ ∀ s, s < i → 0 ≤ S (72 + s) → rsh L W (opn L W T wt 0 (-1) (wt s) no0) (S (72 + s)) → t.1.testBit s = true) ?_ ?_ fu_ 0 (0, h2) (by omega) (by unfold fu_; omega) ⟨fr_refl, by show 0 < 64; decide, fun s hs => by omega⟩
      · intro n i ⟨x, t⟩ hi ⟨g, x6, bb⟩
        right
        have g : fr (fun b => b = 315) h2 t := g
        have x6 : x < 64 := x6
        have bb : ∀ s, s < i → 0 ≤ S (72 + s) → rsh L W (opn L W T wt 0 (-1) (wt s) no0) (S (72 + s)) → x.testBit s = true := bb
        have f3 : fr (fun b => (311 ≤ b ∧ b ≤ 315) ∨ SF 405 b) h t := fr_trans f2 (fr_mono g (fun b hb => by omega))
        have Kt0 := Ka t f3
        have Ct3 := Ca t f3
        have v := Kt0.2.2.2.2.1 i hi
        have rg := V.2.2.1 i hi
        have wb := (hW i hi).1
        show ∃ t' : Nat × pH, pl_Dr_shopsWithHope_93 a r _ (n + 1) (x : Int) i t = pl_Dr_shopsWithHope_93 a r _ n (t'.1 : Int) (i + 1 : Nat) t'.2 ∧ _
        rw [pl_Dr_shopsWithHope_93, Kt0.1.2.1, Ct3.1.1.2.2.2.2, if_neg (by omega), gib (by omega) (by omega), Int.toNat_natCast, v.1, v.2.1, wr_eq (by omega) (by omega)]
        by_cases y : S (72 + i) < 0
        · rw [if_pos y]
          refine ⟨(x, t), rfl, g, x6, fun s hs h0 hr => ?_⟩
          by_cases e : s = i
          · rw [e] at h0; omega
          · exact bb s (by omega) h0 hr
        · obtain ⟨t', l1, l2⟩ := c_reachesShore (load := wt i) (c := S (72 + i)) (O := opn L W T wt 0 (-1) (wt i) no0) Ct3 (WX_fr s5 g (by omega)) (fun c hc => by rw [fr_i g (by omega), s6 c hc]; exact rmv_opn wb.1) ⟨by omega, rg.2⟩
          rw [if_neg y, gib (by omega) (by omega), gib (by omega) (by omega), l1, bsm]
          simp only []
          obtain ⟨e1, e2⟩ := b6_set x x6 i (by omega)
          by_cases u : rsh L W (opn L W T wt 0 (-1) (wt i) no0) (S (72 + i))
          · rw [cif_t u, if_neg (by decide), e1]
            refine ⟨(x ||| 2 ^ i, t'), rfl, fr_trans g l2, e2, fun s hs h0 hr => ?_⟩
            show (x ||| 2 ^ i).testBit s = true
            rw [b6_st x x6 i (by omega) s (by omega)]
            by_cases e : s = i
            · rw [decide_eq_true e, Bool.or_true]
            · rw [bb s (by omega) h0 hr]; rfl
          · rw [cif_f u, if_pos rfl]
            refine ⟨(x, t'), rfl, fr_trans g l2, x6, fun s hs h0 hr => ?_⟩
            by_cases e : s = i
            · rw [e] at hr; exact absurd hr u
            · exact bb s (by omega) h0 hr
      · intro n ⟨x, t⟩ ⟨g, x6, bb⟩
        have g : fr (fun b => b = 315) h2 t := g
        have f3 : fr (fun b => (311 ≤ b ∧ b ≤ 315) ∨ SF 405 b) h t := fr_trans f2 (fr_mono g (fun b hb => by omega))
        have Kt0 := Ka t f3
        have Ct3 := Ca t f3
        refine ⟨x, t, ?_, x6, f3, bb⟩
        show pl_Dr_shopsWithHope_93 a r _ (n + 1) (x : Int) (NS L : Nat) t = _
        rw [pl_Dr_shopsWithHope_93, Kt0.1.2.1, Ct3.1.1.2.2.2.2, if_pos (by omega)]
theorem c_worthAtLeast {r x0 : Nat} (C : CX h p q L W) (K : SC h a p q L W wt sv false S) (hr : r ≤ 6) (hx0 : x0 < 64) : pf_Dr_worthAtLeast a r x0 h = some (wno L S - bdw (fun s => L (239 + 4 * s)) (NS L) r x0) := by
  have kL := C.2.2.1
  have n6 := NS_le kL
  have en := NS_eq kL
  have wb := wno_bd (S := S) kL
  have hw : ∀ s, s < NS L → pi h (p + 9) s = L (239 + 4 * s) ∧ 0 ≤ L (239 + 4 * s) ∧ L (239 + 4 * s) ≤ 99 := fun s hs => ⟨(C.1.2.2.2.1 s hs).2.2.2, (kL.2.2.2.2.2.2.2.2.2.1 s (by omega)).2.2.2⟩
  unfold pf_Dr_worthAtLeast
  rw [c_worthNotOff C K, bsm]
  have ew : sumw (wnof L S) (NS L) = wno L S := rfl
  rw [ew]
  generalize hwf : (fun s => L (239 + 4 * s)) = wf at *
  have hwe : ∀ s, wf s = L (239 + 4 * s) := fun s => by rw [← hwf]
  have z0 : ∀ {k : Nat}, bdw wf (NS L) k 0 = 0 := fun {k} => by
    cases k with
    | zero => rfl
    | succ k =>
      rw [bdw, if_pos ?_]
      rcases am_ok (w := wf) (x := 0) (n := NS L) with ⟨i1, _⟩ | ⟨_, i2, _⟩
      · exact i1
      · rw [Nat.zero_testBit] at i2; cases i2
  refine lpf (F := fun n (i : Nat) (t : Int × Nat) => pl_Dr_worthAtLeast_11 a r x0 h (fun x3 => some x3) n t.1 (t.2 : Int) i) (Q := fun res => res = some (wno L S - bdw wf (NS L) r x0)) r (fun i t => t.2 < 64 ∧ t.1 - bdw wf (NS L) (r - i) t.2 = wno L S - bdw wf (NS L) r x0 ∧ -100 * (i : Int) ≤ t.1 ∧ t.1 ≤ 600) ?_ ?_ fu_ 0 (wno L S, x0) (by omega) (by unfold fu_; omega) ⟨hx0, rfl, by show -100 * ((0 : Nat) : Int) ≤ wno L S; omega, by show wno L S ≤ 600; omega⟩
  · intro n i ⟨v, x⟩ hi ⟨t1, t2, t3, t4⟩
    have t1 : x < 64 := t1
    have t2 : v - bdw wf (NS L) (r - i) x = wno L S - bdw wf (NS L) r x0 := t2
    have t3 : -100 * (i : Int) ≤ v := t3
    have t4 : v ≤ 600 := t4
    show (pl_Dr_worthAtLeast_11 a r x0 h _ (n + 1) v (x : Int) i = _) ∨ ∃ t' : Int × Nat, pl_Dr_worthAtLeast_11 a r x0 h _ (n + 1) v (x : Int) i = pl_Dr_worthAtLeast_11 a r x0 h _ n t'.1 (t'.2 : Int) (i + 1 : Nat) ∧ _
    rw [pl_Dr_worthAtLeast_11, if_neg (by omega)]
    by_cases x00 : x = 0
    · left
      rw [x00] at t2
      rw [z0] at t2
      rw [if_pos (by omega)]
      exact congrArg some (by omega)
    · right
      have inner : ∀ (KK : Int → Int → Int → Int → Option Int), pl_Dr_worthAtLeast_28 a r x0 h KK fu_ v (x : Int) i (-1) 0 = KK v (x : Int) i (am wf x (NS L)) := by
        intro KK
        refine lpf (F := fun m (s : Nat) (_ : Unit) => pl_Dr_worthAtLeast_28 a r x0 h KK m v (x : Int) i (am wf x s) s) (Q := fun res => res = KK v (x : Int) i (am wf x (NS L))) (NS L) (fun _ _ => True) ?_ ?_ fu_ 0 () (by omega) (by unfold fu_; omega) trivial
        · intro m s _ hs _
          right
          refine ⟨(), ?_, trivial⟩
          show pl_Dr_worthAtLeast_28 a r x0 h KK (m + 1) v (x : Int) i (am wf x s) s = pl_Dr_worthAtLeast_28 a r x0 h KK m v (x : Int) i (am wf x (s + 1)) (s + 1 : Nat)
          have gb := b6_get x t1 s (by omega)
          rw [pl_Dr_worthAtLeast_28, K.1.2.1, C.1.1.2.2.2.2, if_neg (by omega)]
          unfold pj_Dr_worthAtLeast_74
          rw [gb, wr_eq (by omega) (by omega), am]
          rcases am_ok (w := wf) (x := x) (n := s) with ⟨i1, i2⟩ | ⟨i1, i2, i3⟩
          · rw [if_pos i1, i1]
            by_cases tb_ : x.testBit s = true
            · rw [if_pos tb_, if_neg (by decide), if_neg (by decide), if_pos ⟨tb_, Or.inl rfl⟩]; rfl
            · rw [if_neg tb_, if_pos rfl, if_neg (fun u => tb_ u.1)]; rfl
          · have hs' := hw s hs
            have ha' := hw (am wf x s).toNat (by omega)
            rw [if_neg (by omega), gib (by omega) (by omega), gib (by omega) (by omega), Int.toNat_natCast, hs'.1, ha'.1, ← hwe, ← hwe]
            by_cases tb_ : x.testBit s = true
            · by_cases u : wf s ≤ wf (am wf x s).toNat
              · rw [if_pos u, if_pos tb_, if_neg (by decide), if_pos rfl, if_neg (fun k => by rcases k.2 with k | k <;> omega)]; rfl
              · rw [if_neg u, if_pos tb_, if_neg (by decide), if_neg (by decide), if_pos ⟨tb_, Or.inr (by omega)⟩]; rfl
            · have nn : ¬ (x.testBit s = true ∧ (am wf x s = -1 ∨ wf (am wf x s).toNat < wf s)) := fun k => tb_ k.1
              rw [if_neg nn, if_neg tb_, if_pos rfl, if_pos rfl]
              split <;> rfl
        · intro m _ _
          show pl_Dr_worthAtLeast_28 a r x0 h KK (m + 1) v (x : Int) i (am wf x (NS L)) (NS L : Nat) = _
          rw [pl_Dr_worthAtLeast_28, K.1.2.1, C.1.1.2.2.2.2, if_pos (by omega)]
      obtain ⟨k, ek⟩ : ∃ k, r - i = k + 1 := ⟨r - i - 1, by omega⟩
      have ek2 : r - (i + 1) = k := by omega
      rw [if_neg (by omega), inner]
      rw [ek, bdw] at t2
      rcases am_ok (w := wf) (x := x) (n := NS L) with ⟨i1, i2⟩ | ⟨i1, i2, i3⟩
      · rw [if_pos i1] at t2
        rw [if_pos i1, wr_eq (by omega) (by omega)]
        refine ⟨(v, x), rfl, t1, ?_, by show -100 * ((i + 1 : Nat) : Int) ≤ v; omega, t4⟩
        show v - bdw wf (NS L) (r - (i + 1)) x = _
        have : bdw wf (NS L) k x = 0 := by
          cases k with
          | zero => rfl
          | succ k => rw [bdw, if_pos i1]
        rw [ek2, this]
        exact t2
      · rw [if_neg (by omega)] at t2
        obtain ⟨m, em⟩ : ∃ m : Nat, am wf x (NS L) = m := ⟨(am wf x (NS L)).toNat, by omega⟩
        rw [em, Int.toNat_natCast] at i2 t2
        have hm' := hw m (by omega)
        rw [hwe] at t2
        rw [em, if_neg (by omega), gib (by omega) (by omega), Int.toNat_natCast, K.1.2.1, hm'.1, wr_eq (x := v - L (239 + 4 * m)) (by omega) (by omega), b6_clr x t1 m (by omega) i2, wr_eq (by omega) (by omega)]
        refine ⟨(v - L (239 + 4 * m), clr x m), rfl, clr_l x t1 m (by omega), ?_, by show -100 * ((i + 1 : Nat) : Int) ≤ v - L (239 + 4 * m); omega, by show v - L (239 + 4 * m) ≤ 600; omega⟩
        show v - L (239 + 4 * m) - bdw wf (NS L) (r - (i + 1)) (clr x m) = _
        rw [ek2]
        omega
  · intro n ⟨v, x⟩ ⟨t1, t2, t3, t4⟩
    show pl_Dr_worthAtLeast_11 a r x0 h _ (n + 1) v (x : Int) (r : Nat) = _
    have t2 : v - bdw wf (NS L) (r - r) x = wno L S - bdw wf (NS L) r x0 := t2
    rw [Nat.sub_self, bdw] at t2
    rw [pl_Dr_worthAtLeast_11, if_pos (Int.le_refl _)]
    exact congrArg some (by omega)
end Ej
def DFs (d b : Nat) : Prop := (311 ≤ b ∧ b ≤ 315) ∨ b = 345 ∨ b = 346 ∨ b = 347 ∨ (349 + 8 * d ≤ b ∧ b ≤ 412)
def rwv (k : Nat) : Int := if k = 6 then -1 else (k : Int)
section Ek
variable {p q : Nat} {L W wt sv : Nat → Int}
/-- what tryDay does, with r days to go -/
def TDs (L W wt sv : Nat → Int) (p q : Nat) (r n : Nat) : Prop := ∀ (d : Nat) (h : pH) (S : Nat → Int) (e : Nat) (b : Int), d + r ≤ 6 → CX h p q L W → SC h (349 + 8 * d) p q L W wt sv false S → SV L S e → e + r ≤ 900 → pi h 345 6 = ((d + r : Nat) : Int) → pi h 345 0 = b → 0 ≤ b ∧ b ≤ 1000 → ∃ h', pfr_Dr_tryDay n d h = some h' ∧ fr (DFs d) h h' ∧ SC h' (349 + 8 * d) p q L W wt sv false S ∧ pi h' 345 6 = ((d + r : Nat) : Int) ∧ (∀ j, j < d → pi h' 347 j = pi h 347 j) ∧ ((mv L W wt sv r S < b ∧ pi h' 345 0 = mv L W wt sv r S ∧ (∀ j, j < d → pi h' 346 j = pi h 347 j) ∧ ∀ i, i < r → pi h' 346 (d + i) = rwv (orw L W wt sv r S i)) ∨ (b ≤ mv L W wt sv r S ∧ pi h' 345 0 = b ∧ ∀ j, pi h' 346 j = pi h 346 j))
theorem c_tryShop {r n d : Nat} {h : pH} {S : Nat → Int} {e s : Nat} {b : Int} (hW : WS L wt sv) (ih : TDs L W wt sv p q r n) (hd : d + (r + 1) ≤ 6) (C : CX h p q L W) (K : SC h (349 + 8 * d) p q L W wt sv false S) (V : SV L S e) (he : e + (r + 1) ≤ 900) (e6 : pi h 345 6 = ((d + (r + 1) : Nat) : Int)) (eb : pi h 345 0 = b) (hb : 0 ≤ b ∧ b ≤ 1000) (hc : can L W wt S s) : ∃ h', pf_Dr_tryShop (pfr_Dr_tryDay n) d (rwv s) h = some h' ∧ fr (DFs d) h h' ∧ SC h' (349 + 8 * d) p q L W wt sv false S ∧ pi h' 345 6 = ((d + (r + 1) : Nat) : Int) ∧ (∀ j, j < d → pi h' 347 j = pi h 347 j) ∧ ((mv L W wt sv r (dwn L W wt sv S s) < b ∧ pi h' 345 0 = mv L W wt sv r (dwn L W wt sv S s) ∧ (∀ j, j < d → pi h' 346 j = pi h 347 j) ∧ pi h' 346 d = rwv s ∧ ∀ i, i < r → pi h' 346 (d + 1 + i) = rwv (orw L W wt sv r (dwn L W wt sv S s) i)) ∨ (b ≤ mv L W wt sv r (dwn L W wt sv S s) ∧ pi h' 345 0 = b ∧ ∀ j, pi h' 346 j = pi h 346 j)) := by
  have kL := C.2.2.1
  have kW := C.2.2.2.1
  have n6 := NS_le kL
  obtain ⟨h1, p1, p2, p3⟩ := c_become (a := 349 + 8 * (d + 1)) (b := 349 + 8 * d) K kL (by omega) (by omega)
  have C1 : CX h1 p q L W := SC_CX C (by omega) p2
  have V0 := SV_dw0 kL V hc
  unfold pf_Dr_tryShop
  have ed : wr ((d : Int) + 1) = ((d + 1 : Nat) : Int) := by rw [wr_eq (by omega) (by omega)]; omega
  rw [ed, gib (by omega) (by omega), gib (by omega) (by omega), Int.toNat_natCast, Int.toNat_natCast, show 348 + 1 + 8 * (d + 1) = 349 + 8 * (d + 1) by omega, show 348 + 1 + 8 * d = 349 + 8 * d by omega, p1, bsm]
  -- behind the shop's going off
  have tail : ∀ h2, CX h2 p q L W → fr (SF (349 + 8 * (d + 1))) h h2 → SC h2 (349 + 8 * (d + 1)) p q L W wt sv false (if s < 6 then fl L W wt 0 6 (up1 S (72 + s) (-1)) else S) → ∃ h', pj_Dr_tryShop_29 (pfr_Dr_tryDay n) d (rwv s) (349 + 8 * (d + 1)) h2 = some h' ∧ fr (DFs d) h h' ∧ SC h' (349 + 8 * d) p q L W wt sv false S ∧ pi h' 345 6 = ((d + (r + 1) : Nat) : Int) ∧ (∀ j, j < d → pi h' 347 j = pi h 347 j) ∧ ((mv L W wt sv r (dwn L W wt sv S s) < b ∧ pi h' 345 0 = mv L W wt sv r (dwn L W wt sv S s) ∧ (∀ j, j < d → pi h' 346 j = pi h 347 j) ∧ pi h' 346 d = rwv s ∧ ∀ i, i < r → pi h' 346 (d + 1 + i) = rwv (orw L W wt sv r (dwn L W wt sv S s) i)) ∨ (b ≤ mv L W wt sv r (dwn L W wt sv S s) ∧ pi h' 345 0 = b ∧ ∀ j, pi h' 346 j = pi h 346 j)) := by
    intro h2 C2 f2 K2
    unfold pj_Dr_tryShop_29
    have fb := fro_bd (S := if s < 6 then fl L W wt 0 6 (up1 S (72 + s) (-1)) else S) kL V0.2.2.2.2.1.1
    obtain ⟨h3, q1, q2, q3⟩ := c_passDay (f := fro L (if s < 6 then fl L W wt 0 6 (up1 S (72 + s) (-1)) else S)) hW C2 K2 V0 (by omega) (by omega) (by omega)
    have C3 : CX h3 p q L W := SC_CX C2 (by omega) q2
    have q3 : SC h3 (349 + 8 * (d + 1)) p q L W wt sv false (dwn L W wt sv S s) := q3
    have f3 : fr (SF (349 + 8 * (d + 1))) h h3 := fr_trans f2 q2
    rw [c_frost C2 K2 V0.2.2.2.2.1.1, bsm, q1, bsm, gib (by omega) (by omega), Int.toNat_natCast, ed]
    generalize eG : pwI h3 347 d (rwv s) = G
    have fG : fr (fun b => b = 347 ∨ SF (349 + 8 * (d + 1)) b) h G := by rw [← eG]; exact fr_wI (fr_mono f3 (fun b hb => Or.inr hb)) (Or.inl rfl)
    have gG : fr (fun b => b = 347) h3 G := by rw [← eG]; exact fr_wI fr_refl rfl
    have g7 : ∀ j, j ≠ d → pi G 347 j = pi h 347 j := fun j hj => by rw [← eG, pi_wIi hj, fr_i f3 (by unfold SF; omega)]
    have g7d : pi G 347 d = rwv s := by rw [← eG, pi_wIs]
    have CG : CX G p q L W := CX_fr C3 gG (fun b hb => by omega)
    have KG : SC G (349 + 8 * (d + 1)) p q L W wt sv false (dwn L W wt sv S s) := SC_fr q3 gG (fun b hb => by omega)
    have K0 : SC G (349 + 8 * d) p q L W wt sv false S := SC_fr K fG (fun b hb => by unfold SF at hb; omega)
    obtain ⟨h', r1, r2, r3, r4, r5, r6⟩ := ih (d + 1) G (dwn L W wt sv S s) (e + 1) b (by omega) CG KG (SV_dwn kL kW V hc) (by omega) (by rw [fr_i fG (by unfold SF; omega), e6]; omega) (by rw [fr_i fG (by unfold SF; omega)]; exact eb) hb
    rw [r1, bsm]
    refine ⟨h', rfl, fr_trans (fr_mono fG (fun b hb => by unfold SF at hb; unfold DFs; omega)) (fr_mono r2 (fun b hb => by unfold DFs at hb ⊢; omega)), SC_fr K0 r2 (fun b hb => by unfold DFs at hb; omega), by rw [r4]; omega, fun j hj => by rw [r5 j (by omega)]; exact g7 j (by omega), ?_⟩
    rcases r6 with ⟨s1, s2, s3, s4⟩ | ⟨s1, s2, s3⟩
    · exact Or.inl ⟨s1, s2, fun j hj => by rw [s3 j (by omega)]; exact g7 j (by omega), by rw [s3 d (by omega)]; exact g7d, s4⟩
    · exact Or.inr ⟨s1, s2, fun j => by rw [s3 j, fr_i fG (by unfold SF; omega)]⟩
  by_cases y : s < 6
  · have h2 := hc
    rcases h2 with h2 | h2
    · omega
    · have er : rwv s = (s : Int) := if_neg (by omega)
      obtain ⟨t, t1, t2, t3⟩ := c_drawOff (s := s) hW C1 p3 V h2.1 h2.2.1
      rw [if_neg (by rw [er]; omega)]
      have t1' : pf_Sc_drawOff (349 + 8 * (d + 1)) (rwv s) h1 = some t := by rw [er]; exact t1
      rw [t1', bsm]
      exact tail t (SC_CX C1 (by omega) t2) (fr_trans p2 t2) (by rw [if_pos y]; exact t3)
  · have e6' : s = 6 := by
      rcases hc with h2 | h2
      · exact h2
      · omega
    have er : rwv s = -1 := if_pos e6'
    rw [if_pos er]
    exact tail h1 C1 p2 (by rw [if_neg y]; exact p3)
/-- how the loop stands -/
def BST (L W wt sv S : Nat → Int) (r d : Nat) (b : Int) (h t : pH) (i : Nat) : Prop :=
  (pi t 345 0 = b ∧ (∀ j, pi t 346 j = pi h 346 j) ∧ ∀ s, s < i → can L W wt S s → b ≤ mv L W wt sv r (dwn L W wt sv S s))
  ∨ ∃ s0, s0 < i ∧ can L W wt S s0 ∧ mv L W wt sv r (dwn L W wt sv S s0) < b ∧ pi t 345 0 = mv L W wt sv r (dwn L W wt sv S s0) ∧ (∀ s, s < i → can L W wt S s → mv L W wt sv r (dwn L W wt sv S s0) ≤ mv L W wt sv r (dwn L W wt sv S s) ∧ (s < s0 → mv L W wt sv r (dwn L W wt sv S s0) < mv L W wt sv r (dwn L W wt sv S s))) ∧ (∀ j, j < d → pi t 346 j = pi h 347 j) ∧ pi t 346 d = rwv s0 ∧ ∀ i, i < r → pi t 346 (d + 1 + i) = rwv (orw L W wt sv r (dwn L W wt sv S s0) i)
theorem BST_no {S : Nat → Int} {r d i k : Nat} {b : Int} {h t t' : pH} (B : BST L W wt sv S r d b h t i) (hik : i ≤ k) (no : ∀ s, i ≤ s → s < k → ¬ can L W wt S s) (e5 : pi t' 345 0 = pi t 345 0) (e6 : ∀ j, pi t' 346 j = pi t 346 j) : BST L W wt sv S r d b h t' k := by
  rcases B with ⟨b1, b2, b3⟩ | ⟨s0, b1, b2, b3, b4, b5, b6, b7, b8⟩
  · refine Or.inl ⟨by rw [e5]; exact b1, fun j => by rw [e6]; exact b2 j, fun s hs hc => ?_⟩
    rcases Nat.lt_or_ge s i with y | y
    · exact b3 s y hc
    · exact absurd hc (no s y hs)
  · refine Or.inr ⟨s0, by omega, b2, b3, by rw [e5]; exact b4, fun s hs hc => ?_, fun j hj => by rw [e6]; exact b6 j hj, by rw [e6]; exact b7, fun i hi => by rw [e6]; exact b8 i hi⟩
    rcases Nat.lt_or_ge s i with y | y
    · exact b5 s y hc
    · exact absurd hc (no s y hs)
theorem BST_step {S : Nat → Int} {r d i : Nat} {b b1 : Int} {h t t' : pH} (B : BST L W wt sv S r d b h t i) (eb : pi t 345 0 = b1) (e7 : ∀ j, j < d → pi t 347 j = pi h 347 j) (hc : can L W wt S i) (R : (mv L W wt sv r (dwn L W wt sv S i) < b1 ∧ pi t' 345 0 = mv L W wt sv r (dwn L W wt sv S i) ∧ (∀ j, j < d → pi t' 346 j = pi t 347 j) ∧ pi t' 346 d = rwv i ∧ ∀ k, k < r → pi t' 346 (d + 1 + k) = rwv (orw L W wt sv r (dwn L W wt sv S i) k)) ∨ (b1 ≤ mv L W wt sv r (dwn L W wt sv S i) ∧ pi t' 345 0 = b1 ∧ ∀ j, pi t' 346 j = pi t 346 j)) : BST L W wt sv S r d b h t' (i + 1) := by
  rcases R with ⟨r1, r2, r3, r4, r5⟩ | ⟨r1, r2, r3⟩
  · right
    refine ⟨i, by omega, hc, ?_, r2, fun s hs hcs => ?_, fun j hj => by rw [r3 j hj]; exact e7 j hj, r4, r5⟩
    · rcases B with ⟨b1', b2, b3⟩ | ⟨s0, c1, c2, c3, c4, c5, c6, c7, c8⟩ <;> omega
    · by_cases y : s = i
      · rw [y]; exact ⟨Int.le_refl _, fun v => by omega⟩
      · rcases B with ⟨b1', b2, b3⟩ | ⟨s0, c1, c2, c3, c4, c5, c6, c7, c8⟩
        · have := b3 s (by omega) hcs
          exact ⟨by omega, fun _ => by omega⟩
        · have := (c5 s (by omega) hcs).1
          exact ⟨by omega, fun _ => by omega⟩
  · rcases B with ⟨b1', b2, b3⟩ | ⟨s0, c1, c2, c3, c4, c5, c6, c7, c8⟩
    · refine Or.inl ⟨by omega, fun j => by rw [r3]; exact b2 j, fun s hs hcs => ?_⟩
      by_cases y : s = i
      · rw [y]; omega
      · exact b3 s (by omega) hcs
    · refine Or.inr ⟨s0, by omega, c2, c3, by omega, fun s hs hcs => ?_, fun j hj => by rw [r3]; exact c6 j hj, by rw [r3]; exact c7, fun k hk => by rw [r3]; exact c8 k hk⟩
      by_cases y : s = i
      · rw [y]; exact ⟨by omega, fun v => by omega⟩
      · exact c5 s (by omega) hcs
theorem BST_b {S : Nat → Int} {r d i : Nat} {b : Int} {h t : pH} (kL : LK L) (B : BST L W wt sv S r d b h t i) (hb : 0 ≤ b ∧ b ≤ 1000) : 0 ≤ pi t 345 0 ∧ pi t 345 0 ≤ 1000 := by
  rcases B with ⟨b1', b2, b3⟩ | ⟨s0, c1, c2, c3, c4, c5, c6, c7, c8⟩
  · omega
  · have := mv_bd (L := L) (W := W) (wt := wt) (sv := sv) (n := r) (S := dwn L W wt sv S s0) kL
    omega
theorem c_tryDay (hW : WS L wt sv) : ∀ (r n : Nat), r < n → TDs L W wt sv p q r n := by
  intro r
  induction r with
  | zero =>
    intro n hn d h S e b hd C K V he e6 eb hb
    have kL := C.2.2.1
    obtain ⟨m, rfl⟩ : ∃ m, n = m + 1 := ⟨n - 1, by omega⟩
    have wb := wno_bd (S := S) kL
    rw [pfr_Dr_tryDay]
    unfold pf_Dr_tryDay
    rw [gib (by omega) (by omega), e6, if_neg (by omega), Int.toNat_natCast, show 348 + 1 + 8 * d = 349 + 8 * d by omega, c_worthNotOff C K, bsm]
    have ew : sumw (wnof L S) (NS L) = wno L S := rfl
    rw [ew]
    unfold pf_Dr_keepBetter
    rw [eb]
    by_cases y : b ≤ wno L S
    · rw [if_pos y, bsm]
      exact ⟨h, rfl, fr_refl, K, e6, fun j _ => rfl, Or.inr ⟨y, eb, fun j => rfl⟩⟩
    · have e66 : pi (pwI h 345 0 (wno L S)) 345 6 = d := by rw [pi_wIi (by decide), e6]; rfl
      rw [if_neg y, e66, gd_t (cbt (by omega) (by omega) (by omega) (by omega) (by omega)), bsm, Int.toNat_natCast]
      have f : fr (fun b => b = 345 ∨ b = 346) h (pcpI (pwI h 345 0 (wno L S)) 347 346 0 0 d) := fr_cpI (fr_wI fr_refl (Or.inl rfl)) (Or.inr rfl)
      refine ⟨_, rfl, fr_mono f (fun b hb => by unfold DFs; omega), SC_fr K f (fun b hb => by omega), ?_, fun j _ => fr_i f (by omega), Or.inl ⟨by rw [mv]; omega, ?_, fun j hj => ?_, fun i hi => by omega⟩⟩
      · rw [pi_cpIa (by decide), pi_wIi (by decide)]; exact e6
      · rw [pi_cpIa (by decide), pi_wIs]; rfl
      · rw [pi_cp0 hj, pi_wIa (by decide)]
  | succ r ih =>
    intro n hn d h S e b hd C K V he e6 eb hb
    have kL := C.2.2.1
    have kW := C.2.2.2.1
    have n6 := NS_le kL
    have en := NS_eq kL
    obtain ⟨m, rfl⟩ : ∃ m, n = m + 1 := ⟨n - 1, by omega⟩
    have ihm := ih m (by omega)
    obtain ⟨x, h1, p1, p2, p3, p4⟩ := c_hope (r := r + 1) (a := 349 + 8 * d) hW C K V he (by omega) (by omega)
    have C1 : CX h1 p q L W := CX_fr C p3 (fun b hb => by unfold SF at hb; omega)
    have K1 : SC h1 (349 + 8 * d) p q L W wt sv false S := SC_fr K p3 (fun b hb => by unfold SF at hb; omega)
    have lb := mv_lb kL kW hW (r := r + 1) (x := x) V (SV_hpl (k := NS L) V kL (Nat.le_refl _)) (Dm_hpl kL) p2 (fun _ s hs h0 g => p4 s hs h0 g)
    have f1 : fr (DFs d) h h1 := fr_mono p3 (fun b hb => by unfold SF at hb; unfold DFs; omega)
    have e51 : ∀ j, pi h1 345 j = pi h 345 j := fun j => fr_i p3 (by unfold SF; omega)
    have e61 : ∀ j, pi h1 346 j = pi h 346 j := fun j => fr_i p3 (by unfold SF; omega)
    have e71 : ∀ j, pi h1 347 j = pi h 347 j := fun j => fr_i p3 (by unfold SF; omega)
    rw [pfr_Dr_tryDay]
    unfold pf_Dr_tryDay
    have er : wr (((d + (r + 1) : Nat) : Int) - (d : Int)) = ((r + 1 : Nat) : Int) := by rw [wr_eq (by omega) (by omega)]; omega
    rw [gib (by omega) (by omega), e6, if_pos (by omega), Int.toNat_natCast, show 348 + 1 + 8 * d = 349 + 8 * d by omega, er, p1, bsm]
    simp only []
    rw [c_worthAtLeast C1 K1 (by omega) p2, bsm, e51, eb]
    by_cases y : wno L S - bdw (fun s => L (239 + 4 * s)) (NS L) (r + 1) x < b
    · rw [if_pos y]
      refine lpf (F := fun n (i : Nat) t => pl_Dr_tryDay_55 (pfr_Dr_tryDay m) d (fun h => (pf_Dr_tryShop (pfr_Dr_tryDay m) d ((-1)) h).bind fun v7 => (some v7)) n (349 + 8 * d) i t) (Q := fun res => ∃ h', res = some h' ∧ fr (DFs d) h h' ∧ SC h' (349 + 8 * d) p q L W wt sv false S ∧ pi h' 345 6 = ((d + (r + 1) : Nat) : Int) ∧ (∀ j, j < d → pi h' 347 j = pi h 347 j) ∧ ((mv L W wt sv (r + 1) S < b ∧ pi h' 345 0 = mv L W wt sv (r + 1) S ∧ (∀ j, j < d → pi h' 346 j = pi h 347 j) ∧ ∀ i, i < r + 1 → pi h' 346 (d + i) = rwv (orw L W wt sv (r + 1) S i)) ∨ (b ≤ mv L W wt sv (r + 1) S ∧ pi h' 345 0 = b ∧ ∀ j, pi h' 346 j = pi h 346 j))) (NS L) (fun i t => fr (DFs d) h t ∧ SC t (349 + 8 * d) p q L W wt sv false S ∧ pi t 345 6 = ((d + (r + 1) : Nat) : Int) ∧ (∀ j, j < d → pi t 347 j = pi h 347 j) ∧ BST L W wt sv S r d b h t i) ?_ ?_ fu_ 0 h1 (by omega) (by unfold fu_; omega) ⟨f1, K1, by rw [e51]; exact e6, fun j _ => e71 j, Or.inl ⟨by rw [e51]; exact eb, e61, fun s hs => by omega⟩⟩
      · intro n i t hi ⟨f, Kt, t6, t7, B⟩
        right
        have Ct : CX t p q L W := CX_fr C f (fun b hb => by unfold DFs at hb; omega)
        show ∃ t', pl_Dr_tryDay_55 (pfr_Dr_tryDay m) d _ (n + 1) (349 + 8 * d) i t = pl_Dr_tryDay_55 (pfr_Dr_tryDay m) d _ n (349 + 8 * d) (i + 1 : Nat) t' ∧ _
        rw [pl_Dr_tryDay_55, Kt.1.2.1, Ct.1.1.2.2.2.2, if_neg (by omega), c_stands Ct Kt, bsm, if1, wr_eq (by omega) (by omega), Int.toNat_natCast]
        by_cases y1 : (0 ≤ (i : Int) ∧ (i : Int) < L 4) ∧ 0 ≤ S (72 + i)
        · rw [if_pos y1]
          obtain ⟨t', l1, l2, l3, -, l5⟩ := c_canLeave (s := i) hW Ct Kt V (Or.inr (by omega)) hi y1.2
          rw [l1, bsm]
          simp only []
          have f' : fr (DFs d) h t' := fr_trans f (fr_mono l2 (fun b hb => by unfold SF at hb; unfold DFs; omega))
          have a5 : ∀ j, pi t' 345 j = pi t 345 j := fun j => fr_i l2 (by unfold SF; omega)
          have a6 : ∀ j, pi t' 346 j = pi t 346 j := fun j => fr_i l2 (by unfold SF; omega)
          have a7 : ∀ j, pi t' 347 j = pi t 347 j := fun j => fr_i l2 (by unfold SF; omega)
          have C' : CX t' p q L W := CX_fr C f' (fun b hb => by unfold DFs at hb; omega)
          by_cases y2 : cgo L W S wt i
          · have hc : can L W wt S i := Or.inr ⟨hi, y1.2, y2⟩
            have ei : rwv i = (i : Int) := if_neg (by omega)
            obtain ⟨t2, q1, q2, q3, q4, q5, q6⟩ := c_tryShop (s := i) hW ihm hd C' l5 V he (by rw [a5]; exact t6) (rfl : pi t' 345 0 = pi t' 345 0) (by rw [a5]; exact BST_b kL B hb) hc
            rw [ei] at q1
            rw [cif_t y2, if_neg (by decide), q1, bsm]
            refine ⟨t2, rfl, fr_trans f' q2, q3, q4, fun j hj => by rw [q5 j hj, a7]; exact t7 j hj, ?_⟩
            have B' : BST L W wt sv S r d b h t' i := BST_no B (Nat.le_refl _) (fun s a b => by omega) (a5 0) a6
            exact BST_step B' rfl (fun j hj => by rw [a7]; exact t7 j hj) hc q6
          · rw [cif_f y2, if_pos rfl]
            refine ⟨t', rfl, f', l5, by rw [a5]; exact t6, fun j hj => by rw [a7]; exact t7 j hj, BST_no B (by omega) (fun s s1 s2 hc => ?_) (a5 0) a6⟩
            have : s = i := by omega
            subst this
            rcases hc with hc | hc
            · omega
            · exact y2 hc.2.2
        · rw [if_neg y1]
          refine ⟨t, rfl, f, Kt, t6, t7, BST_no B (by omega) (fun s s1 s2 hc => ?_) rfl (fun _ => rfl)⟩
          have : s = i := by omega
          subst this
          rcases hc with hc | hc
          · omega
          · exact y1 ⟨by omega, hc.2.1⟩
      · intro n t ⟨f, Kt, t6, t7, B⟩
        have Ct : CX t p q L W := CX_fr C f (fun b hb => by unfold DFs at hb; omega)
        show ∃ h', pl_Dr_tryDay_55 (pfr_Dr_tryDay m) d _ (n + 1) (349 + 8 * d) (NS L : Nat) t = some h' ∧ _
        rw [pl_Dr_tryDay_55, Kt.1.2.1, Ct.1.1.2.2.2.2, if_pos (by omega)]
        obtain ⟨t2, q1, q2, q3, q4, q5, q6⟩ := c_tryShop (s := 6) hW ihm hd Ct Kt V he t6 (rfl : pi t 345 0 = pi t 345 0) (BST_b kL B hb) (Or.inl rfl)
        have q1 : pf_Dr_tryShop (pfr_Dr_tryDay m) d (-1) t = some t2 := q1
        rw [q1, bsm]
        have B6 : BST L W wt sv S r d b h t 6 := BST_no B n6 (fun s s1 s2 hc => by
          rcases hc with hc | hc
          · omega
          · omega) rfl (fun _ => rfl)
        have B7 := BST_step B6 rfl t7 (Or.inl rfl) q6
        refine ⟨t2, rfl, fr_trans f q2, q3, q4, fun j hj => by rw [q5 j hj]; exact t7 j hj, ?_⟩
        rcases B7 with ⟨b1, b2, b3⟩ | ⟨s0, c1, c2, c3, c4, c5, c6, c7, c8⟩
        · right
          obtain ⟨s, z1, z2⟩ := mv_at (L := L) (W := W) (wt := wt) (sv := sv) (S := S) (n := r)
          refine ⟨?_, b1, b2⟩
          rw [z2]
          exact b3 s (by have := (can_6 kL z1).1; omega) z1
        · left
          obtain ⟨k1, k2, k3, k4⟩ := kst_ok (L := L) (W := W) (wt := wt) (sv := sv) (S := S) (n := r) kL
          have g1 := mv_le (sv := sv) (n := r) kL c2
          have g2 := c5 _ (by omega) k2
          have e0 : s0 = kst L W wt sv r S := by
            rcases Nat.lt_trichotomy s0 (kst L W wt sv r S) with v | v | v
            · have := k4 s0 v c2; omega
            · exact v
            · have := g2.2 v; omega
          have em : mv L W wt sv (r + 1) S = mv L W wt sv r (dwn L W wt sv S s0) := by rw [e0, k3]
          refine ⟨by rw [em]; exact c3, by rw [em]; exact c4, c6, fun i hi => ?_⟩
          cases i with
          | zero => rw [orw_0, Nat.add_zero, c7, e0]
          | succ i =>
            rw [orw_s, show d + (i + 1) = d + 1 + i by omega, c8 i (by omega), e0]
    · rw [if_neg y]
      exact ⟨h1, rfl, f1, K1, by rw [e51]; exact e6, fun j _ => e71 j, Or.inr ⟨by omega, by rw [e51]; exact eb, e61⟩⟩
end Ek
