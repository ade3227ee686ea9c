/-! who falls, and days: the words -/
def fnd (p : Nat → Bool) (i m : Nat) : Int := match m with
  | 0 => -1
  | m + 1 => if p i = true then i else fnd p (i + 1) m
theorem fnd_r {p : Nat → Bool} : ∀ {m i : Nat}, fnd p i m = -1 ∨ ((i : Int) ≤ fnd p i m ∧ fnd p i m < i + m)
  | 0, i => Or.inl rfl
  | m + 1, i => by
    rw [fnd]
    split
    · right; omega
    · rcases fnd_r (p := p) (m := m) (i := i + 1) with e | e
      · exact Or.inl e
      · right; omega
theorem fnd_t {p : Nat → Bool} : ∀ {m i : Nat}, 0 ≤ fnd p i m → p (fnd p i m).toNat = true
  | 0, i, h => by simp [fnd] at h
  | m + 1, i, h => by
    rw [fnd] at h ⊢
    split
    · rename_i q; rw [Int.toNat_natCast]; exact q
    · rename_i q; rw [if_neg q] at h; exact fnd_t h
theorem fnd_n {p : Nat → Bool} : ∀ {m i : Nat}, fnd p i m < 0 → ∀ j, i ≤ j → j < i + m → p j = false
  | 0, i, h, j, h1, h2 => by omega
  | m + 1, i, h, j, h1, h2 => by
    rw [fnd] at h
    split at h
    · omega
    · rename_i q
      rcases Nat.lt_or_ge i j with z | z
      · exact fnd_n h j (by omega) (by omega)
      · rw [show j = i by omega]; simpa using q
theorem fnd_c {p q : Nat → Bool} : ∀ {m i : Nat}, (∀ j, i ≤ j → j < i + m → p j = q j) → fnd p i m = fnd q i m
  | 0, i, h => rfl
  | m + 1, i, h => by
    rw [fnd, fnd, h i (by omega) (by omega), fnd_c (fun j h1 h2 => h j (by omega) (by omega))]
theorem fnd_lt {p : Nat → Bool} : ∀ {m i : Nat}, 0 ≤ fnd p i m → ∀ j, i ≤ j → (j : Int) < fnd p i m → p j = false
  | 0, i, h, j, h1, h2 => by simp [fnd] at h
  | m + 1, i, h, j, h1, h2 => by
    rw [fnd] at h h2
    split at h
    · rename_i q; rw [if_pos q] at h2; omega
    · rename_i q
      rw [if_neg q] at h2
      rcases Nat.lt_or_ge i j with z | z
      · exact fnd_lt h j (by omega) h2
      · rw [show j = i by omega]; simpa using q
noncomputable def ffP (L W S wt : Nat → Int) (tk : Int) (s : Nat) : Bool := decide (0 ≤ S (72 + s)) && decide (br L S tk (S (72 + s)) < ld L W S wt (-1) (S (72 + s)))
noncomputable def ff (L W S wt : Nat → Int) (tk : Int) : Int := fnd (ffP L W S wt tk) 0 (NS L)
def fa1 (S : Nat → Int) (s : Nat) : Nat → Int := up1 (up1 S (S (72 + s)).toNat 0) (72 + s) (-2)
noncomputable def fl (L W wt : Nat → Int) (tk : Int) (n : Nat) (S : Nat → Int) : Nat → Int := match n with
  | 0 => S
  | n + 1 => if ff L W S wt tk < 0 then S else fl L W wt tk n (fa1 S (ff L W S wt tk).toNat)
def cnt (S : Nat → Int) (n : Nat) : Nat := match n with
  | 0 => 0
  | n + 1 => cnt S n + (if 0 ≤ S (72 + n) then 1 else 0)
theorem cnt_le {S : Nat → Int} : ∀ {n : Nat}, cnt S n ≤ n
  | 0 => Nat.le_refl _
  | n + 1 => by have := cnt_le (S := S) (n := n); rw [cnt]; split <;> omega
theorem cnt_c {S T : Nat → Int} : ∀ {n : Nat}, (∀ s, s < n → S (72 + s) = T (72 + s)) → cnt S n = cnt T n
  | 0, _ => rfl
  | n + 1, h => by rw [cnt, cnt, cnt_c (fun s hs => h s (by omega)), h n (by omega)]
theorem cnt_f {S : Nat → Int} {s : Nat} {v : Int} (hv : v < 0) : ∀ {n : Nat}, s < n → 0 ≤ S (72 + s) → cnt (up1 S (72 + s) v) n + 1 = cnt S n
  | 0, h, _ => by omega
  | n + 1, h, h0 => by
    rw [cnt, cnt]
    rcases Nat.lt_or_ge s n with z | z
    · rw [up1_n (by omega)]
      have := cnt_f (v := v) hv z h0
      omega
    · have e : s = n := by omega
      subst e
      rw [up1_s, if_neg (by omega), if_pos h0, cnt_c (T := S) (fun t ht => up1_n (by omega))]
theorem cnt_0 {S : Nat → Int} : ∀ {n : Nat}, cnt S n = 0 → ∀ s, s < n → S (72 + s) < 0
  | 0, _, s, hs => by omega
  | n + 1, h, s, hs => by
    rw [cnt] at h
    split at h
    · omega
    · rcases Nat.lt_or_ge s n with z | z
      · exact cnt_0 (by omega) s z
      · rw [show s = n by omega]; omega
theorem DSn_up {S : Nat → Int} {n i : Nat} {v : Int} (h : DSn S n) (hi : i < 72) : DSn (up1 S i v) n := by
  intro s t h1 h2 h3
  rw [up1_n (by omega)] at h3 ⊢
  rw [up1_n (by omega)]
  exact h s t h1 h2 h3
theorem DSn_off {S : Nat → Int} {n s : Nat} {v : Int} (h : DSn S n) (hv : v < 0) : DSn (up1 S (72 + s) v) n := by
  intro a b h1 h2 h3
  by_cases e : a = s
  · subst e
    rw [up1_s] at h3
    omega
  · rw [up1_n (by omega)] at h3 ⊢
    by_cases e2 : b = s
    · subst e2
      rw [up1_s]
      omega
    · rw [up1_n (by omega)]
      exact h a b h1 h2 h3
theorem ff_st {L W S wt : Nat → Int} {tk : Int} (h : 0 ≤ ff L W S wt tk) : (ff L W S wt tk).toNat < NS L ∧ 0 ≤ S (72 + (ff L W S wt tk).toNat) := by
  have t := fnd_t h
  rcases fnd_r (p := ffP L W S wt tk) (m := NS L) (i := 0) with e | e
  · unfold ff at h; omega
  · refine ⟨by unfold ff; omega, ?_⟩
    unfold ffP at t
    rw [Bool.and_eq_true, decide_eq_true_eq] at t
    exact t.1
theorem SV_fa1 {L S : Nat → Int} {d s : Nat} (h : SV L S d) (kL : LK L) (hs : s < NS L) (h0 : 0 ≤ S (72 + s)) : SV L (fa1 S s) d := by
  obtain ⟨a1, a2, a3, a4, a5, a6⟩ := h
  have z : 4 ≤ ce L ∧ ce L ≤ 36 := sz_mul kL.1
  have n6 := NS_le kL
  have r := a3 s hs
  have hlt : (S (72 + s)).toNat < 36 := by omega
  refine ⟨fun c hc => ?_, fun c hc => ?_, fun t ht => ?_, DSn_off (DSn_up a4 (by omega)) (by omega), ?_, ?_⟩
  · unfold fa1
    rw [up1_n (by omega)]
    by_cases e : c = (S (72 + s)).toNat
    · rw [e, up1_s]; omega
    · rw [up1_n e]; exact a1 c hc
  · unfold fa1
    rw [up1_n (by omega), up1_n (by omega)]
    exact a2 c hc
  · unfold fa1
    by_cases e : t = s
    · rw [e, up1_s]; omega
    · rw [up1_n (by omega), up1_n (by omega)]; exact a3 t ht
  · unfold fa1
    rw [up1_n (by omega), up1_n (by omega)]; exact a5
  · unfold fa1
    rw [up1_n (by omega), up1_n (by omega)]; exact a6
theorem SV_fl {L W wt : Nat → Int} {tk : Int} {d : Nat} (kL : LK L) : ∀ {n : Nat} {S : Nat → Int}, SV L S d → SV L (fl L W wt tk n S) d
  | 0, S, h => h
  | n + 1, S, h => by
    rw [fl]
    split
    · exact h
    · rename_i q
      obtain ⟨q1, q2⟩ := ff_st (L := L) (W := W) (S := S) (wt := wt) (tk := tk) (by omega)
      exact SV_fl kL (SV_fa1 h kL q1 q2)
theorem ff_none {L W S wt : Nat → Int} {tk : Int} (h : cnt S (NS L) = 0) : ff L W S wt tk < 0 := by
  rcases Int.lt_or_le (ff L W S wt tk) 0 with q | q
  · exact q
  · obtain ⟨q1, q2⟩ := ff_st q
    have := cnt_0 h _ q1
    omega
theorem cnt_fa1 {L S : Nat → Int} {d s : Nat} (h : SV L S d) (kL : LK L) (hs : s < NS L) (h0 : 0 ≤ S (72 + s)) : cnt (fa1 S s) (NS L) + 1 = cnt S (NS L) := by
  have z : 4 ≤ ce L ∧ ce L ≤ 36 := sz_mul kL.1
  have r := h.2.2.1 s hs
  unfold fa1
  rw [cnt_f (by omega) hs (by rw [up1_n (by omega)]; exact h0)]
  exact cnt_c (fun t ht => up1_n (by omega))
theorem fl_set {L W wt : Nat → Int} {tk : Int} {d : Nat} (kL : LK L) : ∀ {n : Nat} {S : Nat → Int}, SV L S d → cnt S (NS L) ≤ n → ff L W (fl L W wt tk n S) wt tk < 0
  | 0, S, h, hc => by rw [fl]; exact ff_none (by omega)
  | n + 1, S, h, hc => by
    rw [fl]
    split
    · rename_i q; exact q
    · rename_i q
      obtain ⟨q1, q2⟩ := ff_st (L := L) (W := W) (S := S) (wt := wt) (tk := tk) (by omega)
      have := cnt_fa1 h kL q1 q2
      exact fl_set kL (SV_fa1 h kL q1 q2) (by omega)
theorem MC_fr {h h' : pH} {l w : Nat} {L W wt sv : Nat → Int} {tk : Int} (M : MC h l w L W wt sv tk) (e1 : pi h' 417 = pi h 417) (e2 : pi h' 418 = pi h 418) : MC h' l w L W wt sv tk := by
  unfold MC MS wtM svM at *
  rw [e1, e2]
  exact M
theorem if1 {α : Type} {c : Prop} [Decidable c] {x y : α} : (if (if c then (1 : Int) else 0) = 0 then x else y) = if c then y else x := by
  by_cases q : c
  · rw [if_pos q, if_pos q, if_neg (by decide)]
  · rw [if_neg q, if_neg q, if_pos rfl]
section Md
variable {h : pH} {l w : Nat} {L W wt sv : Nat → Int} {tk : Int} {d : Nat}
theorem m_ff_l {k1 : Int → Option Int} {k2 : Option Int} (M : MC h l w L W wt sv tk) (V : SV L (pi h 422) d) : ∀ (n i : Nat), i ≤ NS L → NS L - i < n → pl_M_firstFalling_2 h k1 k2 n i = if fnd (ffP L W (pi h 422) wt tk) i (NS L - i) < 0 then k2 else k1 (fnd (ffP L W (pi h 422) wt tk) i (NS L - i)) := by
  have kL := M.1.2.2.2.2.2.2.1
  have en := NS_eq kL
  have n6 := NS_le kL
  have z : 4 ≤ ce L ∧ ce L ≤ 36 := sz_mul kL.1
  obtain ⟨e1, e2, hl, hw, hL, hW, -, kW⟩ := M.1
  intro n
  induction n with
  | zero => intro i h1 h2; omega
  | succ n ih =>
    intro i h1 h2
    rw [pl_M_firstFalling_2]
    simp (disch := omega) only [e1, wr_eq, tn_l, gib, hL, Int.reduceToNat]
    by_cases q : L 4 ≤ i
    · rw [if_pos q, show NS L - i = 0 by omega, fnd, if_pos (by omega)]
    · rw [if_neg q, show NS L - i = (NS L - (i + 1)) + 1 by omega, fnd, m_stands M.1, bsm, if1]
      have e := ih (i + 1) (by omega) (by omega)
      rw [Int.natCast_add, Int.natCast_one] at e
      have t : (72 + (i : Int)).toNat = 72 + i := by omega
      rw [Int.toNat_natCast]
      by_cases q2 : 0 ≤ pi h 422 (72 + i)
      · rw [if_pos (show (0 ≤ (i : Int) ∧ (i : Int) < L 4) ∧ 0 ≤ pi h 422 (72 + i) from ⟨⟨by omega, by omega⟩, q2⟩)]
        have r := V.2.2.1 i (by omega)
        have rt := V.1 (pi h 422 (72 + i)).toNat (by omega)
        simp (disch := omega) only [gib, t]
        rw [m_loadOf M V.2.2.2.1 (by omega) r.2, bsm, m_bears M (by omega) (by omega) rt, bsm]
        by_cases q3 : ld L W (pi h 422) wt (-1) (pi h 422 (72 + i)) ≤ br L (pi h 422) tk (pi h 422 (72 + i))
        · have qf : ¬ ffP L W (pi h 422) wt tk i = true := by unfold ffP; rw [Bool.and_eq_true, decide_eq_true_eq, decide_eq_true_eq]; omega
          rw [if_pos q3, if_neg qf]
          exact e
        · have qf : ffP L W (pi h 422) wt tk i = true := by unfold ffP; rw [Bool.and_eq_true, decide_eq_true_eq, decide_eq_true_eq]; omega
          rw [if_neg q3, if_pos qf, if_neg (by omega)]
      · have qf : ¬ ffP L W (pi h 422) wt tk i = true := by unfold ffP; rw [Bool.and_eq_true, decide_eq_true_eq, decide_eq_true_eq]; omega
        rw [if_neg (fun z : (0 ≤ (i : Int) ∧ (i : Int) < L 4) ∧ 0 ≤ pi h 422 (72 + i) => q2 z.2), if_neg qf]
        exact e
theorem m_ff (M : MC h l w L W wt sv tk) (V : SV L (pi h 422) d) : pf_M_firstFalling h = some (ff L W (pi h 422) wt tk) := by
  have n6 := NS_le M.1.2.2.2.2.2.2.1
  unfold pf_M_firstFalling
  have e := m_ff_l (k1 := fun x1 => some x1) (k2 := some (-1)) M V fu_ 0 (by omega) (by unfold fu_; omega)
  rw [show ((0 : Nat) : Int) = 0 from rfl] at e
  rw [e]
  unfold ff
  rcases fnd_r (p := ffP L W (pi h 422) wt tk) (m := NS L) (i := 0) with q | q
  · rw [Nat.sub_zero, q]; rfl
  · rw [Nat.sub_zero, if_neg (by omega)]
theorem m_falls_l {k : pH → Option pH} : ∀ (m n : Nat) (h : pH), MC h l w L W wt sv tk → SV L (pi h 422) d → cnt (pi h 422) (NS L) ≤ m → m < n → ∃ h', pl_M_falls_5 k n (ff L W (pi h 422) wt tk) h = k h' ∧ fr (fun a => a = 422) h h' ∧ pi h' 422 = fl L W wt tk m (pi h 422) := by
  intro m
  induction m with
  | zero =>
    intro n h M V hc hn
    obtain ⟨n, rfl⟩ : ∃ j, n = j + 1 := ⟨n - 1, by omega⟩
    have q := ff_none (L := L) (W := W) (S := pi h 422) (wt := wt) (tk := tk) (by omega)
    exact ⟨h, by rw [pl_M_falls_5, if_pos q], fr_refl, rfl⟩
  | succ m ih =>
    intro n h M V hc hn
    obtain ⟨n, rfl⟩ : ∃ j, n = j + 1 := ⟨n - 1, by omega⟩
    rw [pl_M_falls_5, fl]
    by_cases q : ff L W (pi h 422) wt tk < 0
    · exact ⟨h, by rw [if_pos q], fr_refl, by rw [if_pos q]⟩
    · rw [if_neg q, if_neg q]
      have kL := M.1.2.2.2.2.2.2.1
      have n6 := NS_le kL
      have z : 4 ≤ ce L ∧ ce L ≤ 36 := sz_mul kL.1
      obtain ⟨q1, q2⟩ := ff_st (L := L) (W := W) (S := pi h 422) (wt := wt) (tk := tk) (by omega)
      have r := V.2.2.1 _ q1
      have e : ff L W (pi h 422) wt tk = ((ff L W (pi h 422) wt tk).toNat : Nat) := by omega
      have hc2 := cnt_fa1 V kL q1 q2
      have V2 := SV_fa1 V kL q1 q2
      generalize (ff L W (pi h 422) wt tk).toNat = s at *
      rw [e]
      have t : (72 + (s : Int)).toNat = 72 + s := by omega
      simp (disch := omega) only [wr_eq, gib, t]
      have ef : pi (pwI (pwI h 422 (pi h 422 (72 + s)).toNat 0) 422 (72 + s) (-2)) 422 = fa1 (pi h 422) s := by
        rw [up1_pi, up1_pi]; rfl
      have M2 : MC (pwI (pwI h 422 (pi h 422 (72 + s)).toNat 0) 422 (72 + s) (-2)) l w L W wt sv tk := MC_fr M (by rw [pi_wIf (by decide), pi_wIf (by decide)]) (by rw [pi_wIf (by decide), pi_wIf (by decide)])
      have V3 : SV L (pi (pwI (pwI h 422 (pi h 422 (72 + s)).toNat 0) 422 (72 + s) (-2)) 422) d := by rw [ef]; exact V2
      rw [m_ff M2 V3, bsm]
      obtain ⟨h', p1, p2, p3⟩ := ih n _ M2 V3 (by rw [ef]; omega) (by omega)
      refine ⟨h', p1, fr_trans (fr_wI (fr_wI fr_refl rfl) rfl) p2, ?_⟩
      rw [p3, ef]
theorem m_falls (M : MC h l w L W wt sv tk) (V : SV L (pi h 422) d) : ∃ h', pf_M_falls h = some h' ∧ fr (fun a => a = 422) h h' ∧ pi h' 422 = fl L W wt tk 6 (pi h 422) := by
  have n6 := NS_le M.1.2.2.2.2.2.2.1
  have c := cnt_le (S := pi h 422) (n := NS L)
  unfold pf_M_falls
  rw [m_ff M V, bsm]
  exact m_falls_l 6 fu_ h M V (by omega) (by unfold fu_; omega)
end Md
