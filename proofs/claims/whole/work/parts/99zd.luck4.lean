/-! lucky ways: both are the same -/
section Ee
variable {L W : Nat → Int} {O : Int → Prop} {to fm : Int} {N : Nat}
/-- where the search stands: ahead of the lucky way, or behind it -/
def lst (L W : Nat → Int) (O : Int → Prop) (to fm : Int) (N m : Nat) (v sd : Nat → Int) (bl ln : Int) (pa : Nat → Int) : Prop :=
  (∃ j, j < m ∧ j < N ∧ (∀ i, i ≤ j → v i = lpt L W O to N fm i) ∧ sd j < fk L W O to (N - j - 1) (lpt L W O to N fm j) ∧ (∀ i, j < i → i < m → i ≤ N → prw L v i * lv L W O to (N - i) (v i) < lv L W O to N fm) ∧ (bl < lv L W O to N fm * 10 ^ (7 - N) ∨ (bl = lv L W O to N fm * 10 ^ (7 - N) ∧ (N : Int) + 1 < ln)))
  ∨ (bl = lv L W O to N fm * 10 ^ (7 - N) ∧ ln = N + 1 ∧ ∀ i, i ≤ N → pa i = lpt L W O to N fm i)
theorem lst_pop (kL : LK L) (hf : inr L fm) (ne : fm ≠ to) (b : lbest L W O to fm N) {m : Nat} {v sd : Nat → Int} {bl ln : Int} {pa : Nat → Int} (hm : m ≤ 7) (S : lst L W O to fm N (m + 1) v sd bl ln pa) (c : 3 < sd m + 1 ∨ v m = to ∨ m = 7) : lst L W O to fm N m v (up1 sd m (sd m + 1)) bl ln pa := by
  have n7 := b.1
  rcases S with ⟨j, j1, j2, j3, j4, j5, j6⟩ | S
  · by_cases y : j = m
    · exfalso
      subst y
      have s := (lpt_st (i := j) kL hf b.2.1 j2).1
      unfold s4 at s
      rcases c with c | c | c
      · omega
      · exact lpt_simple kL hf ne b j2 (Nat.le_refl _) ((j3 j (Nat.le_refl _)).symm.trans (c.trans (lpt_end kL hf b.2.1).1.symm))
      · omega
    · exact Or.inl ⟨j, by omega, j2, j3, by rw [up1_n y]; exact j4, fun i a e g => j5 i a (by omega) g, j6⟩
  · exact Or.inr S
theorem lpt_pok (kL : LK L) (hf : inr L fm) (ne : fm ≠ to) (b : lbest L W O to fm N) {m : Nat} {v : Nat → Int} {s : Int} (hm : m < N) (j3 : ∀ i, i ≤ m → v i = lpt L W O to N fm i) (e : s = fk L W O to (N - m - 1) (lpt L W O to N fm m)) : pok L W O v m s ∧ bs L (v m) s = lpt L W O to N fm (m + 1) := by
  have s2 := (lpt_st (i := m) kL hf b.2.1 hm).2.1
  have eb : bs L (v m) s = lpt L W O to N fm (m + 1) := by rw [j3 m (Nat.le_refl _), e]; rfl
  refine ⟨⟨by rw [j3 m (Nat.le_refl _), e]; exact s2, fun i hi y => ?_⟩, eb⟩
  rw [eb, j3 i (by omega)] at y
  exact lpt_simple kL hf ne b (i := i) (j := m + 1) (by omega) (by omega) y
theorem lst_con (kL : LK L) (hf : inr L fm) (ne : fm ≠ to) (b : lbest L W O to fm N) {m : Nat} {v sd : Nat → Int} {bl ln : Int} {pa : Nat → Int} (S : lst L W O to fm N (m + 1) v sd bl ln pa) (np : ¬ pok L W O v m (sd m + 1)) : lst L W O to fm N (m + 1) v (up1 sd m (sd m + 1)) bl ln pa := by
  rcases S with ⟨j, j1, j2, j3, j4, j5, j6⟩ | S
  · by_cases y : j = m
    · subst y
      rcases Int.lt_or_le (sd j + 1) (fk L W O to (N - j - 1) (lpt L W O to N fm j)) with u | u
      · exact Or.inl ⟨j, j1, j2, j3, by rw [up1_s]; exact u, j5, j6⟩
      · exact absurd (lpt_pok kL hf ne b j2 j3 (by omega)).1 np
    · exact Or.inl ⟨j, j1, j2, j3, by rw [up1_n y]; exact j4, j5, j6⟩
  · exact Or.inr S
/-- a step that isn't the lucky one falls short -/
theorem lst_less (kL : LK L) (hf : inr L fm) (b : lbest L W O to fm N) {m j : Nat} {v sd : Nat → Int} (wo : wok L W O to fm v (m + 1)) (j1 : j < m + 1) (j2 : j < N) (j3 : ∀ i, i ≤ j → v i = lpt L W O to N fm i) (j5 : ∀ i, j < i → i < m + 1 → i ≤ N → prw L v i * lv L W O to (N - i) (v i) < lv L W O to N fm) {s : Int} (hs : s4 s) (vs : vst L W O (v m) s) (u : j = m → s < fk L W O to (N - j - 1) (lpt L W O to N fm j)) (hN : m + 1 ≤ N) : prw L (up1 v (m + 1) (bs L (v m) s)) (m + 1) * lv L W O to (N - (m + 1)) (bs L (v m) s) < lv L W O to N fm := by
  have ep : prw L (up1 v (m + 1) (bs L (v m) s)) (m + 1) = prw L v m * wkn L (bs L (v m) s) := by
    rw [prw, up1_s, prw_c (fun j hj => up1_n (by omega))]
  have en : N - m = (N - (m + 1)) + 1 := by omega
  have p1 := (wo m (by omega)).2.1.1
  rw [ep, Int.mul_assoc, ← lvb_e vs]
  by_cases y : j = m
  · subst y
    obtain ⟨a1, a2, a3, a4⟩ := lpt_ok (i := j) kL hf b.2.1 (by omega)
    have g := (lpt_st (i := j) kL hf b.2.1 j2).2.2 s hs (u rfl)
    rw [j3 j (Nat.le_refl _), ← a4, prw_c (w := v) j3]
    exact Int.mul_lt_mul_of_pos_left (by rw [show N - (j + 1) = N - j - 1 by omega]; exact g) (by omega)
  · have g := lv_ge (L := L) (W := W) (O := O) (to := to) (c := v m) (n := N - (m + 1)) hs
    rw [← en] at g
    exact Int.lt_of_le_of_lt (Int.mul_le_mul_of_nonneg_left g (by omega)) (j5 m (by omega) (by omega) (by omega))
theorem lst_new {m j : Nat} {v sd : Nat → Int} {s : Int} (j1 : j < m + 1) (j3 : ∀ i, i ≤ j → v i = lpt L W O to N fm i) (j5 : ∀ i, j < i → i < m + 1 → i ≤ N → prw L v i * lv L W O to (N - i) (v i) < lv L W O to N fm) (le : m + 1 ≤ N → prw L (up1 v (m + 1) (bs L (v m) s)) (m + 1) * lv L W O to (N - (m + 1)) (bs L (v m) s) < lv L W O to N fm) : (∀ i, i ≤ j → up1 v (m + 1) (bs L (v m) s) i = lpt L W O to N fm i) ∧ ∀ i, j < i → i < m + 2 → i ≤ N → prw L (up1 v (m + 1) (bs L (v m) s)) i * lv L W O to (N - i) (up1 v (m + 1) (bs L (v m) s) i) < lv L W O to N fm := by
  refine ⟨fun i hi => by rw [up1_n (by omega)]; exact j3 i hi, fun i a e g => ?_⟩
  by_cases y : i = m + 1
  · rw [y, up1_s]; exact le (by omega)
  · rw [up1_n y, prw_c (w := up1 v (m + 1) (bs L (v m) s)) (v := v) (fun k hk => up1_n (by omega))]
    exact j5 i a (by omega) g
theorem lst_psh (kL : LK L) (hf : inr L fm) (ne : fm ≠ to) (b : lbest L W O to fm N) {m : Nat} {v sd : Nat → Int} {bl ln : Int} {pa : Nat → Int} (wo : wok L W O to fm v (m + 1)) (S : lst L W O to fm N (m + 1) v sd bl ln pa) (s0 : 0 ≤ sd m + 1) (s3 : sd m + 1 ≤ 3) (pk : pok L W O v m (sd m + 1)) (nt : bs L (v m) (sd m + 1) ≠ to) : lst L W O to fm N (m + 2) (up1 v (m + 1) (bs L (v m) (sd m + 1))) (up1 (up1 sd m (sd m + 1)) (m + 1) (-1)) bl ln pa := by
  have hs : s4 (sd m + 1) := by unfold s4; omega
  rcases S with ⟨j, j1, j2, j3, j4, j5, j6⟩ | S
  · by_cases y : j = m ∧ fk L W O to (N - j - 1) (lpt L W O to N fm j) ≤ sd m + 1
    · obtain ⟨rfl, y⟩ := y
      have eb := (lpt_pok kL hf ne b j2 j3 (s := sd j + 1) (by omega)).2
      have lt : j + 1 < N := by
        rcases Nat.lt_or_ge (j + 1) N with u | u
        · exact u
        · have e : j + 1 = N := by omega
          rw [eb, e] at nt
          exact absurd (lpt_end kL hf b.2.1).1 nt
      have sp := (lpt_st (i := j + 1) kL hf b.2.1 lt).1
      unfold s4 at sp
      refine Or.inl ⟨j + 1, by omega, lt, fun i hi => ?_, by rw [up1_s]; omega, fun i a e g => by omega, j6⟩
      by_cases w : i = j + 1
      · rw [w, up1_s]; exact eb
      · rw [up1_n w]; exact j3 i (by omega)
    · obtain ⟨n1, n2⟩ := lst_new (s := sd m + 1) (sd := sd) j1 j3 j5 (fun hN => lst_less (sd := sd) kL hf b wo j1 j2 j3 j5 hs pk.1 (fun e => by
        rcases Int.lt_or_le (sd m + 1) (fk L W O to (N - j - 1) (lpt L W O to N fm j)) with u | u
        · exact u
        · exact absurd ⟨e, u⟩ y) hN)
      refine Or.inl ⟨j, by omega, j2, n1, ?_, n2, j6⟩
      rw [up1_n (by omega)]
      by_cases w : j = m
      · rw [w, up1_s]
        rw [w] at y
        omega
      · rw [up1_n w]; exact j4
  · exact Or.inr S
theorem lst_kee (kL : LK L) (hf : inr L fm) (ne : fm ≠ to) (b : lbest L W O to fm N) {m : Nat} {v sd : Nat → Int} {bl ln : Int} {pa : Nat → Int} (m7 : m < 7) (wo : wok L W O to fm v (m + 1)) (S : lst L W O to fm N (m + 1) v sd bl ln pa) (s0 : 0 ≤ sd m + 1) (s3 : sd m + 1 ≤ 3) (pk : pok L W O v m (sd m + 1)) (wo2 : wok L W O to fm (up1 v (m + 1) (bs L (v m) (sd m + 1))) (m + 2)) (nt : bs L (v m) (sd m + 1) = to) : (kp (prw L (up1 v (m + 1) (bs L (v m) (sd m + 1))) (m + 1) * 10 ^ (7 - (m + 1))) bl ((m + 2 : Nat) : Int) ln → ∀ pa', (∀ i, i < m + 2 → pa' i = up1 v (m + 1) (bs L (v m) (sd m + 1)) i) → lst L W O to fm N (m + 2) (up1 v (m + 1) (bs L (v m) (sd m + 1))) (up1 (up1 sd m (sd m + 1)) (m + 1) (-1)) (prw L (up1 v (m + 1) (bs L (v m) (sd m + 1))) (m + 1) * 10 ^ (7 - (m + 1))) ((m + 2 : Nat) : Int) pa') ∧ (¬ kp (prw L (up1 v (m + 1) (bs L (v m) (sd m + 1))) (m + 1) * 10 ^ (7 - (m + 1))) bl ((m + 2 : Nat) : Int) ln → lst L W O to fm N (m + 2) (up1 v (m + 1) (bs L (v m) (sd m + 1))) (up1 (up1 sd m (sd m + 1)) (m + 1) (-1)) bl ln pa) := by
  have hs : s4 (sd m + 1) := by unfold s4; omega
  have oT : O to := by rw [← nt]; exact pk.1.2.1
  have l1 : lv L W O to 0 to = 1 := by rw [lv, cif_t ⟨rfl, oT⟩]
  have q := (wo2 (m + 1) (by omega)).2.2 0
  have pp : (0 : Int) < 10 ^ (7 - (m + 1)) := Int.pow_pos (by decide)
  have eb2 : up1 v (m + 1) (bs L (v m) (sd m + 1)) (m + 1) = to := by rw [up1_s]; exact nt
  rw [eb2, l1, Int.mul_one, Nat.add_zero] at q
  have q1 := Int.mul_le_mul_of_nonneg_right q (show (0 : Int) ≤ 10 ^ (7 - (m + 1)) by omega)
  obtain ⟨a1, a2⟩ := b.2.2 (m + 1) (by omega) (by omega)
  rcases S with ⟨j, j1, j2, j3, j4, j5, j6⟩ | ⟨S1, S2, S3⟩
  · by_cases y : j = m ∧ fk L W O to (N - j - 1) (lpt L W O to N fm j) ≤ sd m + 1
    · obtain ⟨rfl, y⟩ := y
      have eb := (lpt_pok kL hf ne b j2 j3 (s := sd j + 1) (by omega)).2
      have e : j + 1 = N := by
        rcases Nat.lt_or_ge (j + 1) N with u | u
        · exact absurd ((eb.symm.trans nt).trans (lpt_end kL hf b.2.1).1.symm) (lpt_simple kL hf ne b u (Nat.le_refl _))
        · omega
      have ev : ∀ i, i ≤ N → up1 v (j + 1) (bs L (v j) (sd j + 1)) i = lpt L W O to N fm i := fun i hi => by
        by_cases w : i = j + 1
        · rw [w, up1_s]; exact eb
        · rw [up1_n w]; exact j3 i (by omega)
      obtain ⟨c1, c2, c3, c4⟩ := lpt_ok (i := N) kL hf b.2.1 (Nat.le_refl _)
      rw [Nat.sub_self, (lpt_end kL hf b.2.1).1, l1, Int.mul_one] at c4
      have el : prw L (up1 v (j + 1) (bs L (v j) (sd j + 1))) (j + 1) * 10 ^ (7 - (j + 1)) = lv L W O to N fm * 10 ^ (7 - N) := by
        rw [prw_c (w := up1 v (j + 1) (bs L (v j) (sd j + 1))) (v := lpt L W O to N fm) (fun k hk => ev k (by omega)), e, c4]
      rw [el]
      refine ⟨fun _ pa' hp => Or.inr ⟨rfl, by omega, fun i hi => by rw [hp i (by omega)]; exact ev i hi⟩, fun nk => absurd ?_ nk⟩
      unfold kp
      omega
    · have le : m + 1 ≤ N → prw L (up1 v (m + 1) (bs L (v m) (sd m + 1))) (m + 1) * lv L W O to (N - (m + 1)) (bs L (v m) (sd m + 1)) < lv L W O to N fm := fun hN => lst_less (sd := sd) kL hf b wo j1 j2 j3 j5 hs pk.1 (fun e => by
        rcases Int.lt_or_le (sd m + 1) (fk L W O to (N - j - 1) (lpt L W O to N fm j)) with u | u
        · exact u
        · exact absurd ⟨e, u⟩ y) hN
      obtain ⟨n1, n2⟩ := lst_new (s := sd m + 1) (sd := sd) j1 j3 j5 le
      have sdj : up1 (up1 sd m (sd m + 1)) (m + 1) (-1) j < fk L W O to (N - j - 1) (lpt L W O to N fm j) := by
        rw [up1_n (by omega)]
        by_cases w : j = m
        · rw [w, up1_s]
          rw [w] at y
          omega
        · rw [up1_n w]; exact j4
      refine ⟨fun _ pa' hp => Or.inl ⟨j, by omega, j2, n1, sdj, n2, ?_⟩, fun _ => Or.inl ⟨j, by omega, j2, n1, sdj, n2, j6⟩⟩
      by_cases w : m + 1 = N
      · have g := le (by omega)
        rw [w, Nat.sub_self, nt, l1, Int.mul_one] at g
        left
        rw [w, nt]
        exact Int.mul_lt_mul_of_pos_right g (Int.pow_pos (by decide))
      · by_cases w2 : m + 1 < N
        · left
          have := a2 w2
          omega
        · omega
  · have nk : ¬ kp (prw L (up1 v (m + 1) (bs L (v m) (sd m + 1))) (m + 1) * 10 ^ (7 - (m + 1))) bl ((m + 2 : Nat) : Int) ln := by
      unfold kp
      rw [S1, S2]
      by_cases w2 : m + 1 < N
      · have := a2 w2
        omega
      · omega
    exact ⟨fun k => absurd k nk, fun _ => Or.inr ⟨S1, S2, S3⟩⟩
end Ee
section Ef
variable {g : pH} {l w : Nat} {L W wt sv : Nat → Int} {tk : Int} {d : Nat}
theorem m_lucky {fm to load : Int} (M : MC g l w L W wt sv tk) (V : SV L (pi g 422) d) (Z : ∀ c : Nat, c < 36 → pi g 424 c = 0) (hf : inr L fm) (ht : inr L to) (ne : fm ≠ to) (l0 : 0 ≤ load ∧ load ≤ 100000) : ∃ g', pf_M_luckyWay fm to load g = some g' ∧ MF g g' ∧ ((∀ n, 1 ≤ n → n ≤ 7 → lv L W (opn L W (pi g 422) wt tk (-1) load no0) to n fm = 0) → pl g' 417 30 = p64 (-1) ∧ pi g' 417 27 = 0) ∧ (∀ N, lbest L W (opn L W (pi g 422) wt tk (-1) load no0) to fm N → pl g' 417 30 = p64 (lv L W (opn L W (pi g 422) wt tk (-1) load no0) to N fm * 10 ^ (7 - N)) ∧ pi g' 417 27 = N + 1 ∧ ∀ i, i ≤ N → pi g' 427 i = lpt L W (opn L W (pi g 422) wt tk (-1) load no0) to N fm i) := by
  have kL := M.1.2.2.2.2.2.2.1
  have z : 4 ≤ ce L ∧ ce L ≤ 36 := sz_mul kL.1
  obtain ⟨g1, p1, p2, p3, p4, -, -⟩ := m_measures (mv := -1) (each := 0) (X := no0) M V ht l0 (Or.inl rfl) (fun c hc => ⟨fun _ v => v, fun _ => Z c (by omega)⟩)
  generalize hO : opn L W (pi g 422) wt tk (-1) load no0 = O at *
  have M1 : MC g1 l w L W wt sv tk := MC_c M (fun j a b => p3 j (by omega) (by omega)) (fr_fi p2 (by omega))
  unfold pf_M_luckyWay
  rw [p1, bsm]
  generalize eH : pwI (pwI (pwL (pwI g1 417 27 0) 417 30 (-1)) 428 0 fm) 429 0 (-1) = H
  have fH : fr (fun b => b = 417 ∨ b = 427 ∨ b = 428 ∨ b = 429) g1 H := by rw [← eH]; exact fr_wI (fr_wI (fr_wL (fr_wI fr_refl (by omega)) (by omega)) (by omega)) (by omega)
  have j0 : ∀ j, j ≠ 27 → pi H 417 j = pi g1 417 j := fun j hj => by rw [← eH, pi_wIa (by decide), pi_wIa (by decide), pi_wL, pi_wIi hj]
  have l00 : pl H 417 30 = p64 (-1) := by rw [← eH, pl_wI, pl_wI, pl_wLs]; rfl
  have v8 : pi H 428 0 = fm := by rw [← eH, pi_wIa (by decide), pi_wIs]
  have v9 : pi H 429 0 = -1 := by rw [← eH, pi_wIs]
  have v7 : pi H 417 27 = 0 := by rw [← eH, pi_wIa (by decide), pi_wIa (by decide), pi_wL, pi_wIs]
  have mf : ∀ {h'}, fr (fun b => b = 417 ∨ b = 427 ∨ b = 428 ∨ b = 429) g1 h' → (∀ j, j ≠ 27 → pi h' 417 j = pi g1 417 j) → MF g h' := fun {h'} a b => ⟨fr_trans (fr_mono p2 (fun b hb => by unfold MFs; omega)) (fr_mono a (fun b hb => by unfold MFs; omega)), fun j x y => by rw [b j (by omega), p3 j (by omega) (by omega)]⟩
  by_cases q : ∃ N, lbest L W O to fm N
  · obtain ⟨N, b⟩ := q
    have pos := b.2.1
    obtain ⟨h', bl, r1, r2, r3, r4, r5⟩ := m_luckLoop (g := g1) (to := to) (fm := fm) (load := load) M1 p4 (lst L W O to fm N) (fun m v sd bl ln pa m7 wo S c => lst_pop kL hf ne b m7 S c) (fun m v sd bl ln pa m7 wo S a1 a2 a3 np => lst_con kL hf ne b S np) (fun m v sd bl ln pa m7 wo S a1 a2 a3 pk wo2 nt => lst_psh kL hf ne b wo S a1 a2 pk nt) (fun m v sd bl ln pa m7 wo S a1 a2 a3 pk wo2 nt => lst_kee kL hf ne b m7 wo S a1 a2 pk wo2 nt) fH j0 l00 (wok_0 hf v8) v9 (by
      have sp := (lpt_st (i := 0) kL hf pos (by have := b.1; omega)).1
      unfold s4 at sp
      have : 0 < lv L W O to N fm * 10 ^ (7 - N) := Int.mul_pos pos (Int.pow_pos (by decide))
      refine Or.inl ⟨0, by omega, by have := b.1; omega, fun i hi => by rw [show i = 0 by omega, v8]; rfl, by rw [v9]; omega, fun i x y => by omega, Or.inl (by omega)⟩)
    refine ⟨h', r1, mf r2 r3, fun a => ?_, fun N' b' => ?_⟩
    · have := a N b.1.1 b.1.2
      omega
    · have eN : N' = N := by
        have x1 := b.2.2 N' b'.1.1 b'.1.2
        have x2 := b'.2.2 N b.1.1 b.1.2
        rcases Nat.lt_trichotomy N' N with u | u | u
        · have := x1.2 u; omega
        · exact u
        · have := x2.2 u; omega
      rw [eN]
      rcases r5 with ⟨j, j1, _⟩ | ⟨r6, r7, r8⟩
      · omega
      · exact ⟨by rw [r4, r6], r7, r8⟩
  · have none : (∀ n, 1 ≤ n → n ≤ 7 → lv L W O to n fm = 0) ∨ ¬ (∀ n, 1 ≤ n → n ≤ 7 → lv L W O to n fm = 0) := Classical.em _
    rcases none with no | no
    · obtain ⟨h', bl, r1, r2, r3, r4, r5⟩ := m_luckLoop (g := g1) (to := to) (fm := fm) (load := load) M1 p4 (fun _ _ _ bl ln _ => bl = -1 ∧ ln = 0) (fun m v sd bl ln pa m7 wo S c => S) (fun m v sd bl ln pa m7 wo S a1 a2 a3 np => S) (fun m v sd bl ln pa m7 wo S a1 a2 a3 pk wo2 nt => S) (fun m v sd bl ln pa m7 wo S a1 a2 a3 pk wo2 nt => by
        exfalso
        have oT : O to := by rw [← nt]; exact pk.1.2.1
        have l1 : lv L W O to 0 to = 1 := by rw [lv, cif_t ⟨rfl, oT⟩]
        have q0 := wo2 (m + 1) (by omega)
        have q := q0.2.2 0
        rw [up1_s, nt, l1, Int.mul_one, Nat.add_zero, no (m + 1) (by omega) (by omega)] at q
        have := q0.2.1.1
        rw [nt] at this
        omega) fH j0 l00 (wok_0 hf v8) v9 ⟨rfl, v7⟩
      exact ⟨h', r1, mf r2 r3, fun _ => ⟨by rw [r4, r5.1], r5.2⟩, fun N' b' => absurd ⟨N', b'⟩ q⟩
    · exfalso
      apply no
      intro n n1 n7
      -- were one above 0, one would be the first with the most
      have fin : ∀ k, k ≤ 7 → (∀ n, 1 ≤ n → n ≤ k → lv L W O to n fm = 0) ∨ ∃ N, (1 ≤ N ∧ N ≤ k) ∧ 0 < lv L W O to N fm ∧ ∀ n, 1 ≤ n → n ≤ k → lv L W O to n fm * 10 ^ (7 - n) ≤ lv L W O to N fm * 10 ^ (7 - N) ∧ (n < N → lv L W O to n fm * 10 ^ (7 - n) < lv L W O to N fm * 10 ^ (7 - N)) := by
        intro k
        induction k with
        | zero => intro _; exact Or.inl (fun n a b => by omega)
        | succ k ih =>
          intro hk
          have lb := lv_bd (W := W) (O := O) (to := to) (n := k + 1) kL hf
          have pp : (0 : Int) < 10 ^ (7 - (k + 1)) := Int.pow_pos (by decide)
          rcases ih (by omega) with a | ⟨N, b1, b2, b3⟩
          · by_cases y : lv L W O to (k + 1) fm = 0
            · left
              intro n a1 a2
              by_cases e : n = k + 1
              · rw [e]; exact y
              · exact a n a1 (by omega)
            · right
              have := Int.mul_pos (show 0 < lv L W O to (k + 1) fm by omega) pp
              refine ⟨k + 1, by omega, by omega, fun n a1 a2 => ?_⟩
              by_cases e : n = k + 1
              · rw [e]; exact ⟨Int.le_refl _, fun v => by omega⟩
              · rw [a n a1 (by omega), Int.zero_mul]; exact ⟨by omega, fun _ => this⟩
          · right
            by_cases y : lv L W O to N fm * 10 ^ (7 - N) < lv L W O to (k + 1) fm * 10 ^ (7 - (k + 1))
            · have p0 : 0 < lv L W O to N fm * 10 ^ (7 - N) := Int.mul_pos b2 (Int.pow_pos (by decide))
              have pos : 0 < lv L W O to (k + 1) fm := by
                rcases Int.lt_or_le 0 (lv L W O to (k + 1) fm) with v | v
                · exact v
                · rw [show lv L W O to (k + 1) fm = 0 by omega, Int.zero_mul] at y; omega
              refine ⟨k + 1, by omega, pos, fun n a1 a2 => ?_⟩
              by_cases e : n = k + 1
              · rw [e]; exact ⟨Int.le_refl _, fun v => by omega⟩
              · have := (b3 n a1 (by omega)).1
                exact ⟨by omega, fun _ => by omega⟩
            · refine ⟨N, by omega, b2, fun n a1 a2 => ?_⟩
              by_cases e : n = k + 1
              · rw [e]; exact ⟨by omega, fun v => by omega⟩
              · exact b3 n a1 (by omega)
      rcases fin 7 (Nat.le_refl _) with a | ⟨N, b1, b2, b3⟩
      · exact a n n1 n7
      · exact absurd ⟨N, b1, b2, b3⟩ q
end Ef
theorem p_luck {x y z n ld fm to : Int} : asks (pf_I_luck x y z n ld fm to) (pf_M_luck x y z n ld fm to) := by
  refine ask_trip (x := x) (y := y) (z := z) (n := n) (load := ld) (fm := fm) (to := to) (-1) (km := fun v2 => (if v2.1 = 0 then (some ((-1), v2.2)) else ((pf_M_luckyWay fm to ld v2.2).bind fun v3 => (some (pl v3 417 30, v3))))) (fun _ => rfl) (fun _ => rfl) (fun _ => rfl) (fun _ => rfl) (fun v g => by unfold pf_M_luck; rw [m_isLoad, bsm, if1, if_neg v]) (fun v g => by unfold pf_M_luck; rw [m_isLoad, bsm, if1, if_pos v]) (fun _ => rfl) ?_
  intro hl ne p q l w L W S h g ⟨C, K, M, eS, Z, V, TT⟩ hf ht
  have kL := C.2.2.1
  have hW := WS0 kL
  subst eS
  obtain ⟨h1, p1, p2, -, -, p5, p6⟩ := c_survey (tk := 0) hW C K V (by omega) (by omega) (by omega)
  have C1 : CX h1 p q L W := CX_fr C p2 (fun b hb => by omega)
  obtain ⟨h2, c1, c2⟩ := c_findLucky (load := ld) (fm := fm) (to := to) (O := opn L W (pi g 422) (wt0 L) 0 (-1) ld no0) C1 p5 (fun c hc => by rw [p6 c hc]; exact rmv_opn hl.1) hf ht
  obtain ⟨g', m1, m2, m3, m4⟩ := m_lucky (fm := fm) (to := to) (load := ld) M V Z hf ht ne (by omega)
  have f2 : fr CGs h h2 := fr_trans (fr_mono p2 (fun b hb => by unfold CGs; omega)) (fr_mono c1 (fun b hb => by unfold CGs; omega))
  simp only []
  rw [if_neg (show ¬ (1 : Int) = 0 by decide), if_neg (show ¬ (1 : Int) = 0 by decide), p1, bsm, m1, bsm]
  unfold pf_Wa_find
  rw [if_neg (by decide), if_neg (by decide), if_pos rfl]
  rcases c2 with ⟨a1, a2⟩ | ⟨N, a1, a2, a3, a4, a5⟩
  · rw [a1, bsm]
    simp only []
    rw [gd_t (show pz1 0 = true from rfl), bsm]
    refine ⟨-1, h2, g', rfl, f2, ?_, MF_MG m2⟩
    rw [(m3 a2).1]; rfl
  · rw [a1, bsm]
    simp only []
    rw [gd_t (show pz1 1 = true from rfl), bsm]
    refine ⟨p64 (lv L W (opn L W (pi g 422) (wt0 L) 0 (-1) ld no0) to N fm * 10 ^ (7 - N)), h2, g', ?_, f2, ?_, MF_MG m2⟩
    · simp only []
      rw [if_neg (by decide), a3]
    · rw [(m4 N a2).1]
theorem p_way2 {x y z n ld fm to o : Int} : asks (pf_I_way x y z n ld fm to 2 o) (pf_M_way x y z n ld fm to 2 o) := by
  refine ask_trip (x := x) (y := y) (z := z) (n := n) (load := ld) (fm := fm) (to := to) (-1) (km := fun v3 => (if v3.1 = 0 then (some (-1, v3.2)) else ((pf_M_luckyWay fm to ld v3.2).bind fun v10 => (pj_M_way_128 x y z n ld fm to 2 o 0 v10)))) (fun _ => rfl) (fun _ => rfl) (fun _ => rfl) (fun _ => rfl) (fun v g => by unfold pf_M_way; rw [m_isLoad, bsm, if1, if_neg v]) (fun v g => by unfold pf_M_way; rw [m_isLoad, bsm, if1, if_pos v, m_isIn, bsm, if1, if_pos (by omega)]; rfl) (fun _ => rfl) ?_
  intro hl ne p q l w L W S h g ⟨C, K, M, eS, Z, V, TT⟩ hf ht
  have kL := C.2.2.1
  have hW := WS0 kL
  subst eS
  obtain ⟨h1, p1, p2, -, -, p5, p6⟩ := c_survey (tk := 0) hW C K V (by omega) (by omega) (by omega)
  have C1 : CX h1 p q L W := CX_fr C p2 (fun b hb => by omega)
  obtain ⟨h2, c1, c2⟩ := c_findLucky (load := ld) (fm := fm) (to := to) (O := opn L W (pi g 422) (wt0 L) 0 (-1) ld no0) C1 p5 (fun c hc => by rw [p6 c hc]; exact rmv_opn hl.1) hf ht
  obtain ⟨g', m1, m2, m3, m4⟩ := m_lucky (fm := fm) (to := to) (load := ld) M V Z hf ht ne (by omega)
  have f2 : fr CGs h h2 := fr_trans (fr_mono p2 (fun b hb => by unfold CGs; omega)) (fr_mono c1 (fun b hb => by unfold CGs; omega))
  simp only []
  rw [if_neg (show ¬ (1 : Int) = 0 by decide), if_neg (show ¬ (1 : Int) = 0 by decide), p1, bsm, m1, bsm]
  unfold pf_Wa_find
  rw [if_neg (by decide), if_neg (by decide), if_pos rfl]
  rcases c2 with ⟨a1, a2⟩ | ⟨N, a1, a2, a3, a4, a5⟩
  · rw [a1, bsm]
    simp only []
    rw [gd_t (show pz1 0 = true from rfl), bsm]
    refine ⟨-1, h2, g', rfl, f2, ?_, MF_MG m2⟩
    unfold pj_M_way_128
    rw [(m3 a2).2, if_pos rfl]
  · rw [a1, bsm]
    simp only []
    rw [gd_t (show pz1 1 = true from rfl), bsm]
    simp only []
    obtain ⟨b1, b2, b3⟩ := m4 N a2
    have n7 := a2.1
    rw [if_neg (by decide), c_tail (D := (N : Int)) (P := lpt L W (opn L W (pi g 422) (wt0 L) 0 (-1) ld no0) to N fm) (sp := 0) (s := 2) ⟨by omega, by omega⟩ a4 (fun i hi => a5 i (by omega)) (by rw [if_neg (by decide)]), m_tail (D := (N : Int)) (P := lpt L W (opn L W (pi g 422) (wt0 L) 0 (-1) ld no0) to N fm) ⟨by omega, by omega⟩ b2 (fun i hi => b3 i (by omega))]
    exact ⟨_, h2, g', rfl, f2, rfl, MF_MG m2⟩
theorem p_way {x y z n ld fm to s o : Int} : asks (pf_I_way x y z n ld fm to s o) (pf_M_way x y z n ld fm to s o) := by
  by_cases q : s = 2
  · rw [q]; exact p_way2
  · exact p_way01 q
