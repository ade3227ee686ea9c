/-! image and again: what is told, copied whole -/
theorem pfb_t {f : Nat → Int} {n : Nat} (g : ∀ i, i < n → -128 ≤ f i ∧ f i ≤ 127) : pfb 102 f 0 n = true := by
  unfold pfb
  refine List.all_eq_true.mpr (fun j hj => ?_)
  have q := g j (List.mem_range.mp hj)
  rw [Nat.zero_add, decide_eq_true q.1, decide_eq_true q.2]
  rfl
theorem c_ToB {h : pH} {a b : Nat} {A : Nat → Int} (R : TR h b A) (ne : a + 52 < b ∨ b + 52 < a) : ∃ h', pf_To_become a b h = some h' ∧ fr (fun c => a ≤ c ∧ c ≤ a + 52) h h' ∧ TR h' a A := by
  obtain ⟨a0, ⟨k0, k1, k2⟩, ⟨⟨f1, f2, f3⟩, t0⟩, tp, lks, lws, pns⟩ := R
  unfold pf_To_become
  rw [gd_t (by unfold pcb; simp; omega), gd_t (pfb_t (fun i hi => (tp i (by omega)).1))]
  unfold pj_To_become_33
  rw [gd_t (show pcb 0 0 3 3 3 = true by decide)]
  generalize eH : pcpI (pwI (pwI (pwI (pcpI h (b + 1) (a + 1) 0 0 (Int.toNat (pi h b 1))) a 1 (pi (pcpI h (b + 1) (a + 1) 0 0 (Int.toNat (pi h b 1))) b 1)) a 2 (pi (pwI (pcpI h (b + 1) (a + 1) 0 0 (Int.toNat (pi h b 1))) a 1 (pi (pcpI h (b + 1) (a + 1) 0 0 (Int.toNat (pi h b 1))) b 1)) b 2)) a 3 (pi (pwI (pwI (pcpI h (b + 1) (a + 1) 0 0 (Int.toNat (pi h b 1))) a 1 (pi (pcpI h (b + 1) (a + 1) 0 0 (Int.toNat (pi h b 1))) b 1)) a 2 (pi (pwI (pcpI h (b + 1) (a + 1) 0 0 (Int.toNat (pi h b 1))) a 1 (pi (pcpI h (b + 1) (a + 1) 0 0 (Int.toNat (pi h b 1))) b 1)) b 2)) b 3)) (b + 2) (a + 2) 0 0 (Int.toNat 3) = H
  have fH : fr (fun c => a ≤ c ∧ c ≤ a + 2) h H := by
    rw [← eH]
    exact fr_cpI (fr_wI (fr_wI (fr_wI (fr_cpI fr_refl (by omega)) (by omega)) (by omega)) (by omega)) (by omega)
  have v1 : pi H a 1 = A 3 := by rw [← eH]; simp (disch := omega) only [pi_cpIa, pi_wIs, pi_wIi, pi_wIa]; exact f1
  have v2 : pi H a 2 = A 4 := by rw [← eH]; simp (disch := omega) only [pi_cpIa, pi_wIs, pi_wIi, pi_wIa]; exact f2
  have v3 : pi H a 3 = A 5 := by rw [← eH]; simp (disch := omega) only [pi_cpIa, pi_wIs, pi_wIi, pi_wIa]; exact f3
  have w0 : pi H (a + 2) 0 = A 0 := by rw [← eH]; simp (disch := omega) only [pi_cp0, pi_cpIa, pi_wIa]; exact k0
  have w1 : pi H (a + 2) 1 = A 1 := by rw [← eH]; simp (disch := omega) only [pi_cp0, pi_cpIa, pi_wIa]; exact k1
  have w2 : pi H (a + 2) 2 = A 2 := by rw [← eH]; simp (disch := omega) only [pi_cp0, pi_cpIa, pi_wIa]; exact k2
  have vt : ∀ i : Nat, (i : Int) < A 3 → pi H (a + 1) i = pi h (b + 1) i := fun i hi => by rw [← eH]; simp (disch := omega) only [pi_cp0, pi_cpIa, pi_wIa]
  clear eH
  refine lpf (F := fun n (i : Nat) t => pl_To_become_61 a b (fun h => pl_To_become_94 a b (fun h => pl_To_become_127 a b (fun h => some h) fu_ 0 h) fu_ 0 h) n i t) (Q := fun r => ∃ h', r = some h' ∧ fr (fun c => a ≤ c ∧ c ≤ a + 52) h h' ∧ TR h' a A) (A 0).toNat (fun i t => fr (fun c => a + 4 ≤ c ∧ c ≤ a + 27) H t ∧ ∀ j : Nat, j < i → LR t (a + 4 + 12 * j) (lk A j)) ?_ ?_ fu_ 0 H (by omega) (by unfold fu_; omega) ⟨fr_refl, fun j hj => absurd hj (Nat.not_lt_zero _)⟩
  · intro n i t hi ⟨f, B⟩
    right
    obtain ⟨l1, l2⟩ := lks i (by omega)
    have l3 : LR t (b + 4 + 12 * i) (lk A i) := LR_fr (LR_fr l1 fH (fun j hj y => by omega)) f (fun j hj y => by omega)
    obtain ⟨h', p1, p2, p3⟩ := c_LaB (a := a + 4 + 12 * i) l3 l2 (by omega)
    refine ⟨h', ?_, fr_trans f (fr_mono p2 (fun c hc => by omega)), fun j hj => ?_⟩
    · show pl_To_become_61 a b _ (n + 1) i t = _
      rw [pl_To_become_61, fr_i f (by omega), w0, if_neg (by omega), gib (by omega) (by omega), gib (by omega) (by omega), Int.toNat_natCast, show a + 3 + 1 + 12 * i = a + 4 + 12 * i by omega, show b + 3 + 1 + 12 * i = b + 4 + 12 * i by omega, p1, bsm, wr_eq (by omega) (by omega)]
      rfl
    · by_cases y : j = i
      · rw [y]; exact p3
      · exact LR_fr (B j (by omega)) p2 (fun j hj y => by omega)
  · intro n t1 ⟨f4, B4⟩
    show ∃ h', pl_To_become_61 a b _ (n + 1) ((A 0).toNat : Nat) t1 = some h' ∧ _
    rw [pl_To_become_61, fr_i f4 (by omega), w0, if_pos (by omega)]
    refine lpf (F := fun n (i : Nat) t => pl_To_become_94 a b (fun h => pl_To_become_127 a b (fun h => some h) fu_ 0 h) n i t) (Q := fun r => ∃ h', r = some h' ∧ fr (fun c => a ≤ c ∧ c ≤ a + 52) h h' ∧ TR h' a A) (A 1).toNat (fun i t => fr (fun c => a + 29 ≤ c ∧ c ≤ a + 36) t1 t ∧ ∀ j : Nat, j < i → WR t (a + 29 + 4 * j) (lw A j)) ?_ ?_ fu_ 0 t1 (by omega) (by unfold fu_; omega) ⟨fr_refl, fun j hj => absurd hj (Nat.not_lt_zero _)⟩
    · intro n i t hi ⟨f, B⟩
      right
      obtain ⟨l1, l2⟩ := lws i (by omega)
      have l3 : WR t (b + 29 + 4 * i) (lw A i) := WR_fr (WR_fr (WR_fr l1 fH (fun j hj y => by omega)) f4 (fun j hj y => by omega)) f (fun j hj y => by omega)
      obtain ⟨h', p1, p2, p3⟩ := c_LwB (a := a + 29 + 4 * i) l3 l2 (by omega)
      refine ⟨h', ?_, fr_trans f (fr_mono p2 (fun c hc => by omega)), fun j hj => ?_⟩
      · show pl_To_become_94 a b _ (n + 1) i t = _
        rw [pl_To_become_94, fr_i f (by omega), fr_i f4 (by omega), w1, if_neg (by omega), gib (by omega) (by omega), gib (by omega) (by omega), Int.toNat_natCast, show a + 28 + 1 + 4 * i = a + 29 + 4 * i by omega, show b + 28 + 1 + 4 * i = b + 29 + 4 * i by omega, p1, bsm, wr_eq (by omega) (by omega)]
        rfl
      · by_cases y : j = i
        · rw [y]; exact p3
        · exact WR_fr (B j (by omega)) p2 (fun j hj y => by omega)
    · intro n t2 ⟨f5, B5⟩
      show ∃ h', pl_To_become_94 a b _ (n + 1) ((A 1).toNat : Nat) t2 = some h' ∧ _
      rw [pl_To_become_94, fr_i f5 (by omega), fr_i f4 (by omega), w1, if_pos (by omega)]
      have PF : ∀ {F : Nat → Prop} {g g' : pH} {r : Nat} {P : Nat → Int}, PR g r P → fr F g g' → (∀ i, i ≤ 4 → ¬ F (r + i)) → PR g' r P := fun {F g g' r P} k f q => by
        have q0 : ¬ F r := q 0 (by omega)
        unfold PR at *
        rw [fr_fi f q0, fr_fi f (q 1 (by omega)), fr_fi f (q 2 (by omega)), fr_fi f (q 3 (by omega)), fr_fi f (q 4 (by omega))]
        exact k
      refine lpf (F := fun n (i : Nat) t => pl_To_become_127 a b (fun h => some h) n i t) (Q := fun r => ∃ h', r = some h' ∧ fr (fun c => a ≤ c ∧ c ≤ a + 52) h h' ∧ TR h' a A) (A 2).toNat (fun i t => fr (fun c => a + 38 ≤ c ∧ c ≤ a + 52) t2 t ∧ ∀ j : Nat, j < i → PR t (a + 38 + 5 * j) (pn A j)) ?_ ?_ fu_ 0 t2 (by omega) (by unfold fu_; omega) ⟨fr_refl, fun j hj => absurd hj (Nat.not_lt_zero _)⟩
      · intro n i t hi ⟨f, B⟩
        right
        obtain ⟨l1, l2⟩ := pns i (by omega)
        have l3 : PR t (b + 38 + 5 * i) (pn A i) := PF (PF (PF (PF l1 fH (fun j hj y => by omega)) f4 (fun j hj y => by omega)) f5 (fun j hj y => by omega)) f (fun j hj y => by omega)
        obtain ⟨h', p1, p2, p3⟩ := c_PlB (a := a + 38 + 5 * i) l3 l2 (by omega)
        refine ⟨h', ?_, fr_trans f (fr_mono p2 (fun c hc => by omega)), fun j hj => ?_⟩
        · show pl_To_become_127 a b _ (n + 1) i t = _
          rw [pl_To_become_127, fr_i f (by omega), fr_i f5 (by omega), fr_i f4 (by omega), w2, if_neg (by omega), gib (by omega) (by omega), gib (by omega) (by omega), Int.toNat_natCast, show a + 37 + 1 + 5 * i = a + 38 + 5 * i by omega, show b + 37 + 1 + 5 * i = b + 38 + 5 * i by omega, p1, bsm, wr_eq (by omega) (by omega)]
          rfl
        · by_cases y : j = i
          · rw [y]; exact p3
          · exact PF (B j (by omega)) p2 (fun j hj y => by omega)
      · intro n t ⟨f6, B6⟩
        have fA : fr (fun c => a + 4 ≤ c ∧ c ≤ a + 52) H t := fr_trans (fr_mono f4 (fun c hc => by omega)) (fr_trans (fr_mono f5 (fun c hc => by omega)) (fr_mono f6 (fun c hc => by omega)))
        refine ⟨t, ?_, fr_trans (fr_mono fH (fun c hc => by omega)) (fr_mono fA (fun c hc => by omega)), a0, ?_, ⟨⟨by rw [fr_i fA (by omega)]; exact v1, by rw [fr_i fA (by omega)]; exact v2, by rw [fr_i fA (by omega)]; exact v3⟩, t0⟩, fun i hi => ?_, fun i hi => ⟨?_, (lks i hi).2⟩, fun i hi => ⟨?_, (lws i hi).2⟩, fun i hi => ⟨B6 i (by omega), (pns i hi).2⟩⟩
        · show pl_To_become_127 a b (fun h => some h) (n + 1) ((A 2).toNat : Nat) t = _
          rw [pl_To_become_127, fr_i f6 (by omega), fr_i f5 (by omega), fr_i f4 (by omega), w2, if_pos (by omega)]
        · rw [fr_fi fA (by omega)]; exact ⟨w0, w1, w2⟩
        · rw [fr_i fA (by omega), vt i hi]; exact tp i hi
        · exact LR_fr (LR_fr (B4 i (by omega)) f5 (fun j hj y => by omega)) f6 (fun j hj y => by omega)
        · exact WR_fr (B5 i (by omega)) f6 (fun j hj y => by omega)
