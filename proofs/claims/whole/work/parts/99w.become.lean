/-! become: what is told, copied -/
theorem c_PlB {h : pH} {a b : Nat} {P : Nat → Int} (R : PR h b P) (kP : PK P) (ne : a + 4 < b ∨ b + 4 < a) : ∃ h', pf_Pl_become a b h = some h' ∧ fr (fun c => a ≤ c ∧ c ≤ a + 4) h h' ∧ PR h' a P := by
  have p0 := kP.1
  refine ⟨_, rfl, ?_, ?_, fun k hk => ?_⟩
  · exact fr_cpI (fr_cpI (fr_cpI (fr_cpI (fr_wI fr_refl (by omega)) (by omega)) (by omega)) (by omega)) (by omega)
  · simp (disch := omega) only [pi_cpIa, pi_wIs]
    exact R.1
  · simp (disch := omega) only [pi_cpIa, pi_cp0, pi_wIa]
    exact R.2 k hk
theorem c_LwB {h : pH} {a b : Nat} {W : Nat → Int} (R : WR h b W) (kW : WK W) (ne : a + 3 < b ∨ b + 3 < a) : ∃ h', pf_Lw_become a b h = some h' ∧ fr (fun c => a ≤ c ∧ c ≤ a + 3) h h' ∧ WR h' a W := by
  have w4 := kW.2.2.2.2.1
  obtain ⟨⟨r0, r1, r2, r3, r4⟩, r5, r6, r7⟩ := R
  refine ⟨_, rfl, ?_, ⟨?_, ?_, ?_, ?_, ?_⟩, fun k hk => ?_, fun c hc => ?_, fun c d hc hd => ?_⟩
  · exact fr_cpL (fr_wL (fr_cpI (fr_cpI (fr_wI (fr_wI (fr_wI (fr_wI (fr_wI fr_refl (by omega)) (by omega)) (by omega)) (by omega)) (by omega)) (by omega)) (by omega)) (by omega)) (by omega)
  · simp (disch := omega) only [pi_cpL, pi_wL, pi_cpIa, pi_wIs, pi_wIa, pi_wIi]; exact r0
  · simp (disch := omega) only [pi_cpL, pi_wL, pi_cpIa, pi_wIs, pi_wIa, pi_wIi]; exact r1
  · simp (disch := omega) only [pi_cpL, pi_wL, pi_cpIa, pi_wIs, pi_wIa, pi_wIi]; exact r2
  · simp (disch := omega) only [pi_cpL, pi_wL, pi_cpIa, pi_wIs, pi_wIa, pi_wIi]; exact r3
  · simp (disch := omega) only [pi_cpL, pi_wL, pi_cpIa, pi_wIs, pi_wIa, pi_wIi]; exact r4
  · simp (disch := omega) only [pi_cpL, pi_wL, pi_cpIa, pi_cp0, pi_wIs, pi_wIa, pi_wIi]; exact r5 k hk
  · simp (disch := omega) only [pl_cpLa, pl_wLs, pl_cpI, pl_wI]; exact r6 c hc
  · simp (disch := omega) only [pl_cp0, pl_wLa, pl_cpI, pl_wI]; exact r7 c d hc hd
theorem c_LaB {h : pH} {a b : Nat} {L : Nat → Int} (R : LR h b L) (kL : LK L) (ne : a + 11 < b ∨ b + 11 < a) : ∃ h', pf_La_become a b h = some h' ∧ fr (fun c => a ≤ c ∧ c ≤ a + 11) h h' ∧ LR h' a L := by
  have z : 4 ≤ ce L ∧ ce L ≤ 36 := sz_mul kL.1
  have n6 := NS_le kL
  have l3 := kL.2.2.1
  obtain ⟨⟨r0, r1, r2, r3, r4⟩, r5, r6, r7, r8, r9, r10⟩ := R
  refine ⟨_, rfl, ?_, ⟨?_, ?_, ?_, ?_, ?_⟩, fun c hc => ⟨?_, ?_, ?_⟩, fun k hk => ?_, fun s hs => ⟨?_, ?_, ?_, ?_⟩, fun c k hc hk => ⟨?_, ?_⟩, fun c hc => ?_, fun c d hc hd => ?_⟩
  · exact fr_cpI (fr_cpI (fr_cpI (fr_cpI (fr_cpI (fr_cpI (fr_wI (fr_wI (fr_cpI (fr_wL (fr_wL (fr_cpL (fr_cpI (fr_cpI (fr_cpI (fr_wI (fr_wI (fr_wI fr_refl (by omega)) (by omega)) (by omega)) (by omega)) (by omega)) (by omega)) (by omega)) (by omega)) (by omega)) (by omega)) (by omega)) (by omega)) (by omega)) (by omega)) (by omega)) (by omega)) (by omega)) (by omega)
  · simp (disch := omega) only [pi_cpL, pi_wL, pi_cpIa, pi_wIs, pi_wIa, pi_wIi]; exact r0
  · simp (disch := omega) only [pi_cpL, pi_wL, pi_cpIa, pi_wIs, pi_wIa, pi_wIi]; exact r1
  · simp (disch := omega) only [pi_cpL, pi_wL, pi_cpIa, pi_wIs, pi_wIa, pi_wIi]; exact r2
  · simp (disch := omega) only [pi_cpL, pi_wL, pi_cpIa, pi_wIs, pi_wIa, pi_wIi]; exact r3
  · simp (disch := omega) only [pi_cpL, pi_wL, pi_cpIa, pi_wIs, pi_wIa, pi_wIi]; exact r4
  · simp (disch := omega) only [pi_cpL, pi_wL, pi_cpIa, pi_cp0, pi_wIa]; exact (r5 c hc).1
  · simp (disch := omega) only [pi_cpL, pi_wL, pi_cpIa, pi_cp0, pi_wIa]; exact (r5 c hc).2.1
  · simp (disch := omega) only [pi_cpL, pi_wL, pi_cpIa, pi_cp0, pi_wIa]; exact (r5 c hc).2.2
  · simp (disch := omega) only [pi_cpL, pi_wL, pi_cpIa, pi_cp0, pi_wIa]; exact r6 k hk
  · simp (disch := omega) only [pi_cpL, pi_wL, pi_cpIa, pi_cp0, pi_wIa]; exact (r7 s hs).1
  · simp (disch := omega) only [pi_cpL, pi_wL, pi_cpIa, pi_cp0, pi_wIa]; exact (r7 s hs).2.1
  · simp (disch := omega) only [pi_cpL, pi_wL, pi_cpIa, pi_cp0, pi_wIa]; exact (r7 s hs).2.2.1
  · simp (disch := omega) only [pi_cpL, pi_wL, pi_cpIa, pi_cp0, pi_wIa]; exact (r7 s hs).2.2.2
  · simp (disch := omega) only [pi_cpL, pi_wL, pi_cpIa, pi_cp0, pi_wIa]; exact (r8 c k hc hk).1
  · simp (disch := omega) only [pi_cpL, pi_wL, pi_cpIa, pi_cp0, pi_wIa]; exact (r8 c k hc hk).2
  · simp (disch := omega) only [pl_cpLa, pl_wLs, pl_wLi, pl_wLa, pl_cpI, pl_wI]; exact r9 c hc
  · simp (disch := omega) only [pl_cp0, pl_wLa, pl_cpI, pl_wI]; exact r10 c d hc hd
