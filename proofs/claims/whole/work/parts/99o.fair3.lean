/-! fair: the question -/
section Dp
variable {h : pH} {a p q l w : Nat} {L W wt sv S : Nat → Int} {u : Bool} {d : Nat} {tk : Int}
/-- blocks by days -/
def bld (L W wt sv S : Nat → Int) (g bw bh : Int) (m c : Nat) : Prop := blk L W (adn L W wt sv m S) wt g bw bh c
theorem m_fair47 {x1 x2 x3 x4 g bw bh o : Int} {K : pH → Option (Int × pH)} (M : MC h l w L W wt sv 0) (V : SV L (pi h 422) d) (g0 : 1 ≤ g ∧ g ≤ 999) (b0 : 1 ≤ bw ∧ bw ≤ 6) (b1 : 1 ≤ bh ∧ bh ≤ 6) : ∃ h', pl_M_fair_47 x1 x2 x3 x4 g bw bh o K fu_ 0 h = K h' ∧ fr (fun b => b = 430) h h' ∧ ∀ c : Nat, (c : Int) < ce L → pi h' 430 c = dys (bld L W wt sv (pi h 422) g bw bh) c 0 := by
  have kL := M.1.2.2.2.2.2.2.1
  have zz : 4 ≤ ce L ∧ ce L ≤ 36 := sz_mul kL.1
  refine lpf (F := fun n (i : Nat) t => pl_M_fair_47 x1 x2 x3 x4 g bw bh o K n i t) (Q := fun r => ∃ h', r = K h' ∧ fr (fun b => b = 430) h h' ∧ ∀ c : Nat, (c : Int) < ce L → pi h' 430 c = dys (bld L W wt sv (pi h 422) g bw bh) c 0) (ce L).toNat (fun i t => fr (fun b => b = 430) h t ∧ ∀ c : Nat, c < i → pi t 430 c = dys (bld L W wt sv (pi h 422) g bw bh) c 0) ?_ ?_ fu_ 0 h (by omega) (by unfold fu_; omega) ⟨fr_refl, fun c hc => absurd hc (Nat.not_lt_zero _)⟩
  · intro n i t hi ⟨f, B⟩
    right
    have Mt : MC t l w L W wt sv 0 := MC_c M (fun j _ _ => fr_i f (by omega)) (fr_fi f (by omega))
    have es : pi t 422 = pi h 422 := fr_fi f (by omega)
    have F := m_isFair (c := i) (g := g) (bw := bw) (bh := bh) Mt (by rw [es]; exact V) (by omega) g0 b0 b1
    rw [es] at F
    refine ⟨pwI t 430 i (dys (bld L W wt sv (pi h 422) g bw bh) i 0), ?_, fr_wI f rfl, fun c hc => ?_⟩
    · show pl_M_fair_47 x1 x2 x3 x4 g bw bh o K (n + 1) i t = _
      rw [pl_M_fair_47, m_cells Mt.1, bsm, if_neg (by omega), F, bsm, wr_eq (by omega) (by omega), dys]
      by_cases q1 : blk L W (pi h 422) wt g bw bh i
      · rw [cif_t q1, if_neg (show ¬ (1 : Int) = 0 by decide), gib (by omega) (by omega), cif_t (show bld L W wt sv (pi h 422) g bw bh 0 i from q1)]; rfl
      · rw [cif_f q1, if_pos rfl, gib (by omega) (by omega), cif_f (show ¬ bld L W wt sv (pi h 422) g bw bh 0 i from q1)]; rfl
    · by_cases y : c = i
      · rw [y, pi_wIs]
      · rw [pi_wIi y]; exact B c (by omega)
  · intro n t ⟨f, B⟩
    have Mt : MC t l w L W wt sv 0 := MC_c M (fun j _ _ => fr_i f (by omega)) (fr_fi f (by omega))
    refine ⟨t, ?_, f, fun c hc => B c (by omega)⟩
    show pl_M_fair_47 x1 x2 x3 x4 g bw bh o K (n + 1) ((ce L).toNat : Nat) t = _
    rw [pl_M_fair_47, m_cells Mt.1, bsm, if_pos (by omega)]
theorem m_fair106 {x1 x2 x3 x4 g bw bh o : Int} {T : Nat → Int} {m : Nat} {K : Int → pH → Option (Int × pH)} (M : MC h l w L W wt sv 0) (V : SV L (pi h 422) d) (g0 : 1 ≤ g ∧ g ≤ 999) (b0 : 1 ≤ bw ∧ bw ≤ 6) (b1 : 1 ≤ bh ∧ bh ≤ 6) (hm : m ≤ 60) (eT : pi h 422 = adn L W wt sv (m + 1) T) (D : ∀ c : Nat, (c : Int) < ce L → pi h 430 c = dys (bld L W wt sv T g bw bh) c m) : ∃ h', pl_M_fair_106 x1 x2 x3 x4 g bw bh o K fu_ ((m : Int) + 1) 0 h = K ((m : Int) + 1) h' ∧ fr (fun b => b = 430) h h' ∧ ∀ c : Nat, (c : Int) < ce L → pi h' 430 c = dys (bld L W wt sv T g bw bh) c (m + 1) := by
  have kL := M.1.2.2.2.2.2.2.1
  have zz : 4 ≤ ce L ∧ ce L ≤ 36 := sz_mul kL.1
  refine lpf (F := fun n (i : Nat) t => pl_M_fair_106 x1 x2 x3 x4 g bw bh o K n ((m : Int) + 1) i t) (Q := fun r => ∃ h', r = K ((m : Int) + 1) h' ∧ fr (fun b => b = 430) h h' ∧ ∀ c : Nat, (c : Int) < ce L → pi h' 430 c = dys (bld L W wt sv T g bw bh) c (m + 1)) (ce L).toNat (fun i t => fr (fun b => b = 430) h t ∧ ∀ c : Nat, (c : Int) < ce L → pi t 430 c = if c < i then dys (bld L W wt sv T g bw bh) c (m + 1) else dys (bld L W wt sv T g bw bh) c m) ?_ ?_ fu_ 0 h (by omega) (by unfold fu_; omega) ⟨fr_refl, fun c hc => by rw [if_neg (Nat.not_lt_zero _)]; exact D c hc⟩
  · intro n i t hi ⟨f, B⟩
    right
    have Mt : MC t l w L W wt sv 0 := MC_c M (fun j _ _ => fr_i f (by omega)) (fr_fi f (by omega))
    have es : pi t 422 = pi h 422 := fr_fi f (by omega)
    have F := m_isFair (c := i) (g := g) (bw := bw) (bh := bh) Mt (by rw [es]; exact V) (by omega) g0 b0 b1
    rw [es, eT] at F
    have Bi := B i (by omega)
    rw [if_neg (Nat.lt_irrefl _)] at Bi
    have keep : dys (bld L W wt sv T g bw bh) i (m + 1) = dys (bld L W wt sv T g bw bh) i m → ∀ c : Nat, (c : Int) < ce L → pi t 430 c = if c < i + 1 then dys (bld L W wt sv T g bw bh) c (m + 1) else dys (bld L W wt sv T g bw bh) c m := fun k c hc => by
      rw [B c hc]
      by_cases y : c = i
      · rw [y, if_neg (Nat.lt_irrefl _), if_pos (Nat.lt_succ_self _), k]
      · by_cases y2 : c < i
        · rw [if_pos y2, if_pos (by omega)]
        · rw [if_neg y2, if_neg (by omega)]
    have e0 : pl_M_fair_106 x1 x2 x3 x4 g bw bh o K (n + 1) ((m : Int) + 1) i t = if dys (bld L W wt sv T g bw bh) i m = (m : Int) then (if cif (blk L W (adn L W wt sv (m + 1) T) wt g bw bh i) (1 : Int) 0 = 0 then pl_M_fair_106 x1 x2 x3 x4 g bw bh o K n ((m : Int) + 1) (i + 1 : Nat) t else pl_M_fair_106 x1 x2 x3 x4 g bw bh o K n ((m : Int) + 1) (i + 1 : Nat) (pwI t 430 i ((m : Int) + 1))) else pl_M_fair_106 x1 x2 x3 x4 g bw bh o K n ((m : Int) + 1) (i + 1 : Nat) t := by
      rw [pl_M_fair_106, m_cells Mt.1, bsm, if_neg (by omega), gib (by omega) (by omega), Int.toNat_natCast, Bi, wr_eq (x := (m : Int) + 1 - 1) (by omega) (by omega), show (m : Int) + 1 - 1 = m by omega, F, bsm, gib (by omega) (by omega), wr_eq (by omega) (by omega)]; rfl
    by_cases q1 : dys (bld L W wt sv T g bw bh) i m = (m : Int)
    · by_cases q2 : blk L W (adn L W wt sv (m + 1) T) wt g bw bh i
      · refine ⟨pwI t 430 i ((m : Int) + 1), by show pl_M_fair_106 x1 x2 x3 x4 g bw bh o K (n + 1) ((m : Int) + 1) i t = _; rw [e0, if_pos q1, cif_t q2, if_neg (show ¬ (1 : Int) = 0 by decide)], fr_wI f rfl, fun c hc => ?_⟩
        by_cases y : c = i
        · rw [y, pi_wIs, if_pos (Nat.lt_succ_self _), dys, cif_t ⟨q1, q2⟩]
        · rw [pi_wIi y, B c hc]
          by_cases y2 : c < i
          · rw [if_pos y2, if_pos (by omega)]
          · rw [if_neg y2, if_neg (by omega)]
      · refine ⟨t, by show pl_M_fair_106 x1 x2 x3 x4 g bw bh o K (n + 1) ((m : Int) + 1) i t = _; rw [e0, if_pos q1, cif_f q2, if_pos rfl], f, keep (by rw [dys, cif_f (fun k => q2 k.2)])⟩
    · refine ⟨t, by show pl_M_fair_106 x1 x2 x3 x4 g bw bh o K (n + 1) ((m : Int) + 1) i t = _; rw [e0, if_neg q1], f, keep (by rw [dys, cif_f (fun k => q1 k.1)])⟩
  · intro n t ⟨f, B⟩
    have Mt : MC t l w L W wt sv 0 := MC_c M (fun j _ _ => fr_i f (by omega)) (fr_fi f (by omega))
    refine ⟨t, ?_, f, fun c hc => by rw [B c hc, if_pos (by omega)]⟩
    show pl_M_fair_106 x1 x2 x3 x4 g bw bh o K (n + 1) ((m : Int) + 1) ((ce L).toNat : Nat) t = _
    rw [pl_M_fair_106, m_cells Mt.1, bsm, if_pos (by omega)]
theorem m_fair92 {x1 x2 x3 x4 g bw bh o : Int} {T : Nat → Int} {K : pH → Option (Int × pH)} (M : MC h l w L W wt sv 0) (V : SV L T d) (hd : d ≤ 900) (g0 : 1 ≤ g ∧ g ≤ 999) (b0 : 1 ≤ bw ∧ bw ≤ 6) (b1 : 1 ≤ bh ∧ bh ≤ 6) (eT : pi h 422 = T) (D : ∀ c : Nat, (c : Int) < ce L → pi h 430 c = dys (bld L W wt sv T g bw bh) c 0) : ∃ h', pl_M_fair_92 x1 x2 x3 x4 g bw bh o K fu_ 1 h = K h' ∧ MF h h' ∧ ∀ c : Nat, (c : Int) < ce L → pi h' 430 c = dys (bld L W wt sv T g bw bh) c 60 := by
  have kL := M.1.2.2.2.2.2.2.1
  have kW := M.1.2.2.2.2.2.2.2
  have zz : 4 ≤ ce L ∧ ce L ≤ 36 := sz_mul kL.1
  refine lpf (F := fun n (i : Nat) t => pl_M_fair_92 x1 x2 x3 x4 g bw bh o K n ((i : Int) + 1) t) (Q := fun r => ∃ h', r = K h' ∧ MF h h' ∧ ∀ c : Nat, (c : Int) < ce L → pi h' 430 c = dys (bld L W wt sv T g bw bh) c 60) 60 (fun i t => MF h t ∧ pi t 422 = adn L W wt sv i T ∧ ∀ c : Nat, (c : Int) < ce L → pi t 430 c = dys (bld L W wt sv T g bw bh) c i) ?_ ?_ fu_ 0 h (by omega) (by unfold fu_; omega) ⟨MF_refl, eT, D⟩
  · intro n i t hi ⟨f, es, B⟩
    right
    have Mt := MF_MC M f
    obtain ⟨h1, d1, d2, d3⟩ := m_aDay Mt (by rw [es]; exact SV_adn kL kW V) (by omega)
    have F1 : MF t h1 := ⟨fr_mono d2 (fun b hb => by unfold MFs; omega), fun j _ _ => fr_i d2 (by omega)⟩
    rw [es] at d3
    obtain ⟨h2, r1, r2, r3⟩ := m_fair106 (x1 := x1) (x2 := x2) (x3 := x3) (x4 := x4) (o := o) (m := i) (T := T) (K := fun x9 h => pl_M_fair_92 x1 x2 x3 x4 g bw bh o K n (wr (x9 + 1)) h) (MF_MC Mt F1) (by rw [d3]; exact SV_adn kL kW V (n := i + 1)) g0 b0 b1 (by omega) d3 (fun c hc => by rw [fr_i d2 (by omega)]; exact B c hc)
    refine ⟨h2, ?_, MF_trans f (MF_trans F1 ⟨fr_mono r2 (fun b hb => by unfold MFs; omega), fun j _ _ => fr_i r2 (by omega)⟩), by rw [fr_fi r2 (by omega)]; exact d3, r3⟩
    show pl_M_fair_92 x1 x2 x3 x4 g bw bh o K (n + 1) ((i : Int) + 1) t = _
    rw [pl_M_fair_92, if_neg (by omega), d1, bsm, r1, wr_eq (by omega) (by omega)]
    rfl
  · intro n t ⟨f, es, B⟩
    refine ⟨t, ?_, f, B⟩
    show pl_M_fair_92 x1 x2 x3 x4 g bw bh o K (n + 1) (((60 : Nat) : Int) + 1) t = _
    rw [pl_M_fair_92, if_pos (by omega)]
theorem m_fair171 {x1 x2 x3 x4 g bw bh o : Int} {D : Nat → Int} {K : Int → pH → Option (Int × pH)} (M : MC h l w L W wt sv 0) (B : ∀ c : Nat, (c : Int) < ce L → pi h 430 c = D c) : ∃ b : Nat, pl_M_fair_171 x1 x2 x3 x4 g bw bh o K fu_ 0 1 h = K b h ∧ (b : Int) < ce L ∧ (∀ c : Nat, (c : Int) < ce L → D c ≤ D b) ∧ ∀ c : Nat, c < b → D c < D b := by
  have kL := M.1.2.2.2.2.2.2.1
  have zz : 4 ≤ ce L ∧ ce L ≤ 36 := sz_mul kL.1
  refine lpf (F := fun n (i : Nat) (b : Nat) => pl_M_fair_171 x1 x2 x3 x4 g bw bh o K n b i h) (Q := fun r => ∃ b : Nat, r = K b h ∧ (b : Int) < ce L ∧ (∀ c : Nat, (c : Int) < ce L → D c ≤ D b) ∧ ∀ c : Nat, c < b → D c < D b) (ce L).toNat (fun i b => b < i ∧ (∀ c : Nat, c < i → D c ≤ D b) ∧ ∀ c : Nat, c < b → D c < D b) ?_ ?_ fu_ 1 0 (by omega) (by unfold fu_; omega) ⟨Nat.zero_lt_one, fun c hc => by rw [show c = 0 by omega]; exact Int.le_refl _, fun c hc => absurd hc (Nat.not_lt_zero _)⟩
  · intro n i b hi ⟨b1, b2, b3⟩
    right
    have e0 : pl_M_fair_171 x1 x2 x3 x4 g bw bh o K (n + 1) b i h = if D i ≤ D b then pl_M_fair_171 x1 x2 x3 x4 g bw bh o K n b (i + 1 : Nat) h else pl_M_fair_171 x1 x2 x3 x4 g bw bh o K n i (i + 1 : Nat) h := by
      rw [pl_M_fair_171, m_cells M.1, bsm, if_neg (by omega), gib (by omega) (by omega), gib (by omega) (by omega), Int.toNat_natCast, Int.toNat_natCast, B i (by omega), B b (by omega), wr_eq (by omega) (by omega)]; rfl
    by_cases q1 : D i ≤ D b
    · refine ⟨b, by show pl_M_fair_171 x1 x2 x3 x4 g bw bh o K (n + 1) b i h = _; rw [e0, if_pos q1], by omega, fun c hc => ?_, b3⟩
      by_cases y : c = i
      · rw [y]; exact q1
      · exact b2 c (by omega)
    · refine ⟨i, by show pl_M_fair_171 x1 x2 x3 x4 g bw bh o K (n + 1) b i h = _; rw [e0, if_neg q1], by omega, fun c hc => ?_, fun c hc => ?_⟩
      · by_cases y : c = i
        · rw [y]; exact Int.le_refl _
        · have := b2 c (by omega); omega
      · have := b2 c hc; omega
  · intro n b ⟨b1, b2, b3⟩
    refine ⟨b, ?_, by omega, fun c hc => b2 c (by omega), b3⟩
    show pl_M_fair_171 x1 x2 x3 x4 g bw bh o K (n + 1) b ((ce L).toNat : Nat) h = _
    rw [pl_M_fair_171, m_cells M.1, bsm, if_pos (by omega)]
end Dp
