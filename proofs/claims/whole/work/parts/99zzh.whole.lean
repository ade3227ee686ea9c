/-! the end of a lake: the reference -/
def cLo (C : Nat → Int) (k : Nat) : Int := if C (2 * k + 1) ≤ C (2 * k) then C (2 * k + 1) else C (2 * k)
def cHi (C : Nat → Int) (k : Nat) : Int := C (2 * k) + C (2 * k + 1) - cLo C k
def cFl (w : Int) (C : Nat → Int) (k : Nat) : Prop := cHi C k = cLo C k + 1 ∧ ¬ cHi C k % w = 0
def cGd (w : Int) (C : Nat → Int) (k : Nat) : Prop := cFl w C k ∨ cHi C k = cLo C k + w
/-- a mark that a crack leaves -/
def cM1 (w : Int) (C : Nat → Int) (k j : Nat) : Prop := (cFl w C k ∧ j = 152 + (cLo C k).toNat) ∨ (¬ cFl w C k ∧ cHi C k = cLo C k + w ∧ j = 188 + (cLo C k).toNat)
def cMk (w : Int) (C : Nat → Int) (m j : Nat) : Prop := ∃ k, k < m ∧ cM1 w C k j
section Ub
variable {g : pH}
theorem m_crk1 {w : Int} {i n : Nat} {t : pH} {C : Nat → Int} {K : Int → pH → Option (Int × pH)} (w2 : 2 ≤ w ∧ w ≤ 6) (i68 : i < 68) (e21 : pi t 421 = C) (lo : 0 ≤ cLo C i ∧ cLo C i ≤ 35) (hr : cLo C i ≤ cHi C i ∧ cHi C i ≤ 35) (su : 0 ≤ C (2 * i) + C (2 * i + 1) ∧ C (2 * i) + C (2 * i + 1) ≤ 70) : (cFl w C i → pj_M_isWhole_90 (pl_M_isWhole_30 K n) K w i (cLo C i) t = pl_M_isWhole_30 K n w 1 ((i + 1 : Nat) : Int) (pwI t 420 (152 + (cLo C i).toNat) 1)) ∧ (¬ cFl w C i → cHi C i = cLo C i + w → pj_M_isWhole_90 (pl_M_isWhole_30 K n) K w i (cLo C i) t = pl_M_isWhole_30 K n w 1 ((i + 1 : Nat) : Int) (pwI t 420 (188 + (cLo C i).toNat) 1)) ∧ (¬ cGd w C i → pj_M_isWhole_90 (pl_M_isWhole_30 K n) K w i (cLo C i) t = pl_M_isWhole_30 K n w 0 ((i + 1 : Nat) : Int) t) := by
  have hh : ∀ _ : Unit, wr (wr (pi t 421 (2 * i) + pi t 421 (2 * i + 1)) - cLo C i) = cHi C i := fun _ => by
    rw [e21, wr_eq (x := C (2 * i) + C (2 * i + 1)) (by omega) (by omega), wr_eq (by unfold cHi at hr; omega) (by unfold cHi at hr; omega)]; rfl
  have iw : ∀ _ : Unit, wr ((i : Int) + 1) = ((i + 1 : Nat) : Int) := fun _ => by rw [wr_eq (by omega) (by omega)]; rfl
  have s81 : ∀ x6 (b : Nat), (x6 = 0 ∧ b = 188 ∨ x6 = 1 ∧ b = 152) → pj_M_isWhole_158 (pl_M_isWhole_30 K n) K w i (cLo C i) x6 1 t = pl_M_isWhole_30 K n w 1 ((i + 1 : Nat) : Int) (pwI t 420 (b + (cLo C i).toNat) 1) := fun x6 b hb => by
    unfold pj_M_isWhole_158 pj_M_isWhole_181
    rw [if_neg (by decide), iw ()]
    rcases hb with ⟨rfl, rfl⟩ | ⟨rfl, rfl⟩
    · rw [if_pos rfl, wr_eq (by omega) (by omega), gib (by omega) (by omega), show (188 + cLo C i).toNat = 188 + (cLo C i).toNat by omega]
    · rw [if_neg (by decide), wr_eq (by omega) (by omega), gib (by omega) (by omega), show (152 + cLo C i).toNat = 152 + (cLo C i).toNat by omega]
  have s80 : ∀ x6, pj_M_isWhole_158 (pl_M_isWhole_30 K n) K w i (cLo C i) x6 0 t = pl_M_isWhole_30 K n w 0 ((i + 1 : Nat) : Int) t := fun x6 => by
    unfold pj_M_isWhole_158
    rw [if_pos rfl, iw ()]
  have s37 : ∀ z, pj_M_isWhole_137 (pl_M_isWhole_30 K n) K w i (cLo C i) (cHi C i) z t = (if z = 0 then (if cHi C i = cLo C i + w then pj_M_isWhole_158 (pl_M_isWhole_30 K n) K w i (cLo C i) z 1 t else pj_M_isWhole_158 (pl_M_isWhole_30 K n) K w i (cLo C i) z 0 t) else pj_M_isWhole_158 (pl_M_isWhole_30 K n) K w i (cLo C i) z 1 t) := fun z => by
    unfold pj_M_isWhole_137
    rw [wr_eq (x := cLo C i + w) (by omega) (by omega)]
  have s90 : pj_M_isWhole_90 (pl_M_isWhole_30 K n) K w i (cLo C i) t = (if cHi C i = cLo C i + 1 then (if cHi C i % w = 0 then pj_M_isWhole_137 (pl_M_isWhole_30 K n) K w i (cLo C i) (cHi C i) 0 t else pj_M_isWhole_137 (pl_M_isWhole_30 K n) K w i (cLo C i) (cHi C i) 1 t) else pj_M_isWhole_137 (pl_M_isWhole_30 K n) K w i (cLo C i) (cHi C i) 0 t) := by
    unfold pj_M_isWhole_90
    rw [wr_eq (x := 2 * (i : Int)) (by omega) (by omega), wr_eq (x := 2 * (i : Int) + 1) (by omega) (by omega), gib (by omega) (by omega), gib (by omega) (by omega), show (2 * (i : Int)).toNat = 2 * i by omega, show (2 * (i : Int) + 1).toNat = 2 * i + 1 by omega, hh (), wr_eq (x := cLo C i + 1) (by omega) (by omega), gnz (by omega), tm_p (by omega)]
  refine ⟨fun F => ?_, fun F D => ?_, fun G => ?_⟩
  · rw [s90, if_pos F.1, if_neg F.2, s37, if_neg (by decide), s81 1 152 (Or.inr ⟨rfl, rfl⟩)]
  · have z : pj_M_isWhole_137 (pl_M_isWhole_30 K n) K w i (cLo C i) (cHi C i) 0 t = pl_M_isWhole_30 K n w 1 ((i + 1 : Nat) : Int) (pwI t 420 (188 + (cLo C i).toNat) 1) := by
      rw [s37, if_pos rfl, if_pos D, s81 0 188 (Or.inl ⟨rfl, rfl⟩)]
    rw [s90]
    by_cases u : cHi C i = cLo C i + 1
    · rw [if_pos u]
      by_cases v : cHi C i % w = 0
      · rw [if_pos v]; exact z
      · exact absurd ⟨u, v⟩ F
    · rw [if_neg u]; exact z
  · have z : pj_M_isWhole_137 (pl_M_isWhole_30 K n) K w i (cLo C i) (cHi C i) 0 t = pl_M_isWhole_30 K n w 0 ((i + 1 : Nat) : Int) t := by
      rw [s37, if_pos rfl, if_neg (fun v => G (Or.inr v)), s80]
    rw [s90]
    by_cases u : cHi C i = cLo C i + 1
    · rw [if_pos u]
      by_cases v : cHi C i % w = 0
      · rw [if_pos v]; exact z
      · exact absurd (Or.inl ⟨u, v⟩) G
    · rw [if_neg u]; exact z
theorem m_crks {w : Int} {m : Nat} {K : Int → pH → Option (Int × pH)} (w2 : 2 ≤ w ∧ w ≤ 6) (em : pi g 417 11 = m) (m68 : m ≤ 67) (cv : ∀ k, k < m → (0 ≤ pi g 421 (2 * k) ∧ pi g 421 (2 * k) ≤ 35) ∧ (0 ≤ pi g 421 (2 * k + 1) ∧ pi g 421 (2 * k + 1) ≤ 35)) : ∃ x g', pl_M_isWhole_30 K fu_ w 1 0 g = K x g' ∧ fr (fun b => b = 420) g g' ∧ (∀ j, (j < 152 ∨ 224 ≤ j) → pi g' 420 j = pi g 420 j) ∧ ((x = 1 ∧ (∀ k, k < m → cGd w (pi g 421) k) ∧ ∀ j, pi g' 420 j = cif (cMk w (pi g 421) m j) 1 (pi g 420 j)) ∨ (x = 0 ∧ ∃ k, k < m ∧ ¬ cGd w (pi g 421) k)) := by
  generalize eC : pi g 421 = C at *
  refine lpf (F := fun n (i : Nat) (t : Int × pH) => pl_M_isWhole_30 K n w t.1 i t.2) (Q := fun r => ∃ x g', r = K x g' ∧ fr (fun b => b = 420) g g' ∧ (∀ j, (j < 152 ∨ 224 ≤ j) → pi g' 420 j = pi g 420 j) ∧ ((x = 1 ∧ (∀ k, k < m → cGd w C k) ∧ ∀ j, pi g' 420 j = cif (cMk w C m j) 1 (pi g 420 j)) ∨ (x = 0 ∧ ∃ k, k < m ∧ ¬ cGd w C k))) m (fun i t => fr (fun b => b = 420) g t.2 ∧ (∀ j, (j < 152 ∨ 224 ≤ j) → pi t.2 420 j = pi g 420 j) ∧ ((t.1 = 1 ∧ (∀ k, k < i → cGd w C k) ∧ ∀ j, pi t.2 420 j = cif (cMk w C i j) 1 (pi g 420 j)) ∨ (t.1 = 0 ∧ ∃ k, k < m ∧ ¬ cGd w C k))) ?_ ?_ fu_ 0 (1, g) (by omega) (by unfold fu_; omega) ⟨fr_refl, fun _ _ => rfl, Or.inl ⟨rfl, fun k hk => by omega, fun j => by rw [cif_f (fun ⟨k, a, _⟩ => by omega)]⟩⟩
  · intro n i ⟨x, t⟩ hi ⟨f, o, J⟩
    have f : fr (fun b => b = 420) g t := f
    have o : ∀ j, (j < 152 ∨ 224 ≤ j) → pi t 420 j = pi g 420 j := o
    have e11 : pi t 417 11 = m := by rw [fr_i f (by decide)]; exact em
    have e21 : pi t 421 = C := by rw [fr_fi f (by decide)]; exact eC
    rcases J with ⟨x1, J1, J2⟩ | ⟨x0, J1⟩
    · obtain rfl : x = 1 := x1
      have J2 : ∀ j, pi t 420 j = cif (cMk w C i j) 1 (pi g 420 j) := J2
      right
      obtain ⟨⟨a1, a2⟩, b1, b2⟩ := cv i hi
      have lo : 0 ≤ cLo C i ∧ cLo C i ≤ 35 := by unfold cLo; split <;> omega
      have hr : cLo C i ≤ cHi C i ∧ cHi C i ≤ 35 := by unfold cHi cLo; split <;> omega
      obtain ⟨B1, B2, B3⟩ := m_crk1 (K := K) (n := n) (t := t) (i := i) w2 (by omega) e21 lo hr (by omega)
      have hd : pl_M_isWhole_30 K (n + 1) w 1 i t = pj_M_isWhole_90 (pl_M_isWhole_30 K n) K w i (cLo C i) t := by
        rw [pl_M_isWhole_30, e11, if_neg (by omega), if_neg (by omega), if_neg (by decide), wr_eq (x := 2 * (i : Int)) (by omega) (by omega), wr_eq (x := 2 * (i : Int) + 1) (by omega) (by omega), gib (by omega) (by omega), gib (by omega) (by omega), gib (by omega) (by omega), gib (by omega) (by omega), show (2 * (i : Int)).toNat = 2 * i by omega, show (2 * (i : Int) + 1).toNat = 2 * i + 1 by omega, e21]
        unfold cLo
        by_cases y : C (2 * i + 1) ≤ C (2 * i)
        · rw [if_pos y, if_pos y]
        · rw [if_neg y, if_neg y]
      -- the marks grow by one
      have grow : ∀ p, cM1 w C i p → (∀ j, cM1 w C i j → j = p) → ∀ j, pi (pwI t 420 p 1) 420 j = cif (cMk w C (i + 1) j) 1 (pi g 420 j) := fun p hp up j => by
        rw [pi_wI]
        by_cases e : j = p
        · rw [if_pos ⟨rfl, e⟩, cif_t ⟨i, by omega, by rw [e]; exact hp⟩]
        · rw [if_neg (fun u => e u.2), J2 j]
          rcases Classical.em (cMk w C i j) with u | u
          · rw [cif_t u]
            obtain ⟨k, k1, k2⟩ := u
            rw [cif_t ⟨k, by omega, k2⟩]
          · rw [cif_f u, cif_f (fun ⟨k, k1, k2⟩ => by
              by_cases ek : k = i
              · rw [ek] at k2; exact e (up j k2)
              · exact u ⟨k, by omega, k2⟩)]
      have gd : cGd w C i → ∀ k, k < i + 1 → cGd w C k := fun G k hk => by
        by_cases ek : k = i
        · rw [ek]; exact G
        · exact J1 k (by omega)
      have oth : ∀ p, 152 ≤ p → p < 224 → ∀ j, (j < 152 ∨ 224 ≤ j) → pi (pwI t 420 p 1) 420 j = pi g 420 j := fun p p1 p2 j hj => by rw [pi_wIi (by omega)]; exact o j hj
      rcases Classical.em (cFl w C i) with F | F
      · refine ⟨(1, pwI t 420 (152 + (cLo C i).toNat) 1), ?_, fr_wI f rfl, oth _ (by omega) (by omega), Or.inl ⟨rfl, gd (Or.inl F), grow _ (Or.inl ⟨F, rfl⟩) (fun j u => ?_)⟩⟩
        · show pl_M_isWhole_30 K (n + 1) w 1 i t = _
          rw [hd]; exact B1 F
        · rcases u with ⟨_, u⟩ | ⟨u, _⟩
          · exact u
          · exact absurd F u
      · rcases Classical.em (cHi C i = cLo C i + w) with D | D
        · refine ⟨(1, pwI t 420 (188 + (cLo C i).toNat) 1), ?_, fr_wI f rfl, oth _ (by omega) (by omega), Or.inl ⟨rfl, gd (Or.inr D), grow _ (Or.inr ⟨F, D, rfl⟩) (fun j u => ?_)⟩⟩
          · show pl_M_isWhole_30 K (n + 1) w 1 i t = _
            rw [hd]; exact B2 F D
          · rcases u with ⟨u, _⟩ | ⟨_, _, u⟩
            · exact absurd u F
            · exact u
        · have G : ¬ cGd w C i := fun v => by rcases v with v | v; exact F v; exact D v
          refine ⟨(0, t), ?_, f, o, Or.inr ⟨rfl, i, hi, G⟩⟩
          show pl_M_isWhole_30 K (n + 1) w 1 i t = _
          rw [hd]; exact B3 G
    · left
      obtain rfl : x = 0 := x0
      refine ⟨0, t, ?_, f, o, Or.inr ⟨rfl, J1⟩⟩
      show pl_M_isWhole_30 K (n + 1) w 0 i t = _
      rw [pl_M_isWhole_30, e11, if_neg (by omega), if_neg (by omega), if_pos rfl]
  · intro n ⟨x, t⟩ ⟨f, o, J⟩
    have f : fr (fun b => b = 420) g t := f
    have e11 : pi t 417 11 = m := by rw [fr_i f (by decide)]; exact em
    refine ⟨x, t, ?_, f, o, J⟩
    show pl_M_isWhole_30 K (n + 1) w x (m : Nat) t = _
    rw [pl_M_isWhole_30, e11, if_pos (Int.le_refl _)]
/-- no two shops of one cell -/
def sDs (S : Nat → Int) (n : Nat) : Prop := ∀ i, i < n → ∀ j, j < i → S i ≠ S j
theorem m_shps {n4 : Nat} {x2 : Int} {K : Int → pH → Option (Int × pH)} (e4 : pi g 420 4 = n4) (n6 : n4 ≤ 6) (x2v : x2 = 0 ∨ x2 = 1) : ∃ x, pl_M_isWhole_194 K fu_ x2 0 g = K x g ∧ ((x = 1 ∧ x2 = 1 ∧ sDs (fun t => pi g 420 (236 + 4 * t)) n4) ∨ (x = 0 ∧ ¬ (x2 = 1 ∧ sDs (fun t => pi g 420 (236 + 4 * t)) n4))) := by
  refine lpf (F := fun n (i : Nat) (x : Int) => pl_M_isWhole_194 K n x i g) (Q := fun r => ∃ x, r = K x g ∧ ((x = 1 ∧ x2 = 1 ∧ sDs (fun t => pi g 420 (236 + 4 * t)) n4) ∨ (x = 0 ∧ ¬ (x2 = 1 ∧ sDs (fun t => pi g 420 (236 + 4 * t)) n4)))) n4 (fun i x => (x = 1 ∧ x2 = 1 ∧ sDs (fun t => pi g 420 (236 + 4 * t)) i) ∨ (x = 0 ∧ ¬ (x2 = 1 ∧ sDs (fun t => pi g 420 (236 + 4 * t)) n4))) ?_ ?_ fu_ 0 x2 (by omega) (by unfold fu_; omega) ?_
  · intro n i x hi J
    right
    have inn : ∃ y, pl_M_isWhole_213 (fun x2 x3 h => pl_M_isWhole_194 K n x2 (wr (x3 + 1)) h) fu_ x i 0 g = pl_M_isWhole_194 K n y (wr ((i : Int) + 1)) g ∧ ((y = 1 ∧ x = 1 ∧ ∀ j, j < i → pi g 420 (236 + 4 * i) ≠ pi g 420 (236 + 4 * j)) ∨ (y = 0 ∧ (x = 0 ∨ ∃ j, j < i ∧ pi g 420 (236 + 4 * i) = pi g 420 (236 + 4 * j)))) := by
      refine lpf (F := fun n' (j : Nat) (y : Int) => pl_M_isWhole_213 (fun x2 x3 h => pl_M_isWhole_194 K n x2 (wr (x3 + 1)) h) n' y i j g) (Q := fun r => ∃ y, r = pl_M_isWhole_194 K n y (wr ((i : Int) + 1)) g ∧ ((y = 1 ∧ x = 1 ∧ ∀ j, j < i → pi g 420 (236 + 4 * i) ≠ pi g 420 (236 + 4 * j)) ∨ (y = 0 ∧ (x = 0 ∨ ∃ j, j < i ∧ pi g 420 (236 + 4 * i) = pi g 420 (236 + 4 * j))))) i (fun j y => (y = 1 ∧ x = 1 ∧ ∀ j', j' < j → pi g 420 (236 + 4 * i) ≠ pi g 420 (236 + 4 * j')) ∨ (y = 0 ∧ (x = 0 ∨ ∃ j', j' < i ∧ pi g 420 (236 + 4 * i) = pi g 420 (236 + 4 * j')))) ?_ ?_ fu_ 0 x (by omega) (by unfold fu_; omega) ?_
      · intro n' j y hj J'
        right
        have iw : ∀ _ : Unit, wr ((j : Int) + 1) = ((j + 1 : Nat) : Int) := fun _ => by rw [wr_eq (by omega) (by omega)]; rfl
        rcases J' with ⟨rfl, J1, J2⟩ | ⟨rfl, J1⟩
        · by_cases e : pi g 420 (236 + 4 * i) = pi g 420 (236 + 4 * j)
          · refine ⟨0, ?_, Or.inr ⟨rfl, Or.inr ⟨j, hj, e⟩⟩⟩
            show pl_M_isWhole_213 _ (n' + 1) 1 i j g = pl_M_isWhole_213 _ n' 0 i (j + 1 : Nat) g
            rw [pl_M_isWhole_213, if_neg (by omega), if_neg (by decide), wr_eq (x := 4 * (i : Int)) (by omega) (by omega), wr_eq (x := 236 + 4 * (i : Int)) (by omega) (by omega), wr_eq (x := 4 * (j : Int)) (by omega) (by omega), wr_eq (x := 236 + 4 * (j : Int)) (by omega) (by omega), gib (by omega) (by omega), gib (by omega) (by omega), show (236 + 4 * (i : Int)).toNat = 236 + 4 * i by omega, show (236 + 4 * (j : Int)).toNat = 236 + 4 * j by omega, if_pos e]
            unfold pj_M_isWhole_255
            rw [iw ()]
          · refine ⟨1, ?_, Or.inl ⟨rfl, J1, fun j' hj' => ?_⟩⟩
            · show pl_M_isWhole_213 _ (n' + 1) 1 i j g = pl_M_isWhole_213 _ n' 1 i (j + 1 : Nat) g
              rw [pl_M_isWhole_213, if_neg (by omega), if_neg (by decide), wr_eq (x := 4 * (i : Int)) (by omega) (by omega), wr_eq (x := 236 + 4 * (i : Int)) (by omega) (by omega), wr_eq (x := 4 * (j : Int)) (by omega) (by omega), wr_eq (x := 236 + 4 * (j : Int)) (by omega) (by omega), gib (by omega) (by omega), gib (by omega) (by omega), show (236 + 4 * (i : Int)).toNat = 236 + 4 * i by omega, show (236 + 4 * (j : Int)).toNat = 236 + 4 * j by omega, if_neg e, iw ()]
            · by_cases ej : j' = j
              · rw [ej]; exact e
              · exact J2 j' (by omega)
        · refine ⟨0, ?_, Or.inr ⟨rfl, J1⟩⟩
          show pl_M_isWhole_213 _ (n' + 1) 0 i j g = pl_M_isWhole_213 _ n' 0 i (j + 1 : Nat) g
          rw [pl_M_isWhole_213, if_neg (by omega), if_pos rfl]
          unfold pj_M_isWhole_255
          rw [iw ()]
      · intro n' y J'
        refine ⟨y, ?_, J'⟩
        show pl_M_isWhole_213 _ (n' + 1) y i (i : Nat) g = _
        rw [pl_M_isWhole_213, if_pos (Int.le_refl _)]
      · rcases J with ⟨a, _⟩ | ⟨a, _⟩
        · exact Or.inl ⟨a, a, fun j hj => by omega⟩
        · exact Or.inr ⟨a, Or.inl a⟩
    obtain ⟨y, y1, y2⟩ := inn
    refine ⟨y, ?_, ?_⟩
    · show pl_M_isWhole_194 K (n + 1) x i g = pl_M_isWhole_194 K n y (i + 1 : Nat) g
      rw [pl_M_isWhole_194, e4, if_neg (by omega), if_neg (by omega), y1, wr_eq (by omega) (by omega)]; rfl
    · rcases J with ⟨j1, j2, j3⟩ | ⟨j1, j2⟩
      · rcases y2 with ⟨z1, z2, z3⟩ | ⟨z1, z2⟩
        · refine Or.inl ⟨z1, j2, fun a ha b hb => ?_⟩
          by_cases ea : a = i
          · rw [ea] at hb ⊢; exact z3 b hb
          · exact j3 a (by omega) b hb
        · refine Or.inr ⟨z1, fun v => ?_⟩
          rcases z2 with z2 | ⟨j, z2, z3⟩
          · omega
          · exact v.2 i hi j z2 z3
      · rcases y2 with ⟨z1, z2, z3⟩ | ⟨z1, z2⟩
        · omega
        · exact Or.inr ⟨z1, j2⟩
  · intro n x J
    refine ⟨x, ?_, J⟩
    show pl_M_isWhole_194 K (n + 1) x (n4 : Nat) g = _
    rw [pl_M_isWhole_194, e4, if_pos (Int.le_refl _)]
  · rcases x2v with rfl | rfl
    · exact Or.inr ⟨rfl, fun v => by have := v.1; omega⟩
    · exact Or.inl ⟨rfl, rfl, fun i hi => by omega⟩
end Ub
