/-! the end of a lake: both tests -/
section Uc
variable {h g : pH}
theorem m_isWhole {w hn : Int} {m n4 : Nat} (q : sz w hn) (e0 : pi g 420 0 = w) (e1 : pi g 420 1 = hn) (em : pi g 417 11 = m) (m68 : m ≤ 67) (cv : ∀ k, k < m → (0 ≤ pi g 421 (2 * k) ∧ pi g 421 (2 * k) ≤ 35) ∧ (0 ≤ pi g 421 (2 * k + 1) ∧ pi g 421 (2 * k + 1) ≤ 35)) (e4 : pi g 420 4 = n4) (n6 : n4 ≤ 6) : ∃ x g', pf_M_isWhole g = some (x, g') ∧ fr (fun b => b = 420) g g' ∧ (∀ j, (j < 152 ∨ 224 ≤ j) → pi g' 420 j = pi g 420 j) ∧ ((x = 1 ∧ (pi g 417 9 < w * hn ∧ (∀ k, k < m → cGd w (pi g 421) k) ∧ sDs (fun t => pi g 420 (236 + 4 * t)) n4) ∧ ∀ j, pi g' 420 j = cif (cMk w (pi g 421) m j) 1 (pi g 420 j)) ∨ (x = 0 ∧ ¬ (pi g 417 9 < w * hn ∧ (∀ k, k < m → cGd w (pi g 421) k) ∧ sDs (fun t => pi g 420 (236 + 4 * t)) n4))) := by
  have z := sz_mul q
  unfold pf_M_isWhole
  rw [e0, e1, wr_eq (by omega) (by omega)]
  by_cases y : w * hn ≤ pi g 417 9
  · rw [if_pos y]
    obtain ⟨x, s1, s2⟩ := m_shps (g := g) (x2 := 0) (K := fun x2 h => ia_gd (pz1 x2) (some (x2, h))) e4 n6 (Or.inl rfl)
    have hd : ∀ K : Int → pH → Option (Int × pH), pl_M_isWhole_30 K fu_ w 0 0 g = K 0 g := fun K => by
      rw [show fu_ = 1099511627775 + 1 from rfl, pl_M_isWhole_30, em]
      by_cases u : (m : Int) ≤ 0
      · rw [if_pos u]
      · rw [if_neg u, if_neg (by decide), if_pos rfl]
    rw [hd, s1]
    rcases s2 with ⟨_, s2, _⟩ | ⟨s2, _⟩
    · omega
    · refine ⟨0, g, by rw [s2]; rfl, fr_refl, fun _ _ => rfl, Or.inr ⟨rfl, fun v => by have := v.1; omega⟩⟩
  · rw [if_neg y]
    obtain ⟨x, g1, a1, a2, a3, a4⟩ := m_crks (g := g) (w := w) (K := fun x2 h => pl_M_isWhole_194 (fun x2 h => ia_gd (pz1 x2) (some (x2, h))) fu_ x2 0 h) ⟨q.1, q.2.1⟩ em m68 cv
    rw [a1]
    obtain ⟨x', s1, s2⟩ := m_shps (g := g1) (x2 := x) (K := fun x2 h => ia_gd (pz1 x2) (some (x2, h))) (by rw [a3 4 (by decide)]; exact e4) n6 (by rcases a4 with ⟨a, _⟩ | ⟨a, _⟩; exact Or.inr a; exact Or.inl a)
    rw [s1]
    have es : (fun t => pi g1 420 (236 + 4 * t)) = (fun t => pi g 420 (236 + 4 * t)) := funext fun t => a3 _ (by omega)
    rw [es] at s2
    rcases s2 with ⟨y1, y2, y3⟩ | ⟨y1, y2⟩
    · rcases a4 with ⟨_, b2, b3⟩ | ⟨b1, _⟩
      · exact ⟨1, g1, by rw [y1]; rfl, a2, a3, Or.inl ⟨rfl, ⟨by omega, b2, y3⟩, b3⟩⟩
      · omega
    · refine ⟨0, g1, by rw [y1]; rfl, a2, a3, Or.inr ⟨rfl, fun v => ?_⟩⟩
      rcases a4 with ⟨b1, b2, b3⟩ | ⟨b1, k, b2, b3⟩
      · exact y2 ⟨b1, v.2.2⟩
      · exact b3 (v.2.1 k b2)
theorem c_steps2 {w x y : Int} (e : pi h 280 0 = w) (w2 : 2 ≤ w ∧ w ≤ 6) (x0 : 0 ≤ x ∧ x < 100) (y0 : 0 ≤ y ∧ y < 100) : pf_La_steps 280 x y h = some (stp w x y) := by
  have ab : ∀ v : Int, -1000 ≤ v → v ≤ 1000 → pabs v = v.natAbs := fun v _ _ => by
    unfold pabs
    split
    · omega
    · rw [wr_eq (by omega) (by omega)]; omega
  unfold pf_La_steps pj_La_steps_16
  rw [e, if_pos (by omega)]
  simp (disch := omega) only [gnz, tm_p, td_p]
  unfold stp
  have : w = 2 ∨ w = 3 ∨ w = 4 ∨ w = 5 ∨ w = 6 := by omega
  rcases this with e | e | e | e | e <;> rw [e] <;> simp (disch := omega) only [wr_eq, ab]
/-- cracks that lie between cells beside each other -/
def cP (h : pH) (w : Int) (x : Nat) : Prop := ∀ y : Nat, y < x → tb (pl h 284 x) y = true → stp w x y = 1
theorem c_amiss {w hn : Int} {n4 : Nat} (q : sz w hn) (ew : pi h 280 0 = w) (eh : pi h 280 1 = hn) (e11 : pi h 280 11 = n4) (n6 : n4 ≤ 6) : pf_La_isAmiss 280 h = some (cif ((∀ c : Nat, w * hn ≤ c → c < 64 → ¬ tb (pl h 280 8) c = true) ∧ (∀ x, x < 36 → cP h w x) ∧ sDs (pi h 286) n4) 0 1) := by
  have z := sz_mul q
  have in26 : ∀ {K : Int → Option Int} {x : Nat}, x < 36 → pl_La_isAmiss_26 280 h (some 1) K fu_ x 0 = cif (cP h w x) (K x) (some 1) := fun {K x} hx => by
    refine lpf (F := fun n (y : Nat) (_ : Unit) => pl_La_isAmiss_26 280 h (some 1) K n x y) (Q := fun r => r = cif (cP h w x) (K x) (some 1)) x (fun y _ => ∀ y', y' < y → tb (pl h 284 x) y' = true → stp w x y' = 1) ?_ ?_ fu_ 0 () (by omega) (by unfold fu_; omega) (fun y' hy => by omega)
    · intro n y _ hy J
      have iw : ∀ _ : Unit, wr ((y : Int) + 1) = ((y + 1 : Nat) : Int) := fun _ => by rw [wr_eq (by omega) (by omega)]; rfl
      have hd : pl_La_isAmiss_26 280 h (some 1) K (n + 1) x y = (if tb (pl h 284 x) y = true then (if stp w x y = 1 then pl_La_isAmiss_26 280 h (some 1) K n x ((y + 1 : Nat) : Int) else some 1) else pl_La_isAmiss_26 280 h (some 1) K n x ((y + 1 : Nat) : Int)) := by
        rw [pl_La_isAmiss_26, if_neg (by omega), gib (by omega) (by omega), Int.toNat_natCast, c_hasBit (by omega), bsm, if1, c_steps2 ew ⟨q.1, q.2.1⟩ (by omega) (by omega), bsm, iw ()]
      have nxt : (tb (pl h 284 x) y = true → stp w x y = 1) → ∀ y', y' < y + 1 → tb (pl h 284 x) y' = true → stp w x y' = 1 := fun v y' hy' u => by
        by_cases e : y' = y
        · rw [e] at u ⊢; exact v u
        · exact J y' (by omega) u
      show pl_La_isAmiss_26 280 h (some 1) K (n + 1) x y = _ ∨ ∃ t' : Unit, pl_La_isAmiss_26 280 h (some 1) K (n + 1) x y = pl_La_isAmiss_26 280 h (some 1) K n x (y + 1 : Nat) ∧ _
      rw [hd]
      by_cases u : tb (pl h 284 x) y = true
      · rw [if_pos u]
        by_cases v : stp w x y = 1
        · rw [if_pos v]; exact Or.inr ⟨(), rfl, nxt (fun _ => v)⟩
        · rw [if_neg v, cif_f (fun P => v (P y hy u))]; exact Or.inl rfl
      · rw [if_neg u]; exact Or.inr ⟨(), rfl, nxt (fun v => absurd v u)⟩
    · intro n _ J
      show pl_La_isAmiss_26 280 h (some 1) K (n + 1) x (x : Nat) = _
      rw [pl_La_isAmiss_26, if_pos (Int.le_refl _), cif_t (show cP h w x from J)]
  have in18 : ∀ {K : Option Int}, pl_La_isAmiss_18 280 h (some 1) K fu_ 0 = cif (∀ x, x < 36 → cP h w x) K (some 1) := fun {K} => by
    refine lpf (F := fun n (x : Nat) (_ : Unit) => pl_La_isAmiss_18 280 h (some 1) K n x) (Q := fun r => r = cif (∀ x, x < 36 → cP h w x) K (some 1)) 36 (fun x _ => ∀ x', x' < x → cP h w x') ?_ ?_ fu_ 0 () (by omega) (by unfold fu_; omega) (fun y' hy => by omega)
    · intro n x _ hx J
      show pl_La_isAmiss_18 280 h (some 1) K (n + 1) x = _ ∨ ∃ t' : Unit, pl_La_isAmiss_18 280 h (some 1) K (n + 1) x = pl_La_isAmiss_18 280 h (some 1) K n (x + 1 : Nat) ∧ _
      rw [pl_La_isAmiss_18, if_neg (by omega), in26 hx, wr_eq (by omega) (by omega)]
      rcases Classical.em (cP h w x) with P | P
      · rw [cif_t P]
        exact Or.inr ⟨(), rfl, fun x' hx' => by
          by_cases e : x' = x
          · rw [e]; exact P
          · exact J x' (by omega)⟩
      · rw [cif_f P, cif_f (fun v => P (v x hx))]; exact Or.inl rfl
    · intro n _ J
      show pl_La_isAmiss_18 280 h (some 1) K (n + 1) (36 : Nat) = _
      rw [pl_La_isAmiss_18, if_pos (by decide), cif_t J]
  have in80 : ∀ {K : Int → Option Int} {x : Nat}, x < n4 → pl_La_isAmiss_80 280 h (some 1) K fu_ x 0 = cif (∀ j, j < x → pi h 286 x ≠ pi h 286 j) (K x) (some 1) := fun {K x} hx => by
    refine lpf (F := fun n (y : Nat) (_ : Unit) => pl_La_isAmiss_80 280 h (some 1) K n x y) (Q := fun r => r = cif (∀ j, j < x → pi h 286 x ≠ pi h 286 j) (K x) (some 1)) x (fun y _ => ∀ j, j < y → pi h 286 x ≠ pi h 286 j) ?_ ?_ fu_ 0 () (by omega) (by unfold fu_; omega) (fun y' hy => by omega)
    · intro n y _ hy J
      have hd : pl_La_isAmiss_80 280 h (some 1) K (n + 1) x y = (if pi h 286 x = pi h 286 y then some 1 else pl_La_isAmiss_80 280 h (some 1) K n x ((y + 1 : Nat) : Int)) := by
        rw [pl_La_isAmiss_80, if_neg (by omega), gib (by omega) (by omega), gib (by omega) (by omega), Int.toNat_natCast, Int.toNat_natCast, wr_eq (by omega) (by omega)]; rfl
      show pl_La_isAmiss_80 280 h (some 1) K (n + 1) x y = _ ∨ ∃ t' : Unit, pl_La_isAmiss_80 280 h (some 1) K (n + 1) x y = pl_La_isAmiss_80 280 h (some 1) K n x (y + 1 : Nat) ∧ _
      rw [hd]
      by_cases u : pi h 286 x = pi h 286 y
      · rw [if_pos u, cif_f (fun v => v y hy u)]; exact Or.inl rfl
      · rw [if_neg u]
        exact Or.inr ⟨(), rfl, fun j hj => by
          by_cases e : j = y
          · rw [e]; exact u
          · exact J j (by omega)⟩
    · intro n _ J
      show pl_La_isAmiss_80 280 h (some 1) K (n + 1) x (x : Nat) = _
      rw [pl_La_isAmiss_80, if_pos (Int.le_refl _), cif_t J]
  have in70 : pl_La_isAmiss_70 280 h (some 1) (some 0) fu_ 0 = cif (sDs (pi h 286) n4) (some 0) (some 1) := by
    refine lpf (F := fun n (x : Nat) (_ : Unit) => pl_La_isAmiss_70 280 h (some 1) (some 0) n x) (Q := fun r => r = cif (sDs (pi h 286) n4) (some 0) (some 1)) n4 (fun x _ => sDs (pi h 286) x) ?_ ?_ fu_ 0 () (by omega) (by unfold fu_; omega) (fun y' hy => by omega)
    · intro n x _ hx J
      show pl_La_isAmiss_70 280 h (some 1) (some 0) (n + 1) x = _ ∨ ∃ t' : Unit, pl_La_isAmiss_70 280 h (some 1) (some 0) (n + 1) x = pl_La_isAmiss_70 280 h (some 1) (some 0) n (x + 1 : Nat) ∧ _
      rw [pl_La_isAmiss_70, e11, if_neg (by omega), in80 hx, wr_eq (by omega) (by omega)]
      rcases Classical.em (∀ j, j < x → pi h 286 x ≠ pi h 286 j) with P | P
      · rw [cif_t P]
        exact Or.inr ⟨(), rfl, fun i hi j hj => by
          by_cases e : i = x
          · rw [e] at hj ⊢; exact P j hj
          · exact J i (by omega) j hj⟩
      · rw [cif_f P, cif_f (fun v => P (v x hx))]; exact Or.inl rfl
    · intro n _ J
      show pl_La_isAmiss_70 280 h (some 1) (some 0) (n + 1) (n4 : Nat) = _
      rw [pl_La_isAmiss_70, e11, if_pos (Int.le_refl _), cif_t J]
  unfold pf_La_isAmiss pf_La_cells
  rw [ew, eh, wr_eq (by omega) (by omega), bsm, in18, in70]
  obtain ⟨c, ec⟩ : ∃ c : Nat, w * hn = c := ⟨(w * hn).toNat, by omega⟩
  rw [ec]
  have nm : plc (plush (pl h 280 8) (c : Int)) 0 = 0 ↔ ∀ c' : Nat, (c : Int) ≤ c' → c' < 64 → ¬ tb (pl h 280 8) c' = true := by
    rw [plc_0]
    constructor
    · intro e c' h1 h2 u
      have : tb (plush (pl h 280 8) (c : Int)) (c' - c) = tb (pl h 280 8) (c + (c' - c)) := tb_ush (by omega)
      rw [e, tb_0, show c + (c' - c) = c' by omega, u] at this
      exact absurd this (by decide)
    · intro a
      refine tb_ext (fun i hi => ?_)
      rw [tb_ush (by omega), tb_0]
      by_cases u : c + i < 64
      · have := a (c + i) (by omega) u
        cases e : tb (pl h 280 8) (c + i)
        · rfl
        · exact absurd e this
      · exact tb_hi (by omega)
  rcases Classical.em (∀ c' : Nat, (c : Int) ≤ c' → c' < 64 → ¬ tb (pl h 280 8) c' = true) with A | A
  · rw [if_pos (nm.mpr A)]
    rcases Classical.em (∀ x, x < 36 → cP h w x) with P | P
    · rw [cif_t P]
      rcases Classical.em (sDs (pi h 286) n4) with S | S
      · rw [cif_t S, cif_t ⟨A, P, S⟩]
      · rw [cif_f S, cif_f (fun v => S v.2.2)]
    · rw [cif_f P, cif_f (fun v => P v.2.1)]
  · rw [if_neg (fun v => A (nm.mp v)), cif_f (fun v => A v.1)]
end Uc
