/-! the same over any closed layout: for constructors -/
abbrev ia_O1 : Type := ia_O0 × Nat × Nat
def cl_ (D : Nat → Nat × Nat) : Prop := (∀ a, (D a).1 ≠ 999 → 64 ≤ a ∧ D a = kd_D a) ∧ (∀ e, (D e).1 = 3 → D (e + 1) = (100, 36) ∧ D (e + 2) = (100, 36) ∧ D (e + 3) = (100, 36) ∧ D (e + 4) = (103, 36) ∧ D (e + 5) = (100, 12) ∧ D (e + 6) = (100, 6) ∧ D (e + 7) = (100, 6) ∧ D (e + 8) = (100, 6) ∧ D (e + 9) = (100, 6) ∧ D (e + 10) = (100, 144) ∧ D (e + 11) = (100, 144)) ∧ ∀ e, (D e).1 = 4 → D (e + 1) = (100, 12) ∧ D (e + 2) = (100, 12) ∧ D (e + 3) = (103, 36)
def ge_ (D : Nat → Nat × Nat) (w : ia_O1) (h : ia_H) : Prop := (∀ a, (D a).1 ≠ 999 → ia_k h a = D a) ∧ ia_n h = w.2.1 ∧ ia_m h = w.2.2 ∧ (∀ e k f, ((D e).1 = 3 ∨ (D e).1 = 4) → rd_o (D e).1 k = some f → ia_r h e k = e + f) ∧ ∀ a, a < 64 → ia_k h a = w.1.1 a ∧ ia_i h a = w.1.2 a
theorem hgd_nm {D : Nat → Nat × Nat} (hD : cl_ D) {w : ia_O1} {h h' : ia_H} (g : ge_ D w h) (g' : ge_ D w h') : ia_n h' = ia_n h ∧ ia_m h' = ia_m h := ⟨g'.2.1.trans g.2.1.symm, g'.2.2.1.trans g.2.2.1.symm⟩
theorem hgd_le {D : Nat → Nat × Nat} (hD : cl_ D) {w : ia_O1} {h h' : ia_H} (g : ge_ D w h) (g' : ge_ D w h') : ia_n h ≤ ia_n h' ∧ ia_m h ≤ ia_m h' := ⟨Nat.le_of_eq (hgd_nm hD g g').1.symm, Nat.le_of_eq (hgd_nm hD g g').2.symm⟩
theorem hgd_wI {D : Nat → Nat × Nat} (hD : cl_ D) {w : ia_O1} {h : ia_H} {a i : Nat} {x : Int32} (g : ge_ D w h) (ha : 64 ≤ a) : ge_ D w (ia_wI h a i x) := by
  obtain ⟨g1, g2, g3, g4, g5⟩ := g
  exact ⟨g1, g2, g3, g4, fun b hb => ⟨(g5 b hb).1, (ia_up_b (by omega)).trans (g5 b hb).2⟩⟩
theorem hgd_wL {D : Nat → Nat × Nat} (hD : cl_ D) {w : ia_O1} {h : ia_H} {a i : Nat} {x : Int64} (g : ge_ D w h) : ge_ D w (ia_wL h a i x) := g
theorem hkd_pr {D : Nat → Nat × Nat} (hD : cl_ D) {a k : Nat} (p : (D a).1 = k) (hk : k ≠ 999 := by decide) : D a = (k, (kd_D a).2) := by
  rw [← (hD.1 a (by rw [p]; exact hk)).2, ← p]
theorem hgk_3 {D : Nat → Nat × Nat} (hD : cl_ D) {w : ia_O1} {h : ia_H} {e : Nat} (g : ge_ D w h) (pe : (D e).1 = 3) : (ia_k h e).1 = 3 := by
  rw [g.1 e (by rw [pe]; decide)]
  exact pe
theorem hgk_4 {D : Nat → Nat × Nat} (hD : cl_ D) {w : ia_O1} {h : ia_H} {e : Nat} (g : ge_ D w h) (pe : (D e).1 = 4) : (ia_k h e).1 = 4 := by
  rw [g.1 e (by rw [pe]; decide)]
  exact pe
theorem hko_3 {D : Nat → Nat × Nat} (hD : cl_ D) {e : Nat} (pe : (D e).1 = 3) : 64 ≤ e := (hD.1 e (by rw [pe]; decide)).1
theorem hko_4 {D : Nat → Nat × Nat} (hD : cl_ D) {e : Nat} (pe : (D e).1 = 4) : 64 ≤ e := (hD.1 e (by rw [pe]; decide)).1
theorem hkx_100 {D : Nat → Nat × Nat} (hD : cl_ D) {a n : Nat} (pa : D a = (100, n)) : 64 ≤ a := (hD.1 a (by rw [pa]; intro q; cases q)).1
theorem hga_i100 {D : Nat → Nat × Nat} (hD : cl_ D) {w : ia_O1} {h : ia_H} {a n : Nat} {i : Int32} (g : ge_ D w h) (pa : D a = (100, n)) (c : ia_ib i n = true) : (ia_k h a).1 = 100 ∧ vp_in i (ia_k h a).2 := by
  rw [g.1 a (by rw [pa]; intro q; cases q), pa]
  exact ⟨rfl, ia_ib_in c⟩
theorem hga_s100 {D : Nat → Nat × Nat} (hD : cl_ D) {w : ia_O1} {h : ia_H} {a n : Nat} {i : Int32} (g : ge_ D w h) (pa : D a = (100, n)) (c : ia_ib i n = true) : 64 ≤ a ∧ (ia_k h a).1 = 100 ∧ vp_in i (ia_k h a).2 := ⟨hkx_100 hD pa, hga_i100 hD g pa c⟩
theorem hkx_103 {D : Nat → Nat × Nat} (hD : cl_ D) {a n : Nat} (pa : D a = (103, n)) : 64 ≤ a := (hD.1 a (by rw [pa]; intro q; cases q)).1
theorem hga_i103 {D : Nat → Nat × Nat} (hD : cl_ D) {w : ia_O1} {h : ia_H} {a n : Nat} {i : Int32} (g : ge_ D w h) (pa : D a = (103, n)) (c : ia_ib i n = true) : (ia_k h a).1 = 103 ∧ vp_in i (ia_k h a).2 := by
  rw [g.1 a (by rw [pa]; intro q; cases q), pa]
  exact ⟨rfl, ia_ib_in c⟩
theorem hga_s103 {D : Nat → Nat × Nat} (hD : cl_ D) {w : ia_O1} {h : ia_H} {a n : Nat} {i : Int32} (g : ge_ D w h) (pa : D a = (103, n)) (c : ia_ib i n = true) : 64 ≤ a ∧ (ia_k h a).1 = 103 ∧ vp_in i (ia_k h a).2 := ⟨hkx_103 hD pa, hga_i103 hD g pa c⟩
theorem hga_len {D : Nat → Nat × Nat} (hD : cl_ D) {w : ia_O1} {h : ia_H} {a k n : Nat} (g : ge_ D w h) (pa : D a = (k, n)) (hk : 100 ≤ k ∧ k < 104) : 100 ≤ (ia_k h a).1 ∧ (ia_k h a).1 < 104 := by
  rw [g.1 a (by rw [pa]; show k ≠ 999; omega), pa]
  exact hk
theorem hga_ln {D : Nat → Nat × Nat} (hD : cl_ D) {w : ia_O1} {h : ia_H} {a k n : Nat} (g : ge_ D w h) (pa : D a = (k, n)) (hk : 100 ≤ k ∧ k < 104) : (ia_k h a).2 = n := by
  rw [g.1 a (by rw [pa]; show k ≠ 999; omega), pa]
theorem hka_3_3 {D : Nat → Nat × Nat} (hD : cl_ D) {e : Nat} (pe : (D e).1 = 3) : D (e + 1) = (100, 36) := (hD.2.1 e pe).1
theorem hgr_3_3 {D : Nat → Nat × Nat} (hD : cl_ D) {w : ia_O1} {h : ia_H} {e : Nat} (g : ge_ D w h) (pe : (D e).1 = 3) : ia_r h e 3 = e + 1 := g.2.2.2.1 e 3 _ (Or.inl pe) (by rw [pe]; rfl)
theorem hka_3_4 {D : Nat → Nat × Nat} (hD : cl_ D) {e : Nat} (pe : (D e).1 = 3) : D (e + 2) = (100, 36) := (hD.2.1 e pe).2.1
theorem hgr_3_4 {D : Nat → Nat × Nat} (hD : cl_ D) {w : ia_O1} {h : ia_H} {e : Nat} (g : ge_ D w h) (pe : (D e).1 = 3) : ia_r h e 4 = e + 2 := g.2.2.2.1 e 4 _ (Or.inl pe) (by rw [pe]; rfl)
theorem hka_3_5 {D : Nat → Nat × Nat} (hD : cl_ D) {e : Nat} (pe : (D e).1 = 3) : D (e + 3) = (100, 36) := (hD.2.1 e pe).2.2.1
theorem hgr_3_5 {D : Nat → Nat × Nat} (hD : cl_ D) {w : ia_O1} {h : ia_H} {e : Nat} (g : ge_ D w h) (pe : (D e).1 = 3) : ia_r h e 5 = e + 3 := g.2.2.2.1 e 5 _ (Or.inl pe) (by rw [pe]; rfl)
theorem hka_3_6 {D : Nat → Nat × Nat} (hD : cl_ D) {e : Nat} (pe : (D e).1 = 3) : D (e + 4) = (103, 36) := (hD.2.1 e pe).2.2.2.1
theorem hgr_3_6 {D : Nat → Nat × Nat} (hD : cl_ D) {w : ia_O1} {h : ia_H} {e : Nat} (g : ge_ D w h) (pe : (D e).1 = 3) : ia_r h e 6 = e + 4 := g.2.2.2.1 e 6 _ (Or.inl pe) (by rw [pe]; rfl)
theorem hka_3_9 {D : Nat → Nat × Nat} (hD : cl_ D) {e : Nat} (pe : (D e).1 = 3) : D (e + 5) = (100, 12) := (hD.2.1 e pe).2.2.2.2.1
theorem hgr_3_9 {D : Nat → Nat × Nat} (hD : cl_ D) {w : ia_O1} {h : ia_H} {e : Nat} (g : ge_ D w h) (pe : (D e).1 = 3) : ia_r h e 9 = e + 5 := g.2.2.2.1 e 9 _ (Or.inl pe) (by rw [pe]; rfl)
theorem hka_3_12 {D : Nat → Nat × Nat} (hD : cl_ D) {e : Nat} (pe : (D e).1 = 3) : D (e + 6) = (100, 6) := (hD.2.1 e pe).2.2.2.2.2.1
theorem hgr_3_12 {D : Nat → Nat × Nat} (hD : cl_ D) {w : ia_O1} {h : ia_H} {e : Nat} (g : ge_ D w h) (pe : (D e).1 = 3) : ia_r h e 12 = e + 6 := g.2.2.2.1 e 12 _ (Or.inl pe) (by rw [pe]; rfl)
theorem hka_3_13 {D : Nat → Nat × Nat} (hD : cl_ D) {e : Nat} (pe : (D e).1 = 3) : D (e + 7) = (100, 6) := (hD.2.1 e pe).2.2.2.2.2.2.1
theorem hgr_3_13 {D : Nat → Nat × Nat} (hD : cl_ D) {w : ia_O1} {h : ia_H} {e : Nat} (g : ge_ D w h) (pe : (D e).1 = 3) : ia_r h e 13 = e + 7 := g.2.2.2.1 e 13 _ (Or.inl pe) (by rw [pe]; rfl)
theorem hka_3_14 {D : Nat → Nat × Nat} (hD : cl_ D) {e : Nat} (pe : (D e).1 = 3) : D (e + 8) = (100, 6) := (hD.2.1 e pe).2.2.2.2.2.2.2.1
theorem hgr_3_14 {D : Nat → Nat × Nat} (hD : cl_ D) {w : ia_O1} {h : ia_H} {e : Nat} (g : ge_ D w h) (pe : (D e).1 = 3) : ia_r h e 14 = e + 8 := g.2.2.2.1 e 14 _ (Or.inl pe) (by rw [pe]; rfl)
theorem hka_3_15 {D : Nat → Nat × Nat} (hD : cl_ D) {e : Nat} (pe : (D e).1 = 3) : D (e + 9) = (100, 6) := (hD.2.1 e pe).2.2.2.2.2.2.2.2.1
theorem hgr_3_15 {D : Nat → Nat × Nat} (hD : cl_ D) {w : ia_O1} {h : ia_H} {e : Nat} (g : ge_ D w h) (pe : (D e).1 = 3) : ia_r h e 15 = e + 9 := g.2.2.2.1 e 15 _ (Or.inl pe) (by rw [pe]; rfl)
theorem hka_3_16 {D : Nat → Nat × Nat} (hD : cl_ D) {e : Nat} (pe : (D e).1 = 3) : D (e + 10) = (100, 144) := (hD.2.1 e pe).2.2.2.2.2.2.2.2.2.1
theorem hgr_3_16 {D : Nat → Nat × Nat} (hD : cl_ D) {w : ia_O1} {h : ia_H} {e : Nat} (g : ge_ D w h) (pe : (D e).1 = 3) : ia_r h e 16 = e + 10 := g.2.2.2.1 e 16 _ (Or.inl pe) (by rw [pe]; rfl)
theorem hka_3_17 {D : Nat → Nat × Nat} (hD : cl_ D) {e : Nat} (pe : (D e).1 = 3) : D (e + 11) = (100, 144) := (hD.2.1 e pe).2.2.2.2.2.2.2.2.2.2
theorem hgr_3_17 {D : Nat → Nat × Nat} (hD : cl_ D) {w : ia_O1} {h : ia_H} {e : Nat} (g : ge_ D w h) (pe : (D e).1 = 3) : ia_r h e 17 = e + 11 := g.2.2.2.1 e 17 _ (Or.inl pe) (by rw [pe]; rfl)
theorem hka_4_5 {D : Nat → Nat × Nat} (hD : cl_ D) {e : Nat} (pe : (D e).1 = 4) : D (e + 1) = (100, 12) := (hD.2.2 e pe).1
theorem hgr_4_5 {D : Nat → Nat × Nat} (hD : cl_ D) {w : ia_O1} {h : ia_H} {e : Nat} (g : ge_ D w h) (pe : (D e).1 = 4) : ia_r h e 5 = e + 1 := g.2.2.2.1 e 5 _ (Or.inr pe) (by rw [pe]; rfl)
theorem hka_4_6 {D : Nat → Nat × Nat} (hD : cl_ D) {e : Nat} (pe : (D e).1 = 4) : D (e + 2) = (100, 12) := (hD.2.2 e pe).2.1
theorem hgr_4_6 {D : Nat → Nat × Nat} (hD : cl_ D) {w : ia_O1} {h : ia_H} {e : Nat} (g : ge_ D w h) (pe : (D e).1 = 4) : ia_r h e 6 = e + 2 := g.2.2.2.1 e 6 _ (Or.inr pe) (by rw [pe]; rfl)
theorem hka_4_8 {D : Nat → Nat × Nat} (hD : cl_ D) {e : Nat} (pe : (D e).1 = 4) : D (e + 3) = (103, 36) := (hD.2.2 e pe).2.2
theorem hgr_4_8 {D : Nat → Nat × Nat} (hD : cl_ D) {w : ia_O1} {h : ia_H} {e : Nat} (g : ge_ D w h) (pe : (D e).1 = 4) : ia_r h e 8 = e + 3 := g.2.2.2.1 e 8 _ (Or.inr pe) (by rw [pe]; rfl)
