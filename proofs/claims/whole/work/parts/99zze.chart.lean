/-! the class's chart of a lake -/
def JS (h h' : pH) (c k : Nat) (v : Int) : Prop := fr (fun b => b = 290 ∨ b = 291) h h' ∧ (∀ j, j ≠ 4 * c + k → pi h' 290 j = pi h 290 j ∧ pi h' 291 j = pi h 291 j) ∧ pi h' 290 (4 * c + k) = (if v = -1 then pi h 290 (4 * c + k) else v) ∧ pi h' 291 (4 * c + k) = (if v = -1 then pi h 291 (4 * c + k) else (if tb (pl h 284 c) v.toNat = true then -1 else v))
section Ua
variable {h : pH}
theorem c_join {c k : Nat} {x3 x4 v : Int} (c36 : c < 36) (k4 : k < 4) (hv : (x3 = 0 ∧ v = -1) ∨ (x3 = 1 ∧ x4 = v ∧ 0 ≤ v ∧ v < 36)) : ∃ h', pf_La_join 280 c k x3 x4 h = some h' ∧ JS h h' c k v := by
  unfold pf_La_join
  rcases hv with ⟨x0, v1⟩ | ⟨x1, x4v, v0, v36⟩
  · rw [if_pos x0]
    exact ⟨h, rfl, fr_refl, fun _ _ => ⟨rfl, rfl⟩, by rw [if_pos v1], by rw [if_pos v1]⟩
  · obtain ⟨w, rfl⟩ : ∃ w : Nat, v = w := ⟨v.toNat, by omega⟩
    rw [if_neg (by omega), x4v, wr_eq (x := (c : Int) * 4) (by omega) (by omega), wr_eq (x := (c : Int) * 4 + k) (by omega) (by omega), gib (by omega) (by omega), gib (by omega) (by omega), show ((c : Int) * 4 + k).toNat = 4 * c + k by omega, Int.toNat_natCast, c_hasBit (by omega), bsm]
    show ∃ h', (if (if tb (pl h 284 c) w = true then (1 : Int) else 0) = 0 then ia_gd _ (some (pwI (pwI h 290 (4 * c + k) w) 291 (4 * c + k) w)) else ia_gd _ (some (pwI (pwI h 290 (4 * c + k) w) 291 (4 * c + k) (-1)))) = some h' ∧ _
    rw [if1, gib (by omega) (by omega), gib (by omega) (by omega)]
    have nv : ¬ (w : Int) = -1 := by omega
    have gen : ∀ z : Int, z = (if tb (pl h 284 c) w = true then -1 else (w : Int)) → JS h (pwI (pwI h 290 (4 * c + k) w) 291 (4 * c + k) z) c k w := fun z hz => by
      refine ⟨fr_wI (fr_wI fr_refl (Or.inl rfl)) (Or.inr rfl), fun j hj => ⟨by rw [pi_wIa (by decide), pi_wIi hj], by rw [pi_wIi hj, pi_wIa (by decide)]⟩, ?_, ?_⟩
      · rw [if_neg nv, pi_wIa (by decide), pi_wIs]
      · rw [if_neg nv, pi_wIs, Int.toNat_natCast]; exact hz
    by_cases y : tb (pl h 284 c) w = true
    · rw [if_pos y]
      exact ⟨_, rfl, gen _ (by rw [if_pos y])⟩
    · rw [if_neg y]
      exact ⟨_, rfl, gen _ (by rw [if_neg y])⟩
theorem geo {w hn x y : Nat} (q : 2 ≤ w ∧ w ≤ 6 ∧ 2 ≤ hn ∧ hn ≤ 6) (hx : x < w) (hy : y < hn) : (y * w + x < w * hn ∧ w * hn ≤ 36) ∧ be w hn (y * w + x : Nat) 0 = (if y = 0 then -1 else ((y * w + x : Nat) : Int) - w) ∧ be w hn (y * w + x : Nat) 1 = (if x = 0 then -1 else ((y * w + x : Nat) : Int) - 1) ∧ be w hn (y * w + x : Nat) 2 = (if w ≤ x + 1 then -1 else ((y * w + x : Nat) : Int) + 1) ∧ be w hn (y * w + x : Nat) 3 = (if hn ≤ y + 1 then -1 else ((y * w + x : Nat) : Int) + w) := by
  have e0 : be w hn (y * w + x : Nat) 0 = (if ((y * w + x : Nat) : Int) < w then -1 else ((y * w + x : Nat) : Int) - w) := rfl
  have e1 : be w hn (y * w + x : Nat) 1 = (if ((y * w + x : Nat) : Int) % w = 0 then -1 else ((y * w + x : Nat) : Int) - 1) := rfl
  have e2 : be w hn (y * w + x : Nat) 2 = (if ((y * w + x : Nat) : Int) % w = w - 1 then -1 else ((y * w + x : Nat) : Int) + 1) := rfl
  have e3 : be w hn (y * w + x : Nat) 3 = (if ((y * w + x : Nat) : Int) + w < w * hn then ((y * w + x : Nat) : Int) + w else -1) := rfl
  rw [e0, e1, e2, e3]
  clear e0 e1 e2 e3
  rcases (show w = 2 ∨ w = 3 ∨ w = 4 ∨ w = 5 ∨ w = 6 by omega) with rfl | rfl | rfl | rfl | rfl <;> refine ⟨by omega, ?_, ?_, ?_, ?_⟩ <;> (repeat' split) <;> omega
/-- the chart of the cells so far -/
def CHt (w hn : Nat) (C : Nat → Int64) (t : pH) (m : Nat) : Prop := (∀ c k : Nat, c < m → k < 4 → pi t 290 (4 * c + k) = be w hn c k ∧ pi t 291 (4 * c + k) = (if be w hn c k = -1 then -1 else (if tb (C c) (be w hn c k).toNat = true then -1 else be w hn c k))) ∧ ∀ j, 4 * m ≤ j → j < 144 → pi t 290 j = -1 ∧ pi t 291 j = -1
theorem JS_CHt {w hn c : Nat} {C : Nat → Int64} {t t1 t2 t3 t4 : pH} (c36 : c < 36) (eC : pl t 284 = C) (H : CHt w hn C t c) (a : JS t t1 c 0 (be w hn c 0)) (b : JS t1 t2 c 1 (be w hn c 1)) (d : JS t2 t3 c 2 (be w hn c 2)) (e : JS t3 t4 c 3 (be w hn c 3)) : CHt w hn C t4 (c + 1) := by
  obtain ⟨a1, a2, a3, a4⟩ := a
  obtain ⟨b1, b2, b3, b4⟩ := b
  obtain ⟨d1, d2, d3, d4⟩ := d
  obtain ⟨e1, e2, e3, e4⟩ := e
  obtain ⟨H1, H2⟩ := H
  have p1 : pl t1 284 = C := by rw [fr_fl a1 (by decide)]; exact eC
  have p2 : pl t2 284 = C := by rw [fr_fl b1 (by decide)]; exact p1
  have p3 : pl t3 284 = C := by rw [fr_fl d1 (by decide)]; exact p2
  rw [eC] at a4
  rw [p1] at b4
  rw [p2] at d4
  rw [p3] at e4
  have m1 : ∀ {x : Int}, (if x = -1 then -1 else x) = x := fun {x} => by split <;> omega
  refine ⟨fun c' k hc hk => ?_, fun j j1 j2 => ?_⟩
  · by_cases y : c' = c
    · rw [y]
      rcases (show k = 0 ∨ k = 1 ∨ k = 2 ∨ k = 3 by omega) with rfl | rfl | rfl | rfl
      · rw [(e2 _ (by omega)).1, (d2 _ (by omega)).1, (b2 _ (by omega)).1, a3, (H2 _ (by omega) (by omega)).1, m1, (e2 _ (by omega)).2, (d2 _ (by omega)).2, (b2 _ (by omega)).2, a4, (H2 _ (by omega) (by omega)).2]
        exact ⟨rfl, rfl⟩
      · rw [(e2 _ (by omega)).1, (d2 _ (by omega)).1, b3, (a2 _ (by omega)).1, (H2 _ (by omega) (by omega)).1, m1, (e2 _ (by omega)).2, (d2 _ (by omega)).2, b4, (a2 _ (by omega)).2, (H2 _ (by omega) (by omega)).2]
        exact ⟨rfl, rfl⟩
      · rw [(e2 _ (by omega)).1, d3, (b2 _ (by omega)).1, (a2 _ (by omega)).1, (H2 _ (by omega) (by omega)).1, m1, (e2 _ (by omega)).2, d4, (b2 _ (by omega)).2, (a2 _ (by omega)).2, (H2 _ (by omega) (by omega)).2]
        exact ⟨rfl, rfl⟩
      · rw [e3, (d2 _ (by omega)).1, (b2 _ (by omega)).1, (a2 _ (by omega)).1, (H2 _ (by omega) (by omega)).1, m1, e4, (d2 _ (by omega)).2, (b2 _ (by omega)).2, (a2 _ (by omega)).2, (H2 _ (by omega) (by omega)).2]
        exact ⟨rfl, rfl⟩
    · rw [(e2 _ (by omega)).1, (d2 _ (by omega)).1, (b2 _ (by omega)).1, (a2 _ (by omega)).1, (e2 _ (by omega)).2, (d2 _ (by omega)).2, (b2 _ (by omega)).2, (a2 _ (by omega)).2]
      exact H1 c' k (by omega) hk
  · rw [(e2 _ (by omega)).1, (d2 _ (by omega)).1, (b2 _ (by omega)).1, (a2 _ (by omega)).1, (e2 _ (by omega)).2, (d2 _ (by omega)).2, (b2 _ (by omega)).2, (a2 _ (by omega)).2]
    exact H2 j (by omega) j2
theorem c_chart {w hn : Nat} (q : 2 ≤ w ∧ w ≤ 6 ∧ 2 ≤ hn ∧ hn ≤ 6) (ew : pi h 280 0 = w) (eh : pi h 280 1 = hn) : ∃ h', pf_La_chart 280 h = some h' ∧ fr (fun b => b = 290 ∨ b = 291) h h' ∧ CHt w hn (pl h 284) h' (w * hn) := by
  unfold pf_La_chart
  obtain ⟨h1, a1, a2, a3⟩ := c_fill (a := 290) (N := 144) (v := -1) (h := h) (by decide +kernel) (by decide)
  obtain ⟨h2, b1, b2, b3⟩ := c_fill (a := 291) (N := 144) (v := -1) (h := h1) (by decide +kernel) (by decide)
  rw [a1, bsm, b1, bsm]
  have f2 : fr (fun b => b = 290 ∨ b = 291) h h2 := fr_trans (fr_mono a2 (fun b hb => Or.inl hb)) (fr_mono b2 (fun b hb => Or.inr hb))
  refine lpf (F := fun k (y : Nat) t => pl_La_chart_18 280 (fun h => some h) k y t) (Q := fun r => ∃ h', r = some h' ∧ fr (fun b => b = 290 ∨ b = 291) h h' ∧ CHt w hn (pl h 284) h' (w * hn)) hn (fun y t => fr (fun b => b = 290 ∨ b = 291) h t ∧ CHt w hn (pl h 284) t (y * w)) ?_ ?_ fu_ 0 h2 (by omega) (by unfold fu_; omega) ⟨f2, fun c k hc => by omega, fun j j1 j2 => ⟨by rw [fr_i b2 (by decide), a3, if_pos j2], by rw [b3, if_pos j2]⟩⟩
  · intro k y t hy ⟨f, H⟩
    right
    have iny : ∃ t', pl_La_chart_28 280 (fun x1 h => pl_La_chart_18 280 (fun h => some h) k (wr (x1 + 1)) h) fu_ y 0 t = pl_La_chart_18 280 (fun h => some h) k (wr ((y : Int) + 1)) t' ∧ fr (fun b => b = 290 ∨ b = 291) h t' ∧ CHt w hn (pl h 284) t' (y * w + w) := by
      refine lpf (F := fun k' (x : Nat) t => pl_La_chart_28 280 (fun x1 h => pl_La_chart_18 280 (fun h => some h) k (wr (x1 + 1)) h) k' y x t) (Q := fun r => ∃ t', r = pl_La_chart_18 280 (fun h => some h) k (wr ((y : Int) + 1)) t' ∧ fr (fun b => b = 290 ∨ b = 291) h t' ∧ CHt w hn (pl h 284) t' (y * w + w)) w (fun x t => fr (fun b => b = 290 ∨ b = 291) h t ∧ CHt w hn (pl h 284) t (y * w + x)) ?_ ?_ fu_ 0 t (by omega) (by unfold fu_; omega) ⟨f, H⟩
      · intro k' x t hx ⟨f, H⟩
        right
        obtain ⟨g0, g1, g2, g3, g4⟩ := geo q hx hy
        have cw : ((y : Int) * w + x) = ((y * w + x : Nat) : Int) := by rw [Int.natCast_add, Int.natCast_mul]
        have yw1 : y ≠ 0 → w ≤ y * w + x := fun u => Nat.le_trans (Nat.le_mul_of_pos_left w (Nat.pos_of_ne_zero u)) (Nat.le_add_right _ _)
        generalize hc : y * w + x = c at *
        have c36 : c < 36 := by omega
        have ew' : ∀ T, fr (fun b => b = 290 ∨ b = 291) h T → pi T 280 0 = w ∧ pi T 280 1 = hn := fun T fT => ⟨by rw [fr_i fT (by decide)]; exact ew, by rw [fr_i fT (by decide)]; exact eh⟩
        have r0 := be_range (w := w) (h := hn) (c := c) (s := 0) ⟨by omega, by omega, by omega, by omega⟩ (by omega) (by rw [← Int.natCast_mul]; omega)
        have r1 := be_range (w := w) (h := hn) (c := c) (s := 1) ⟨by omega, by omega, by omega, by omega⟩ (by omega) (by rw [← Int.natCast_mul]; omega)
        have r2 := be_range (w := w) (h := hn) (c := c) (s := 2) ⟨by omega, by omega, by omega, by omega⟩ (by omega) (by rw [← Int.natCast_mul]; omega)
        have r3 := be_range (w := w) (h := hn) (c := c) (s := 3) ⟨by omega, by omega, by omega, by omega⟩ (by omega) (by rw [← Int.natCast_mul]; omega)
        have wh : (w : Int) * hn ≤ 36 := by rw [← Int.natCast_mul]; omega
        generalize hwh : (w : Int) * hn = WH at *
        have yw : 0 ≤ (y : Int) * w ∧ (y : Int) * w ≤ 36 := by rw [← Int.natCast_mul]; constructor; exact Int.natCast_nonneg _; omega
        have x3e : ∀ _ : Unit, wr (wr ((y : Int) * w) + x) = c := fun _ => by rw [wr_eq (x := (y : Int) * w) (by omega) (by omega), cw, wr_eq (by omega) (by omega)]
        obtain ⟨x0, hx0⟩ : ∃ z : Int, z = (if y = 0 then 0 else 1) := ⟨_, rfl⟩
        obtain ⟨x1, hx1⟩ : ∃ z : Int, z = (if x = 0 then 0 else 1) := ⟨_, rfl⟩
        obtain ⟨x2, hx2⟩ : ∃ z : Int, z = (if w ≤ x + 1 then 0 else 1) := ⟨_, rfl⟩
        obtain ⟨x3, hx3⟩ : ∃ z : Int, z = (if hn ≤ y + 1 then 0 else 1) := ⟨_, rfl⟩
        have v0 : (x0 = 0 ∧ be w hn c 0 = -1) ∨ (x0 = 1 ∧ wr ((c : Int) - w) = be w hn c 0 ∧ 0 ≤ be w hn c 0 ∧ be w hn c 0 < 36) := by
          by_cases u : y = 0
          · rw [if_pos u] at hx0 g1; exact Or.inl ⟨hx0, g1⟩
          · rw [if_neg u] at hx0 g1
            have := yw1 u
            refine Or.inr ⟨hx0, by rw [wr_eq (by clear g2 g3 g4; omega) (by clear g2 g3 g4; omega), g1], ?_⟩
            clear x3e g2 g3 g4; omega
        have v1 : (x1 = 0 ∧ be w hn c 1 = -1) ∨ (x1 = 1 ∧ wr ((c : Int) - 1) = be w hn c 1 ∧ 0 ≤ be w hn c 1 ∧ be w hn c 1 < 36) := by
          by_cases u : x = 0
          · rw [if_pos u] at hx1 g2; exact Or.inl ⟨hx1, g2⟩
          · rw [if_neg u] at hx1 g2
            refine Or.inr ⟨hx1, by rw [wr_eq (by omega) (by omega), g2], ?_⟩
            clear x3e v0; omega
        have v2 : (x2 = 0 ∧ be w hn c 2 = -1) ∨ (x2 = 1 ∧ wr ((c : Int) + 1) = be w hn c 2 ∧ 0 ≤ be w hn c 2 ∧ be w hn c 2 < 36) := by
          by_cases u : w ≤ x + 1
          · rw [if_pos u] at hx2 g3; exact Or.inl ⟨hx2, g3⟩
          · rw [if_neg u] at hx2 g3
            refine Or.inr ⟨hx2, by rw [wr_eq (by omega) (by omega), g3], ?_⟩
            clear x3e v0 v1; omega
        have v3 : (x3 = 0 ∧ be w hn c 3 = -1) ∨ (x3 = 1 ∧ wr ((c : Int) + w) = be w hn c 3 ∧ 0 ≤ be w hn c 3 ∧ be w hn c 3 < 36) := by
          by_cases u : hn ≤ y + 1
          · rw [if_pos u] at hx3 g4; exact Or.inl ⟨hx3, g4⟩
          · rw [if_neg u] at hx3 g4
            refine Or.inr ⟨hx3, by rw [wr_eq (by omega) (by omega), g4], ?_⟩
            clear x3e v0 v1 v2; omega
        obtain ⟨t1, s1, s2⟩ := c_join (h := t) (c := c) (k := 0) c36 (by decide) v0
        obtain ⟨t2, s3, s4⟩ := c_join (h := t1) (c := c) (k := 1) c36 (by decide) v1
        obtain ⟨t3, s5, s6⟩ := c_join (h := t2) (c := c) (k := 2) c36 (by decide) v2
        obtain ⟨t4, s7, s8⟩ := c_join (h := t3) (c := c) (k := 3) c36 (by decide) v3
        have F1 := fr_trans f s2.1
        have F2' := fr_trans F1 s4.1
        have F3 := fr_trans F2' s6.1
        have F4 := fr_trans F3 s8.1
        have s1 : pf_La_join 280 c 0 x0 (wr ((c : Int) - w)) t = some t1 := s1
        have s3 : pf_La_join 280 c 1 x1 (wr ((c : Int) - 1)) t1 = some t2 := s3
        have s5 : pf_La_join 280 c 2 x2 (wr ((c : Int) + 1)) t2 = some t3 := s5
        have s7 : pf_La_join 280 c 3 x3 (wr ((c : Int) + w)) t3 = some t4 := s7
        have ix : ∀ _ : Unit, wr ((x : Int) + 1) = ((x + 1 : Nat) : Int) := fun _ => by rw [wr_eq (by omega) (by omega)]; rfl
        have iy : ∀ _ : Unit, wr ((y : Int) + 1) = ((y + 1 : Nat) : Int) := fun _ => by rw [wr_eq (by omega) (by omega)]; rfl
        clear v0 v1 v2 v3 g1 g2 g3 g4 r0 r1 r2 r3
        refine ⟨t4, ?_, F4, ?_⟩
        · show pl_La_chart_28 280 _ (k' + 1) y x t = pl_La_chart_28 280 _ k' y (x + 1 : Nat) t4
          rw [pl_La_chart_28, (ew' t f).1, if_neg (by clear x3e ix iy; omega), x3e ()]
          have S3 : ∀ {kr K}, pj_La_chart_126 280 kr K y x c 280 c 3 x3 t3 = kr y ((x + 1 : Nat) : Int) t4 := fun {kr K} => by
            unfold pj_La_chart_126
            rw [(ew' t3 F3).1, s7, bsm, ix ()]
          have S2 : ∀ {kr K}, pj_La_chart_102 280 kr K y x c 280 c 2 x2 t2 = kr y ((x + 1 : Nat) : Int) t4 := fun {kr K} => by
            unfold pj_La_chart_102
            rw [s5, bsm, (ew' t3 F3).2, iy ()]
            by_cases u : hn ≤ y + 1
            · rw [if_pos u] at hx3
              rw [if_pos (by clear x3e ix iy; omega)]; rw [hx3] at S3; exact S3
            · rw [if_neg u] at hx3
              rw [if_neg (by clear x3e ix iy; omega)]; rw [hx3] at S3; exact S3
          have S1 : ∀ {kr K}, pj_La_chart_78 280 kr K y x c 280 c 1 x1 t1 = kr y ((x + 1 : Nat) : Int) t4 := fun {kr K} => by
            unfold pj_La_chart_78
            rw [s3, bsm, (ew' t2 F2').1, ix ()]
            by_cases u : w ≤ x + 1
            · rw [if_pos u] at hx2
              rw [if_pos (by clear x3e ix iy; omega)]; rw [hx2] at S2; exact S2
            · rw [if_neg u] at hx2
              rw [if_neg (by clear x3e ix iy; omega)]; rw [hx2] at S2; exact S2
          have S0 : ∀ {kr K}, pj_La_chart_57 280 kr K y x c 280 c 0 x0 t = kr y ((x + 1 : Nat) : Int) t4 := fun {kr K} => by
            unfold pj_La_chart_57
            rw [(ew' t f).1, s1, bsm]
            by_cases u : x = 0
            · rw [if_pos u] at hx1
              rw [if_pos (by clear x3e ix iy; omega)]; rw [hx1] at S1; exact S1
            · rw [if_neg u] at hx1
              rw [if_neg (by clear x3e ix iy; omega)]; rw [hx1] at S1; exact S1
          by_cases u : y = 0
          · rw [if_pos u] at hx0
            rw [if_pos (by clear x3e ix iy; omega)]; rw [hx0] at S0; exact S0
          · rw [if_neg u] at hx0
            rw [if_neg (by clear x3e ix iy; omega)]; rw [hx0] at S0; exact S0
        · have e : y * w + (x + 1) = c + 1 := by clear x3e ix iy; omega
          show CHt w hn (pl h 284) t4 (y * w + (x + 1))
          rw [e]
          exact JS_CHt c36 (fr_fl f (by decide)) H s2 s4 s6 s8
      · intro k' t ⟨f, H⟩
        refine ⟨t, ?_, f, H⟩
        show pl_La_chart_28 280 _ (k' + 1) y (w : Nat) t = _
        rw [pl_La_chart_28, if_pos (by rw [fr_i f (by decide), ew]; exact Int.le_refl _)]
    obtain ⟨t', z1, z2, z3⟩ := iny
    refine ⟨t', ?_, z2, by rw [Nat.succ_mul]; exact z3⟩
    show pl_La_chart_18 280 _ (k + 1) y t = pl_La_chart_18 280 _ k (y + 1 : Nat) t'
    rw [pl_La_chart_18, if_neg (by rw [fr_i f (by decide), eh]; omega), z1, wr_eq (by omega) (by omega)]
    rfl
  · intro k t ⟨f, H⟩
    refine ⟨t, ?_, f, by rw [Nat.mul_comm]; exact H⟩
    show pl_La_chart_18 280 _ (k + 1) (hn : Nat) t = _
    rw [pl_La_chart_18, if_pos (by rw [fr_i f (by decide), eh]; exact Int.le_refl _)]
end Ua
