/-! the layout: which cell is what, and what references hold (behind the constructors) -/
def kd_l : List (Nat × Nat) := [(0, 0), (10, 0), (102, 600), (100, 3), (107, 2), (3, 0), (100, 36), (100, 36), (100, 36), (103, 36), (100, 12), (100, 6), (100, 6), (100, 6), (100, 6), (100, 144), (100, 144), (3, 0), (100, 36), (100, 36), (100, 36), (103, 36), (100, 12), (100, 6), (100, 6), (100, 6), (100, 6), (100, 144), (100, 144), (108, 2), (4, 0), (100, 12), (100, 12), (103, 36), (4, 0), (100, 12), (100, 12), (103, 36), (110, 3), (6, 0), (100, 30), (100, 30), (100, 30), (100, 30), (6, 0), (100, 30), (100, 30), (100, 30), (100, 30), (6, 0), (100, 30), (100, 30), (100, 30), (100, 30), (114, 3), (10, 0), (102, 600), (100, 3), (107, 2), (3, 0), (100, 36), (100, 36), (100, 36), (103, 36), (100, 12), (100, 6), (100, 6), (100, 6), (100, 6), (100, 144), (100, 144), (3, 0), (100, 36), (100, 36), (100, 36), (103, 36), (100, 12), (100, 6), (100, 6), (100, 6), (100, 6), (100, 144), (100, 144), (108, 2), (4, 0), (100, 12), (100, 12), (103, 36), (4, 0), (100, 12), (100, 12), (103, 36), (110, 3), (6, 0), (100, 30), (100, 30), (100, 30), (100, 30), (6, 0), (100, 30), (100, 30), (100, 30), (100, 30), (6, 0), (100, 30), (100, 30), (100, 30), (100, 30), (10, 0), (102, 600), (100, 3), (107, 2), (3, 0), (100, 36), (100, 36), (100, 36), (103, 36), (100, 12), (100, 6), (100, 6), (100, 6), (100, 6), (100, 144), (100, 144), (3, 0), (100, 36), (100, 36), (100, 36), (103, 36), (100, 12), (100, 6), (100, 6), (100, 6), (100, 6), (100, 144), (100, 144), (108, 2), (4, 0), (100, 12), (100, 12), (103, 36), (4, 0), (100, 12), (100, 12), (103, 36), (110, 3), (6, 0), (100, 30), (100, 30), (100, 30), (100, 30), (6, 0), (100, 30), (100, 30), (100, 30), (100, 30), (6, 0), (100, 30), (100, 30), (100, 30), (100, 30), (10, 0), (102, 600), (100, 3), (107, 2), (3, 0), (100, 36), (100, 36), (100, 36), (103, 36), (100, 12), (100, 6), (100, 6), (100, 6), (100, 6), (100, 144), (100, 144), (3, 0), (100, 36), (100, 36), (100, 36), (103, 36), (100, 12), (100, 6), (100, 6), (100, 6), (100, 6), (100, 144), (100, 144), (108, 2), (4, 0), (100, 12), (100, 12), (103, 36), (4, 0), (100, 12), (100, 12), (103, 36), (110, 3), (6, 0), (100, 30), (100, 30), (100, 30), (100, 30), (6, 0), (100, 30), (100, 30), (100, 30), (100, 30), (6, 0), (100, 30), (100, 30), (100, 30), (100, 30), (101, 3), (7, 0), (3, 0), (100, 36), (100, 36), (100, 36), (103, 36), (100, 12), (100, 6), (100, 6), (100, 6), (100, 6), (100, 144), (100, 144), (4, 0), (100, 12), (100, 12), (103, 36), (6, 0), (100, 30), (100, 30), (100, 30), (100, 30), (100, 4), (102, 0), (9, 0), (100, 36), (100, 36), (100, 36), (100, 36), (100, 6), (100, 6), (100, 6), (11, 0), (100, 36), (100, 36), (100, 36), (100, 36), (117, 8), (100, 36), (100, 36), (100, 36), (100, 36), (100, 36), (100, 36), (100, 36), (100, 36), (1, 0), (5, 0), (100, 6), (100, 6), (9, 0), (100, 36), (100, 36), (100, 36), (100, 36), (100, 6), (100, 6), (100, 6), (9, 0), (100, 36), (100, 36), (100, 36), (100, 36), (100, 6), (100, 6), (100, 6), (2, 0), (100, 6), (100, 6), (113, 7), (9, 0), (100, 36), (100, 36), (100, 36), (100, 36), (100, 6), (100, 6), (100, 6), (9, 0), (100, 36), (100, 36), (100, 36), (100, 36), (100, 6), (100, 6), (100, 6), (9, 0), (100, 36), (100, 36), (100, 36), (100, 36), (100, 6), (100, 6), (100, 6), (9, 0), (100, 36), (100, 36), (100, 36), (100, 36), (100, 6), (100, 6), (100, 6), (9, 0), (100, 36), (100, 36), (100, 36), (100, 36), (100, 6), (100, 6), (100, 6), (9, 0), (100, 36), (100, 36), (100, 36), (100, 36), (100, 6), (100, 6), (100, 6), (9, 0), (100, 36), (100, 36), (100, 36), (100, 36), (100, 6), (100, 6), (100, 6), (9, 0), (100, 36), (100, 36), (100, 36), (100, 36), (100, 6), (100, 6), (100, 6), (8, 0), (100, 36), (8, 0), (100, 36), (12, 0), (100, 6528), (101, 3), (100, 260), (100, 140), (100, 1120), (100, 36), (101, 36), (100, 36), (101, 36), (100, 36), (100, 9), (100, 9), (100, 36), (100, 6), (100, 6), (100, 6), (100, 36)]
def kd_D (a : Nat) : Nat × Nat := if a < 64 then (999, 0) else kd_l.getD (a - 64) (999, 0)
theorem kd_len : kd_l.length = 371 := by decide +kernel
theorem kd_lt {a : Nat} (h : (kd_D a).1 ≠ 999) : 64 ≤ a ∧ a < 435 := by
  unfold kd_D at h
  by_cases q : a < 64
  · rw [if_pos q] at h; exact absurd rfl h
  · rw [if_neg q] at h
    refine ⟨by omega, ?_⟩
    rcases Nat.lt_or_ge a 435 with w | w
    · exact w
    · rw [List.getD_eq_getElem?_getD, List.getElem?_eq_none (by rw [kd_len]; omega)] at h
      exact absurd rfl h
theorem kn_0_0 : ∀ e, e < 435 → (kd_D e).1 = 0 → e ∈ [64] := by decide +kernel
theorem kn_0 {e : Nat} (pe : (kd_D e).1 = 0) : e ∈ [64] := kn_0_0 e (kd_lt (by rw [pe]; decide)).2 pe
theorem kn_1_0 : ∀ e, e < 435 → (kd_D e).1 = 1 → e ∈ [325] := by decide +kernel
theorem kn_1 {e : Nat} (pe : (kd_D e).1 = 1) : e ∈ [325] := kn_1_0 e (kd_lt (by rw [pe]; decide)).2 pe
theorem kn_2_0 : ∀ e, e < 435 → (kd_D e).1 = 2 → e ∈ [345] := by decide +kernel
theorem kn_2 {e : Nat} (pe : (kd_D e).1 = 2) : e ∈ [345] := kn_2_0 e (kd_lt (by rw [pe]; decide)).2 pe
theorem kn_3_0 : ∀ e, e < 435 → (kd_D e).1 = 3 → e ∈ [69, 81, 123, 135, 176, 188, 229, 241, 280] := by decide +kernel
theorem kn_3 {e : Nat} (pe : (kd_D e).1 = 3) : e ∈ [69, 81, 123, 135, 176, 188, 229, 241, 280] := kn_3_0 e (kd_lt (by rw [pe]; decide)).2 pe
theorem kn_4_0 : ∀ e, e < 435 → (kd_D e).1 = 4 → e ∈ [94, 98, 148, 152, 201, 205, 254, 258, 292] := by decide +kernel
theorem kn_4 {e : Nat} (pe : (kd_D e).1 = 4) : e ∈ [94, 98, 148, 152, 201, 205, 254, 258, 292] := kn_4_0 e (kd_lt (by rw [pe]; decide)).2 pe
theorem kn_5_0 : ∀ e, e < 435 → (kd_D e).1 = 5 → e ∈ [326] := by decide +kernel
theorem kn_5 {e : Nat} (pe : (kd_D e).1 = 5) : e ∈ [326] := kn_5_0 e (kd_lt (by rw [pe]; decide)).2 pe
theorem kn_6_0 : ∀ e, e < 435 → (kd_D e).1 = 6 → e ∈ [103, 108, 113, 157, 162, 167, 210, 215, 220, 263, 268, 273, 296] := by decide +kernel
theorem kn_6 {e : Nat} (pe : (kd_D e).1 = 6) : e ∈ [103, 108, 113, 157, 162, 167, 210, 215, 220, 263, 268, 273, 296] := kn_6_0 e (kd_lt (by rw [pe]; decide)).2 pe
theorem kn_7_0 : ∀ e, e < 435 → (kd_D e).1 = 7 → e ∈ [279] := by decide +kernel
theorem kn_7 {e : Nat} (pe : (kd_D e).1 = 7) : e ∈ [279] := kn_7_0 e (kd_lt (by rw [pe]; decide)).2 pe
theorem kn_8_0 : ∀ e, e < 435 → (kd_D e).1 = 8 → e ∈ [413, 415] := by decide +kernel
theorem kn_8 {e : Nat} (pe : (kd_D e).1 = 8) : e ∈ [413, 415] := kn_8_0 e (kd_lt (by rw [pe]; decide)).2 pe
theorem kn_9_0 : ∀ e, e < 435 → (kd_D e).1 = 9 → e ∈ [303, 329, 337, 349, 357, 365, 373, 381, 389, 397, 405] := by decide +kernel
theorem kn_9 {e : Nat} (pe : (kd_D e).1 = 9) : e ∈ [303, 329, 337, 349, 357, 365, 373, 381, 389, 397, 405] := kn_9_0 e (kd_lt (by rw [pe]; decide)).2 pe
theorem kn_10_0 : ∀ e, e < 435 → (kd_D e).1 = 10 → e ∈ [65, 119, 172, 225] := by decide +kernel
theorem kn_10 {e : Nat} (pe : (kd_D e).1 = 10) : e ∈ [65, 119, 172, 225] := kn_10_0 e (kd_lt (by rw [pe]; decide)).2 pe
theorem kn_11_0 : ∀ e, e < 435 → (kd_D e).1 = 11 → e ∈ [311] := by decide +kernel
theorem kn_11 {e : Nat} (pe : (kd_D e).1 = 11) : e ∈ [311] := kn_11_0 e (kd_lt (by rw [pe]; decide)).2 pe
theorem kn_12_0 : ∀ e, e < 435 → (kd_D e).1 = 12 → e ∈ [417] := by decide +kernel
theorem kn_12 {e : Nat} (pe : (kd_D e).1 = 12) : e ∈ [417] := kn_12_0 e (kd_lt (by rw [pe]; decide)).2 pe
theorem kn_107_0 : ∀ e, e < 435 → (kd_D e).1 = 107 → e ∈ [68, 122, 175, 228] := by decide +kernel
theorem kn_107 {e : Nat} (pe : (kd_D e).1 = 107) : e ∈ [68, 122, 175, 228] := kn_107_0 e (kd_lt (by rw [pe]; decide)).2 pe
theorem kn_108_0 : ∀ e, e < 435 → (kd_D e).1 = 108 → e ∈ [93, 147, 200, 253] := by decide +kernel
theorem kn_108 {e : Nat} (pe : (kd_D e).1 = 108) : e ∈ [93, 147, 200, 253] := kn_108_0 e (kd_lt (by rw [pe]; decide)).2 pe
theorem kn_110_0 : ∀ e, e < 435 → (kd_D e).1 = 110 → e ∈ [102, 156, 209, 262] := by decide +kernel
theorem kn_110 {e : Nat} (pe : (kd_D e).1 = 110) : e ∈ [102, 156, 209, 262] := kn_110_0 e (kd_lt (by rw [pe]; decide)).2 pe
theorem kn_113_0 : ∀ e, e < 435 → (kd_D e).1 = 113 → e ∈ [348] := by decide +kernel
theorem kn_113 {e : Nat} (pe : (kd_D e).1 = 113) : e ∈ [348] := kn_113_0 e (kd_lt (by rw [pe]; decide)).2 pe
theorem kn_114_0 : ∀ e, e < 435 → (kd_D e).1 = 114 → e ∈ [118] := by decide +kernel
theorem kn_114 {e : Nat} (pe : (kd_D e).1 = 114) : e ∈ [118] := kn_114_0 e (kd_lt (by rw [pe]; decide)).2 pe
theorem kn_117_0 : ∀ e, e < 435 → (kd_D e).1 = 117 → e ∈ [316] := by decide +kernel
theorem kn_117 {e : Nat} (pe : (kd_D e).1 = 117) : e ∈ [316] := kn_117_0 e (kd_lt (by rw [pe]; decide)).2 pe
def rd_o (c k : Nat) : Option Nat := match c, k with
  | 0, 0 => some 1
  | 0, 1 => some 54
  | 0, 2 => some 214
  | 0, 3 => some 215
  | 0, 4 => some 239
  | 0, 5 => some 247
  | 0, 6 => some 261
  | 0, 7 => some 262
  | 0, 8 => some 281
  | 0, 9 => some 349
  | 0, 10 => some 351
  | 2, 1 => some 1
  | 2, 3 => some 2
  | 2, 4 => some 3
  | 2, 5 => some 60
  | 3, 3 => some 1
  | 3, 4 => some 2
  | 3, 5 => some 3
  | 3, 6 => some 4
  | 3, 9 => some 5
  | 3, 12 => some 6
  | 3, 13 => some 7
  | 3, 14 => some 8
  | 3, 15 => some 9
  | 3, 16 => some 10
  | 3, 17 => some 11
  | 4, 5 => some 1
  | 4, 6 => some 2
  | 4, 8 => some 3
  | 5, 1 => some 3
  | 5, 2 => some 11
  | 5, 3 => some 1
  | 5, 4 => some 2
  | 6, 1 => some 1
  | 6, 2 => some 2
  | 6, 3 => some 3
  | 6, 4 => some 4
  | 7, 0 => some 1
  | 7, 1 => some 13
  | 7, 2 => some 17
  | 7, 5 => some 22
  | 8, 2 => some 1
  | 9, 2 => some 1
  | 9, 3 => some 2
  | 9, 4 => some 3
  | 9, 5 => some 4
  | 9, 6 => some 5
  | 9, 7 => some 6
  | 9, 8 => some 7
  | 10, 0 => some 1
  | 10, 4 => some 2
  | 10, 5 => some 3
  | 10, 6 => some 28
  | 10, 7 => some 37
  | 11, 3 => some 1
  | 11, 6 => some 2
  | 11, 7 => some 3
  | 11, 8 => some 4
  | 11, 9 => some 5
  | 12, 0 => some 1
  | 12, 1 => some 2
  | 12, 10 => some 3
  | 12, 12 => some 4
  | 12, 13 => some 5
  | 12, 20 => some 6
  | 12, 21 => some 7
  | 12, 22 => some 8
  | 12, 25 => some 9
  | 12, 26 => some 10
  | 12, 28 => some 11
  | 12, 29 => some 12
  | 12, 31 => some 13
  | 12, 32 => some 14
  | 12, 33 => some 15
  | 12, 34 => some 16
  | 12, 35 => some 17
  | _, _ => none
def rd_c (c k : Nat) : Option Nat := match c, k with
  | 1, 0 => some 311
  | 2, 2 => some 311
  | 5, 0 => some 311
  | _, _ => none
def rd_s (k : Nat) : Option Nat := match k with
  | 107 => some 12
  | 108 => some 4
  | 110 => some 5
  | 114 => some 53
  | 113 => some 8
  | 117 => some 1
  | _ => none
/-- what old cells hold: kinds, ints -/
abbrev ia_O0 : Type := (Nat → Nat × Nat) × (Nat → Nat → Int32)
def gd_ (w : ia_O0) (h : ia_H) : Prop := (∀ a, 64 ≤ a → ia_k h a = kd_D a) ∧ ia_n h = 371 ∧ ia_m h = 19981 ∧ (∀ e k f, rd_o (kd_D e).1 k = some f → ia_r h e k = e + f) ∧ (∀ e k f, rd_c (kd_D e).1 k = some f → ia_r h e k = f) ∧ (∀ a j f, rd_s (kd_D a).1 = some f → j < (kd_D a).2 → ia_r h a j = a + 1 + f * j) ∧ (∀ e, (kd_D e).1 = 9 → (kd_D (ia_r h e 0)).1 = 3 ∧ (kd_D (ia_r h e 1)).1 = 4) ∧ (∀ e, (kd_D e).1 = 11 → (kd_D (ia_r h e 4)).1 = 3 ∧ (kd_D (ia_r h e 5)).1 = 4) ∧ ia_k h 2 = (100, 3) ∧ ia_k h 3 = (100, 4) ∧ ∀ a, a < 64 → ia_k h a = w.1 a ∧ ia_i h a = w.2 a
theorem gd_nm {w : ia_O0} {h h' : ia_H} (g : gd_ w h) (g' : gd_ w h') : ia_n h' = ia_n h ∧ ia_m h' = ia_m h := ⟨g'.2.1.trans g.2.1.symm, g'.2.2.1.trans g.2.2.1.symm⟩
theorem gd_le {w : ia_O0} {h h' : ia_H} (g : gd_ w h) (g' : gd_ w h') : ia_n h ≤ ia_n h' ∧ ia_m h ≤ ia_m h' := ⟨Nat.le_of_eq (gd_nm g g').1.symm, Nat.le_of_eq (gd_nm g g').2.symm⟩
theorem gd_wI {w : ia_O0} {h : ia_H} {a i : Nat} {x : Int32} (g : gd_ w h) (ha : 64 ≤ a) : gd_ w (ia_wI h a i x) := by
  obtain ⟨g1, g2, g3, g4, g5, g6, g7, g8, g9, g10, g11⟩ := g
  exact ⟨g1, g2, g3, g4, g5, g6, g7, g8, g9, g10, fun b hb => ⟨(g11 b hb).1, (ia_up_b (by omega)).trans (g11 b hb).2⟩⟩
theorem gd_wL {w : ia_O0} {h : ia_H} {a i : Nat} {x : Int64} (g : gd_ w h) : gd_ w (ia_wL h a i x) := g
theorem gd_cpI {w : ia_O0} {h : ia_H} {a b sp dp n : Nat} (g : gd_ w h) (hb0 : 64 ≤ b) : gd_ w (ia_cpI h a b sp dp n) := by
  obtain ⟨g1, g2, g3, g4, g5, g6, g7, g8, g9, g10, g11⟩ := g
  refine ⟨g1, g2, g3, g4, g5, g6, g7, g8, g9, g10, fun c hc => ⟨(g11 c hc).1, ?_⟩⟩
  rw [← (g11 c hc).2]
  funext j
  simp only [ia_cpI, ia_i, if_neg (show c ≠ b by omega)]
theorem gd_cpL {w : ia_O0} {h : ia_H} {a b sp dp n : Nat} (g : gd_ w h) : gd_ w (ia_cpL h a b sp dp n) := g
theorem gd_k {w : ia_O0} {h : ia_H} {e c : Nat} (g : gd_ w h) (pe : (kd_D e).1 = c) (hc : c ≠ 999) : (ia_k h e).1 = c := by
  rw [g.1 e (kd_lt (by rw [pe]; exact hc)).1]
  exact pe
theorem gd_ka {w : ia_O0} {h : ia_H} {a k n : Nat} (g : gd_ w h) (pa : kd_D a = (k, n)) (hc : k ≠ 999) : 64 ≤ a ∧ ia_k h a = (k, n) := by
  have h1 := (kd_lt (a := a) (by rw [pa]; exact hc)).1
  exact ⟨h1, (g.1 a h1).trans pa⟩
theorem gk_0 {w : ia_O0} {h : ia_H} {e : Nat} (g : gd_ w h) (pe : (kd_D e).1 = 0) : (ia_k h e).1 = 0 := gd_k g pe (by decide)
theorem gk_1 {w : ia_O0} {h : ia_H} {e : Nat} (g : gd_ w h) (pe : (kd_D e).1 = 1) : (ia_k h e).1 = 1 := gd_k g pe (by decide)
theorem gk_2 {w : ia_O0} {h : ia_H} {e : Nat} (g : gd_ w h) (pe : (kd_D e).1 = 2) : (ia_k h e).1 = 2 := gd_k g pe (by decide)
theorem gk_3 {w : ia_O0} {h : ia_H} {e : Nat} (g : gd_ w h) (pe : (kd_D e).1 = 3) : (ia_k h e).1 = 3 := gd_k g pe (by decide)
theorem gk_4 {w : ia_O0} {h : ia_H} {e : Nat} (g : gd_ w h) (pe : (kd_D e).1 = 4) : (ia_k h e).1 = 4 := gd_k g pe (by decide)
theorem gk_5 {w : ia_O0} {h : ia_H} {e : Nat} (g : gd_ w h) (pe : (kd_D e).1 = 5) : (ia_k h e).1 = 5 := gd_k g pe (by decide)
theorem gk_6 {w : ia_O0} {h : ia_H} {e : Nat} (g : gd_ w h) (pe : (kd_D e).1 = 6) : (ia_k h e).1 = 6 := gd_k g pe (by decide)
theorem gk_7 {w : ia_O0} {h : ia_H} {e : Nat} (g : gd_ w h) (pe : (kd_D e).1 = 7) : (ia_k h e).1 = 7 := gd_k g pe (by decide)
theorem gk_8 {w : ia_O0} {h : ia_H} {e : Nat} (g : gd_ w h) (pe : (kd_D e).1 = 8) : (ia_k h e).1 = 8 := gd_k g pe (by decide)
theorem gk_9 {w : ia_O0} {h : ia_H} {e : Nat} (g : gd_ w h) (pe : (kd_D e).1 = 9) : (ia_k h e).1 = 9 := gd_k g pe (by decide)
theorem gk_10 {w : ia_O0} {h : ia_H} {e : Nat} (g : gd_ w h) (pe : (kd_D e).1 = 10) : (ia_k h e).1 = 10 := gd_k g pe (by decide)
theorem gk_11 {w : ia_O0} {h : ia_H} {e : Nat} (g : gd_ w h) (pe : (kd_D e).1 = 11) : (ia_k h e).1 = 11 := gd_k g pe (by decide)
theorem gk_12 {w : ia_O0} {h : ia_H} {e : Nat} (g : gd_ w h) (pe : (kd_D e).1 = 12) : (ia_k h e).1 = 12 := gd_k g pe (by decide)
theorem ko_0 {e : Nat} (pe : (kd_D e).1 = 0) : 64 ≤ e := (kd_lt (by rw [pe]; decide)).1
theorem ko_1 {e : Nat} (pe : (kd_D e).1 = 1) : 64 ≤ e := (kd_lt (by rw [pe]; decide)).1
theorem ko_2 {e : Nat} (pe : (kd_D e).1 = 2) : 64 ≤ e := (kd_lt (by rw [pe]; decide)).1
theorem ko_3 {e : Nat} (pe : (kd_D e).1 = 3) : 64 ≤ e := (kd_lt (by rw [pe]; decide)).1
theorem ko_4 {e : Nat} (pe : (kd_D e).1 = 4) : 64 ≤ e := (kd_lt (by rw [pe]; decide)).1
theorem ko_5 {e : Nat} (pe : (kd_D e).1 = 5) : 64 ≤ e := (kd_lt (by rw [pe]; decide)).1
theorem ko_6 {e : Nat} (pe : (kd_D e).1 = 6) : 64 ≤ e := (kd_lt (by rw [pe]; decide)).1
theorem ko_7 {e : Nat} (pe : (kd_D e).1 = 7) : 64 ≤ e := (kd_lt (by rw [pe]; decide)).1
theorem ko_8 {e : Nat} (pe : (kd_D e).1 = 8) : 64 ≤ e := (kd_lt (by rw [pe]; decide)).1
theorem ko_9 {e : Nat} (pe : (kd_D e).1 = 9) : 64 ≤ e := (kd_lt (by rw [pe]; decide)).1
theorem ko_10 {e : Nat} (pe : (kd_D e).1 = 10) : 64 ≤ e := (kd_lt (by rw [pe]; decide)).1
theorem ko_11 {e : Nat} (pe : (kd_D e).1 = 11) : 64 ≤ e := (kd_lt (by rw [pe]; decide)).1
theorem ko_12 {e : Nat} (pe : (kd_D e).1 = 12) : 64 ≤ e := (kd_lt (by rw [pe]; decide)).1
theorem kx_100 {a n : Nat} (pa : kd_D a = (100, n)) : 64 ≤ a := (kd_lt (by rw [pa]; intro q; cases q)).1
theorem kx_101 {a n : Nat} (pa : kd_D a = (101, n)) : 64 ≤ a := (kd_lt (by rw [pa]; intro q; cases q)).1
theorem kx_102 {a n : Nat} (pa : kd_D a = (102, n)) : 64 ≤ a := (kd_lt (by rw [pa]; intro q; cases q)).1
theorem kx_103 {a n : Nat} (pa : kd_D a = (103, n)) : 64 ≤ a := (kd_lt (by rw [pa]; intro q; cases q)).1
theorem ga_i100 {w : ia_O0} {h : ia_H} {a n : Nat} {i : Int32} (g : gd_ w h) (pa : kd_D a = (100, n)) (c : ia_ib i n = true) : (ia_k h a).1 = 100 ∧ vp_in i (ia_k h a).2 := by
  rw [(gd_ka g pa (by decide)).2]
  exact ⟨rfl, ia_ib_in c⟩
theorem ga_s100 {w : ia_O0} {h : ia_H} {a n : Nat} {i : Int32} (g : gd_ w h) (pa : kd_D a = (100, n)) (c : ia_ib i n = true) : 64 ≤ a ∧ (ia_k h a).1 = 100 ∧ vp_in i (ia_k h a).2 := ⟨(gd_ka g pa (by decide)).1, ga_i100 g pa c⟩
theorem ga_i101 {w : ia_O0} {h : ia_H} {a n : Nat} {i : Int32} (g : gd_ w h) (pa : kd_D a = (101, n)) (c : ia_ib i n = true) : (ia_k h a).1 = 101 ∧ vp_in i (ia_k h a).2 := by
  rw [(gd_ka g pa (by decide)).2]
  exact ⟨rfl, ia_ib_in c⟩
theorem ga_s101 {w : ia_O0} {h : ia_H} {a n : Nat} {i : Int32} (g : gd_ w h) (pa : kd_D a = (101, n)) (c : ia_ib i n = true) : 64 ≤ a ∧ (ia_k h a).1 = 101 ∧ vp_in i (ia_k h a).2 := ⟨(gd_ka g pa (by decide)).1, ga_i101 g pa c⟩
theorem ga_i102 {w : ia_O0} {h : ia_H} {a n : Nat} {i : Int32} (g : gd_ w h) (pa : kd_D a = (102, n)) (c : ia_ib i n = true) : (ia_k h a).1 = 102 ∧ vp_in i (ia_k h a).2 := by
  rw [(gd_ka g pa (by decide)).2]
  exact ⟨rfl, ia_ib_in c⟩
theorem ga_s102 {w : ia_O0} {h : ia_H} {a n : Nat} {i : Int32} (g : gd_ w h) (pa : kd_D a = (102, n)) (c : ia_ib i n = true) : 64 ≤ a ∧ (ia_k h a).1 = 102 ∧ vp_in i (ia_k h a).2 := ⟨(gd_ka g pa (by decide)).1, ga_i102 g pa c⟩
theorem ga_i103 {w : ia_O0} {h : ia_H} {a n : Nat} {i : Int32} (g : gd_ w h) (pa : kd_D a = (103, n)) (c : ia_ib i n = true) : (ia_k h a).1 = 103 ∧ vp_in i (ia_k h a).2 := by
  rw [(gd_ka g pa (by decide)).2]
  exact ⟨rfl, ia_ib_in c⟩
theorem ga_s103 {w : ia_O0} {h : ia_H} {a n : Nat} {i : Int32} (g : gd_ w h) (pa : kd_D a = (103, n)) (c : ia_ib i n = true) : 64 ≤ a ∧ (ia_k h a).1 = 103 ∧ vp_in i (ia_k h a).2 := ⟨(gd_ka g pa (by decide)).1, ga_i103 g pa c⟩
theorem ga_len {w : ia_O0} {h : ia_H} {a k n : Nat} (g : gd_ w h) (pa : kd_D a = (k, n)) (hk : 100 ≤ k ∧ k < 104) : 100 ≤ (ia_k h a).1 ∧ (ia_k h a).1 < 104 := by
  rw [(gd_ka g pa (by omega)).2]
  exact hk
theorem ga_ln {w : ia_O0} {h : ia_H} {a k n : Nat} (g : gd_ w h) (pa : kd_D a = (k, n)) (hk : 100 ≤ k ∧ k < 104) : (ia_k h a).2 = n := by
  rw [(gd_ka g pa (by omega)).2]
theorem ga_r107 {w : ia_O0} {h : ia_H} {a n : Nat} {i : Int32} (g : gd_ w h) (pa : kd_D a = (107, n)) (c : ia_ib i n = true) : 64 ≤ a ∧ (ia_k h a).1 = 107 ∧ vp_in i (ia_k h a).2 ∧ ia_r h a i.toNatClampNeg = a + 1 + 12 * i.toNatClampNeg := by
  obtain ⟨h1, h2⟩ := gd_ka g pa (by decide)
  have hin := ia_ib_in c
  refine ⟨h1, by rw [h2], by rw [h2]; exact hin, g.2.2.2.2.2.1 a _ 12 (by rw [pa]; rfl) ?_⟩
  rw [pa]
  exact Nat.not_le.mp fun q => hin (Or.inr q)
theorem ke_107_0 : ∀ a ∈ [68, 122, 175, 228], ∀ j, j < (kd_D a).2 → (kd_D (a + 1 + 12 * j)).1 = 3 := by decide +kernel
theorem ke_107 {a n : Nat} {i : Int32} (pa : kd_D a = (107, n)) (c : ia_ib i n = true) : (kd_D (a + 1 + 12 * i.toNatClampNeg)).1 = 3 := by
  have hin := ia_ib_in c
  refine ke_107_0 a (kn_107 (by rw [pa])) _ ?_
  rw [pa]
  exact Nat.not_le.mp fun q => hin (Or.inr q)
theorem ga_r108 {w : ia_O0} {h : ia_H} {a n : Nat} {i : Int32} (g : gd_ w h) (pa : kd_D a = (108, n)) (c : ia_ib i n = true) : 64 ≤ a ∧ (ia_k h a).1 = 108 ∧ vp_in i (ia_k h a).2 ∧ ia_r h a i.toNatClampNeg = a + 1 + 4 * i.toNatClampNeg := by
  obtain ⟨h1, h2⟩ := gd_ka g pa (by decide)
  have hin := ia_ib_in c
  refine ⟨h1, by rw [h2], by rw [h2]; exact hin, g.2.2.2.2.2.1 a _ 4 (by rw [pa]; rfl) ?_⟩
  rw [pa]
  exact Nat.not_le.mp fun q => hin (Or.inr q)
theorem ke_108_0 : ∀ a ∈ [93, 147, 200, 253], ∀ j, j < (kd_D a).2 → (kd_D (a + 1 + 4 * j)).1 = 4 := by decide +kernel
theorem ke_108 {a n : Nat} {i : Int32} (pa : kd_D a = (108, n)) (c : ia_ib i n = true) : (kd_D (a + 1 + 4 * i.toNatClampNeg)).1 = 4 := by
  have hin := ia_ib_in c
  refine ke_108_0 a (kn_108 (by rw [pa])) _ ?_
  rw [pa]
  exact Nat.not_le.mp fun q => hin (Or.inr q)
theorem ga_r110 {w : ia_O0} {h : ia_H} {a n : Nat} {i : Int32} (g : gd_ w h) (pa : kd_D a = (110, n)) (c : ia_ib i n = true) : 64 ≤ a ∧ (ia_k h a).1 = 110 ∧ vp_in i (ia_k h a).2 ∧ ia_r h a i.toNatClampNeg = a + 1 + 5 * i.toNatClampNeg := by
  obtain ⟨h1, h2⟩ := gd_ka g pa (by decide)
  have hin := ia_ib_in c
  refine ⟨h1, by rw [h2], by rw [h2]; exact hin, g.2.2.2.2.2.1 a _ 5 (by rw [pa]; rfl) ?_⟩
  rw [pa]
  exact Nat.not_le.mp fun q => hin (Or.inr q)
theorem ke_110_0 : ∀ a ∈ [102, 156, 209, 262], ∀ j, j < (kd_D a).2 → (kd_D (a + 1 + 5 * j)).1 = 6 := by decide +kernel
theorem ke_110 {a n : Nat} {i : Int32} (pa : kd_D a = (110, n)) (c : ia_ib i n = true) : (kd_D (a + 1 + 5 * i.toNatClampNeg)).1 = 6 := by
  have hin := ia_ib_in c
  refine ke_110_0 a (kn_110 (by rw [pa])) _ ?_
  rw [pa]
  exact Nat.not_le.mp fun q => hin (Or.inr q)
theorem ga_r114 {w : ia_O0} {h : ia_H} {a n : Nat} {i : Int32} (g : gd_ w h) (pa : kd_D a = (114, n)) (c : ia_ib i n = true) : 64 ≤ a ∧ (ia_k h a).1 = 114 ∧ vp_in i (ia_k h a).2 ∧ ia_r h a i.toNatClampNeg = a + 1 + 53 * i.toNatClampNeg := by
  obtain ⟨h1, h2⟩ := gd_ka g pa (by decide)
  have hin := ia_ib_in c
  refine ⟨h1, by rw [h2], by rw [h2]; exact hin, g.2.2.2.2.2.1 a _ 53 (by rw [pa]; rfl) ?_⟩
  rw [pa]
  exact Nat.not_le.mp fun q => hin (Or.inr q)
theorem ke_114_0 : ∀ a ∈ [118], ∀ j, j < (kd_D a).2 → (kd_D (a + 1 + 53 * j)).1 = 10 := by decide +kernel
theorem ke_114 {a n : Nat} {i : Int32} (pa : kd_D a = (114, n)) (c : ia_ib i n = true) : (kd_D (a + 1 + 53 * i.toNatClampNeg)).1 = 10 := by
  have hin := ia_ib_in c
  refine ke_114_0 a (kn_114 (by rw [pa])) _ ?_
  rw [pa]
  exact Nat.not_le.mp fun q => hin (Or.inr q)
theorem ga_r113 {w : ia_O0} {h : ia_H} {a n : Nat} {i : Int32} (g : gd_ w h) (pa : kd_D a = (113, n)) (c : ia_ib i n = true) : 64 ≤ a ∧ (ia_k h a).1 = 113 ∧ vp_in i (ia_k h a).2 ∧ ia_r h a i.toNatClampNeg = a + 1 + 8 * i.toNatClampNeg := by
  obtain ⟨h1, h2⟩ := gd_ka g pa (by decide)
  have hin := ia_ib_in c
  refine ⟨h1, by rw [h2], by rw [h2]; exact hin, g.2.2.2.2.2.1 a _ 8 (by rw [pa]; rfl) ?_⟩
  rw [pa]
  exact Nat.not_le.mp fun q => hin (Or.inr q)
theorem ke_113_0 : ∀ a ∈ [348], ∀ j, j < (kd_D a).2 → (kd_D (a + 1 + 8 * j)).1 = 9 := by decide +kernel
theorem ke_113 {a n : Nat} {i : Int32} (pa : kd_D a = (113, n)) (c : ia_ib i n = true) : (kd_D (a + 1 + 8 * i.toNatClampNeg)).1 = 9 := by
  have hin := ia_ib_in c
  refine ke_113_0 a (kn_113 (by rw [pa])) _ ?_
  rw [pa]
  exact Nat.not_le.mp fun q => hin (Or.inr q)
theorem ga_r117 {w : ia_O0} {h : ia_H} {a n : Nat} {i : Int32} (g : gd_ w h) (pa : kd_D a = (117, n)) (c : ia_ib i n = true) : 64 ≤ a ∧ (ia_k h a).1 = 117 ∧ vp_in i (ia_k h a).2 ∧ ia_r h a i.toNatClampNeg = a + 1 + 1 * i.toNatClampNeg := by
  obtain ⟨h1, h2⟩ := gd_ka g pa (by decide)
  have hin := ia_ib_in c
  refine ⟨h1, by rw [h2], by rw [h2]; exact hin, g.2.2.2.2.2.1 a _ 1 (by rw [pa]; rfl) ?_⟩
  rw [pa]
  exact Nat.not_le.mp fun q => hin (Or.inr q)
theorem ke_117_0 : ∀ a ∈ [316], ∀ j, j < (kd_D a).2 → kd_D (a + 1 + 1 * j) = (100, 36) := by decide +kernel
theorem ke_117 {a n : Nat} {i : Int32} (pa : kd_D a = (117, n)) (c : ia_ib i n = true) : kd_D (a + 1 + 1 * i.toNatClampNeg) = (100, 36) := by
  have hin := ia_ib_in c
  refine ke_117_0 a (kn_117 (by rw [pa])) _ ?_
  rw [pa]
  exact Nat.not_le.mp fun q => hin (Or.inr q)
theorem gr_0_0 {w : ia_O0} {h : ia_H} {e : Nat} (g : gd_ w h) (pe : (kd_D e).1 = 0) : ia_r h e 0 = e + 1 := g.2.2.2.1 e 0 _ (by rw [pe]; rfl)
theorem ka_0_0_0 : ∀ e ∈ [64], (kd_D (e + 1)).1 = 10 := by decide +kernel
theorem ka_0_0 {e : Nat} (pe : (kd_D e).1 = 0) : (kd_D (e + 1)).1 = 10 := ka_0_0_0 e (kn_0 pe)
theorem gr_0_1 {w : ia_O0} {h : ia_H} {e : Nat} (g : gd_ w h) (pe : (kd_D e).1 = 0) : ia_r h e 1 = e + 54 := g.2.2.2.1 e 1 _ (by rw [pe]; rfl)
theorem ka_0_1_0 : ∀ e ∈ [64], kd_D (e + 54) = (114, 3) := by decide +kernel
theorem ka_0_1 {e : Nat} (pe : (kd_D e).1 = 0) : kd_D (e + 54) = (114, 3) := ka_0_1_0 e (kn_0 pe)
theorem gr_0_2 {w : ia_O0} {h : ia_H} {e : Nat} (g : gd_ w h) (pe : (kd_D e).1 = 0) : ia_r h e 2 = e + 214 := g.2.2.2.1 e 2 _ (by rw [pe]; rfl)
theorem ka_0_2_0 : ∀ e ∈ [64], kd_D (e + 214) = (101, 3) := by decide +kernel
theorem ka_0_2 {e : Nat} (pe : (kd_D e).1 = 0) : kd_D (e + 214) = (101, 3) := ka_0_2_0 e (kn_0 pe)
theorem gr_0_3 {w : ia_O0} {h : ia_H} {e : Nat} (g : gd_ w h) (pe : (kd_D e).1 = 0) : ia_r h e 3 = e + 215 := g.2.2.2.1 e 3 _ (by rw [pe]; rfl)
theorem ka_0_3_0 : ∀ e ∈ [64], (kd_D (e + 215)).1 = 7 := by decide +kernel
theorem ka_0_3 {e : Nat} (pe : (kd_D e).1 = 0) : (kd_D (e + 215)).1 = 7 := ka_0_3_0 e (kn_0 pe)
theorem gr_0_4 {w : ia_O0} {h : ia_H} {e : Nat} (g : gd_ w h) (pe : (kd_D e).1 = 0) : ia_r h e 4 = e + 239 := g.2.2.2.1 e 4 _ (by rw [pe]; rfl)
theorem ka_0_4_0 : ∀ e ∈ [64], (kd_D (e + 239)).1 = 9 := by decide +kernel
theorem ka_0_4 {e : Nat} (pe : (kd_D e).1 = 0) : (kd_D (e + 239)).1 = 9 := ka_0_4_0 e (kn_0 pe)
theorem gr_0_5 {w : ia_O0} {h : ia_H} {e : Nat} (g : gd_ w h) (pe : (kd_D e).1 = 0) : ia_r h e 5 = e + 247 := g.2.2.2.1 e 5 _ (by rw [pe]; rfl)
theorem ka_0_5_0 : ∀ e ∈ [64], (kd_D (e + 247)).1 = 11 := by decide +kernel
theorem ka_0_5 {e : Nat} (pe : (kd_D e).1 = 0) : (kd_D (e + 247)).1 = 11 := ka_0_5_0 e (kn_0 pe)
theorem gr_0_6 {w : ia_O0} {h : ia_H} {e : Nat} (g : gd_ w h) (pe : (kd_D e).1 = 0) : ia_r h e 6 = e + 261 := g.2.2.2.1 e 6 _ (by rw [pe]; rfl)
theorem ka_0_6_0 : ∀ e ∈ [64], (kd_D (e + 261)).1 = 1 := by decide +kernel
theorem ka_0_6 {e : Nat} (pe : (kd_D e).1 = 0) : (kd_D (e + 261)).1 = 1 := ka_0_6_0 e (kn_0 pe)
theorem gr_0_7 {w : ia_O0} {h : ia_H} {e : Nat} (g : gd_ w h) (pe : (kd_D e).1 = 0) : ia_r h e 7 = e + 262 := g.2.2.2.1 e 7 _ (by rw [pe]; rfl)
theorem ka_0_7_0 : ∀ e ∈ [64], (kd_D (e + 262)).1 = 5 := by decide +kernel
theorem ka_0_7 {e : Nat} (pe : (kd_D e).1 = 0) : (kd_D (e + 262)).1 = 5 := ka_0_7_0 e (kn_0 pe)
theorem gr_0_8 {w : ia_O0} {h : ia_H} {e : Nat} (g : gd_ w h) (pe : (kd_D e).1 = 0) : ia_r h e 8 = e + 281 := g.2.2.2.1 e 8 _ (by rw [pe]; rfl)
theorem ka_0_8_0 : ∀ e ∈ [64], (kd_D (e + 281)).1 = 2 := by decide +kernel
theorem ka_0_8 {e : Nat} (pe : (kd_D e).1 = 0) : (kd_D (e + 281)).1 = 2 := ka_0_8_0 e (kn_0 pe)
theorem gr_0_9 {w : ia_O0} {h : ia_H} {e : Nat} (g : gd_ w h) (pe : (kd_D e).1 = 0) : ia_r h e 9 = e + 349 := g.2.2.2.1 e 9 _ (by rw [pe]; rfl)
theorem ka_0_9_0 : ∀ e ∈ [64], (kd_D (e + 349)).1 = 8 := by decide +kernel
theorem ka_0_9 {e : Nat} (pe : (kd_D e).1 = 0) : (kd_D (e + 349)).1 = 8 := ka_0_9_0 e (kn_0 pe)
theorem gr_0_10 {w : ia_O0} {h : ia_H} {e : Nat} (g : gd_ w h) (pe : (kd_D e).1 = 0) : ia_r h e 10 = e + 351 := g.2.2.2.1 e 10 _ (by rw [pe]; rfl)
theorem ka_0_10_0 : ∀ e ∈ [64], (kd_D (e + 351)).1 = 8 := by decide +kernel
theorem ka_0_10 {e : Nat} (pe : (kd_D e).1 = 0) : (kd_D (e + 351)).1 = 8 := ka_0_10_0 e (kn_0 pe)
theorem gr_1_0 {w : ia_O0} {h : ia_H} {e : Nat} (g : gd_ w h) (pe : (kd_D e).1 = 1) : ia_r h e 0 = 311 := g.2.2.2.2.1 e 0 _ (by rw [pe]; rfl)
theorem gr_2_1 {w : ia_O0} {h : ia_H} {e : Nat} (g : gd_ w h) (pe : (kd_D e).1 = 2) : ia_r h e 1 = e + 1 := g.2.2.2.1 e 1 _ (by rw [pe]; rfl)
theorem ka_2_1_0 : ∀ e ∈ [345], kd_D (e + 1) = (100, 6) := by decide +kernel
theorem ka_2_1 {e : Nat} (pe : (kd_D e).1 = 2) : kd_D (e + 1) = (100, 6) := ka_2_1_0 e (kn_2 pe)
theorem gr_2_2 {w : ia_O0} {h : ia_H} {e : Nat} (g : gd_ w h) (pe : (kd_D e).1 = 2) : ia_r h e 2 = 311 := g.2.2.2.2.1 e 2 _ (by rw [pe]; rfl)
theorem gr_2_3 {w : ia_O0} {h : ia_H} {e : Nat} (g : gd_ w h) (pe : (kd_D e).1 = 2) : ia_r h e 3 = e + 2 := g.2.2.2.1 e 3 _ (by rw [pe]; rfl)
theorem ka_2_3_0 : ∀ e ∈ [345], kd_D (e + 2) = (100, 6) := by decide +kernel
theorem ka_2_3 {e : Nat} (pe : (kd_D e).1 = 2) : kd_D (e + 2) = (100, 6) := ka_2_3_0 e (kn_2 pe)
theorem gr_2_4 {w : ia_O0} {h : ia_H} {e : Nat} (g : gd_ w h) (pe : (kd_D e).1 = 2) : ia_r h e 4 = e + 3 := g.2.2.2.1 e 4 _ (by rw [pe]; rfl)
theorem ka_2_4_0 : ∀ e ∈ [345], kd_D (e + 3) = (113, 7) := by decide +kernel
theorem ka_2_4 {e : Nat} (pe : (kd_D e).1 = 2) : kd_D (e + 3) = (113, 7) := ka_2_4_0 e (kn_2 pe)
theorem gr_2_5 {w : ia_O0} {h : ia_H} {e : Nat} (g : gd_ w h) (pe : (kd_D e).1 = 2) : ia_r h e 5 = e + 60 := g.2.2.2.1 e 5 _ (by rw [pe]; rfl)
theorem ka_2_5_0 : ∀ e ∈ [345], (kd_D (e + 60)).1 = 9 := by decide +kernel
theorem ka_2_5 {e : Nat} (pe : (kd_D e).1 = 2) : (kd_D (e + 60)).1 = 9 := ka_2_5_0 e (kn_2 pe)
theorem gr_3_3 {w : ia_O0} {h : ia_H} {e : Nat} (g : gd_ w h) (pe : (kd_D e).1 = 3) : ia_r h e 3 = e + 1 := g.2.2.2.1 e 3 _ (by rw [pe]; rfl)
theorem ka_3_3_0 : ∀ e ∈ [69, 81, 123, 135, 176, 188, 229, 241, 280], kd_D (e + 1) = (100, 36) := by decide +kernel
theorem ka_3_3 {e : Nat} (pe : (kd_D e).1 = 3) : kd_D (e + 1) = (100, 36) := ka_3_3_0 e (kn_3 pe)
theorem gr_3_4 {w : ia_O0} {h : ia_H} {e : Nat} (g : gd_ w h) (pe : (kd_D e).1 = 3) : ia_r h e 4 = e + 2 := g.2.2.2.1 e 4 _ (by rw [pe]; rfl)
theorem ka_3_4_0 : ∀ e ∈ [69, 81, 123, 135, 176, 188, 229, 241, 280], kd_D (e + 2) = (100, 36) := by decide +kernel
theorem ka_3_4 {e : Nat} (pe : (kd_D e).1 = 3) : kd_D (e + 2) = (100, 36) := ka_3_4_0 e (kn_3 pe)
theorem gr_3_5 {w : ia_O0} {h : ia_H} {e : Nat} (g : gd_ w h) (pe : (kd_D e).1 = 3) : ia_r h e 5 = e + 3 := g.2.2.2.1 e 5 _ (by rw [pe]; rfl)
theorem ka_3_5_0 : ∀ e ∈ [69, 81, 123, 135, 176, 188, 229, 241, 280], kd_D (e + 3) = (100, 36) := by decide +kernel
theorem ka_3_5 {e : Nat} (pe : (kd_D e).1 = 3) : kd_D (e + 3) = (100, 36) := ka_3_5_0 e (kn_3 pe)
theorem gr_3_6 {w : ia_O0} {h : ia_H} {e : Nat} (g : gd_ w h) (pe : (kd_D e).1 = 3) : ia_r h e 6 = e + 4 := g.2.2.2.1 e 6 _ (by rw [pe]; rfl)
theorem ka_3_6_0 : ∀ e ∈ [69, 81, 123, 135, 176, 188, 229, 241, 280], kd_D (e + 4) = (103, 36) := by decide +kernel
theorem ka_3_6 {e : Nat} (pe : (kd_D e).1 = 3) : kd_D (e + 4) = (103, 36) := ka_3_6_0 e (kn_3 pe)
theorem gr_3_9 {w : ia_O0} {h : ia_H} {e : Nat} (g : gd_ w h) (pe : (kd_D e).1 = 3) : ia_r h e 9 = e + 5 := g.2.2.2.1 e 9 _ (by rw [pe]; rfl)
theorem ka_3_9_0 : ∀ e ∈ [69, 81, 123, 135, 176, 188, 229, 241, 280], kd_D (e + 5) = (100, 12) := by decide +kernel
theorem ka_3_9 {e : Nat} (pe : (kd_D e).1 = 3) : kd_D (e + 5) = (100, 12) := ka_3_9_0 e (kn_3 pe)
theorem gr_3_12 {w : ia_O0} {h : ia_H} {e : Nat} (g : gd_ w h) (pe : (kd_D e).1 = 3) : ia_r h e 12 = e + 6 := g.2.2.2.1 e 12 _ (by rw [pe]; rfl)
theorem ka_3_12_0 : ∀ e ∈ [69, 81, 123, 135, 176, 188, 229, 241, 280], kd_D (e + 6) = (100, 6) := by decide +kernel
theorem ka_3_12 {e : Nat} (pe : (kd_D e).1 = 3) : kd_D (e + 6) = (100, 6) := ka_3_12_0 e (kn_3 pe)
theorem gr_3_13 {w : ia_O0} {h : ia_H} {e : Nat} (g : gd_ w h) (pe : (kd_D e).1 = 3) : ia_r h e 13 = e + 7 := g.2.2.2.1 e 13 _ (by rw [pe]; rfl)
theorem ka_3_13_0 : ∀ e ∈ [69, 81, 123, 135, 176, 188, 229, 241, 280], kd_D (e + 7) = (100, 6) := by decide +kernel
theorem ka_3_13 {e : Nat} (pe : (kd_D e).1 = 3) : kd_D (e + 7) = (100, 6) := ka_3_13_0 e (kn_3 pe)
theorem gr_3_14 {w : ia_O0} {h : ia_H} {e : Nat} (g : gd_ w h) (pe : (kd_D e).1 = 3) : ia_r h e 14 = e + 8 := g.2.2.2.1 e 14 _ (by rw [pe]; rfl)
theorem ka_3_14_0 : ∀ e ∈ [69, 81, 123, 135, 176, 188, 229, 241, 280], kd_D (e + 8) = (100, 6) := by decide +kernel
theorem ka_3_14 {e : Nat} (pe : (kd_D e).1 = 3) : kd_D (e + 8) = (100, 6) := ka_3_14_0 e (kn_3 pe)
theorem gr_3_15 {w : ia_O0} {h : ia_H} {e : Nat} (g : gd_ w h) (pe : (kd_D e).1 = 3) : ia_r h e 15 = e + 9 := g.2.2.2.1 e 15 _ (by rw [pe]; rfl)
theorem ka_3_15_0 : ∀ e ∈ [69, 81, 123, 135, 176, 188, 229, 241, 280], kd_D (e + 9) = (100, 6) := by decide +kernel
theorem ka_3_15 {e : Nat} (pe : (kd_D e).1 = 3) : kd_D (e + 9) = (100, 6) := ka_3_15_0 e (kn_3 pe)
theorem gr_3_16 {w : ia_O0} {h : ia_H} {e : Nat} (g : gd_ w h) (pe : (kd_D e).1 = 3) : ia_r h e 16 = e + 10 := g.2.2.2.1 e 16 _ (by rw [pe]; rfl)
theorem ka_3_16_0 : ∀ e ∈ [69, 81, 123, 135, 176, 188, 229, 241, 280], kd_D (e + 10) = (100, 144) := by decide +kernel
theorem ka_3_16 {e : Nat} (pe : (kd_D e).1 = 3) : kd_D (e + 10) = (100, 144) := ka_3_16_0 e (kn_3 pe)
theorem gr_3_17 {w : ia_O0} {h : ia_H} {e : Nat} (g : gd_ w h) (pe : (kd_D e).1 = 3) : ia_r h e 17 = e + 11 := g.2.2.2.1 e 17 _ (by rw [pe]; rfl)
theorem ka_3_17_0 : ∀ e ∈ [69, 81, 123, 135, 176, 188, 229, 241, 280], kd_D (e + 11) = (100, 144) := by decide +kernel
theorem ka_3_17 {e : Nat} (pe : (kd_D e).1 = 3) : kd_D (e + 11) = (100, 144) := ka_3_17_0 e (kn_3 pe)
theorem gr_4_5 {w : ia_O0} {h : ia_H} {e : Nat} (g : gd_ w h) (pe : (kd_D e).1 = 4) : ia_r h e 5 = e + 1 := g.2.2.2.1 e 5 _ (by rw [pe]; rfl)
theorem ka_4_5_0 : ∀ e ∈ [94, 98, 148, 152, 201, 205, 254, 258, 292], kd_D (e + 1) = (100, 12) := by decide +kernel
theorem ka_4_5 {e : Nat} (pe : (kd_D e).1 = 4) : kd_D (e + 1) = (100, 12) := ka_4_5_0 e (kn_4 pe)
theorem gr_4_6 {w : ia_O0} {h : ia_H} {e : Nat} (g : gd_ w h) (pe : (kd_D e).1 = 4) : ia_r h e 6 = e + 2 := g.2.2.2.1 e 6 _ (by rw [pe]; rfl)
theorem ka_4_6_0 : ∀ e ∈ [94, 98, 148, 152, 201, 205, 254, 258, 292], kd_D (e + 2) = (100, 12) := by decide +kernel
theorem ka_4_6 {e : Nat} (pe : (kd_D e).1 = 4) : kd_D (e + 2) = (100, 12) := ka_4_6_0 e (kn_4 pe)
theorem gr_4_8 {w : ia_O0} {h : ia_H} {e : Nat} (g : gd_ w h) (pe : (kd_D e).1 = 4) : ia_r h e 8 = e + 3 := g.2.2.2.1 e 8 _ (by rw [pe]; rfl)
theorem ka_4_8_0 : ∀ e ∈ [94, 98, 148, 152, 201, 205, 254, 258, 292], kd_D (e + 3) = (103, 36) := by decide +kernel
theorem ka_4_8 {e : Nat} (pe : (kd_D e).1 = 4) : kd_D (e + 3) = (103, 36) := ka_4_8_0 e (kn_4 pe)
theorem gr_5_0 {w : ia_O0} {h : ia_H} {e : Nat} (g : gd_ w h) (pe : (kd_D e).1 = 5) : ia_r h e 0 = 311 := g.2.2.2.2.1 e 0 _ (by rw [pe]; rfl)
theorem gr_5_1 {w : ia_O0} {h : ia_H} {e : Nat} (g : gd_ w h) (pe : (kd_D e).1 = 5) : ia_r h e 1 = e + 3 := g.2.2.2.1 e 1 _ (by rw [pe]; rfl)
theorem ka_5_1_0 : ∀ e ∈ [326], (kd_D (e + 3)).1 = 9 := by decide +kernel
theorem ka_5_1 {e : Nat} (pe : (kd_D e).1 = 5) : (kd_D (e + 3)).1 = 9 := ka_5_1_0 e (kn_5 pe)
theorem gr_5_2 {w : ia_O0} {h : ia_H} {e : Nat} (g : gd_ w h) (pe : (kd_D e).1 = 5) : ia_r h e 2 = e + 11 := g.2.2.2.1 e 2 _ (by rw [pe]; rfl)
theorem ka_5_2_0 : ∀ e ∈ [326], (kd_D (e + 11)).1 = 9 := by decide +kernel
theorem ka_5_2 {e : Nat} (pe : (kd_D e).1 = 5) : (kd_D (e + 11)).1 = 9 := ka_5_2_0 e (kn_5 pe)
theorem gr_5_3 {w : ia_O0} {h : ia_H} {e : Nat} (g : gd_ w h) (pe : (kd_D e).1 = 5) : ia_r h e 3 = e + 1 := g.2.2.2.1 e 3 _ (by rw [pe]; rfl)
theorem ka_5_3_0 : ∀ e ∈ [326], kd_D (e + 1) = (100, 6) := by decide +kernel
theorem ka_5_3 {e : Nat} (pe : (kd_D e).1 = 5) : kd_D (e + 1) = (100, 6) := ka_5_3_0 e (kn_5 pe)
theorem gr_5_4 {w : ia_O0} {h : ia_H} {e : Nat} (g : gd_ w h) (pe : (kd_D e).1 = 5) : ia_r h e 4 = e + 2 := g.2.2.2.1 e 4 _ (by rw [pe]; rfl)
theorem ka_5_4_0 : ∀ e ∈ [326], kd_D (e + 2) = (100, 6) := by decide +kernel
theorem ka_5_4 {e : Nat} (pe : (kd_D e).1 = 5) : kd_D (e + 2) = (100, 6) := ka_5_4_0 e (kn_5 pe)
theorem gr_6_1 {w : ia_O0} {h : ia_H} {e : Nat} (g : gd_ w h) (pe : (kd_D e).1 = 6) : ia_r h e 1 = e + 1 := g.2.2.2.1 e 1 _ (by rw [pe]; rfl)
theorem ka_6_1_0 : ∀ e ∈ [103, 108, 113, 157, 162, 167, 210, 215, 220, 263, 268, 273, 296], kd_D (e + 1) = (100, 30) := by decide +kernel
theorem ka_6_1 {e : Nat} (pe : (kd_D e).1 = 6) : kd_D (e + 1) = (100, 30) := ka_6_1_0 e (kn_6 pe)
theorem gr_6_2 {w : ia_O0} {h : ia_H} {e : Nat} (g : gd_ w h) (pe : (kd_D e).1 = 6) : ia_r h e 2 = e + 2 := g.2.2.2.1 e 2 _ (by rw [pe]; rfl)
theorem ka_6_2_0 : ∀ e ∈ [103, 108, 113, 157, 162, 167, 210, 215, 220, 263, 268, 273, 296], kd_D (e + 2) = (100, 30) := by decide +kernel
theorem ka_6_2 {e : Nat} (pe : (kd_D e).1 = 6) : kd_D (e + 2) = (100, 30) := ka_6_2_0 e (kn_6 pe)
theorem gr_6_3 {w : ia_O0} {h : ia_H} {e : Nat} (g : gd_ w h) (pe : (kd_D e).1 = 6) : ia_r h e 3 = e + 3 := g.2.2.2.1 e 3 _ (by rw [pe]; rfl)
theorem ka_6_3_0 : ∀ e ∈ [103, 108, 113, 157, 162, 167, 210, 215, 220, 263, 268, 273, 296], kd_D (e + 3) = (100, 30) := by decide +kernel
theorem ka_6_3 {e : Nat} (pe : (kd_D e).1 = 6) : kd_D (e + 3) = (100, 30) := ka_6_3_0 e (kn_6 pe)
theorem gr_6_4 {w : ia_O0} {h : ia_H} {e : Nat} (g : gd_ w h) (pe : (kd_D e).1 = 6) : ia_r h e 4 = e + 4 := g.2.2.2.1 e 4 _ (by rw [pe]; rfl)
theorem ka_6_4_0 : ∀ e ∈ [103, 108, 113, 157, 162, 167, 210, 215, 220, 263, 268, 273, 296], kd_D (e + 4) = (100, 30) := by decide +kernel
theorem ka_6_4 {e : Nat} (pe : (kd_D e).1 = 6) : kd_D (e + 4) = (100, 30) := ka_6_4_0 e (kn_6 pe)
theorem gr_7_0 {w : ia_O0} {h : ia_H} {e : Nat} (g : gd_ w h) (pe : (kd_D e).1 = 7) : ia_r h e 0 = e + 1 := g.2.2.2.1 e 0 _ (by rw [pe]; rfl)
theorem ka_7_0_0 : ∀ e ∈ [279], (kd_D (e + 1)).1 = 3 := by decide +kernel
theorem ka_7_0 {e : Nat} (pe : (kd_D e).1 = 7) : (kd_D (e + 1)).1 = 3 := ka_7_0_0 e (kn_7 pe)
theorem gr_7_1 {w : ia_O0} {h : ia_H} {e : Nat} (g : gd_ w h) (pe : (kd_D e).1 = 7) : ia_r h e 1 = e + 13 := g.2.2.2.1 e 1 _ (by rw [pe]; rfl)
theorem ka_7_1_0 : ∀ e ∈ [279], (kd_D (e + 13)).1 = 4 := by decide +kernel
theorem ka_7_1 {e : Nat} (pe : (kd_D e).1 = 7) : (kd_D (e + 13)).1 = 4 := ka_7_1_0 e (kn_7 pe)
theorem gr_7_2 {w : ia_O0} {h : ia_H} {e : Nat} (g : gd_ w h) (pe : (kd_D e).1 = 7) : ia_r h e 2 = e + 17 := g.2.2.2.1 e 2 _ (by rw [pe]; rfl)
theorem ka_7_2_0 : ∀ e ∈ [279], (kd_D (e + 17)).1 = 6 := by decide +kernel
theorem ka_7_2 {e : Nat} (pe : (kd_D e).1 = 7) : (kd_D (e + 17)).1 = 6 := ka_7_2_0 e (kn_7 pe)
theorem gr_7_5 {w : ia_O0} {h : ia_H} {e : Nat} (g : gd_ w h) (pe : (kd_D e).1 = 7) : ia_r h e 5 = e + 22 := g.2.2.2.1 e 5 _ (by rw [pe]; rfl)
theorem ka_7_5_0 : ∀ e ∈ [279], kd_D (e + 22) = (100, 4) := by decide +kernel
theorem ka_7_5 {e : Nat} (pe : (kd_D e).1 = 7) : kd_D (e + 22) = (100, 4) := ka_7_5_0 e (kn_7 pe)
theorem gr_8_2 {w : ia_O0} {h : ia_H} {e : Nat} (g : gd_ w h) (pe : (kd_D e).1 = 8) : ia_r h e 2 = e + 1 := g.2.2.2.1 e 2 _ (by rw [pe]; rfl)
theorem ka_8_2_0 : ∀ e ∈ [413, 415], kd_D (e + 1) = (100, 36) := by decide +kernel
theorem ka_8_2 {e : Nat} (pe : (kd_D e).1 = 8) : kd_D (e + 1) = (100, 36) := ka_8_2_0 e (kn_8 pe)
theorem gr_9_2 {w : ia_O0} {h : ia_H} {e : Nat} (g : gd_ w h) (pe : (kd_D e).1 = 9) : ia_r h e 2 = e + 1 := g.2.2.2.1 e 2 _ (by rw [pe]; rfl)
theorem ka_9_2_0 : ∀ e ∈ [303, 329, 337, 349, 357, 365, 373, 381, 389, 397, 405], kd_D (e + 1) = (100, 36) := by decide +kernel
theorem ka_9_2 {e : Nat} (pe : (kd_D e).1 = 9) : kd_D (e + 1) = (100, 36) := ka_9_2_0 e (kn_9 pe)
theorem gr_9_3 {w : ia_O0} {h : ia_H} {e : Nat} (g : gd_ w h) (pe : (kd_D e).1 = 9) : ia_r h e 3 = e + 2 := g.2.2.2.1 e 3 _ (by rw [pe]; rfl)
theorem ka_9_3_0 : ∀ e ∈ [303, 329, 337, 349, 357, 365, 373, 381, 389, 397, 405], kd_D (e + 2) = (100, 36) := by decide +kernel
theorem ka_9_3 {e : Nat} (pe : (kd_D e).1 = 9) : kd_D (e + 2) = (100, 36) := ka_9_3_0 e (kn_9 pe)
theorem gr_9_4 {w : ia_O0} {h : ia_H} {e : Nat} (g : gd_ w h) (pe : (kd_D e).1 = 9) : ia_r h e 4 = e + 3 := g.2.2.2.1 e 4 _ (by rw [pe]; rfl)
theorem ka_9_4_0 : ∀ e ∈ [303, 329, 337, 349, 357, 365, 373, 381, 389, 397, 405], kd_D (e + 3) = (100, 36) := by decide +kernel
theorem ka_9_4 {e : Nat} (pe : (kd_D e).1 = 9) : kd_D (e + 3) = (100, 36) := ka_9_4_0 e (kn_9 pe)
theorem gr_9_5 {w : ia_O0} {h : ia_H} {e : Nat} (g : gd_ w h) (pe : (kd_D e).1 = 9) : ia_r h e 5 = e + 4 := g.2.2.2.1 e 5 _ (by rw [pe]; rfl)
theorem ka_9_5_0 : ∀ e ∈ [303, 329, 337, 349, 357, 365, 373, 381, 389, 397, 405], kd_D (e + 4) = (100, 36) := by decide +kernel
theorem ka_9_5 {e : Nat} (pe : (kd_D e).1 = 9) : kd_D (e + 4) = (100, 36) := ka_9_5_0 e (kn_9 pe)
theorem gr_9_6 {w : ia_O0} {h : ia_H} {e : Nat} (g : gd_ w h) (pe : (kd_D e).1 = 9) : ia_r h e 6 = e + 5 := g.2.2.2.1 e 6 _ (by rw [pe]; rfl)
theorem ka_9_6_0 : ∀ e ∈ [303, 329, 337, 349, 357, 365, 373, 381, 389, 397, 405], kd_D (e + 5) = (100, 6) := by decide +kernel
theorem ka_9_6 {e : Nat} (pe : (kd_D e).1 = 9) : kd_D (e + 5) = (100, 6) := ka_9_6_0 e (kn_9 pe)
theorem gr_9_7 {w : ia_O0} {h : ia_H} {e : Nat} (g : gd_ w h) (pe : (kd_D e).1 = 9) : ia_r h e 7 = e + 6 := g.2.2.2.1 e 7 _ (by rw [pe]; rfl)
theorem ka_9_7_0 : ∀ e ∈ [303, 329, 337, 349, 357, 365, 373, 381, 389, 397, 405], kd_D (e + 6) = (100, 6) := by decide +kernel
theorem ka_9_7 {e : Nat} (pe : (kd_D e).1 = 9) : kd_D (e + 6) = (100, 6) := ka_9_7_0 e (kn_9 pe)
theorem gr_9_8 {w : ia_O0} {h : ia_H} {e : Nat} (g : gd_ w h) (pe : (kd_D e).1 = 9) : ia_r h e 8 = e + 7 := g.2.2.2.1 e 8 _ (by rw [pe]; rfl)
theorem ka_9_8_0 : ∀ e ∈ [303, 329, 337, 349, 357, 365, 373, 381, 389, 397, 405], kd_D (e + 7) = (100, 6) := by decide +kernel
theorem ka_9_8 {e : Nat} (pe : (kd_D e).1 = 9) : kd_D (e + 7) = (100, 6) := ka_9_8_0 e (kn_9 pe)
theorem gr_10_0 {w : ia_O0} {h : ia_H} {e : Nat} (g : gd_ w h) (pe : (kd_D e).1 = 10) : ia_r h e 0 = e + 1 := g.2.2.2.1 e 0 _ (by rw [pe]; rfl)
theorem ka_10_0_0 : ∀ e ∈ [65, 119, 172, 225], kd_D (e + 1) = (102, 600) := by decide +kernel
theorem ka_10_0 {e : Nat} (pe : (kd_D e).1 = 10) : kd_D (e + 1) = (102, 600) := ka_10_0_0 e (kn_10 pe)
theorem gr_10_4 {w : ia_O0} {h : ia_H} {e : Nat} (g : gd_ w h) (pe : (kd_D e).1 = 10) : ia_r h e 4 = e + 2 := g.2.2.2.1 e 4 _ (by rw [pe]; rfl)
theorem ka_10_4_0 : ∀ e ∈ [65, 119, 172, 225], kd_D (e + 2) = (100, 3) := by decide +kernel
theorem ka_10_4 {e : Nat} (pe : (kd_D e).1 = 10) : kd_D (e + 2) = (100, 3) := ka_10_4_0 e (kn_10 pe)
theorem gr_10_5 {w : ia_O0} {h : ia_H} {e : Nat} (g : gd_ w h) (pe : (kd_D e).1 = 10) : ia_r h e 5 = e + 3 := g.2.2.2.1 e 5 _ (by rw [pe]; rfl)
theorem ka_10_5_0 : ∀ e ∈ [65, 119, 172, 225], kd_D (e + 3) = (107, 2) := by decide +kernel
theorem ka_10_5 {e : Nat} (pe : (kd_D e).1 = 10) : kd_D (e + 3) = (107, 2) := ka_10_5_0 e (kn_10 pe)
theorem gr_10_6 {w : ia_O0} {h : ia_H} {e : Nat} (g : gd_ w h) (pe : (kd_D e).1 = 10) : ia_r h e 6 = e + 28 := g.2.2.2.1 e 6 _ (by rw [pe]; rfl)
theorem ka_10_6_0 : ∀ e ∈ [65, 119, 172, 225], kd_D (e + 28) = (108, 2) := by decide +kernel
theorem ka_10_6 {e : Nat} (pe : (kd_D e).1 = 10) : kd_D (e + 28) = (108, 2) := ka_10_6_0 e (kn_10 pe)
theorem gr_10_7 {w : ia_O0} {h : ia_H} {e : Nat} (g : gd_ w h) (pe : (kd_D e).1 = 10) : ia_r h e 7 = e + 37 := g.2.2.2.1 e 7 _ (by rw [pe]; rfl)
theorem ka_10_7_0 : ∀ e ∈ [65, 119, 172, 225], kd_D (e + 37) = (110, 3) := by decide +kernel
theorem ka_10_7 {e : Nat} (pe : (kd_D e).1 = 10) : kd_D (e + 37) = (110, 3) := ka_10_7_0 e (kn_10 pe)
theorem gr_11_3 {w : ia_O0} {h : ia_H} {e : Nat} (g : gd_ w h) (pe : (kd_D e).1 = 11) : ia_r h e 3 = e + 1 := g.2.2.2.1 e 3 _ (by rw [pe]; rfl)
theorem ka_11_3_0 : ∀ e ∈ [311], kd_D (e + 1) = (100, 36) := by decide +kernel
theorem ka_11_3 {e : Nat} (pe : (kd_D e).1 = 11) : kd_D (e + 1) = (100, 36) := ka_11_3_0 e (kn_11 pe)
theorem gr_11_6 {w : ia_O0} {h : ia_H} {e : Nat} (g : gd_ w h) (pe : (kd_D e).1 = 11) : ia_r h e 6 = e + 2 := g.2.2.2.1 e 6 _ (by rw [pe]; rfl)
theorem ka_11_6_0 : ∀ e ∈ [311], kd_D (e + 2) = (100, 36) := by decide +kernel
theorem ka_11_6 {e : Nat} (pe : (kd_D e).1 = 11) : kd_D (e + 2) = (100, 36) := ka_11_6_0 e (kn_11 pe)
theorem gr_11_7 {w : ia_O0} {h : ia_H} {e : Nat} (g : gd_ w h) (pe : (kd_D e).1 = 11) : ia_r h e 7 = e + 3 := g.2.2.2.1 e 7 _ (by rw [pe]; rfl)
theorem ka_11_7_0 : ∀ e ∈ [311], kd_D (e + 3) = (100, 36) := by decide +kernel
theorem ka_11_7 {e : Nat} (pe : (kd_D e).1 = 11) : kd_D (e + 3) = (100, 36) := ka_11_7_0 e (kn_11 pe)
theorem gr_11_8 {w : ia_O0} {h : ia_H} {e : Nat} (g : gd_ w h) (pe : (kd_D e).1 = 11) : ia_r h e 8 = e + 4 := g.2.2.2.1 e 8 _ (by rw [pe]; rfl)
theorem ka_11_8_0 : ∀ e ∈ [311], kd_D (e + 4) = (100, 36) := by decide +kernel
theorem ka_11_8 {e : Nat} (pe : (kd_D e).1 = 11) : kd_D (e + 4) = (100, 36) := ka_11_8_0 e (kn_11 pe)
theorem gr_11_9 {w : ia_O0} {h : ia_H} {e : Nat} (g : gd_ w h) (pe : (kd_D e).1 = 11) : ia_r h e 9 = e + 5 := g.2.2.2.1 e 9 _ (by rw [pe]; rfl)
theorem ka_11_9_0 : ∀ e ∈ [311], kd_D (e + 5) = (117, 8) := by decide +kernel
theorem ka_11_9 {e : Nat} (pe : (kd_D e).1 = 11) : kd_D (e + 5) = (117, 8) := ka_11_9_0 e (kn_11 pe)
theorem gr_12_0 {w : ia_O0} {h : ia_H} {e : Nat} (g : gd_ w h) (pe : (kd_D e).1 = 12) : ia_r h e 0 = e + 1 := g.2.2.2.1 e 0 _ (by rw [pe]; rfl)
theorem ka_12_0_0 : ∀ e ∈ [417], kd_D (e + 1) = (100, 6528) := by decide +kernel
theorem ka_12_0 {e : Nat} (pe : (kd_D e).1 = 12) : kd_D (e + 1) = (100, 6528) := ka_12_0_0 e (kn_12 pe)
theorem gr_12_1 {w : ia_O0} {h : ia_H} {e : Nat} (g : gd_ w h) (pe : (kd_D e).1 = 12) : ia_r h e 1 = e + 2 := g.2.2.2.1 e 1 _ (by rw [pe]; rfl)
theorem ka_12_1_0 : ∀ e ∈ [417], kd_D (e + 2) = (101, 3) := by decide +kernel
theorem ka_12_1 {e : Nat} (pe : (kd_D e).1 = 12) : kd_D (e + 2) = (101, 3) := ka_12_1_0 e (kn_12 pe)
theorem gr_12_10 {w : ia_O0} {h : ia_H} {e : Nat} (g : gd_ w h) (pe : (kd_D e).1 = 12) : ia_r h e 10 = e + 3 := g.2.2.2.1 e 10 _ (by rw [pe]; rfl)
theorem ka_12_10_0 : ∀ e ∈ [417], kd_D (e + 3) = (100, 260) := by decide +kernel
theorem ka_12_10 {e : Nat} (pe : (kd_D e).1 = 12) : kd_D (e + 3) = (100, 260) := ka_12_10_0 e (kn_12 pe)
theorem gr_12_12 {w : ia_O0} {h : ia_H} {e : Nat} (g : gd_ w h) (pe : (kd_D e).1 = 12) : ia_r h e 12 = e + 4 := g.2.2.2.1 e 12 _ (by rw [pe]; rfl)
theorem ka_12_12_0 : ∀ e ∈ [417], kd_D (e + 4) = (100, 140) := by decide +kernel
theorem ka_12_12 {e : Nat} (pe : (kd_D e).1 = 12) : kd_D (e + 4) = (100, 140) := ka_12_12_0 e (kn_12 pe)
theorem gr_12_13 {w : ia_O0} {h : ia_H} {e : Nat} (g : gd_ w h) (pe : (kd_D e).1 = 12) : ia_r h e 13 = e + 5 := g.2.2.2.1 e 13 _ (by rw [pe]; rfl)
theorem ka_12_13_0 : ∀ e ∈ [417], kd_D (e + 5) = (100, 1120) := by decide +kernel
theorem ka_12_13 {e : Nat} (pe : (kd_D e).1 = 12) : kd_D (e + 5) = (100, 1120) := ka_12_13_0 e (kn_12 pe)
theorem gr_12_20 {w : ia_O0} {h : ia_H} {e : Nat} (g : gd_ w h) (pe : (kd_D e).1 = 12) : ia_r h e 20 = e + 6 := g.2.2.2.1 e 20 _ (by rw [pe]; rfl)
theorem ka_12_20_0 : ∀ e ∈ [417], kd_D (e + 6) = (100, 36) := by decide +kernel
theorem ka_12_20 {e : Nat} (pe : (kd_D e).1 = 12) : kd_D (e + 6) = (100, 36) := ka_12_20_0 e (kn_12 pe)
theorem gr_12_21 {w : ia_O0} {h : ia_H} {e : Nat} (g : gd_ w h) (pe : (kd_D e).1 = 12) : ia_r h e 21 = e + 7 := g.2.2.2.1 e 21 _ (by rw [pe]; rfl)
theorem ka_12_21_0 : ∀ e ∈ [417], kd_D (e + 7) = (101, 36) := by decide +kernel
theorem ka_12_21 {e : Nat} (pe : (kd_D e).1 = 12) : kd_D (e + 7) = (101, 36) := ka_12_21_0 e (kn_12 pe)
theorem gr_12_22 {w : ia_O0} {h : ia_H} {e : Nat} (g : gd_ w h) (pe : (kd_D e).1 = 12) : ia_r h e 22 = e + 8 := g.2.2.2.1 e 22 _ (by rw [pe]; rfl)
theorem ka_12_22_0 : ∀ e ∈ [417], kd_D (e + 8) = (100, 36) := by decide +kernel
theorem ka_12_22 {e : Nat} (pe : (kd_D e).1 = 12) : kd_D (e + 8) = (100, 36) := ka_12_22_0 e (kn_12 pe)
theorem gr_12_25 {w : ia_O0} {h : ia_H} {e : Nat} (g : gd_ w h) (pe : (kd_D e).1 = 12) : ia_r h e 25 = e + 9 := g.2.2.2.1 e 25 _ (by rw [pe]; rfl)
theorem ka_12_25_0 : ∀ e ∈ [417], kd_D (e + 9) = (101, 36) := by decide +kernel
theorem ka_12_25 {e : Nat} (pe : (kd_D e).1 = 12) : kd_D (e + 9) = (101, 36) := ka_12_25_0 e (kn_12 pe)
theorem gr_12_26 {w : ia_O0} {h : ia_H} {e : Nat} (g : gd_ w h) (pe : (kd_D e).1 = 12) : ia_r h e 26 = e + 10 := g.2.2.2.1 e 26 _ (by rw [pe]; rfl)
theorem ka_12_26_0 : ∀ e ∈ [417], kd_D (e + 10) = (100, 36) := by decide +kernel
theorem ka_12_26 {e : Nat} (pe : (kd_D e).1 = 12) : kd_D (e + 10) = (100, 36) := ka_12_26_0 e (kn_12 pe)
theorem gr_12_28 {w : ia_O0} {h : ia_H} {e : Nat} (g : gd_ w h) (pe : (kd_D e).1 = 12) : ia_r h e 28 = e + 11 := g.2.2.2.1 e 28 _ (by rw [pe]; rfl)
theorem ka_12_28_0 : ∀ e ∈ [417], kd_D (e + 11) = (100, 9) := by decide +kernel
theorem ka_12_28 {e : Nat} (pe : (kd_D e).1 = 12) : kd_D (e + 11) = (100, 9) := ka_12_28_0 e (kn_12 pe)
theorem gr_12_29 {w : ia_O0} {h : ia_H} {e : Nat} (g : gd_ w h) (pe : (kd_D e).1 = 12) : ia_r h e 29 = e + 12 := g.2.2.2.1 e 29 _ (by rw [pe]; rfl)
theorem ka_12_29_0 : ∀ e ∈ [417], kd_D (e + 12) = (100, 9) := by decide +kernel
theorem ka_12_29 {e : Nat} (pe : (kd_D e).1 = 12) : kd_D (e + 12) = (100, 9) := ka_12_29_0 e (kn_12 pe)
theorem gr_12_31 {w : ia_O0} {h : ia_H} {e : Nat} (g : gd_ w h) (pe : (kd_D e).1 = 12) : ia_r h e 31 = e + 13 := g.2.2.2.1 e 31 _ (by rw [pe]; rfl)
theorem ka_12_31_0 : ∀ e ∈ [417], kd_D (e + 13) = (100, 36) := by decide +kernel
theorem ka_12_31 {e : Nat} (pe : (kd_D e).1 = 12) : kd_D (e + 13) = (100, 36) := ka_12_31_0 e (kn_12 pe)
theorem gr_12_32 {w : ia_O0} {h : ia_H} {e : Nat} (g : gd_ w h) (pe : (kd_D e).1 = 12) : ia_r h e 32 = e + 14 := g.2.2.2.1 e 32 _ (by rw [pe]; rfl)
theorem ka_12_32_0 : ∀ e ∈ [417], kd_D (e + 14) = (100, 6) := by decide +kernel
theorem ka_12_32 {e : Nat} (pe : (kd_D e).1 = 12) : kd_D (e + 14) = (100, 6) := ka_12_32_0 e (kn_12 pe)
theorem gr_12_33 {w : ia_O0} {h : ia_H} {e : Nat} (g : gd_ w h) (pe : (kd_D e).1 = 12) : ia_r h e 33 = e + 15 := g.2.2.2.1 e 33 _ (by rw [pe]; rfl)
theorem ka_12_33_0 : ∀ e ∈ [417], kd_D (e + 15) = (100, 6) := by decide +kernel
theorem ka_12_33 {e : Nat} (pe : (kd_D e).1 = 12) : kd_D (e + 15) = (100, 6) := ka_12_33_0 e (kn_12 pe)
theorem gr_12_34 {w : ia_O0} {h : ia_H} {e : Nat} (g : gd_ w h) (pe : (kd_D e).1 = 12) : ia_r h e 34 = e + 16 := g.2.2.2.1 e 34 _ (by rw [pe]; rfl)
theorem ka_12_34_0 : ∀ e ∈ [417], kd_D (e + 16) = (100, 6) := by decide +kernel
theorem ka_12_34 {e : Nat} (pe : (kd_D e).1 = 12) : kd_D (e + 16) = (100, 6) := ka_12_34_0 e (kn_12 pe)
theorem gr_12_35 {w : ia_O0} {h : ia_H} {e : Nat} (g : gd_ w h) (pe : (kd_D e).1 = 12) : ia_r h e 35 = e + 17 := g.2.2.2.1 e 35 _ (by rw [pe]; rfl)
theorem ka_12_35_0 : ∀ e ∈ [417], kd_D (e + 17) = (100, 36) := by decide +kernel
theorem ka_12_35 {e : Nat} (pe : (kd_D e).1 = 12) : kd_D (e + 17) = (100, 36) := ka_12_35_0 e (kn_12 pe)
theorem gm_9_0 {w : ia_O0} {h : ia_H} {e : Nat} (g : gd_ w h) (pe : (kd_D e).1 = 9) : (kd_D (ia_r h e 0)).1 = 3 := (g.2.2.2.2.2.2.1 e pe).1
theorem gw_9_0 {w : ia_O0} {h : ia_H} {e v : Nat} (g : gd_ w h) (pe : (kd_D e).1 = 9) (pv : (kd_D v).1 = 3) : gd_ w (ia_wR h e 0 v) := by
  obtain ⟨g1, g2, g3, g4, g5, g6, g7, g8, g9, g10, g11⟩ := g
  have hr : ∀ b j, ia_r (ia_wR h e 0 v) b j = if b = e ∧ j = 0 then v else ia_r h b j := fun b j => rfl
  refine ⟨g1, g2, g3, fun b j f q => ?_, fun b j f q => ?_, fun b j f q w => ?_, fun b q => ?_, fun b q => ?_, g9, g10, g11⟩
  · rw [hr]
    by_cases hb : b = e ∧ j = 0
    · rw [hb.1, hb.2, pe] at q; cases q
    · rw [if_neg hb]; exact g4 b j f q
  · rw [hr]
    by_cases hb : b = e ∧ j = 0
    · rw [hb.1, hb.2, pe] at q; cases q
    · rw [if_neg hb]; exact g5 b j f q
  · rw [hr]
    by_cases hb : b = e ∧ j = 0
    · rw [hb.1, pe] at q; cases q
    · rw [if_neg hb]; exact g6 b j f q w
  · simp only [hr]
    by_cases hb : b = e
    · subst hb
      have h7 := g7 b q
      constructor <;> split <;> first | exact pv | exact h7.1 | exact h7.2 | exact absurd (q.symm.trans pe) (by decide) | (rename_i w; exact absurd w.2 (by decide))
    · simp only [hb, false_and, if_false]
      exact g7 b q
  · simp only [hr]
    by_cases hb : b = e
    · subst hb
      have h8 := g8 b q
      constructor <;> split <;> first | exact pv | exact h8.1 | exact h8.2 | exact absurd (q.symm.trans pe) (by decide) | (rename_i w; exact absurd w.2 (by decide))
    · simp only [hb, false_and, if_false]
      exact g8 b q
theorem gm_9_1 {w : ia_O0} {h : ia_H} {e : Nat} (g : gd_ w h) (pe : (kd_D e).1 = 9) : (kd_D (ia_r h e 1)).1 = 4 := (g.2.2.2.2.2.2.1 e pe).2
theorem gw_9_1 {w : ia_O0} {h : ia_H} {e v : Nat} (g : gd_ w h) (pe : (kd_D e).1 = 9) (pv : (kd_D v).1 = 4) : gd_ w (ia_wR h e 1 v) := by
  obtain ⟨g1, g2, g3, g4, g5, g6, g7, g8, g9, g10, g11⟩ := g
  have hr : ∀ b j, ia_r (ia_wR h e 1 v) b j = if b = e ∧ j = 1 then v else ia_r h b j := fun b j => rfl
  refine ⟨g1, g2, g3, fun b j f q => ?_, fun b j f q => ?_, fun b j f q w => ?_, fun b q => ?_, fun b q => ?_, g9, g10, g11⟩
  · rw [hr]
    by_cases hb : b = e ∧ j = 1
    · rw [hb.1, hb.2, pe] at q; cases q
    · rw [if_neg hb]; exact g4 b j f q
  · rw [hr]
    by_cases hb : b = e ∧ j = 1
    · rw [hb.1, hb.2, pe] at q; cases q
    · rw [if_neg hb]; exact g5 b j f q
  · rw [hr]
    by_cases hb : b = e ∧ j = 1
    · rw [hb.1, pe] at q; cases q
    · rw [if_neg hb]; exact g6 b j f q w
  · simp only [hr]
    by_cases hb : b = e
    · subst hb
      have h7 := g7 b q
      constructor <;> split <;> first | exact pv | exact h7.1 | exact h7.2 | exact absurd (q.symm.trans pe) (by decide) | (rename_i w; exact absurd w.2 (by decide))
    · simp only [hb, false_and, if_false]
      exact g7 b q
  · simp only [hr]
    by_cases hb : b = e
    · subst hb
      have h8 := g8 b q
      constructor <;> split <;> first | exact pv | exact h8.1 | exact h8.2 | exact absurd (q.symm.trans pe) (by decide) | (rename_i w; exact absurd w.2 (by decide))
    · simp only [hb, false_and, if_false]
      exact g8 b q
theorem gm_11_4 {w : ia_O0} {h : ia_H} {e : Nat} (g : gd_ w h) (pe : (kd_D e).1 = 11) : (kd_D (ia_r h e 4)).1 = 3 := (g.2.2.2.2.2.2.2.1 e pe).1
theorem gw_11_4 {w : ia_O0} {h : ia_H} {e v : Nat} (g : gd_ w h) (pe : (kd_D e).1 = 11) (pv : (kd_D v).1 = 3) : gd_ w (ia_wR h e 4 v) := by
  obtain ⟨g1, g2, g3, g4, g5, g6, g7, g8, g9, g10, g11⟩ := g
  have hr : ∀ b j, ia_r (ia_wR h e 4 v) b j = if b = e ∧ j = 4 then v else ia_r h b j := fun b j => rfl
  refine ⟨g1, g2, g3, fun b j f q => ?_, fun b j f q => ?_, fun b j f q w => ?_, fun b q => ?_, fun b q => ?_, g9, g10, g11⟩
  · rw [hr]
    by_cases hb : b = e ∧ j = 4
    · rw [hb.1, hb.2, pe] at q; cases q
    · rw [if_neg hb]; exact g4 b j f q
  · rw [hr]
    by_cases hb : b = e ∧ j = 4
    · rw [hb.1, hb.2, pe] at q; cases q
    · rw [if_neg hb]; exact g5 b j f q
  · rw [hr]
    by_cases hb : b = e ∧ j = 4
    · rw [hb.1, pe] at q; cases q
    · rw [if_neg hb]; exact g6 b j f q w
  · simp only [hr]
    by_cases hb : b = e
    · subst hb
      have h7 := g7 b q
      constructor <;> split <;> first | exact pv | exact h7.1 | exact h7.2 | exact absurd (q.symm.trans pe) (by decide) | (rename_i w; exact absurd w.2 (by decide))
    · simp only [hb, false_and, if_false]
      exact g7 b q
  · simp only [hr]
    by_cases hb : b = e
    · subst hb
      have h8 := g8 b q
      constructor <;> split <;> first | exact pv | exact h8.1 | exact h8.2 | exact absurd (q.symm.trans pe) (by decide) | (rename_i w; exact absurd w.2 (by decide))
    · simp only [hb, false_and, if_false]
      exact g8 b q
theorem gm_11_5 {w : ia_O0} {h : ia_H} {e : Nat} (g : gd_ w h) (pe : (kd_D e).1 = 11) : (kd_D (ia_r h e 5)).1 = 4 := (g.2.2.2.2.2.2.2.1 e pe).2
theorem gw_11_5 {w : ia_O0} {h : ia_H} {e v : Nat} (g : gd_ w h) (pe : (kd_D e).1 = 11) (pv : (kd_D v).1 = 4) : gd_ w (ia_wR h e 5 v) := by
  obtain ⟨g1, g2, g3, g4, g5, g6, g7, g8, g9, g10, g11⟩ := g
  have hr : ∀ b j, ia_r (ia_wR h e 5 v) b j = if b = e ∧ j = 5 then v else ia_r h b j := fun b j => rfl
  refine ⟨g1, g2, g3, fun b j f q => ?_, fun b j f q => ?_, fun b j f q w => ?_, fun b q => ?_, fun b q => ?_, g9, g10, g11⟩
  · rw [hr]
    by_cases hb : b = e ∧ j = 5
    · rw [hb.1, hb.2, pe] at q; cases q
    · rw [if_neg hb]; exact g4 b j f q
  · rw [hr]
    by_cases hb : b = e ∧ j = 5
    · rw [hb.1, hb.2, pe] at q; cases q
    · rw [if_neg hb]; exact g5 b j f q
  · rw [hr]
    by_cases hb : b = e ∧ j = 5
    · rw [hb.1, pe] at q; cases q
    · rw [if_neg hb]; exact g6 b j f q w
  · simp only [hr]
    by_cases hb : b = e
    · subst hb
      have h7 := g7 b q
      constructor <;> split <;> first | exact pv | exact h7.1 | exact h7.2 | exact absurd (q.symm.trans pe) (by decide) | (rename_i w; exact absurd w.2 (by decide))
    · simp only [hb, false_and, if_false]
      exact g7 b q
  · simp only [hr]
    by_cases hb : b = e
    · subst hb
      have h8 := g8 b q
      constructor <;> split <;> first | exact pv | exact h8.1 | exact h8.2 | exact absurd (q.symm.trans pe) (by decide) | (rename_i w; exact absurd w.2 (by decide))
    · simp only [hb, false_and, if_false]
      exact g8 b q
theorem gw_tape {w : ia_O0} {h : ia_H} {e v : Nat} (g : gd_ w h) (pe : (kd_D e).1 = 7) : gd_ w (ia_wR h e 6 v) := by
  obtain ⟨g1, g2, g3, g4, g5, g6, g7, g8, g9, g10, g11⟩ := g
  have hr : ∀ b j, ia_r (ia_wR h e 6 v) b j = if b = e ∧ j = 6 then v else ia_r h b j := fun b j => rfl
  refine ⟨g1, g2, g3, fun b j f q => ?_, fun b j f q => ?_, fun b j f q w => ?_, fun b q => ?_, fun b q => ?_, g9, g10, g11⟩
  · rw [hr]
    by_cases hb : b = e ∧ j = 6
    · rw [hb.1, hb.2, pe] at q; cases q
    · rw [if_neg hb]; exact g4 b j f q
  · rw [hr]
    by_cases hb : b = e ∧ j = 6
    · rw [hb.1, hb.2, pe] at q; cases q
    · rw [if_neg hb]; exact g5 b j f q
  · rw [hr]
    by_cases hb : b = e ∧ j = 6
    · rw [hb.1, pe] at q; cases q
    · rw [if_neg hb]; exact g6 b j f q w
  · have hb : b ≠ e := fun q2 => by rw [q2, pe] at q; cases q
    simp only [hr, hb, false_and, if_false]
    exact g7 b q
  · have hb : b ≠ e := fun q2 => by rw [q2, pe] at q; cases q
    simp only [hr, hb, false_and, if_false]
    exact g8 b q
theorem pk_64 : (kd_D 64).1 = 0 := by decide +kernel
theorem pk_325 : (kd_D 325).1 = 1 := by decide +kernel
theorem pk_345 : (kd_D 345).1 = 2 := by decide +kernel
theorem pk_280 : (kd_D 280).1 = 3 := by decide +kernel
theorem pk_292 : (kd_D 292).1 = 4 := by decide +kernel
theorem pk_326 : (kd_D 326).1 = 5 := by decide +kernel
theorem pk_296 : (kd_D 296).1 = 6 := by decide +kernel
theorem pk_279 : (kd_D 279).1 = 7 := by decide +kernel
theorem pk_413 : (kd_D 413).1 = 8 := by decide +kernel
theorem pk_415 : (kd_D 415).1 = 8 := by decide +kernel
theorem pk_303 : (kd_D 303).1 = 9 := by decide +kernel
theorem pk_329 : (kd_D 329).1 = 9 := by decide +kernel
theorem pk_337 : (kd_D 337).1 = 9 := by decide +kernel
theorem pk_349 : (kd_D 349).1 = 9 := by decide +kernel
theorem pk_357 : (kd_D 357).1 = 9 := by decide +kernel
theorem pk_365 : (kd_D 365).1 = 9 := by decide +kernel
theorem pk_373 : (kd_D 373).1 = 9 := by decide +kernel
theorem pk_381 : (kd_D 381).1 = 9 := by decide +kernel
theorem pk_389 : (kd_D 389).1 = 9 := by decide +kernel
theorem pk_397 : (kd_D 397).1 = 9 := by decide +kernel
theorem pk_405 : (kd_D 405).1 = 9 := by decide +kernel
theorem pk_65 : (kd_D 65).1 = 10 := by decide +kernel
theorem pk_119 : (kd_D 119).1 = 10 := by decide +kernel
theorem pk_172 : (kd_D 172).1 = 10 := by decide +kernel
theorem pk_225 : (kd_D 225).1 = 10 := by decide +kernel
theorem pk_311 : (kd_D 311).1 = 11 := by decide +kernel
theorem pk_417 : (kd_D 417).1 = 12 := by decide +kernel
