/-! heaps that are being made: the cells 64 to c - 1 stand, the objects in S are not finished -/
def hs_ (c : Nat) : Nat := ((kd_l.take (c - 64)).map fun q => if q.1 < 13 then ia_N q.1 else q.2).sum
def hc_ (c : Nat) (S : List Nat) (w : ia_O0) (h : ia_H) : Prop :=
  64 ≤ c ∧ ia_n h = c - 64 ∧ ia_m h = hs_ c ∧ (∀ a, 64 ≤ a → a < c → ia_k h a = kd_D a) ∧ (∀ a, c ≤ a → ia_k h a = (999, 0)) ∧ (∀ e k f, e < c → e ∉ S → rd_o (kd_D e).1 k = some f → ia_r h e k = e + f) ∧ (∀ e k f, e < c → e ∉ S → rd_c (kd_D e).1 k = some f → ia_r h e k = f) ∧ (∀ a j f, a < c → a ∉ S → rd_s (kd_D a).1 = some f → j < (kd_D a).2 → ia_r h a j = a + 1 + f * j) ∧ (∀ e, e < c → e ∉ S → (kd_D e).1 = 9 → (kd_D (ia_r h e 0)).1 = 3 ∧ (kd_D (ia_r h e 1)).1 = 4) ∧ (∀ e, e < c → e ∉ S → (kd_D e).1 = 11 → (kd_D (ia_r h e 4)).1 = 3 ∧ (kd_D (ia_r h e 5)).1 = 4) ∧ ∀ a, a < 64 → ia_k h a = w.1 a ∧ ia_i h a = w.2 a
theorem hs_succ {c k n : Nat} (h64 : 64 ≤ c) (hk : kd_D c = (k, n)) (hne : k ≠ 999) : hs_ (c + 1) = hs_ c + (if k < 13 then ia_N k else n) := by
  have hlt := (kd_lt (a := c) (by rw [hk]; exact hne)).2
  unfold hs_
  rw [show c + 1 - 64 = c - 64 + 1 by omega, List.take_succ]
  have hat : kd_l[c - 64]? = some (k, n) := by
    unfold kd_D at hk
    rw [if_neg (by omega), List.getD_eq_getElem?_getD] at hk
    rw [List.getElem?_eq_getElem (by rw [kd_len]; omega)] at hk ⊢
    rw [← hk]
    rfl
  rw [hat]
  simp
/-- an array of ints, booleans, bytes or longs -/
theorem hc_arr {c k n : Nat} {S : List Nat} {w : ia_O0} {h : ia_H} (H : hc_ c S w h) (hk : kd_D c = (k, n)) (h1 : 100 ≤ k) (h2 : k < 104) : hc_ (c + 1) S w (ia_nw h k n n) := by
  obtain ⟨a1, a2, a3, a4, a5, a6, a7, a8, a9, a10, a11⟩ := H
  have hn : 64 + ia_n h = c := by omega
  have hc : ∀ e, e < c + 1 → e ≠ c → e < c := fun e q1 q2 => by omega
  have hr : ∀ e, e ≠ c → ia_r (ia_nw h k n n) e = ia_r h e := fun e q => ia_nw_r (by omega)
  have hkc : (kd_D c).1 = k := by rw [hk]
  refine ⟨by omega, by show ia_n h + 1 = _; omega, ?_, fun a q1 q2 => ?_, fun a q => ?_, fun e j f q1 q2 q3 => ?_, fun e j f q1 q2 q3 => ?_, fun e j f q1 q2 q3 q4 => ?_, fun e q1 q2 q3 => ?_, fun e q1 q2 q3 => ?_, fun a q => ?_⟩
  · rw [hs_succ a1 hk (by omega), if_neg (by omega)]
    show ia_m h + n = _
    rw [a3]
  · by_cases e : a = c
    · subst e
      rw [← hn, ia_nw_k0, hn, hk]
    · rw [ia_nw_k (by omega)]; exact a4 a q1 (by omega)
  · rw [ia_nw_k (by omega)]; exact a5 a (by omega)
  · by_cases e1 : e = c
    · subst e1
      rw [hkc] at q3
      exfalso
      rcases (show k = 100 ∨ k = 101 ∨ k = 102 ∨ k = 103 by omega) with rfl | rfl | rfl | rfl <;> cases q3
    · rw [hr e e1]; exact a6 e j f (hc e q1 e1) q2 q3
  · by_cases e1 : e = c
    · subst e1
      rw [hkc] at q3
      exfalso
      rcases (show k = 100 ∨ k = 101 ∨ k = 102 ∨ k = 103 by omega) with rfl | rfl | rfl | rfl <;> cases q3
    · rw [hr e e1]; exact a7 e j f (hc e q1 e1) q2 q3
  · by_cases e1 : e = c
    · subst e1
      rw [hkc] at q3
      exfalso
      rcases (show k = 100 ∨ k = 101 ∨ k = 102 ∨ k = 103 by omega) with rfl | rfl | rfl | rfl <;> cases q3
    · rw [hr e e1]; exact a8 e j f (hc e q1 e1) q2 q3 q4
  · have e1 : e ≠ c := fun e1 => by rw [e1, hkc] at q3; omega
    rw [hr e e1]; exact a9 e (hc e q1 e1) q2 q3
  · have e1 : e ≠ c := fun e1 => by rw [e1, hkc] at q3; omega
    rw [hr e e1]; exact a10 e (hc e q1 e1) q2 q3
  · rw [ia_nw_k (by omega), ia_nw_i (by omega)]; exact a11 a q
/-- an object, or an array of references: it joins the unfinished -/
theorem hc_new {c k n len sl : Nat} {S : List Nat} {w : ia_O0} {h : ia_H} (H : hc_ c S w h) (hk : kd_D c = (k, n)) (hl : len = n) (hne : k ≠ 999) (hsl : sl = if k < 13 then ia_N k else n) : hc_ (c + 1) (c :: S) w (ia_nw h k len sl) := by
  subst hl
  obtain ⟨a1, a2, a3, a4, a5, a6, a7, a8, a9, a10, a11⟩ := H
  have hn : 64 + ia_n h = c := by omega
  have hr : ∀ e, e ≠ c → ia_r (ia_nw h k len sl) e = ia_r h e := fun e q => ia_nw_r (by omega)
  have hm : ∀ e, e < c + 1 → e ∉ c :: S → e ≠ c ∧ e < c ∧ e ∉ S := fun e q1 q2 => by
    have h1 : e ≠ c := fun q => q2 (by rw [q]; exact List.mem_cons_self)
    exact ⟨h1, by omega, fun q => q2 (List.mem_cons_of_mem _ q)⟩
  refine ⟨by omega, by show ia_n h + 1 = _; omega, ?_, fun a q1 q2 => ?_, fun a q => ?_, fun e j f q1 q2 q3 => ?_, fun e j f q1 q2 q3 => ?_, fun e j f q1 q2 q3 q4 => ?_, fun e q1 q2 q3 => ?_, fun e q1 q2 q3 => ?_, fun a q => ?_⟩
  · rw [hs_succ a1 hk hne, ← hsl]
    show ia_m h + sl = _
    rw [a3]
  · by_cases e : a = c
    · subst e
      rw [← hn, ia_nw_k0, hn, hk]
    · rw [ia_nw_k (by omega)]; exact a4 a q1 (by omega)
  · rw [ia_nw_k (by omega)]; exact a5 a (by omega)
  · obtain ⟨b1, b2, b3⟩ := hm e q1 q2
    rw [hr e b1]; exact a6 e j f b2 b3 q3
  · obtain ⟨b1, b2, b3⟩ := hm e q1 q2
    rw [hr e b1]; exact a7 e j f b2 b3 q3
  · obtain ⟨b1, b2, b3⟩ := hm e q1 q2
    rw [hr e b1]; exact a8 e j f b2 b3 q3 q4
  · obtain ⟨b1, b2, b3⟩ := hm e q1 q2
    rw [hr e b1]; exact a9 e b2 b3 q3
  · obtain ⟨b1, b2, b3⟩ := hm e q1 q2
    rw [hr e b1]; exact a10 e b2 b3 q3
  · rw [ia_nw_k (by omega), ia_nw_i (by omega)]; exact a11 a q
theorem hc_wI {c : Nat} {S : List Nat} {w : ia_O0} {h : ia_H} {a i : Nat} {x : Int32} (H : hc_ c S w h) (ha : 64 ≤ a) : hc_ c S w (ia_wI h a i x) := by
  obtain ⟨a1, a2, a3, a4, a5, a6, a7, a8, a9, a10, a11⟩ := H
  exact ⟨a1, a2, a3, a4, a5, a6, a7, a8, a9, a10, fun b hb => ⟨(a11 b hb).1, (ia_up_b (by omega)).trans (a11 b hb).2⟩⟩
theorem hc_wL {c : Nat} {S : List Nat} {w : ia_O0} {h : ia_H} {a i : Nat} {x : Int64} (H : hc_ c S w h) : hc_ c S w (ia_wL h a i x) := H
/-- a reference of an unfinished one -/
theorem hc_wR {c : Nat} {S : List Nat} {w : ia_O0} {h : ia_H} {a i x : Nat} (H : hc_ c S w h) (ha : a ∈ S) : hc_ c S w (ia_wR h a i x) := by
  obtain ⟨a1, a2, a3, a4, a5, a6, a7, a8, a9, a10, a11⟩ := H
  have hr : ∀ e, e ∉ S → ia_r (ia_wR h a i x) e = ia_r h e := fun e q => ia_up_b (fun q2 => q (by rw [q2]; exact ha))
  refine ⟨a1, a2, a3, a4, a5, fun e j f q1 q2 q3 => ?_, fun e j f q1 q2 q3 => ?_, fun e j f q1 q2 q3 q4 => ?_, fun e q1 q2 q3 => ?_, fun e q1 q2 q3 => ?_, a11⟩
  · rw [hr e q2]; exact a6 e j f q1 q2 q3
  · rw [hr e q2]; exact a7 e j f q1 q2 q3
  · rw [hr e q2]; exact a8 e j f q1 q2 q3 q4
  · rw [hr e q2]; exact a9 e q1 q2 q3
  · rw [hr e q2]; exact a10 e q1 q2 q3
/-- the last begun is finished -/
theorem hc_fin {c e0 : Nat} {S : List Nat} {w : ia_O0} {h : ia_H} (H : hc_ c (e0 :: S) w h) (h1 : ∀ k f, rd_o (kd_D e0).1 k = some f → ia_r h e0 k = e0 + f) (h2 : ∀ k f, rd_c (kd_D e0).1 k = some f → ia_r h e0 k = f) (h3 : ∀ j f, rd_s (kd_D e0).1 = some f → j < (kd_D e0).2 → ia_r h e0 j = e0 + 1 + f * j) (h4 : (kd_D e0).1 = 9 → (kd_D (ia_r h e0 0)).1 = 3 ∧ (kd_D (ia_r h e0 1)).1 = 4) (h5 : (kd_D e0).1 = 11 → (kd_D (ia_r h e0 4)).1 = 3 ∧ (kd_D (ia_r h e0 5)).1 = 4) : hc_ c S w h := by
  obtain ⟨a1, a2, a3, a4, a5, a6, a7, a8, a9, a10, a11⟩ := H
  have hm : ∀ e, e ≠ e0 → e ∉ S → e ∉ e0 :: S := fun e q1 q2 q3 => by
    rcases List.mem_cons.mp q3 with q | q
    · exact q1 q
    · exact q2 q
  refine ⟨a1, a2, a3, a4, a5, fun e j f q1 q2 q3 => ?_, fun e j f q1 q2 q3 => ?_, fun e j f q1 q2 q3 q4 => ?_, fun e q1 q2 q3 => ?_, fun e q1 q2 q3 => ?_, a11⟩
  · by_cases b : e = e0
    · subst b; exact h1 j f q3
    · exact a6 e j f q1 (hm e b q2) q3
  · by_cases b : e = e0
    · subst b; exact h2 j f q3
    · exact a7 e j f q1 (hm e b q2) q3
  · by_cases b : e = e0
    · subst b; exact h3 j f q3 q4
    · exact a8 e j f q1 (hm e b q2) q3 q4
  · by_cases b : e = e0
    · subst b; exact h4 q3
    · exact a9 e q1 (hm e b q2) q3
  · by_cases b : e = e0
    · subst b; exact h5 q3
    · exact a10 e q1 (hm e b q2) q3
theorem hc_gd {w : ia_O0} {h : ia_H} (H : hc_ 435 [] w h) (w2 : w.1 2 = (100, 3)) (w3 : w.1 3 = (100, 4)) : gd_ w h := by
  obtain ⟨a1, a2, a3, a4, a5, a6, a7, a8, a9, a10, a11⟩ := H
  have hlt : ∀ e : Nat, (kd_D e).1 ≠ 999 → e < 435 := fun e q => (kd_lt q).2
  refine ⟨fun a q => ?_, by rw [a2], by rw [a3]; decide +kernel, fun e k f q => ?_, fun e k f q => ?_, fun a j f q1 q2 => ?_, fun e q => ?_, fun e q => ?_, ?_, ?_, a11⟩
  · rcases Nat.lt_or_ge a 435 with b | b
    · exact a4 a q b
    · rw [a5 a b]
      unfold kd_D
      rw [if_neg (by omega), List.getD_eq_getElem?_getD, List.getElem?_eq_none (by rw [kd_len]; omega)]
      rfl
  · exact a6 e k f (hlt e (fun b => by rw [b] at q; cases q)) List.not_mem_nil q
  · exact a7 e k f (hlt e (fun b => by rw [b] at q; cases q)) List.not_mem_nil q
  · exact a8 a j f (hlt a (fun b => by rw [b] at q1; cases q1)) List.not_mem_nil q1 q2
  · exact a9 e (hlt e (by rw [q]; decide)) List.not_mem_nil q
  · exact a10 e (hlt e (by rw [q]; decide)) List.not_mem_nil q
  · rw [(a11 2 (by decide)).1]; exact w2
  · rw [(a11 3 (by decide)).1]; exact w3
