/-! fields and arrays -/
theorem ia_rv_new {g : ia_G} {a : Nat} (h1 : 64 ≤ a) : ia_rv g (.inr (.inr a)) = .ref (ia_z g + (a - 64)) := by
  simp only [ia_rv, ia_ro]
  rw [if_neg (by omega), if_neg (by omega)]
  rfl
theorem ia_rv_old {g : ia_G} {a : Nat} (h0 : a ≠ 0) (h1 : a < 64) : ia_rv g (.inr (.inr a)) = .ref (ia_o g a) := by
  simp only [ia_rv, ia_ro]
  rw [if_neg h0, if_pos h1]
  rfl
theorem ia_en_ob {g : ia_G} {h : ia_H} {a ci : Nat} (e : (ia_k h a).1 = ci) (hc : ci < 13) : ia_en g h a = .inr (ci, (List.range (ia_N ci)).map (ia_fv g h a ci)) := by
  unfold ia_en
  rw [e, if_pos hc]
theorem ia_en_i {g : ia_G} {h : ia_H} {a k : Nat} (e : (ia_k h a).1 = k) (h1 : 100 ≤ k) (h2 : k < 103) : ia_en g h a = .inl (ia_cA g k, (ia_k h a).2, .inl (ia_i h a)) := by
  unfold ia_en
  rw [e, if_neg (by omega), if_pos h2]
theorem ia_en_l {g : ia_G} {h : ia_H} {a : Nat} (e : (ia_k h a).1 = 103) : ia_en g h a = .inl (ia_cA g 103, (ia_k h a).2, .inr (.inl (ia_l h a))) := by
  unfold ia_en
  rw [e, if_neg (by omega), if_neg (by omega), if_pos rfl]
theorem ia_en_r {g : ia_G} {h : ia_H} {a k : Nat} (e : (ia_k h a).1 = k) (h1 : 104 ≤ k) : ia_en g h a = .inl (ia_cA g k, (ia_k h a).2, .inr (.inr (.inr (.inr fun j => ia_ro g (ia_r h a j))))) := by
  unfold ia_en
  rw [e, if_neg (by omega), if_neg (by omega), if_neg (by omega)]
theorem ia_new_of {g : ia_G} {s : State} {h : ia_H} {a : Nat} (hO : ia_old g s) (hk : ia_hk g h) (e1 : (ia_k h a).1 < 200) (e2 : (ia_k h a).1 ≠ 100) : 64 ≤ a ∧ a < 64 + ia_n h := by
  constructor
  · rcases Nat.lt_or_ge a 64 with q | q
    · have h1 := (hk.1 a q).1
      rcases hO a q with h2 | h2
      · rw [h1] at e1; omega
      · rw [h1] at e2; exact absurd h2.1 e2
    · exact q
  · rcases Nat.lt_or_ge a (64 + ia_n h) with q | q
    · exact q
    · have := hk.2 a q; omega
theorem ia_new_lt {g : ia_G} {h : ia_H} {a : Nat} (hk : ia_hk g h) (e1 : (ia_k h a).1 < 200) : a < 64 + ia_n h := by
  rcases Nat.lt_or_ge a (64 + ia_n h) with q | q
  · exact q
  · have := hk.2 a q; omega
theorem ia_up_a {α : Type} (f : Nat → Nat → α) (a i : Nat) (x : α) : ia_up f a i x a = fun j => if j = i then x else f a j := by
  funext j
  unfold ia_up
  simp
theorem ia_up_b {α : Type} {f : Nat → Nat → α} {a i : Nat} {x : α} {b : Nat} (h : b ≠ a) : ia_up f a i x b = f b := by
  funext j
  unfold ia_up
  simp [h]
theorem ia_up_j {α : Type} {f : Nat → Nat → α} {a i : Nat} {x : α} {b j : Nat} (h : j ≠ i) : ia_up f a i x b j = f b j := by
  unfold ia_up
  simp [h]
theorem ia_up_s {α : Type} {f : Nat → Nat → α} {a i : Nat} {x : α} : ia_up f a i x a i = x := by
  unfold ia_up
  simp
/-- what is written at a shows nowhere else -/
theorem ia_en_wI {g : ia_G} {h : ia_H} {a i b : Nat} {x : Int32} (hb : b ≠ a) : ia_en g (ia_wI h a i x) b = ia_en g h b := by
  have e : ia_i (ia_wI h a i x) b = ia_i h b := ia_up_b hb
  have ef : ∀ ci, ia_fv g (ia_wI h a i x) b ci = ia_fv g h b ci := by
    intro ci
    funext k
    unfold ia_fv
    rw [e]
    rfl
  unfold ia_en
  rw [ef, e]
  rfl
theorem ia_en_wL {g : ia_G} {h : ia_H} {a i b : Nat} {x : Int64} (hb : b ≠ a) : ia_en g (ia_wL h a i x) b = ia_en g h b := by
  have e : ia_l (ia_wL h a i x) b = ia_l h b := ia_up_b hb
  have ef : ∀ ci, ia_fv g (ia_wL h a i x) b ci = ia_fv g h b ci := by
    intro ci
    funext k
    unfold ia_fv
    rw [e]
    rfl
  unfold ia_en
  rw [ef, e]
  rfl
theorem ia_en_wR {g : ia_G} {h : ia_H} {a i b : Nat} {x : Nat} (hb : b ≠ a) : ia_en g (ia_wR h a i x) b = ia_en g h b := by
  have e : ia_r (ia_wR h a i x) b = ia_r h b := ia_up_b hb
  have ef : ∀ ci, ia_fv g (ia_wR h a i x) b ci = ia_fv g h b ci := by
    intro ci
    funext k
    unfold ia_fv
    rw [e]
    rfl
  unfold ia_en
  rw [ef, e]
  rfl
theorem ia_hk_wI {g : ia_G} {h : ia_H} {a i : Nat} {x : Int32} (hk : ia_hk g h) (ha : 64 ≤ a) : ia_hk g (ia_wI h a i x) :=
  ⟨fun b hb => ⟨(hk.1 b hb).1, (ia_up_b (by omega)).trans (hk.1 b hb).2⟩, hk.2⟩
theorem ia_hk_wL {g : ia_G} {h : ia_H} {a i : Nat} {x : Int64} (hk : ia_hk g h) : ia_hk g (ia_wL h a i x) := ⟨hk.1, hk.2⟩
theorem ia_hk_wR {g : ia_G} {h : ia_H} {a i : Nat} {x : Nat} (hk : ia_hk g h) : ia_hk g (ia_wR h a i x) := ⟨hk.1, hk.2⟩
theorem ia_en_set {g : ia_G} {h h' : ia_H} {a ci k : Nat} {v : Value} (e : (ia_k h a).1 = ci) (e' : (ia_k h' a).1 = ci) (hc : ci < 13) (hk : k < ia_N ci) (hv : ia_fv g h' a ci k = v) (ho : ∀ j, j ≠ k → ia_fv g h' a ci j = ia_fv g h a ci j) : ia_en g h' a = .inr (ci, ((List.range (ia_N ci)).map (ia_fv g h a ci)).set k v) := by
  rw [ia_en_ob e' hc]
  congr 2
  apply List.ext_getElem?
  intro j
  rw [List.getElem?_set]
  by_cases hj : k = j
  · subst hj
    simp [hk, hv]
  · rw [if_neg hj, List.getElem?_map, List.getElem?_map]
    rcases Nat.lt_or_ge j (ia_N ci) with q | q
    · rw [List.getElem?_range q]
      simp only [Option.map_some]
      rw [ho j (fun e => hj e.symm)]
    · rw [List.getElem?_eq_none (by simpa using q)]
      rfl
theorem ia_ft_0 {ci k : Nat} (h : ia_ft ci k = 0) : ia_ty ci k = .int := by
  unfold ia_ft at h
  split at h <;> first | assumption | cases h
theorem ia_ft_1 {ci k : Nat} (h : ia_ft ci k = 1) : ia_ty ci k = .long := by
  unfold ia_ft at h
  split at h <;> first | assumption | cases h
theorem ia_ft_4 {ci k : Nat} (h : ia_ft ci k = 4) : ia_ty ci k = .boolean := by
  unfold ia_ft at h
  split at h <;> first | assumption | cases h
theorem ia_ft_2 {ci k : Nat} (h : ia_ft ci k = 2) : (∃ C, ia_ty ci k = .object C) ∨ ∃ t, ia_ty ci k = .array t := by
  unfold ia_ft at h
  split at h <;> first | (cases h; done) | (left; exact ⟨_, by assumption⟩) | (right; exact ⟨_, by assumption⟩)
section Ib
variable {p : Program} {l : Launch} {e : Env} {R : Room} {s : State} {m : MethodId} {args : Array Value} {below : List Frame} {meth : Method} {co : Code} {g : ia_G} {n0 : Nat} {Q : State → Prop} {c nL : Nat} {ini : Bool} {cc : ByteArray} {pc : Nat} {h : ia_H} {H : Heap} {locs : List Loc} {cells slots : Nat} {ls : Array Slot} {rest : List Value} {a : Nat}
theorem ia_fo_spec {c idx ci k : Nat} (hc : c < 22) (hf : ia_fo c idx ci k = true) : ci < 13 ∧ k < ia_N ci ∧ Cond.fieldLink (ia_O c) idx (ia_R ci) (ia_T ci k).2.1 (ia_T ci k).2.2.1 ∈ ia_tb := by
  unfold ia_fo at hf
  obtain ⟨q, hq, h1⟩ := List.any_eq_true.mp hf
  simp only [Bool.and_eq_true, beq_iff_eq] at h1
  obtain ⟨rfl, rfl, rfl⟩ := h1
  obtain ⟨a1, a2, a3⟩ := ia_fl_ok hc hq
  exact ⟨a1, a2, ia_tb_in a3 rfl⟩
theorem ia_in_tb {ci : Nat} (hc : ci < 13) : ∀ w ∈ u_ws (ia_R ci) (ia_T ci) (ia_N ci), w ∈ ia_tb := by
  intro w hw
  refine ia_tb_in (ia_in hc w hw) ?_
  obtain ⟨k, -, rfl⟩ := List.mem_map.mp hw
  unfold u_lay
  split <;> rfl
theorem ia_getf (G : ia_Gd c nL ini cc p s m args meth co g n0) (hP : va_P (ia_D g) ia_cl (ia_w g h) H) (hk : ia_hk g h) {idx ci k : Nat} (hf : ia_fo c idx ci k = true) (he : (ia_k h a).1 = ci) (hd : decode cc pc = .ok (.getfield idx, 3))
    (kk : W p l e R s m args below meth co H locs cells slots Q (F0 m (pc + 3) ls (ia_fv g h a ci k :: rest))) : W p l e R s m args below meth co H locs cells slots Q (F0 m pc ls (ia_rv g (.inr (.inr a)) :: rest)) := by
  obtain ⟨h1, h2, h3⟩ := ia_fo_spec G.2.2.2.2.2.2.2.2.1 hf
  obtain ⟨h4, h5⟩ := ia_new_of (a := a) G.2.2.2.2.2.2.2.1 hk (by omega) (by omega)
  rw [ia_rv_new h4]
  have hw := ia_w_at (g := g) h4 h5
  rw [ia_en_ob he h1] at hw
  exact va_get (own := ia_O c) (ref := ia_R ci) G.1 G.2.1 G.2.2.2.2.1 (ia_in_tb h1) G.2.2.2.1 G.2.2.2.2.2.2.1 hP (a - 64) hw (ia_cl_at h1) k h2 (G.2.2.2.2.1 _ h3) (fun _ q => q) (by simp [h2]) hd kk
theorem ia_put (G : ia_Gd c nL ini cc p s m args meth co g n0) (hP : va_P (ia_D g) ia_cl (ia_w g h) H) (hk : ia_hk g h) (hS : va_S (fun q => ia_z g ≤ q) s.heap H locs) {idx ci k : Nat} {v : Value} (hf : ia_fo c idx ci k = true) (he : (ia_k h a).1 = ci) (hfin : (!(ia_T ci k).2.2.2 || (ini && decide (ia_R ci = ia_O c))) = true) (hn : narrow (ia_ty ci k) v = v) (hfit : fits (ia_ty ci k) v = true) (hd : decode cc pc = .ok (.putfield idx, 3))
    {h' : ia_H} (e1 : ia_n h' = ia_n h) (e2 : ∀ b, b ≠ a → ia_en g h' b = ia_en g h b) (e3 : (ia_k h' a).1 = ci) (e4 : ia_fv g h' a ci k = v) (e5 : ∀ j, j ≠ k → ia_fv g h' a ci j = ia_fv g h a ci j)
    (kk : ∀ (H1 : Heap) (locs1 : List Loc), va_P (ia_D g) ia_cl (ia_w g h') H1 → va_S (fun q => ia_z g ≤ q) s.heap H1 locs1 → W p l e R s m args below meth co H1 locs1 cells slots Q (F0 m (pc + 3) ls rest)) : W p l e R s m args below meth co H locs cells slots Q (F0 m pc ls (v :: ia_rv g (.inr (.inr a)) :: rest)) := by
  obtain ⟨h1, h2, h3⟩ := ia_fo_spec G.2.2.2.2.2.2.2.2.1 hf
  obtain ⟨h4, h5⟩ := ia_new_of (a := a) G.2.2.2.2.2.2.2.1 hk (by omega) (by omega)
  rw [ia_rv_new h4]
  have hw := ia_w_at (g := g) h4 h5
  rw [ia_en_ob he h1] at hw
  have hs := ia_w_set (g := g) (h := h) (h' := h') h4 e1 (ia_en_set he e3 h1 h2 e4 e5) e2
  cases hfi : (ia_T ci k).2.2.2 with
  | false =>
    refine va_put (own := ia_O c) (ref := ia_R ci) G.1 G.2.1 G.2.2.2.2.1 (ia_in_tb h1) (ia_ty ci) (ia_ty_ok h1) (ia_nm h1) G.2.2.2.1 G.2.2.2.2.2.2.1 hP (ia_w_D g h) hS (a - 64) hw (ia_cl_at h1) k h2 (G.2.2.2.2.1 _ h3) (fun _ q => q) hfi (ia_ty_ok h1 k h2) hn hfit (by simpa using h2) hd (fun H1 locs1 p1 _ p3 => ?_)
    rw [hs] at p1
    exact kk H1 locs1 p1 p3
  | true =>
    rw [hfi] at hfin
    simp only [Bool.not_true, Bool.false_or, Bool.and_eq_true, decide_eq_true_eq] at hfin
    refine va_putF (own := ia_O c) (ref := ia_R ci) G.1 G.2.1 G.2.2.2.2.1 (ia_in_tb h1) (ia_ty ci) (ia_ty_ok h1) (ia_nm h1) G.2.2.2.1 G.2.2.2.2.2.2.1 hP (ia_w_D g h) hS (a - 64) hw (ia_cl_at h1) k h2 (G.2.2.2.2.1 _ h3) (fun _ q => q) hfi (G.2.2.2.2.2.1 hfin.1) hfin.2 (ia_ty_ok h1 k h2) hn hfit (by simpa using h2) hd (fun H1 locs1 p1 _ p3 => ?_)
    rw [hs] at p1
    exact kk H1 locs1 p1 p3
end Ib
