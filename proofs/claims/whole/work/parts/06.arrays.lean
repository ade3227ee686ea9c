/-! arrays -/
section Ic
variable {p : Program} {l : Launch} {e : Env} {R : Room} {s : State} {m : MethodId} {args : Array Value} {below : List Frame} {meth : Method} {co : Code} {g : ia_G} {n0 : Nat} {Q : State → Prop} {c nL : Nat} {ini : Bool} {cc : ByteArray} {pc : Nat} {h : ia_H} {H : Heap} {locs : List Loc} {cells slots : Nat} {ls : Array Slot} {rest : List Value} {a : Nat}
theorem ia_iald (G : ia_Gd c nL ini cc p s m args meth co g n0) (hP : va_P (ia_D g) ia_cl (ia_w g h) H) (hk : ia_hk g h) (hS : va_S (fun q => ia_z g ≤ q) s.heap H locs) {i : Int32} (he : (ia_k h a).1 = 100) (hin : vp_in i (ia_k h a).2) (hd : decode cc pc = .ok (.iaload, 1))
    (kk : W p l e R s m args below meth co H locs cells slots Q (F0 m (pc + 1) ls (.int (ia_i h a i.toNatClampNeg) :: rest))) : W p l e R s m args below meth co H locs cells slots Q (F0 m pc ls (.int i :: ia_rv g (.inr (.inr a)) :: rest)) := by
  have h5 := ia_new_lt (a := a) hk (by omega)
  rcases Nat.lt_or_ge a 64 with h4 | h4
  · obtain ⟨k1, k2⟩ := hk.1 a h4
    rcases G.2.2.2.2.2.2.2.1 a h4 with q | ⟨q1, q2, q3, q4⟩
    · rw [k1] at he; omega
    · rw [ia_rv_old q2 h4]
      rw [k2] at kk
      rw [k1] at hin
      exact va_ti G.1 G.2.1 q3 hS hin rfl hd kk
  · rw [ia_rv_new h4]
    have hw := ia_w_at (g := g) h4 h5
    rw [ia_en_i he (by omega) (by omega)] at hw
    exact va_iald G.1 G.2.1 G.2.2.2.2.2.2.1 hP (a - 64) 0 hw rfl hin hd kk
theorem ia_bald (G : ia_Gd c nL ini cc p s m args meth co g n0) (hP : va_P (ia_D g) ia_cl (ia_w g h) H) (hk : ia_hk g h) {i : Int32} {kd : Nat} (hkd : kd = 101 ∨ kd = 102) (h4 : 64 ≤ a) (he : (ia_k h a).1 = kd) (hin : vp_in i (ia_k h a).2) (hd : decode cc pc = .ok (.baload, 1))
    (kk : W p l e R s m args below meth co H locs cells slots Q (F0 m (pc + 1) ls (.int (ia_i h a i.toNatClampNeg) :: rest))) : W p l e R s m args below meth co H locs cells slots Q (F0 m pc ls (.int i :: ia_rv g (.inr (.inr a)) :: rest)) := by
  have h5 := ia_new_lt (a := a) hk (by omega)
  rw [ia_rv_new h4]
  have hw := ia_w_at (g := g) h4 h5
  rw [ia_en_i he (by omega) (by omega)] at hw
  rcases hkd with rfl | rfl
  · exact va_zald G.1 G.2.1 G.2.2.2.2.2.2.1 hP (a - 64) 1 hw rfl hin hd kk
  · exact va_bald G.1 G.2.1 G.2.2.2.2.2.2.1 hP (a - 64) 2 hw rfl hin hd kk
theorem ia_lald (G : ia_Gd c nL ini cc p s m args meth co g n0) (hP : va_P (ia_D g) ia_cl (ia_w g h) H) (hk : ia_hk g h) {i : Int32} (h4 : 64 ≤ a) (he : (ia_k h a).1 = 103) (hin : vp_in i (ia_k h a).2) (hd : decode cc pc = .ok (.laload, 1))
    (kk : W p l e R s m args below meth co H locs cells slots Q (F0 m (pc + 1) ls (.long (ia_l h a i.toNatClampNeg) :: rest))) : W p l e R s m args below meth co H locs cells slots Q (F0 m pc ls (.int i :: ia_rv g (.inr (.inr a)) :: rest)) := by
  have h5 := ia_new_lt (a := a) hk (by omega)
  rw [ia_rv_new h4]
  have hw := ia_w_at (g := g) h4 h5
  rw [ia_en_l he] at hw
  exact va_lald G.1 G.2.1 G.2.2.2.2.2.2.1 hP (a - 64) 3 hw rfl hin hd kk
/-- which of the array classes a kind of references is -/
def ia_rk (kd : Nat) : Bool := kd == 117 || ((List.range 13).any fun ci => decide (kd = 104 + ci) && ia_ra ci)
theorem ia_rk_ty {kd : Nat} (h : ia_rk kd = true) : 104 ≤ kd ∧ kd < 118 ∧ ∃ (t0 : Nat) (ty : FieldType), ty.isReference = true ∧ (ia_tyl g)[t0]? = some (ia_cA g kd, ty) := by
  have hb : kd = 117 ∨ kd = 107 ∨ kd = 108 ∨ kd = 110 ∨ kd = 113 ∨ kd = 114 := by
    unfold ia_rk at h
    simp only [Bool.or_eq_true, beq_iff_eq, List.any_eq_true, List.mem_range, Bool.and_eq_true, decide_eq_true_eq] at h
    rcases h with h | ⟨ci, h1, rfl, h2⟩
    · exact Or.inl h
    · simp only [ia_ra, Bool.or_eq_true, beq_iff_eq] at h2
      omega
  rcases hb with rfl | rfl | rfl | rfl | rfl | rfl
  · exact ⟨by omega, by omega, 9, _, rfl, rfl⟩
  · exact ⟨by omega, by omega, 4, _, rfl, rfl⟩
  · exact ⟨by omega, by omega, 5, _, rfl, rfl⟩
  · exact ⟨by omega, by omega, 6, _, rfl, rfl⟩
  · exact ⟨by omega, by omega, 7, _, rfl, rfl⟩
  · exact ⟨by omega, by omega, 8, _, rfl, rfl⟩
theorem ia_aald (G : ia_Gd c nL ini cc p s m args meth co g n0) (hP : va_P (ia_D g) ia_cl (ia_w g h) H) (hk : ia_hk g h) {i : Int32} {kd : Nat} (hkd : ia_rk kd = true) (h4 : 64 ≤ a) (he : (ia_k h a).1 = kd) (hin : vp_in i (ia_k h a).2) (hd : decode cc pc = .ok (.aaload, 1))
    (kk : W p l e R s m args below meth co H locs cells slots Q (F0 m (pc + 1) ls (ia_rv g (.inr (.inr (ia_r h a i.toNatClampNeg))) :: rest))) : W p l e R s m args below meth co H locs cells slots Q (F0 m pc ls (.int i :: ia_rv g (.inr (.inr a)) :: rest)) := by
  obtain ⟨k1, k2, t0, ty, k3, k4⟩ := ia_rk_ty (g := g) hkd
  have h5 := ia_new_lt (a := a) hk (by omega)
  rw [ia_rv_new h4]
  have hw := ia_w_at (g := g) h4 h5
  rw [ia_en_r he k1] at hw
  have hlt : i.toNatClampNeg < (ia_k h a).2 := Nat.not_le.mp fun q => hin (Or.inr q)
  exact W.aald (v := va_rf (ia_ro g (ia_r h a i.toNatClampNeg))) (ty := ty) G.1 G.2.1 (hP (a - 64) _ hw) ((G.2.2.2.2.2.2.1.2 t0 _ k4).1 (ia_k h a).2 (fun j => va_rf (ia_ro g (ia_r h a j)))) k3 (fun q => by cases q) (by show ¬ (i < 0 ∨ (arrV _ _ _).slots.size ≤ _); rw [arrV_size]; exact hin) (by show (arrV _ _ _).slots[_]? = _; rw [arrV_read _ _ hlt]) rfl rfl hd kk
theorem ia_alen (G : ia_Gd c nL ini cc p s m args meth co g n0) (hP : va_P (ia_D g) ia_cl (ia_w g h) H) (hk : ia_hk g h) (hS : va_S (fun q => ia_z g ≤ q) s.heap H locs) (he : 100 ≤ (ia_k h a).1 ∧ (ia_k h a).1 < 104) (hd : decode cc pc = .ok (.arraylength, 1))
    (kk : W p l e R s m args below meth co H locs cells slots Q (F0 m (pc + 1) ls (.int (Int32.ofNat (ia_k h a).2) :: rest))) : W p l e R s m args below meth co H locs cells slots Q (F0 m pc ls (ia_rv g (.inr (.inr a)) :: rest)) := by
  have h5 := ia_new_lt (a := a) hk (by omega)
  rcases Nat.lt_or_ge a 64 with h4 | h4
  · obtain ⟨k1, k2⟩ := hk.1 a h4
    rcases G.2.2.2.2.2.2.2.1 a h4 with q | ⟨q1, q2, q3, q4⟩
    · rw [k1] at he; omega
    · rw [ia_rv_old q2 h4]
      rw [k1] at kk
      exact va_tlen G.1 G.2.1 q3 hS rfl hd kk
  · rw [ia_rv_new h4]
    have hw := ia_w_at (g := g) h4 h5
    rcases (show (ia_k h a).1 = 100 ∨ (ia_k h a).1 = 101 ∨ (ia_k h a).1 = 102 ∨ (ia_k h a).1 = 103 by omega) with q | q | q | q
    · rw [ia_en_i q (by omega) (by omega)] at hw
      exact va_alen G.1 G.2.1 G.2.2.2.2.2.2.1 hP (a - 64) 0 hw rfl rfl hd kk
    · rw [ia_en_i q (by omega) (by omega)] at hw
      exact va_alen G.1 G.2.1 G.2.2.2.2.2.2.1 hP (a - 64) 1 hw rfl rfl hd kk
    · rw [ia_en_i q (by omega) (by omega)] at hw
      exact va_alen G.1 G.2.1 G.2.2.2.2.2.2.1 hP (a - 64) 2 hw rfl rfl hd kk
    · rw [ia_en_l q] at hw
      exact va_alen G.1 G.2.1 G.2.2.2.2.2.2.1 hP (a - 64) 3 hw rfl rfl hd kk
theorem ia_iast (G : ia_Gd c nL ini cc p s m args meth co g n0) (hP : va_P (ia_D g) ia_cl (ia_w g h) H) (hk : ia_hk g h) (hS : va_S (fun q => ia_z g ≤ q) s.heap H locs) {i x : Int32} (h4 : 64 ≤ a) (he : (ia_k h a).1 = 100) (hin : vp_in i (ia_k h a).2) (hd : decode cc pc = .ok (.iastore, 1))
    (kk : ∀ (H1 : Heap) (locs1 : List Loc), va_P (ia_D g) ia_cl (ia_w g (ia_wI h a i.toNatClampNeg x)) H1 → va_S (fun q => ia_z g ≤ q) s.heap H1 locs1 → W p l e R s m args below meth co H1 locs1 cells slots Q (F0 m (pc + 1) ls rest)) : W p l e R s m args below meth co H locs cells slots Q (F0 m pc ls (.int x :: .int i :: ia_rv g (.inr (.inr a)) :: rest)) := by
  have h5 := ia_new_lt (a := a) hk (by omega)
  rw [ia_rv_new h4]
  have hw := ia_w_at (g := g) h4 h5
  rw [ia_en_i he (by omega) (by omega)] at hw
  refine va_iast G.1 G.2.1 G.2.2.2.2.2.2.1 hP (ia_w_D g h) hS (a - 64) 0 hw rfl hin hd (fun H1 locs1 p1 _ p3 => ?_)
  rw [ia_w_set (g := g) (h := h) (h' := ia_wI h a i.toNatClampNeg x) h4 rfl ((ia_en_i (h := ia_wI h a i.toNatClampNeg x) he (by omega) (by omega)).trans (by rw [show ia_i (ia_wI h a i.toNatClampNeg x) a = upd (ia_i h a) i.toNatClampNeg x from ia_up_a _ _ _ _]; rfl)) (fun b hb => ia_en_wI hb)] at p1
  exact kk H1 locs1 p1 p3
theorem ia_bast (G : ia_Gd c nL ini cc p s m args meth co g n0) (hP : va_P (ia_D g) ia_cl (ia_w g h) H) (hk : ia_hk g h) (hS : va_S (fun q => ia_z g ≤ q) s.heap H locs) {i x : Int32} {kd : Nat} (hkd : kd = 101 ∨ kd = 102) (h4 : 64 ≤ a) (he : (ia_k h a).1 = kd) (hin : vp_in i (ia_k h a).2) (hd : decode cc pc = .ok (.bastore, 1))
    (kk : ∀ (H1 : Heap) (locs1 : List Loc), va_P (ia_D g) ia_cl (ia_w g (ia_wI h a i.toNatClampNeg (vp_nar (if kd = 101 then .boolean else .byte) x))) H1 → va_S (fun q => ia_z g ≤ q) s.heap H1 locs1 → W p l e R s m args below meth co H1 locs1 cells slots Q (F0 m (pc + 1) ls rest)) : W p l e R s m args below meth co H locs cells slots Q (F0 m pc ls (.int x :: .int i :: ia_rv g (.inr (.inr a)) :: rest)) := by
  have h5 := ia_new_lt (a := a) hk (by omega)
  rw [ia_rv_new h4]
  have hw := ia_w_at (g := g) h4 h5
  rw [ia_en_i he (by omega) (by omega)] at hw
  have hset : ∀ v : Int32, (ia_w g h).set (a - 64) (ia_z g + (a - 64), .inl (ia_cA g kd, (ia_k h a).2, .inl (upd (ia_i h a) i.toNatClampNeg v))) = ia_w g (ia_wI h a i.toNatClampNeg v) := fun v =>
    ia_w_set (h' := ia_wI h a i.toNatClampNeg v) h4 rfl ((ia_en_i (h := ia_wI h a i.toNatClampNeg v) he (by omega) (by omega)).trans (by rw [show ia_i (ia_wI h a i.toNatClampNeg v) a = upd (ia_i h a) i.toNatClampNeg v from ia_up_a _ _ _ _]; rfl)) (fun b hb => ia_en_wI hb)
  rcases hkd with rfl | rfl
  · refine va_zast G.1 G.2.1 G.2.2.2.2.2.2.1 hP (ia_w_D g h) hS (a - 64) 1 hw rfl hin hd (fun H1 locs1 p1 _ p3 => ?_)
    rw [hset] at p1
    exact kk H1 locs1 p1 p3
  · refine va_bast G.1 G.2.1 G.2.2.2.2.2.2.1 hP (ia_w_D g h) hS (a - 64) 2 hw rfl hin hd (fun H1 locs1 p1 _ p3 => ?_)
    rw [hset] at p1
    exact kk H1 locs1 p1 p3
theorem ia_last (G : ia_Gd c nL ini cc p s m args meth co g n0) (hP : va_P (ia_D g) ia_cl (ia_w g h) H) (hk : ia_hk g h) (hS : va_S (fun q => ia_z g ≤ q) s.heap H locs) {i : Int32} {x : Int64} (h4 : 64 ≤ a) (he : (ia_k h a).1 = 103) (hin : vp_in i (ia_k h a).2) (hd : decode cc pc = .ok (.lastore, 1))
    (kk : ∀ (H1 : Heap) (locs1 : List Loc), va_P (ia_D g) ia_cl (ia_w g (ia_wL h a i.toNatClampNeg x)) H1 → va_S (fun q => ia_z g ≤ q) s.heap H1 locs1 → W p l e R s m args below meth co H1 locs1 cells slots Q (F0 m (pc + 1) ls rest)) : W p l e R s m args below meth co H locs cells slots Q (F0 m pc ls (.long x :: .int i :: ia_rv g (.inr (.inr a)) :: rest)) := by
  have h5 := ia_new_lt (a := a) hk (by omega)
  rw [ia_rv_new h4]
  have hw := ia_w_at (g := g) h4 h5
  rw [ia_en_l he] at hw
  refine va_last G.1 G.2.1 G.2.2.2.2.2.2.1 hP (ia_w_D g h) hS (a - 64) 3 hw rfl hin hd (fun H1 locs1 p1 _ p3 => ?_)
  rw [ia_w_set (g := g) (h := h) (h' := ia_wL h a i.toNatClampNeg x) h4 rfl ((ia_en_l (h := ia_wL h a i.toNatClampNeg x) he).trans (by rw [show ia_l (ia_wL h a i.toNatClampNeg x) a = vp_updL (ia_l h a) i.toNatClampNeg x from ia_up_a _ _ _ _]; rfl)) (fun b hb => ia_en_wL hb)] at p1
  exact kk H1 locs1 p1 p3
theorem ia_aast (G : ia_Gd c nL ini cc p s m args meth co g n0) (hP : va_P (ia_D g) ia_cl (ia_w g h) H) (hk : ia_hk g h) (hS : va_S (fun q => ia_z g ≤ q) s.heap H locs) {i : Int32} {x ci : Nat} (hci : ci < 13) (hra : ia_ra ci = true) (h4 : 64 ≤ a) (he : (ia_k h a).1 = 104 + ci) (hin : vp_in i (ia_k h a).2) (hv : (ia_k h x).1 = ci) (hd : decode cc pc = .ok (.aastore, 1))
    (kk : ∀ (H1 : Heap) (locs1 : List Loc), va_P (ia_D g) ia_cl (ia_w g (ia_wR h a i.toNatClampNeg x)) H1 → va_S (fun q => ia_z g ≤ q) s.heap H1 locs1 → W p l e R s m args below meth co H1 locs1 cells slots Q (F0 m (pc + 1) ls rest)) : W p l e R s m args below meth co H locs cells slots Q (F0 m pc ls (ia_rv g (.inr (.inr x)) :: .int i :: ia_rv g (.inr (.inr a)) :: rest)) := by
  have h5 := ia_new_lt (a := a) hk (by omega)
  obtain ⟨h6, h7⟩ := ia_new_of (a := x) G.2.2.2.2.2.2.2.1 hk (by omega) (by omega)
  rw [ia_rv_new h4, ia_rv_new h6]
  have hw := ia_w_at (g := g) h4 h5
  rw [ia_en_r he (by omega)] at hw
  have hx := ia_w_at (g := g) h6 h7
  rw [ia_en_ob hv hci] at hx
  have ht : ∃ t0 : Nat, (ia_tyl g)[t0]? = some (ia_cA g (104 + ci), FieldType.object (ia_R ci)) := by
    simp only [ia_ra, Bool.or_eq_true, beq_iff_eq] at hra
    rcases hra with rfl | rfl | rfl | rfl | rfl
    · exact ⟨4, rfl⟩
    · exact ⟨5, rfl⟩
    · exact ⟨6, rfl⟩
    · exact ⟨7, rfl⟩
    · exact ⟨8, rfl⟩
  obtain ⟨t0, ht⟩ := ht
  refine va_astq G.1 G.2.1 G.2.2.2.2.2.2.1 hP (ia_w_D g h) hS (a - 64) t0 (x - 64) ci hw ht hx (ia_cl_at hci) hin hd (fun H1 locs1 p1 _ p3 => ?_)
  have ero : ia_ro g x = some (ia_z g + (x - 64)) := by
    unfold ia_ro
    rw [if_neg (by omega), if_neg (by omega)]
  rw [ia_w_set (g := g) (h := h) (h' := ia_wR h a i.toNatClampNeg x) h4 rfl ((ia_en_r (h := ia_wR h a i.toNatClampNeg x) he (by omega)).trans (by
    rw [show ia_r (ia_wR h a i.toNatClampNeg x) a = (fun j => if j = i.toNatClampNeg then x else ia_r h a j) from ia_up_a _ _ _ _]
    have : (fun j => ia_ro g ((fun j => if j = i.toNatClampNeg then x else ia_r h a j) j)) = va_up (fun j => ia_ro g (ia_r h a j)) i.toNatClampNeg (some (ia_z g + (x - 64))) := by
      funext j
      unfold va_up
      by_cases hj : j = i.toNatClampNeg
      · simp [hj, ero]
      · simp [hj]
    rw [this]
    rfl)) (fun b hb => ia_en_wR hb)] at p1
  exact kk H1 locs1 p1 p3
end Ic
