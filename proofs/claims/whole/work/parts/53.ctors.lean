/-! constructors that call none -/
theorem hn_r {h : ia_H} {k len w b j v : Nat} (hb : b ≠ 64 + ia_n h) (hv : ia_r h b j = v) : ia_r (ia_nw h k len w) b j = v := (congrFun (ia_nw_r hb) j).trans hv
theorem hw_r {h : ia_H} {a i x j v : Nat} (hj : j ≠ i) (hv : ia_r h a j = v) : ia_r (ia_wR h a i x) a j = v := (ia_up_j hj).trans hv
theorem hs_step (c : Nat) : hs_ c ≤ hs_ (c + 1) := by
  unfold hs_
  rcases Nat.lt_or_ge c 64 with q | q
  · rw [show c - 64 = 0 by omega, show c + 1 - 64 = 0 by omega]
    exact Nat.le_refl _
  · rw [show c + 1 - 64 = c - 64 + 1 by omega, List.take_succ, List.map_append, List.sum_append]
    exact Nat.le_add_right _ _
theorem hs_mono {c c' : Nat} (h : c ≤ c') : hs_ c ≤ hs_ c' := by
  induction h with
  | refl => exact Nat.le_refl _
  | step _ ih => exact Nat.le_trans ih (hs_step _)
theorem hc_cap {c c' : Nat} {S S' : List Nat} {w : ia_O0} {h h' : ia_H} (H : hc_ c S w h) (H' : hc_ c' S' w h') (hle : c ≤ c') : ia_n h ≤ ia_n h' ∧ ia_m h ≤ ia_m h' := by
  have a1 := H.2.1
  have b1 := H'.2.1
  have a2 := H.2.2.1
  have b2 := H'.2.2.1
  rw [a2, b2]
  exact ⟨by omega, hs_mono hle⟩
theorem hc_k {c e k : Nat} {S : List Nat} {w : ia_O0} {h : ia_H} (H : hc_ c S w h) (h1 : 64 ≤ e) (h2 : e < c) (pe : (kd_D e).1 = k) : (ia_k h e).1 = k := by
  rw [H.2.2.2.1 e h1 h2]
  exact pe
/-- what stood before a is as it was -/
def hf_ (a : Nat) (h h' : ia_H) : Prop := ∀ b, b < a → ia_i h' b = ia_i h b ∧ ia_l h' b = ia_l h b ∧ ia_r h' b = ia_r h b
theorem hf_nw {a : Nat} {h h' : ia_H} {k n s : Nat} (H : hf_ a h h') (hn : a ≤ 64 + ia_n h') : hf_ a h (ia_nw h' k n s) := fun b hb => by
  obtain ⟨a1, a2, a3⟩ := H b hb
  exact ⟨(ia_nw_i (by omega)).trans a1, (ia_nw_l (by omega)).trans a2, (ia_nw_r (by omega)).trans a3⟩
theorem hf_wR {a e i x : Nat} {h h' : ia_H} (H : hf_ a h h') (he : a ≤ e) : hf_ a h (ia_wR h' e i x) := fun b hb => by
  obtain ⟨a1, a2, a3⟩ := H b hb
  exact ⟨a1, a2, (ia_up_b (by omega)).trans a3⟩
theorem hf_wI {a e i : Nat} {x : Int32} {h h' : ia_H} (H : hf_ a h h') (he : a ≤ e) : hf_ a h (ia_wI h' e i x) := fun b hb => by
  obtain ⟨a1, a2, a3⟩ := H b hb
  exact ⟨(ia_up_b (by omega)).trans a1, a2, a3⟩
def mm_Ro_init : ia_M := (⟨"IceStreet$Route", "<init>", "()V"⟩, prog_9_method_1_code, 1, none, 8, true)
theorem ok_Ro_init : ia_mok mm_Ro_init := ⟨by decide +kernel, by decide +kernel, by decide +kernel, by decide +kernel⟩
theorem mk_Ro_init : ia_mkn mm_Ro_init 2 0 := ⟨ia_tb_in (List.mem_of_getElem? (i := 673) (by decide +kernel)) rfl, ia_tb_in (List.mem_of_getElem? (i := 145) (by decide +kernel)) rfl, by decide +kernel, by decide +kernel, ia_tb_in (List.mem_of_getElem? (i := 672) (by decide +kernel)) rfl, rfl, rfl⟩
theorem ck_Ro_init_0 : ia_cks 8 1 true prog_9_method_1_code 0 [(.aload_n 0, 0, 0, 0, 0)] = true := by decide +kernel
theorem dc_Ro_init_1 : decode prog_9_method_1_code 1 = .ok (.invokespecial 3, 3) := by decide +kernel
theorem ck_Ro_init_4 : ia_cks 8 1 true prog_9_method_1_code 4 [(.aload_n 0, 0, 0, 0, 0), (.bipush 36, 0, 0, 0, 0)] = true := by decide +kernel
theorem ks_8_1_0 : ∀ e ∈ [413, 415], kd_D (e + 1) = (100, 36) := by decide +kernel
theorem ks_8_1 {e : Nat} (pe : (kd_D e).1 = 8) : kd_D (e + 1) = (100, 36) := ks_8_1_0 e (kn_8 pe)
theorem dc_Ro_init_7 : decode prog_9_method_1_code 7 = .ok (.newarray .int, 2) := by decide +kernel
theorem ck_Ro_init_9 : ia_cks 8 1 true prog_9_method_1_code 9 [(.putfield 9, 8, 2, 2, 0)] = true := by decide +kernel
theorem dc_Ro_init_12 : decode prog_9_method_1_code 12 = .ok (.return_, 1) := by decide +kernel
theorem rdo_8 (k f : Nat) (q : rd_o 8 k = some f) : (k = 2 ∧ f = 1) := by
  unfold rd_o at q
  split at q <;> simp_all
theorem rdc_8 (k f : Nat) (q : rd_c 8 k = some f) : False := by
  unfold rd_c at q
  split at q <;> simp_all
set_option maxHeartbeats 8000000 in
theorem mc_Ro_init (d : Nat) {a : Nat} (pe : (kd_D a).1 = 8) {S : List Nat} {w : ia_O0} {h : ia_H} (hh : hc_ (a + 1) (a :: S) w h) : ∃ h1, ia_Ev d mm_Ro_init [.inr (.inr a)] h none h1 ∧ hc_ (a + 2) S w h1 ∧ hf_ a h h1 := by
  have ha := ko_8 pe
  have hf0 : hf_ a h h := fun b hb => ⟨rfl, rfl, rfl⟩
  obtain ⟨h1, e1⟩ : ∃ x, x = ia_nw h 100 36 36 := ⟨_, rfl⟩
  have c1 : hc_ (a + 2) (a :: S) w h1 := by rw [e1]; exact hc_arr hh (ks_8_1 pe) (by decide) (by decide)
  have f1 : hf_ a h h1 := by rw [e1]; exact hf_nw hf0 (by have := hh.2.1; omega)
  obtain ⟨h2, e2⟩ : ∃ x, x = ia_wR h1 a 2 (a + 1) := ⟨_, rfl⟩
  have c2 : hc_ (a + 2) (a :: S) w h2 := by rw [e2]; exact hc_wR c1 List.mem_cons_self
  have f2 : hf_ a h h2 := by rw [e2]; exact hf_wR f1 (Nat.le_refl _)
  have r2_2 : ia_r h2 a 2 = a + 1 := by rw [e2]; exact ia_up_s
  have cN : hc_ (a + 2) S w h2 := by
    refine hc_fin c2 ?_ ?_ ?_ ?_ ?_
    · intro k f q
      rw [pe] at q
      rcases rdo_8 k f q with ⟨rfl, rfl⟩
      · exact r2_2
    · intro k f q
      rw [pe] at q
      rcases rdc_8 k f q with q
      · exact q.elim
    · intro j f q
      rw [pe] at q
      cases q
    · intro q
      rw [pe] at q
      cases q
    · intro q
      rw [pe] at q
      cases q
  refine ⟨h2, ia_Ev_intro ok_Ro_init (hc_cap hh cN (by omega)).1 (hc_cap hh cN (by omega)).2 (Nat.le_of_ble_eq_true rfl) (fun K hK hret => ?_), cN, f2⟩
  show K 0 [some (.inr (.inr a))] [] h
  refine ia_go hK ck_Ro_init_0 ?_
  show K 1 [some (.inr (.inr a))] [.inr (.inr a)] h
  refine ia_obj hK (ia_tb_in (List.mem_of_getElem? (i := 674) (by decide +kernel)) rfl) dc_Ro_init_1 (ko_8 pe) (Nat.le_of_ble_eq_true rfl) ?_
  show K 4 [some (.inr (.inr a))] [] h
  refine ia_go hK ck_Ro_init_4 ?_
  show K 7 [some (.inr (.inr a))] [.inl 36, .inr (.inr a)] h
  refine ia_newa hK (at_ := .int) (k := 100) (ty := .int) (t0 := 0) rfl (ia_tb_in (by decide +kernel) rfl) dc_Ro_init_7 (Or.inl ⟨rfl, rfl⟩) (by decide) (by decide) (by have q := hc_cap c1 cN (by omega); rw [e1] at q; exact q) ?_
  rw [show 64 + ia_n h = a + 1 by have := hh.2.1; omega]
  show K 9 [some (.inr (.inr a))] [.inr (.inr (a + 1)), .inr (.inr a)] (ia_nw h 100 36 36)
  rw [← e1]
  refine ia_go hK ck_Ro_init_9 ⟨hc_k c1 (ko_8 pe) (by omega) pe, ?_⟩
  show K 12 [some (.inr (.inr a))] [] (ia_wR h1 a 2 (a + 1))
  rw [← e2]
  exact hret 12 _ dc_Ro_init_12
