/-! constructors -/
theorem wR_s {h : ia_H} {a i x : Nat} : ia_r (ia_wR h a i x) a i = x := ia_up_s
theorem wR_o {h : ia_H} {a i x b j v : Nat} (q : b ≠ a) (e : ia_r h b j = v) : ia_r (ia_wR h a i x) b j = v := (congrFun (ia_up_b q) j).trans e
theorem wI_s {h : ia_H} {a i : Nat} {x : Int32} : ia_i (ia_wI h a i x) a i = x := ia_up_s
theorem wI_o {h : ia_H} {a i b j : Nat} {x v : Int32} (q : b ≠ a) (e : ia_i h b j = v) : ia_i (ia_wI h a i x) b j = v := (congrFun (ia_up_b q) j).trans e
theorem wI_j {h : ia_H} {a i j : Nat} {x v : Int32} (q : j ≠ i) (e : ia_i h a j = v) : ia_i (ia_wI h a i x) a j = v := (ia_up_j q).trans e
theorem nw_i {h : ia_H} {k len w b j : Nat} {v : Int32} (q : b ≠ 64 + ia_n h) (e : ia_i h b j = v) : ia_i (ia_nw h k len w) b j = v := (congrFun (ia_nw_i q) j).trans e
theorem hn2_r {h : ia_H} {b j v : Nat} (hn : ia_n h = 252) (hb : b < 316) (hv : ia_r h b j = v) : ia_r (ia_n2 h 8 36) b j = v := by
  rw [← hv]
  show (if b = 64 + ia_n h then _ else if 64 + ia_n h < b ∧ b ≤ 64 + ia_n h + 8 then _ else _) = _
  rw [hn, if_neg (by omega), if_neg (by omega)]
theorem hc_in {c e k n : Nat} {i : Int32} {S : List Nat} {w : ia_O0} {h : ia_H} (H : hc_ c S w h) (h1 : 64 ≤ e) (h2 : e < c) (pe : kd_D e = (k, n)) (q : ia_ib i n = true) : vp_in i (ia_k h e).2 := by
  rw [H.2.2.2.1 e h1 h2, pe]
  exact ia_ib_in q
theorem lk_0_9 : ia_lnk 0 9 ⟨"IceStreet$Told", "<init>", "()V"⟩ true := ⟨"IceStreet", List.mem_filter.mpr ⟨List.mem_of_getElem? (i := 164) (by decide +kernel), rfl⟩⟩
theorem lk_0_26 : ia_lnk 0 26 ⟨"IceStreet$Reader", "<init>", "()V"⟩ true := ⟨"IceStreet", List.mem_filter.mpr ⟨List.mem_of_getElem? (i := 423) (by decide +kernel), rfl⟩⟩
theorem lk_0_41 : ia_lnk 0 41 ⟨"IceStreet$Scene", "<init>", "(LIceStreet$Lake;LIceStreet$Law;)V"⟩ false := ia_tb_in (List.mem_of_getElem? (i := 490) (by decide +kernel)) rfl
theorem lk_0_50 : ia_lnk 0 50 ⟨"IceStreet$Ways", "<init>", "(LIceStreet$Lake;LIceStreet$Law;)V"⟩ false := ia_tb_in (List.mem_of_getElem? (i := 557) (by decide +kernel)) rfl
theorem lk_0_57 : ia_lnk 0 57 ⟨"IceStreet$Deeds", "<init>", "(LIceStreet$Ways;)V"⟩ false := ia_tb_in (List.mem_of_getElem? (i := 604) (by decide +kernel)) rfl
theorem lk_0_66 : ia_lnk 0 66 ⟨"IceStreet$Outlook", "<init>", "(LIceStreet$Ways;LIceStreet$Lake;LIceStreet$Law;)V"⟩ false := ia_tb_in (List.mem_of_getElem? (i := 614) (by decide +kernel)) rfl
theorem lk_0_75 : ia_lnk 0 75 ⟨"IceStreet$Drawing", "<init>", "(LIceStreet$Ways;LIceStreet$Lake;LIceStreet$Law;)V"⟩ false := ia_tb_in (List.mem_of_getElem? (i := 638) (by decide +kernel)) rfl
theorem lk_0_82 : ia_lnk 0 82 ⟨"IceStreet$Route", "<init>", "()V"⟩ true := ⟨"IceStreet", List.mem_filter.mpr ⟨List.mem_of_getElem? (i := 671) (by decide +kernel), rfl⟩⟩
theorem lk_2_28 : ia_lnk 2 28 ⟨"IceStreet$Scene", "<init>", "(LIceStreet$Lake;LIceStreet$Law;)V"⟩ false := ia_tb_in (List.mem_of_getElem? (i := 644) (by decide +kernel)) rfl
theorem lk_3_46 : ia_lnk 3 46 ⟨"IceStreet$Lake", "clear", "()V"⟩ false := ia_tb_in (List.mem_of_getElem? (i := 175) (by decide +kernel)) rfl
theorem lk_4_22 : ia_lnk 4 22 ⟨"IceStreet$Law", "clear", "()V"⟩ false := ia_tb_in (List.mem_of_getElem? (i := 306) (by decide +kernel)) rfl
theorem lk_5_24 : ia_lnk 5 24 ⟨"IceStreet$Scene", "<init>", "(LIceStreet$Lake;LIceStreet$Law;)V"⟩ false := ia_tb_in (List.mem_of_getElem? (i := 619) (by decide +kernel)) rfl
theorem lk_7_11 : ia_lnk 7 11 ⟨"IceStreet$Lake", "<init>", "()V"⟩ false := ia_tb_in (List.mem_of_getElem? (i := 428) (by decide +kernel)) rfl
theorem lk_7_20 : ia_lnk 7 20 ⟨"IceStreet$Law", "<init>", "()V"⟩ false := ia_tb_in (List.mem_of_getElem? (i := 430) (by decide +kernel)) rfl
theorem lk_7_27 : ia_lnk 7 27 ⟨"IceStreet$Plan", "<init>", "()V"⟩ true := ⟨"IceStreet", List.mem_filter.mpr ⟨List.mem_of_getElem? (i := 432) (by decide +kernel), rfl⟩⟩
theorem lk_10_25 : ia_lnk 10 25 ⟨"IceStreet$Lake", "<init>", "()V"⟩ false := ia_tb_in (List.mem_of_getElem? (i := 171) (by decide +kernel)) rfl
theorem lk_10_32 : ia_lnk 10 32 ⟨"IceStreet$Law", "<init>", "()V"⟩ false := ia_tb_in (List.mem_of_getElem? (i := 302) (by decide +kernel)) rfl
theorem lk_10_39 : ia_lnk 10 39 ⟨"IceStreet$Plan", "<init>", "()V"⟩ true := ⟨"IceStreet", List.mem_filter.mpr ⟨List.mem_of_getElem? (i := 357) (by decide +kernel), rfl⟩⟩
def mm_Pl_init : ia_M := (⟨"IceStreet$Plan", "<init>", "()V"⟩, prog_7_method_1_code, 1, none, 6, true)
theorem ok_Pl_init : ia_mok mm_Pl_init := ⟨by decide +kernel, by decide +kernel, by decide +kernel, by decide +kernel⟩
theorem mk_Pl_init : ia_mkn mm_Pl_init 2 0 := ⟨ia_tb_in (List.mem_of_getElem? (i := 359) (by decide +kernel)) rfl, ia_tb_in (List.mem_of_getElem? (i := 138) (by decide +kernel)) rfl, by decide +kernel, by decide +kernel, ia_tb_in (List.mem_of_getElem? (i := 358) (by decide +kernel)) rfl, rfl, rfl⟩
theorem ck_Pl_init_0_0 : ia_cks 6 1 true prog_7_method_1_code 0 [(.aload_n 0, 0, 0, 0, 0)] = true := by decide +kernel
theorem dc_Pl_init_1 : decode prog_7_method_1_code 1 = .ok (.invokespecial 3, 3) := by decide +kernel
theorem ck_Pl_init_4_2 : ia_cks 6 1 true prog_7_method_1_code 4 [(.aload_n 0, 0, 0, 0, 0), (.bipush 30, 0, 0, 0, 0)] = true := by decide +kernel
theorem dc_Pl_init_7 : decode prog_7_method_1_code 7 = .ok (.newarray .int, 2) := by decide +kernel
theorem kt_6_1_0 : ∀ e ∈ [103, 108, 113, 157, 162, 167, 210, 215, 220, 263, 268, 273, 296], kd_D (e + 1) = (100, 30) := by decide +kernel
theorem kt_6_1 {e : Nat} (pe : (kd_D e).1 = 6) : kd_D (e + 1) = (100, 30) := kt_6_1_0 e (kn_6 pe)
theorem ck_Pl_init_9_6 : ia_cks 6 1 true prog_7_method_1_code 9 [(.putfield 9, 6, 1, 2, 0)] = true := by decide +kernel
theorem ck_Pl_init_12_7 : ia_cks 6 1 true prog_7_method_1_code 12 [(.aload_n 0, 0, 0, 0, 0), (.bipush 30, 0, 0, 0, 0)] = true := by decide +kernel
theorem dc_Pl_init_15 : decode prog_7_method_1_code 15 = .ok (.newarray .int, 2) := by decide +kernel
theorem kt_6_2_0 : ∀ e ∈ [103, 108, 113, 157, 162, 167, 210, 215, 220, 263, 268, 273, 296], kd_D (e + 2) = (100, 30) := by decide +kernel
theorem kt_6_2 {e : Nat} (pe : (kd_D e).1 = 6) : kd_D (e + 2) = (100, 30) := kt_6_2_0 e (kn_6 pe)
theorem ck_Pl_init_17_11 : ia_cks 6 1 true prog_7_method_1_code 17 [(.putfield 15, 6, 2, 2, 0)] = true := by decide +kernel
theorem ck_Pl_init_20_12 : ia_cks 6 1 true prog_7_method_1_code 20 [(.aload_n 0, 0, 0, 0, 0), (.bipush 30, 0, 0, 0, 0)] = true := by decide +kernel
theorem dc_Pl_init_23 : decode prog_7_method_1_code 23 = .ok (.newarray .int, 2) := by decide +kernel
theorem kt_6_3_0 : ∀ e ∈ [103, 108, 113, 157, 162, 167, 210, 215, 220, 263, 268, 273, 296], kd_D (e + 3) = (100, 30) := by decide +kernel
theorem kt_6_3 {e : Nat} (pe : (kd_D e).1 = 6) : kd_D (e + 3) = (100, 30) := kt_6_3_0 e (kn_6 pe)
theorem ck_Pl_init_25_16 : ia_cks 6 1 true prog_7_method_1_code 25 [(.putfield 18, 6, 3, 2, 0)] = true := by decide +kernel
theorem ck_Pl_init_28_17 : ia_cks 6 1 true prog_7_method_1_code 28 [(.aload_n 0, 0, 0, 0, 0), (.bipush 30, 0, 0, 0, 0)] = true := by decide +kernel
theorem dc_Pl_init_31 : decode prog_7_method_1_code 31 = .ok (.newarray .int, 2) := by decide +kernel
theorem kt_6_4_0 : ∀ e ∈ [103, 108, 113, 157, 162, 167, 210, 215, 220, 263, 268, 273, 296], kd_D (e + 4) = (100, 30) := by decide +kernel
theorem kt_6_4 {e : Nat} (pe : (kd_D e).1 = 6) : kd_D (e + 4) = (100, 30) := kt_6_4_0 e (kn_6 pe)
theorem ck_Pl_init_33_21 : ia_cks 6 1 true prog_7_method_1_code 33 [(.putfield 21, 6, 4, 2, 0)] = true := by decide +kernel
theorem dc_Pl_init_36 : decode prog_7_method_1_code 36 = .ok (.return_, 1) := by decide +kernel
theorem rdo_6 (k f : Nat) (q : rd_o 6 k = some f) : (k = 1 ∧ f = 1) ∨ (k = 2 ∧ f = 2) ∨ (k = 3 ∧ f = 3) ∨ (k = 4 ∧ f = 4) := by
  unfold rd_o at q
  split at q <;> simp_all
theorem rdc_6 (k f : Nat) (q : rd_c 6 k = some f) : False := by
  unfold rd_c at q
  split at q <;> simp_all
set_option maxHeartbeats 8000000 in
theorem mc_Pl_init (d : Nat) {a : Nat} (pe : (kd_D a).1 = 6) {S : List Nat} {w : ia_O0} {h : ia_H} (hh : hc_ (a + 1) (a :: S) w h) : ∃ h1, ia_Ev (d + 0) mm_Pl_init [.inr (.inr a)] h none h1 ∧ hc_ (a + 5) S w h1 ∧ hf_ a h h1 := by
  have ha : 64 ≤ a := ko_6 pe
  have hf0 : hf_ a h h := fun b hb => ⟨rfl, rfl, rfl⟩
  obtain ⟨h1, e1⟩ : ∃ x, x = ia_nw h 100 30 30 := ⟨_, rfl⟩
  have c1 : hc_ (a + 2) (a :: S) w h1 := by rw [e1]; exact hc_arr hh (kt_6_1 pe) (by decide) (by decide)
  have f1 : hf_ a h h1 := by rw [e1]; exact hf_nw hf0 (hc_le hh (Nat.le_add_right a _))
  obtain ⟨h2, e2⟩ : ∃ x, x = ia_wR h1 a 1 (a + 1) := ⟨_, rfl⟩
  have c2 : hc_ (a + 2) (a :: S) w h2 := by rw [e2]; exact hc_wR c1 List.mem_cons_self
  have f2 : hf_ a h h2 := by rw [e2]; exact hf_wR f1 (Nat.le_refl _)
  have r0_1_2 : ia_r h2 a 1 = a + 1 := by rw [e2]; exact wR_s
  obtain ⟨h3, e3⟩ : ∃ x, x = ia_nw h2 100 30 30 := ⟨_, rfl⟩
  have c3 : hc_ (a + 3) (a :: S) w h3 := by rw [e3]; exact hc_arr c2 (kt_6_2 pe) (by decide) (by decide)
  have f3 : hf_ a h h3 := by rw [e3]; exact hf_nw f2 (hc_le c2 (Nat.le_add_right a _))
  have r0_1_3 : ia_r h3 a 1 = a + 1 := by rw [e3]; exact hn_r (hc_ne c2 (Nat.lt_add_of_pos_right (by decide))) r0_1_2
  obtain ⟨h4, e4⟩ : ∃ x, x = ia_wR h3 a 2 (a + 2) := ⟨_, rfl⟩
  have c4 : hc_ (a + 3) (a :: S) w h4 := by rw [e4]; exact hc_wR c3 List.mem_cons_self
  have f4 : hf_ a h h4 := by rw [e4]; exact hf_wR f3 (Nat.le_refl _)
  have r0_1_4 : ia_r h4 a 1 = a + 1 := by rw [e4]; exact hw_r (by decide) r0_1_3
  have r0_2_4 : ia_r h4 a 2 = a + 2 := by rw [e4]; exact wR_s
  obtain ⟨h5, e5⟩ : ∃ x, x = ia_nw h4 100 30 30 := ⟨_, rfl⟩
  have c5 : hc_ (a + 4) (a :: S) w h5 := by rw [e5]; exact hc_arr c4 (kt_6_3 pe) (by decide) (by decide)
  have f5 : hf_ a h h5 := by rw [e5]; exact hf_nw f4 (hc_le c4 (Nat.le_add_right a _))
  have r0_1_5 : ia_r h5 a 1 = a + 1 := by rw [e5]; exact hn_r (hc_ne c4 (Nat.lt_add_of_pos_right (by decide))) r0_1_4
  have r0_2_5 : ia_r h5 a 2 = a + 2 := by rw [e5]; exact hn_r (hc_ne c4 (Nat.lt_add_of_pos_right (by decide))) r0_2_4
  obtain ⟨h6, e6⟩ : ∃ x, x = ia_wR h5 a 3 (a + 3) := ⟨_, rfl⟩
  have c6 : hc_ (a + 4) (a :: S) w h6 := by rw [e6]; exact hc_wR c5 List.mem_cons_self
  have f6 : hf_ a h h6 := by rw [e6]; exact hf_wR f5 (Nat.le_refl _)
  have r0_1_6 : ia_r h6 a 1 = a + 1 := by rw [e6]; exact hw_r (by decide) r0_1_5
  have r0_2_6 : ia_r h6 a 2 = a + 2 := by rw [e6]; exact hw_r (by decide) r0_2_5
  have r0_3_6 : ia_r h6 a 3 = a + 3 := by rw [e6]; exact wR_s
  obtain ⟨h7, e7⟩ : ∃ x, x = ia_nw h6 100 30 30 := ⟨_, rfl⟩
  have c7 : hc_ (a + 5) (a :: S) w h7 := by rw [e7]; exact hc_arr c6 (kt_6_4 pe) (by decide) (by decide)
  have f7 : hf_ a h h7 := by rw [e7]; exact hf_nw f6 (hc_le c6 (Nat.le_add_right a _))
  have r0_1_7 : ia_r h7 a 1 = a + 1 := by rw [e7]; exact hn_r (hc_ne c6 (Nat.lt_add_of_pos_right (by decide))) r0_1_6
  have r0_2_7 : ia_r h7 a 2 = a + 2 := by rw [e7]; exact hn_r (hc_ne c6 (Nat.lt_add_of_pos_right (by decide))) r0_2_6
  have r0_3_7 : ia_r h7 a 3 = a + 3 := by rw [e7]; exact hn_r (hc_ne c6 (Nat.lt_add_of_pos_right (by decide))) r0_3_6
  obtain ⟨h8, e8⟩ : ∃ x, x = ia_wR h7 a 4 (a + 4) := ⟨_, rfl⟩
  have c8 : hc_ (a + 5) (a :: S) w h8 := by rw [e8]; exact hc_wR c7 List.mem_cons_self
  have f8 : hf_ a h h8 := by rw [e8]; exact hf_wR f7 (Nat.le_refl _)
  have r0_1_8 : ia_r h8 a 1 = a + 1 := by rw [e8]; exact hw_r (by decide) r0_1_7
  have r0_2_8 : ia_r h8 a 2 = a + 2 := by rw [e8]; exact hw_r (by decide) r0_2_7
  have r0_3_8 : ia_r h8 a 3 = a + 3 := by rw [e8]; exact hw_r (by decide) r0_3_7
  have r0_4_8 : ia_r h8 a 4 = a + 4 := by rw [e8]; exact wR_s
  have d8_0 : hc_ (a + 5) (S) w h8 := by
    refine hc_fin c8 ?_ ?_ ?_ ?_ ?_
    · intro k f q
      rw [pe] at q
      rcases rdo_6 k f q with ⟨rfl, rfl⟩ | ⟨rfl, rfl⟩ | ⟨rfl, rfl⟩ | ⟨rfl, rfl⟩
      · exact r0_1_8
      · exact r0_2_8
      · exact r0_3_8
      · exact r0_4_8
    · intro k f q
      rw [pe] at q
      exact (rdc_6 k f q).elim
    · intro j f q
      rw [pe] at q
      cases q
    · intro q
      rw [pe] at q
      cases q
    · intro q
      rw [pe] at q
      cases q
  have cN : hc_ (a + 5) (S) w h8 := d8_0
  refine ⟨h8, ia_Ev_intro ok_Pl_init (hc_cap hh cN (Nat.add_le_add_left (by decide) a)).1 (hc_cap hh cN (Nat.add_le_add_left (by decide) a)).2 (Nat.le_of_ble_eq_true rfl) (fun K hK hret => ?_), cN, f8⟩
  show K 0 [some (.inr (.inr a))] [] h
  refine ia_go hK ck_Pl_init_0_0 ?_
  show K 1 [some (.inr (.inr a))] [.inr (.inr a)] h
  refine ia_obj hK (ia_tb_in (List.mem_of_getElem? (i := 360) (by decide +kernel)) rfl) dc_Pl_init_1 ha (Nat.le_of_ble_eq_true rfl) ?_
  show K 4 [some (.inr (.inr a))] [] h
  refine ia_go hK ck_Pl_init_4_2 ?_
  show K 7 [some (.inr (.inr a))] [.inl 30, .inr (.inr a)] h
  refine kw_arr hK (at_ := .int) (k := 100) (ty := .int) rfl (ia_tb_in (by decide +kernel) rfl) dc_Pl_init_7 (Or.inl ⟨rfl, rfl⟩) ⟨by decide, by decide, by decide⟩ e1 (hc_at hh) (hc_cap c1 cN (Nat.add_le_add_left (by decide) a)) ?_
  show K 9 [some (.inr (.inr a))] [.inr (.inr (a + 1)), .inr (.inr a)] h1
  refine ia_go hK ck_Pl_init_9_6 ⟨hc_k c1 ha (Nat.lt_add_of_pos_right (by decide)) pe, ?_⟩
  show K 12 [some (.inr (.inr a))] [] (ia_wR h1 a 1 (a + 1))
  rw [← e2]
  refine ia_go hK ck_Pl_init_12_7 ?_
  show K 15 [some (.inr (.inr a))] [.inl 30, .inr (.inr a)] h2
  refine kw_arr hK (at_ := .int) (k := 100) (ty := .int) rfl (ia_tb_in (by decide +kernel) rfl) dc_Pl_init_15 (Or.inl ⟨rfl, rfl⟩) ⟨by decide, by decide, by decide⟩ e3 (hc_at c2) (hc_cap c3 cN (Nat.add_le_add_left (by decide) a)) ?_
  show K 17 [some (.inr (.inr a))] [.inr (.inr (a + 2)), .inr (.inr a)] h3
  refine ia_go hK ck_Pl_init_17_11 ⟨hc_k c3 ha (Nat.lt_add_of_pos_right (by decide)) pe, ?_⟩
  show K 20 [some (.inr (.inr a))] [] (ia_wR h3 a 2 (a + 2))
  rw [← e4]
  refine ia_go hK ck_Pl_init_20_12 ?_
  show K 23 [some (.inr (.inr a))] [.inl 30, .inr (.inr a)] h4
  refine kw_arr hK (at_ := .int) (k := 100) (ty := .int) rfl (ia_tb_in (by decide +kernel) rfl) dc_Pl_init_23 (Or.inl ⟨rfl, rfl⟩) ⟨by decide, by decide, by decide⟩ e5 (hc_at c4) (hc_cap c5 cN (Nat.add_le_add_left (by decide) a)) ?_
  show K 25 [some (.inr (.inr a))] [.inr (.inr (a + 3)), .inr (.inr a)] h5
  refine ia_go hK ck_Pl_init_25_16 ⟨hc_k c5 ha (Nat.lt_add_of_pos_right (by decide)) pe, ?_⟩
  show K 28 [some (.inr (.inr a))] [] (ia_wR h5 a 3 (a + 3))
  rw [← e6]
  refine ia_go hK ck_Pl_init_28_17 ?_
  show K 31 [some (.inr (.inr a))] [.inl 30, .inr (.inr a)] h6
  refine kw_arr hK (at_ := .int) (k := 100) (ty := .int) rfl (ia_tb_in (by decide +kernel) rfl) dc_Pl_init_31 (Or.inl ⟨rfl, rfl⟩) ⟨by decide, by decide, by decide⟩ e7 (hc_at c6) (hc_cap c7 cN (Nat.le_refl _)) ?_
  show K 33 [some (.inr (.inr a))] [.inr (.inr (a + 4)), .inr (.inr a)] h7
  refine ia_go hK ck_Pl_init_33_21 ⟨hc_k c7 ha (Nat.lt_add_of_pos_right (by decide)) pe, ?_⟩
  show K 36 [some (.inr (.inr a))] [] (ia_wR h7 a 4 (a + 4))
  rw [← e8]
  exact hret 36 _ dc_Pl_init_36
def mm_La_init : ia_M := (⟨"IceStreet$Lake", "<init>", "()V"⟩, prog_4_method_1_code, 1, none, 3, true)
theorem ok_La_init : ia_mok mm_La_init := ⟨by decide +kernel, by decide +kernel, by decide +kernel, by decide +kernel⟩
theorem mk_La_init : ia_mkn mm_La_init 2 0 := ⟨ia_tb_in (List.mem_of_getElem? (i := 173) (by decide +kernel)) rfl, ia_tb_in (List.mem_of_getElem? (i := 135) (by decide +kernel)) rfl, by decide +kernel, by decide +kernel, ia_tb_in (List.mem_of_getElem? (i := 172) (by decide +kernel)) rfl, rfl, rfl⟩
theorem ck_La_init_0_0 : ia_cks 3 1 true prog_4_method_1_code 0 [(.aload_n 0, 0, 0, 0, 0)] = true := by decide +kernel
theorem dc_La_init_1 : decode prog_4_method_1_code 1 = .ok (.invokespecial 3, 3) := by decide +kernel
theorem ck_La_init_4_2 : ia_cks 3 1 true prog_4_method_1_code 4 [(.aload_n 0, 0, 0, 0, 0), (.bipush 36, 0, 0, 0, 0)] = true := by decide +kernel
theorem dc_La_init_7 : decode prog_4_method_1_code 7 = .ok (.newarray .int, 2) := by decide +kernel
theorem kt_3_1_0 : ∀ e ∈ [69, 81, 123, 135, 176, 188, 229, 241, 280], kd_D (e + 1) = (100, 36) := by decide +kernel
theorem kt_3_1 {e : Nat} (pe : (kd_D e).1 = 3) : kd_D (e + 1) = (100, 36) := kt_3_1_0 e (kn_3 pe)
theorem ck_La_init_9_6 : ia_cks 3 1 true prog_4_method_1_code 9 [(.putfield 9, 3, 3, 2, 0)] = true := by decide +kernel
theorem ck_La_init_12_7 : ia_cks 3 1 true prog_4_method_1_code 12 [(.aload_n 0, 0, 0, 0, 0), (.bipush 36, 0, 0, 0, 0)] = true := by decide +kernel
theorem dc_La_init_15 : decode prog_4_method_1_code 15 = .ok (.newarray .int, 2) := by decide +kernel
theorem kt_3_2_0 : ∀ e ∈ [69, 81, 123, 135, 176, 188, 229, 241, 280], kd_D (e + 2) = (100, 36) := by decide +kernel
theorem kt_3_2 {e : Nat} (pe : (kd_D e).1 = 3) : kd_D (e + 2) = (100, 36) := kt_3_2_0 e (kn_3 pe)
theorem ck_La_init_17_11 : ia_cks 3 1 true prog_4_method_1_code 17 [(.putfield 15, 3, 4, 2, 0)] = true := by decide +kernel
theorem ck_La_init_20_12 : ia_cks 3 1 true prog_4_method_1_code 20 [(.aload_n 0, 0, 0, 0, 0), (.bipush 36, 0, 0, 0, 0)] = true := by decide +kernel
theorem dc_La_init_23 : decode prog_4_method_1_code 23 = .ok (.newarray .int, 2) := by decide +kernel
theorem kt_3_3_0 : ∀ e ∈ [69, 81, 123, 135, 176, 188, 229, 241, 280], kd_D (e + 3) = (100, 36) := by decide +kernel
theorem kt_3_3 {e : Nat} (pe : (kd_D e).1 = 3) : kd_D (e + 3) = (100, 36) := kt_3_3_0 e (kn_3 pe)
theorem ck_La_init_25_16 : ia_cks 3 1 true prog_4_method_1_code 25 [(.putfield 18, 3, 5, 2, 0)] = true := by decide +kernel
theorem ck_La_init_28_17 : ia_cks 3 1 true prog_4_method_1_code 28 [(.aload_n 0, 0, 0, 0, 0), (.bipush 36, 0, 0, 0, 0)] = true := by decide +kernel
theorem dc_La_init_31 : decode prog_4_method_1_code 31 = .ok (.newarray .long, 2) := by decide +kernel
theorem kt_3_4_0 : ∀ e ∈ [69, 81, 123, 135, 176, 188, 229, 241, 280], kd_D (e + 4) = (103, 36) := by decide +kernel
theorem kt_3_4 {e : Nat} (pe : (kd_D e).1 = 3) : kd_D (e + 4) = (103, 36) := kt_3_4_0 e (kn_3 pe)
theorem ck_La_init_33_21 : ia_cks 3 1 true prog_4_method_1_code 33 [(.putfield 21, 3, 6, 2, 0)] = true := by decide +kernel
theorem ck_La_init_36_22 : ia_cks 3 1 true prog_4_method_1_code 36 [(.aload_n 0, 0, 0, 0, 0), (.bipush 12, 0, 0, 0, 0)] = true := by decide +kernel
theorem dc_La_init_39 : decode prog_4_method_1_code 39 = .ok (.newarray .int, 2) := by decide +kernel
theorem kt_3_5_0 : ∀ e ∈ [69, 81, 123, 135, 176, 188, 229, 241, 280], kd_D (e + 5) = (100, 12) := by decide +kernel
theorem kt_3_5 {e : Nat} (pe : (kd_D e).1 = 3) : kd_D (e + 5) = (100, 12) := kt_3_5_0 e (kn_3 pe)
theorem ck_La_init_41_26 : ia_cks 3 1 true prog_4_method_1_code 41 [(.putfield 25, 3, 9, 2, 0)] = true := by decide +kernel
theorem ck_La_init_44_27 : ia_cks 3 1 true prog_4_method_1_code 44 [(.aload_n 0, 0, 0, 0, 0), (.bipush 6, 0, 0, 0, 0)] = true := by decide +kernel
theorem dc_La_init_47 : decode prog_4_method_1_code 47 = .ok (.newarray .int, 2) := by decide +kernel
theorem kt_3_6_0 : ∀ e ∈ [69, 81, 123, 135, 176, 188, 229, 241, 280], kd_D (e + 6) = (100, 6) := by decide +kernel
theorem kt_3_6 {e : Nat} (pe : (kd_D e).1 = 3) : kd_D (e + 6) = (100, 6) := kt_3_6_0 e (kn_3 pe)
theorem ck_La_init_49_31 : ia_cks 3 1 true prog_4_method_1_code 49 [(.putfield 28, 3, 12, 2, 0)] = true := by decide +kernel
theorem ck_La_init_52_32 : ia_cks 3 1 true prog_4_method_1_code 52 [(.aload_n 0, 0, 0, 0, 0), (.bipush 6, 0, 0, 0, 0)] = true := by decide +kernel
theorem dc_La_init_55 : decode prog_4_method_1_code 55 = .ok (.newarray .int, 2) := by decide +kernel
theorem kt_3_7_0 : ∀ e ∈ [69, 81, 123, 135, 176, 188, 229, 241, 280], kd_D (e + 7) = (100, 6) := by decide +kernel
theorem kt_3_7 {e : Nat} (pe : (kd_D e).1 = 3) : kd_D (e + 7) = (100, 6) := kt_3_7_0 e (kn_3 pe)
theorem ck_La_init_57_36 : ia_cks 3 1 true prog_4_method_1_code 57 [(.putfield 31, 3, 13, 2, 0)] = true := by decide +kernel
theorem ck_La_init_60_37 : ia_cks 3 1 true prog_4_method_1_code 60 [(.aload_n 0, 0, 0, 0, 0), (.bipush 6, 0, 0, 0, 0)] = true := by decide +kernel
theorem dc_La_init_63 : decode prog_4_method_1_code 63 = .ok (.newarray .int, 2) := by decide +kernel
theorem kt_3_8_0 : ∀ e ∈ [69, 81, 123, 135, 176, 188, 229, 241, 280], kd_D (e + 8) = (100, 6) := by decide +kernel
theorem kt_3_8 {e : Nat} (pe : (kd_D e).1 = 3) : kd_D (e + 8) = (100, 6) := kt_3_8_0 e (kn_3 pe)
theorem ck_La_init_65_41 : ia_cks 3 1 true prog_4_method_1_code 65 [(.putfield 34, 3, 14, 2, 0)] = true := by decide +kernel
theorem ck_La_init_68_42 : ia_cks 3 1 true prog_4_method_1_code 68 [(.aload_n 0, 0, 0, 0, 0), (.bipush 6, 0, 0, 0, 0)] = true := by decide +kernel
theorem dc_La_init_71 : decode prog_4_method_1_code 71 = .ok (.newarray .int, 2) := by decide +kernel
theorem kt_3_9_0 : ∀ e ∈ [69, 81, 123, 135, 176, 188, 229, 241, 280], kd_D (e + 9) = (100, 6) := by decide +kernel
theorem kt_3_9 {e : Nat} (pe : (kd_D e).1 = 3) : kd_D (e + 9) = (100, 6) := kt_3_9_0 e (kn_3 pe)
theorem ck_La_init_73_46 : ia_cks 3 1 true prog_4_method_1_code 73 [(.putfield 37, 3, 15, 2, 0)] = true := by decide +kernel
theorem ck_La_init_76_47 : ia_cks 3 1 true prog_4_method_1_code 76 [(.aload_n 0, 0, 0, 0, 0), (.sipush 144, 0, 0, 0, 0)] = true := by decide +kernel
theorem dc_La_init_80 : decode prog_4_method_1_code 80 = .ok (.newarray .int, 2) := by decide +kernel
theorem kt_3_10_0 : ∀ e ∈ [69, 81, 123, 135, 176, 188, 229, 241, 280], kd_D (e + 10) = (100, 144) := by decide +kernel
theorem kt_3_10 {e : Nat} (pe : (kd_D e).1 = 3) : kd_D (e + 10) = (100, 144) := kt_3_10_0 e (kn_3 pe)
theorem ck_La_init_82_51 : ia_cks 3 1 true prog_4_method_1_code 82 [(.putfield 40, 3, 16, 2, 0)] = true := by decide +kernel
theorem ck_La_init_85_52 : ia_cks 3 1 true prog_4_method_1_code 85 [(.aload_n 0, 0, 0, 0, 0), (.sipush 144, 0, 0, 0, 0)] = true := by decide +kernel
theorem dc_La_init_89 : decode prog_4_method_1_code 89 = .ok (.newarray .int, 2) := by decide +kernel
theorem kt_3_11_0 : ∀ e ∈ [69, 81, 123, 135, 176, 188, 229, 241, 280], kd_D (e + 11) = (100, 144) := by decide +kernel
theorem kt_3_11 {e : Nat} (pe : (kd_D e).1 = 3) : kd_D (e + 11) = (100, 144) := kt_3_11_0 e (kn_3 pe)
theorem ck_La_init_91_56 : ia_cks 3 1 true prog_4_method_1_code 91 [(.putfield 43, 3, 17, 2, 0)] = true := by decide +kernel
theorem ck_La_init_94_57 : ia_cks 3 1 true prog_4_method_1_code 94 [(.aload_n 0, 0, 0, 0, 0)] = true := by decide +kernel
theorem dc_La_init_95 : decode prog_4_method_1_code 95 = .ok (.invokevirtual 46, 3) := by decide +kernel
theorem dc_La_init_98 : decode prog_4_method_1_code 98 = .ok (.return_, 1) := by decide +kernel
theorem rdo_3 (k f : Nat) (q : rd_o 3 k = some f) : (k = 3 ∧ f = 1) ∨ (k = 4 ∧ f = 2) ∨ (k = 5 ∧ f = 3) ∨ (k = 6 ∧ f = 4) ∨ (k = 9 ∧ f = 5) ∨ (k = 12 ∧ f = 6) ∨ (k = 13 ∧ f = 7) ∨ (k = 14 ∧ f = 8) ∨ (k = 15 ∧ f = 9) ∨ (k = 16 ∧ f = 10) ∨ (k = 17 ∧ f = 11) := by
  unfold rd_o at q
  split at q <;> simp_all
theorem rdc_3 (k f : Nat) (q : rd_c 3 k = some f) : False := by
  unfold rd_c at q
  split at q <;> simp_all
set_option maxHeartbeats 8000000 in
theorem mc_La_init (d : Nat) {a : Nat} (pe : (kd_D a).1 = 3) {S : List Nat} {w : ia_O0} {h : ia_H} (hh : hc_ (a + 1) (a :: S) w h) : ∃ h1, ia_Ev (d + 4) mm_La_init [.inr (.inr a)] h none h1 ∧ hc_ (a + 12) S w h1 ∧ hf_ a h h1 := by
  have ha : 64 ≤ a := ko_3 pe
  have hf0 : hf_ a h h := fun b hb => ⟨rfl, rfl, rfl⟩
  obtain ⟨h1, e1⟩ : ∃ x, x = ia_nw h 100 36 36 := ⟨_, rfl⟩
  have c1 : hc_ (a + 2) (a :: S) w h1 := by rw [e1]; exact hc_arr hh (kt_3_1 pe) (by decide) (by decide)
  have f1 : hf_ a h h1 := by rw [e1]; exact hf_nw hf0 (hc_le hh (Nat.le_add_right a _))
  obtain ⟨h2, e2⟩ : ∃ x, x = ia_wR h1 a 3 (a + 1) := ⟨_, rfl⟩
  have c2 : hc_ (a + 2) (a :: S) w h2 := by rw [e2]; exact hc_wR c1 List.mem_cons_self
  have f2 : hf_ a h h2 := by rw [e2]; exact hf_wR f1 (Nat.le_refl _)
  have r0_3_2 : ia_r h2 a 3 = a + 1 := by rw [e2]; exact wR_s
  obtain ⟨h3, e3⟩ : ∃ x, x = ia_nw h2 100 36 36 := ⟨_, rfl⟩
  have c3 : hc_ (a + 3) (a :: S) w h3 := by rw [e3]; exact hc_arr c2 (kt_3_2 pe) (by decide) (by decide)
  have f3 : hf_ a h h3 := by rw [e3]; exact hf_nw f2 (hc_le c2 (Nat.le_add_right a _))
  have r0_3_3 : ia_r h3 a 3 = a + 1 := by rw [e3]; exact hn_r (hc_ne c2 (Nat.lt_add_of_pos_right (by decide))) r0_3_2
  obtain ⟨h4, e4⟩ : ∃ x, x = ia_wR h3 a 4 (a + 2) := ⟨_, rfl⟩
  have c4 : hc_ (a + 3) (a :: S) w h4 := by rw [e4]; exact hc_wR c3 List.mem_cons_self
  have f4 : hf_ a h h4 := by rw [e4]; exact hf_wR f3 (Nat.le_refl _)
  have r0_3_4 : ia_r h4 a 3 = a + 1 := by rw [e4]; exact hw_r (by decide) r0_3_3
  have r0_4_4 : ia_r h4 a 4 = a + 2 := by rw [e4]; exact wR_s
  obtain ⟨h5, e5⟩ : ∃ x, x = ia_nw h4 100 36 36 := ⟨_, rfl⟩
  have c5 : hc_ (a + 4) (a :: S) w h5 := by rw [e5]; exact hc_arr c4 (kt_3_3 pe) (by decide) (by decide)
  have f5 : hf_ a h h5 := by rw [e5]; exact hf_nw f4 (hc_le c4 (Nat.le_add_right a _))
  have r0_3_5 : ia_r h5 a 3 = a + 1 := by rw [e5]; exact hn_r (hc_ne c4 (Nat.lt_add_of_pos_right (by decide))) r0_3_4
  have r0_4_5 : ia_r h5 a 4 = a + 2 := by rw [e5]; exact hn_r (hc_ne c4 (Nat.lt_add_of_pos_right (by decide))) r0_4_4
  obtain ⟨h6, e6⟩ : ∃ x, x = ia_wR h5 a 5 (a + 3) := ⟨_, rfl⟩
  have c6 : hc_ (a + 4) (a :: S) w h6 := by rw [e6]; exact hc_wR c5 List.mem_cons_self
  have f6 : hf_ a h h6 := by rw [e6]; exact hf_wR f5 (Nat.le_refl _)
  have r0_3_6 : ia_r h6 a 3 = a + 1 := by rw [e6]; exact hw_r (by decide) r0_3_5
  have r0_4_6 : ia_r h6 a 4 = a + 2 := by rw [e6]; exact hw_r (by decide) r0_4_5
  have r0_5_6 : ia_r h6 a 5 = a + 3 := by rw [e6]; exact wR_s
  obtain ⟨h7, e7⟩ : ∃ x, x = ia_nw h6 103 36 36 := ⟨_, rfl⟩
  have c7 : hc_ (a + 5) (a :: S) w h7 := by rw [e7]; exact hc_arr c6 (kt_3_4 pe) (by decide) (by decide)
  have f7 : hf_ a h h7 := by rw [e7]; exact hf_nw f6 (hc_le c6 (Nat.le_add_right a _))
  have r0_3_7 : ia_r h7 a 3 = a + 1 := by rw [e7]; exact hn_r (hc_ne c6 (Nat.lt_add_of_pos_right (by decide))) r0_3_6
  have r0_4_7 : ia_r h7 a 4 = a + 2 := by rw [e7]; exact hn_r (hc_ne c6 (Nat.lt_add_of_pos_right (by decide))) r0_4_6
  have r0_5_7 : ia_r h7 a 5 = a + 3 := by rw [e7]; exact hn_r (hc_ne c6 (Nat.lt_add_of_pos_right (by decide))) r0_5_6
  obtain ⟨h8, e8⟩ : ∃ x, x = ia_wR h7 a 6 (a + 4) := ⟨_, rfl⟩
  have c8 : hc_ (a + 5) (a :: S) w h8 := by rw [e8]; exact hc_wR c7 List.mem_cons_self
  have f8 : hf_ a h h8 := by rw [e8]; exact hf_wR f7 (Nat.le_refl _)
  have r0_3_8 : ia_r h8 a 3 = a + 1 := by rw [e8]; exact hw_r (by decide) r0_3_7
  have r0_4_8 : ia_r h8 a 4 = a + 2 := by rw [e8]; exact hw_r (by decide) r0_4_7
  have r0_5_8 : ia_r h8 a 5 = a + 3 := by rw [e8]; exact hw_r (by decide) r0_5_7
  have r0_6_8 : ia_r h8 a 6 = a + 4 := by rw [e8]; exact wR_s
  obtain ⟨h9, e9⟩ : ∃ x, x = ia_nw h8 100 12 12 := ⟨_, rfl⟩
  have c9 : hc_ (a + 6) (a :: S) w h9 := by rw [e9]; exact hc_arr c8 (kt_3_5 pe) (by decide) (by decide)
  have f9 : hf_ a h h9 := by rw [e9]; exact hf_nw f8 (hc_le c8 (Nat.le_add_right a _))
  have r0_3_9 : ia_r h9 a 3 = a + 1 := by rw [e9]; exact hn_r (hc_ne c8 (Nat.lt_add_of_pos_right (by decide))) r0_3_8
  have r0_4_9 : ia_r h9 a 4 = a + 2 := by rw [e9]; exact hn_r (hc_ne c8 (Nat.lt_add_of_pos_right (by decide))) r0_4_8
  have r0_5_9 : ia_r h9 a 5 = a + 3 := by rw [e9]; exact hn_r (hc_ne c8 (Nat.lt_add_of_pos_right (by decide))) r0_5_8
  have r0_6_9 : ia_r h9 a 6 = a + 4 := by rw [e9]; exact hn_r (hc_ne c8 (Nat.lt_add_of_pos_right (by decide))) r0_6_8
  obtain ⟨h10, e10⟩ : ∃ x, x = ia_wR h9 a 9 (a + 5) := ⟨_, rfl⟩
  have c10 : hc_ (a + 6) (a :: S) w h10 := by rw [e10]; exact hc_wR c9 List.mem_cons_self
  have f10 : hf_ a h h10 := by rw [e10]; exact hf_wR f9 (Nat.le_refl _)
  have r0_3_10 : ia_r h10 a 3 = a + 1 := by rw [e10]; exact hw_r (by decide) r0_3_9
  have r0_4_10 : ia_r h10 a 4 = a + 2 := by rw [e10]; exact hw_r (by decide) r0_4_9
  have r0_5_10 : ia_r h10 a 5 = a + 3 := by rw [e10]; exact hw_r (by decide) r0_5_9
  have r0_6_10 : ia_r h10 a 6 = a + 4 := by rw [e10]; exact hw_r (by decide) r0_6_9
  have r0_9_10 : ia_r h10 a 9 = a + 5 := by rw [e10]; exact wR_s
  obtain ⟨h11, e11⟩ : ∃ x, x = ia_nw h10 100 6 6 := ⟨_, rfl⟩
  have c11 : hc_ (a + 7) (a :: S) w h11 := by rw [e11]; exact hc_arr c10 (kt_3_6 pe) (by decide) (by decide)
  have f11 : hf_ a h h11 := by rw [e11]; exact hf_nw f10 (hc_le c10 (Nat.le_add_right a _))
  have r0_3_11 : ia_r h11 a 3 = a + 1 := by rw [e11]; exact hn_r (hc_ne c10 (Nat.lt_add_of_pos_right (by decide))) r0_3_10
  have r0_4_11 : ia_r h11 a 4 = a + 2 := by rw [e11]; exact hn_r (hc_ne c10 (Nat.lt_add_of_pos_right (by decide))) r0_4_10
  have r0_5_11 : ia_r h11 a 5 = a + 3 := by rw [e11]; exact hn_r (hc_ne c10 (Nat.lt_add_of_pos_right (by decide))) r0_5_10
  have r0_6_11 : ia_r h11 a 6 = a + 4 := by rw [e11]; exact hn_r (hc_ne c10 (Nat.lt_add_of_pos_right (by decide))) r0_6_10
  have r0_9_11 : ia_r h11 a 9 = a + 5 := by rw [e11]; exact hn_r (hc_ne c10 (Nat.lt_add_of_pos_right (by decide))) r0_9_10
  obtain ⟨h12, e12⟩ : ∃ x, x = ia_wR h11 a 12 (a + 6) := ⟨_, rfl⟩
  have c12 : hc_ (a + 7) (a :: S) w h12 := by rw [e12]; exact hc_wR c11 List.mem_cons_self
  have f12 : hf_ a h h12 := by rw [e12]; exact hf_wR f11 (Nat.le_refl _)
  have r0_3_12 : ia_r h12 a 3 = a + 1 := by rw [e12]; exact hw_r (by decide) r0_3_11
  have r0_4_12 : ia_r h12 a 4 = a + 2 := by rw [e12]; exact hw_r (by decide) r0_4_11
  have r0_5_12 : ia_r h12 a 5 = a + 3 := by rw [e12]; exact hw_r (by decide) r0_5_11
  have r0_6_12 : ia_r h12 a 6 = a + 4 := by rw [e12]; exact hw_r (by decide) r0_6_11
  have r0_9_12 : ia_r h12 a 9 = a + 5 := by rw [e12]; exact hw_r (by decide) r0_9_11
  have r0_12_12 : ia_r h12 a 12 = a + 6 := by rw [e12]; exact wR_s
  obtain ⟨h13, e13⟩ : ∃ x, x = ia_nw h12 100 6 6 := ⟨_, rfl⟩
  have c13 : hc_ (a + 8) (a :: S) w h13 := by rw [e13]; exact hc_arr c12 (kt_3_7 pe) (by decide) (by decide)
  have f13 : hf_ a h h13 := by rw [e13]; exact hf_nw f12 (hc_le c12 (Nat.le_add_right a _))
  have r0_3_13 : ia_r h13 a 3 = a + 1 := by rw [e13]; exact hn_r (hc_ne c12 (Nat.lt_add_of_pos_right (by decide))) r0_3_12
  have r0_4_13 : ia_r h13 a 4 = a + 2 := by rw [e13]; exact hn_r (hc_ne c12 (Nat.lt_add_of_pos_right (by decide))) r0_4_12
  have r0_5_13 : ia_r h13 a 5 = a + 3 := by rw [e13]; exact hn_r (hc_ne c12 (Nat.lt_add_of_pos_right (by decide))) r0_5_12
  have r0_6_13 : ia_r h13 a 6 = a + 4 := by rw [e13]; exact hn_r (hc_ne c12 (Nat.lt_add_of_pos_right (by decide))) r0_6_12
  have r0_9_13 : ia_r h13 a 9 = a + 5 := by rw [e13]; exact hn_r (hc_ne c12 (Nat.lt_add_of_pos_right (by decide))) r0_9_12
  have r0_12_13 : ia_r h13 a 12 = a + 6 := by rw [e13]; exact hn_r (hc_ne c12 (Nat.lt_add_of_pos_right (by decide))) r0_12_12
  obtain ⟨h14, e14⟩ : ∃ x, x = ia_wR h13 a 13 (a + 7) := ⟨_, rfl⟩
  have c14 : hc_ (a + 8) (a :: S) w h14 := by rw [e14]; exact hc_wR c13 List.mem_cons_self
  have f14 : hf_ a h h14 := by rw [e14]; exact hf_wR f13 (Nat.le_refl _)
  have r0_3_14 : ia_r h14 a 3 = a + 1 := by rw [e14]; exact hw_r (by decide) r0_3_13
  have r0_4_14 : ia_r h14 a 4 = a + 2 := by rw [e14]; exact hw_r (by decide) r0_4_13
  have r0_5_14 : ia_r h14 a 5 = a + 3 := by rw [e14]; exact hw_r (by decide) r0_5_13
  have r0_6_14 : ia_r h14 a 6 = a + 4 := by rw [e14]; exact hw_r (by decide) r0_6_13
  have r0_9_14 : ia_r h14 a 9 = a + 5 := by rw [e14]; exact hw_r (by decide) r0_9_13
  have r0_12_14 : ia_r h14 a 12 = a + 6 := by rw [e14]; exact hw_r (by decide) r0_12_13
  have r0_13_14 : ia_r h14 a 13 = a + 7 := by rw [e14]; exact wR_s
  obtain ⟨h15, e15⟩ : ∃ x, x = ia_nw h14 100 6 6 := ⟨_, rfl⟩
  have c15 : hc_ (a + 9) (a :: S) w h15 := by rw [e15]; exact hc_arr c14 (kt_3_8 pe) (by decide) (by decide)
  have f15 : hf_ a h h15 := by rw [e15]; exact hf_nw f14 (hc_le c14 (Nat.le_add_right a _))
  have r0_3_15 : ia_r h15 a 3 = a + 1 := by rw [e15]; exact hn_r (hc_ne c14 (Nat.lt_add_of_pos_right (by decide))) r0_3_14
  have r0_4_15 : ia_r h15 a 4 = a + 2 := by rw [e15]; exact hn_r (hc_ne c14 (Nat.lt_add_of_pos_right (by decide))) r0_4_14
  have r0_5_15 : ia_r h15 a 5 = a + 3 := by rw [e15]; exact hn_r (hc_ne c14 (Nat.lt_add_of_pos_right (by decide))) r0_5_14
  have r0_6_15 : ia_r h15 a 6 = a + 4 := by rw [e15]; exact hn_r (hc_ne c14 (Nat.lt_add_of_pos_right (by decide))) r0_6_14
  have r0_9_15 : ia_r h15 a 9 = a + 5 := by rw [e15]; exact hn_r (hc_ne c14 (Nat.lt_add_of_pos_right (by decide))) r0_9_14
  have r0_12_15 : ia_r h15 a 12 = a + 6 := by rw [e15]; exact hn_r (hc_ne c14 (Nat.lt_add_of_pos_right (by decide))) r0_12_14
  have r0_13_15 : ia_r h15 a 13 = a + 7 := by rw [e15]; exact hn_r (hc_ne c14 (Nat.lt_add_of_pos_right (by decide))) r0_13_14
  obtain ⟨h16, e16⟩ : ∃ x, x = ia_wR h15 a 14 (a + 8) := ⟨_, rfl⟩
  have c16 : hc_ (a + 9) (a :: S) w h16 := by rw [e16]; exact hc_wR c15 List.mem_cons_self
  have f16 : hf_ a h h16 := by rw [e16]; exact hf_wR f15 (Nat.le_refl _)
  have r0_3_16 : ia_r h16 a 3 = a + 1 := by rw [e16]; exact hw_r (by decide) r0_3_15
  have r0_4_16 : ia_r h16 a 4 = a + 2 := by rw [e16]; exact hw_r (by decide) r0_4_15
  have r0_5_16 : ia_r h16 a 5 = a + 3 := by rw [e16]; exact hw_r (by decide) r0_5_15
  have r0_6_16 : ia_r h16 a 6 = a + 4 := by rw [e16]; exact hw_r (by decide) r0_6_15
  have r0_9_16 : ia_r h16 a 9 = a + 5 := by rw [e16]; exact hw_r (by decide) r0_9_15
  have r0_12_16 : ia_r h16 a 12 = a + 6 := by rw [e16]; exact hw_r (by decide) r0_12_15
  have r0_13_16 : ia_r h16 a 13 = a + 7 := by rw [e16]; exact hw_r (by decide) r0_13_15
  have r0_14_16 : ia_r h16 a 14 = a + 8 := by rw [e16]; exact wR_s
  obtain ⟨h17, e17⟩ : ∃ x, x = ia_nw h16 100 6 6 := ⟨_, rfl⟩
  have c17 : hc_ (a + 10) (a :: S) w h17 := by rw [e17]; exact hc_arr c16 (kt_3_9 pe) (by decide) (by decide)
  have f17 : hf_ a h h17 := by rw [e17]; exact hf_nw f16 (hc_le c16 (Nat.le_add_right a _))
  have r0_3_17 : ia_r h17 a 3 = a + 1 := by rw [e17]; exact hn_r (hc_ne c16 (Nat.lt_add_of_pos_right (by decide))) r0_3_16
  have r0_4_17 : ia_r h17 a 4 = a + 2 := by rw [e17]; exact hn_r (hc_ne c16 (Nat.lt_add_of_pos_right (by decide))) r0_4_16
  have r0_5_17 : ia_r h17 a 5 = a + 3 := by rw [e17]; exact hn_r (hc_ne c16 (Nat.lt_add_of_pos_right (by decide))) r0_5_16
  have r0_6_17 : ia_r h17 a 6 = a + 4 := by rw [e17]; exact hn_r (hc_ne c16 (Nat.lt_add_of_pos_right (by decide))) r0_6_16
  have r0_9_17 : ia_r h17 a 9 = a + 5 := by rw [e17]; exact hn_r (hc_ne c16 (Nat.lt_add_of_pos_right (by decide))) r0_9_16
  have r0_12_17 : ia_r h17 a 12 = a + 6 := by rw [e17]; exact hn_r (hc_ne c16 (Nat.lt_add_of_pos_right (by decide))) r0_12_16
  have r0_13_17 : ia_r h17 a 13 = a + 7 := by rw [e17]; exact hn_r (hc_ne c16 (Nat.lt_add_of_pos_right (by decide))) r0_13_16
  have r0_14_17 : ia_r h17 a 14 = a + 8 := by rw [e17]; exact hn_r (hc_ne c16 (Nat.lt_add_of_pos_right (by decide))) r0_14_16
  obtain ⟨h18, e18⟩ : ∃ x, x = ia_wR h17 a 15 (a + 9) := ⟨_, rfl⟩
  have c18 : hc_ (a + 10) (a :: S) w h18 := by rw [e18]; exact hc_wR c17 List.mem_cons_self
  have f18 : hf_ a h h18 := by rw [e18]; exact hf_wR f17 (Nat.le_refl _)
  have r0_3_18 : ia_r h18 a 3 = a + 1 := by rw [e18]; exact hw_r (by decide) r0_3_17
  have r0_4_18 : ia_r h18 a 4 = a + 2 := by rw [e18]; exact hw_r (by decide) r0_4_17
  have r0_5_18 : ia_r h18 a 5 = a + 3 := by rw [e18]; exact hw_r (by decide) r0_5_17
  have r0_6_18 : ia_r h18 a 6 = a + 4 := by rw [e18]; exact hw_r (by decide) r0_6_17
  have r0_9_18 : ia_r h18 a 9 = a + 5 := by rw [e18]; exact hw_r (by decide) r0_9_17
  have r0_12_18 : ia_r h18 a 12 = a + 6 := by rw [e18]; exact hw_r (by decide) r0_12_17
  have r0_13_18 : ia_r h18 a 13 = a + 7 := by rw [e18]; exact hw_r (by decide) r0_13_17
  have r0_14_18 : ia_r h18 a 14 = a + 8 := by rw [e18]; exact hw_r (by decide) r0_14_17
  have r0_15_18 : ia_r h18 a 15 = a + 9 := by rw [e18]; exact wR_s
  obtain ⟨h19, e19⟩ : ∃ x, x = ia_nw h18 100 144 144 := ⟨_, rfl⟩
  have c19 : hc_ (a + 11) (a :: S) w h19 := by rw [e19]; exact hc_arr c18 (kt_3_10 pe) (by decide) (by decide)
  have f19 : hf_ a h h19 := by rw [e19]; exact hf_nw f18 (hc_le c18 (Nat.le_add_right a _))
  have r0_3_19 : ia_r h19 a 3 = a + 1 := by rw [e19]; exact hn_r (hc_ne c18 (Nat.lt_add_of_pos_right (by decide))) r0_3_18
  have r0_4_19 : ia_r h19 a 4 = a + 2 := by rw [e19]; exact hn_r (hc_ne c18 (Nat.lt_add_of_pos_right (by decide))) r0_4_18
  have r0_5_19 : ia_r h19 a 5 = a + 3 := by rw [e19]; exact hn_r (hc_ne c18 (Nat.lt_add_of_pos_right (by decide))) r0_5_18
  have r0_6_19 : ia_r h19 a 6 = a + 4 := by rw [e19]; exact hn_r (hc_ne c18 (Nat.lt_add_of_pos_right (by decide))) r0_6_18
  have r0_9_19 : ia_r h19 a 9 = a + 5 := by rw [e19]; exact hn_r (hc_ne c18 (Nat.lt_add_of_pos_right (by decide))) r0_9_18
  have r0_12_19 : ia_r h19 a 12 = a + 6 := by rw [e19]; exact hn_r (hc_ne c18 (Nat.lt_add_of_pos_right (by decide))) r0_12_18
  have r0_13_19 : ia_r h19 a 13 = a + 7 := by rw [e19]; exact hn_r (hc_ne c18 (Nat.lt_add_of_pos_right (by decide))) r0_13_18
  have r0_14_19 : ia_r h19 a 14 = a + 8 := by rw [e19]; exact hn_r (hc_ne c18 (Nat.lt_add_of_pos_right (by decide))) r0_14_18
  have r0_15_19 : ia_r h19 a 15 = a + 9 := by rw [e19]; exact hn_r (hc_ne c18 (Nat.lt_add_of_pos_right (by decide))) r0_15_18
  obtain ⟨h20, e20⟩ : ∃ x, x = ia_wR h19 a 16 (a + 10) := ⟨_, rfl⟩
  have c20 : hc_ (a + 11) (a :: S) w h20 := by rw [e20]; exact hc_wR c19 List.mem_cons_self
  have f20 : hf_ a h h20 := by rw [e20]; exact hf_wR f19 (Nat.le_refl _)
  have r0_3_20 : ia_r h20 a 3 = a + 1 := by rw [e20]; exact hw_r (by decide) r0_3_19
  have r0_4_20 : ia_r h20 a 4 = a + 2 := by rw [e20]; exact hw_r (by decide) r0_4_19
  have r0_5_20 : ia_r h20 a 5 = a + 3 := by rw [e20]; exact hw_r (by decide) r0_5_19
  have r0_6_20 : ia_r h20 a 6 = a + 4 := by rw [e20]; exact hw_r (by decide) r0_6_19
  have r0_9_20 : ia_r h20 a 9 = a + 5 := by rw [e20]; exact hw_r (by decide) r0_9_19
  have r0_12_20 : ia_r h20 a 12 = a + 6 := by rw [e20]; exact hw_r (by decide) r0_12_19
  have r0_13_20 : ia_r h20 a 13 = a + 7 := by rw [e20]; exact hw_r (by decide) r0_13_19
  have r0_14_20 : ia_r h20 a 14 = a + 8 := by rw [e20]; exact hw_r (by decide) r0_14_19
  have r0_15_20 : ia_r h20 a 15 = a + 9 := by rw [e20]; exact hw_r (by decide) r0_15_19
  have r0_16_20 : ia_r h20 a 16 = a + 10 := by rw [e20]; exact wR_s
  obtain ⟨h21, e21⟩ : ∃ x, x = ia_nw h20 100 144 144 := ⟨_, rfl⟩
  have c21 : hc_ (a + 12) (a :: S) w h21 := by rw [e21]; exact hc_arr c20 (kt_3_11 pe) (by decide) (by decide)
  have f21 : hf_ a h h21 := by rw [e21]; exact hf_nw f20 (hc_le c20 (Nat.le_add_right a _))
  have r0_3_21 : ia_r h21 a 3 = a + 1 := by rw [e21]; exact hn_r (hc_ne c20 (Nat.lt_add_of_pos_right (by decide))) r0_3_20
  have r0_4_21 : ia_r h21 a 4 = a + 2 := by rw [e21]; exact hn_r (hc_ne c20 (Nat.lt_add_of_pos_right (by decide))) r0_4_20
  have r0_5_21 : ia_r h21 a 5 = a + 3 := by rw [e21]; exact hn_r (hc_ne c20 (Nat.lt_add_of_pos_right (by decide))) r0_5_20
  have r0_6_21 : ia_r h21 a 6 = a + 4 := by rw [e21]; exact hn_r (hc_ne c20 (Nat.lt_add_of_pos_right (by decide))) r0_6_20
  have r0_9_21 : ia_r h21 a 9 = a + 5 := by rw [e21]; exact hn_r (hc_ne c20 (Nat.lt_add_of_pos_right (by decide))) r0_9_20
  have r0_12_21 : ia_r h21 a 12 = a + 6 := by rw [e21]; exact hn_r (hc_ne c20 (Nat.lt_add_of_pos_right (by decide))) r0_12_20
  have r0_13_21 : ia_r h21 a 13 = a + 7 := by rw [e21]; exact hn_r (hc_ne c20 (Nat.lt_add_of_pos_right (by decide))) r0_13_20
  have r0_14_21 : ia_r h21 a 14 = a + 8 := by rw [e21]; exact hn_r (hc_ne c20 (Nat.lt_add_of_pos_right (by decide))) r0_14_20
  have r0_15_21 : ia_r h21 a 15 = a + 9 := by rw [e21]; exact hn_r (hc_ne c20 (Nat.lt_add_of_pos_right (by decide))) r0_15_20
  have r0_16_21 : ia_r h21 a 16 = a + 10 := by rw [e21]; exact hn_r (hc_ne c20 (Nat.lt_add_of_pos_right (by decide))) r0_16_20
  obtain ⟨h22, e22⟩ : ∃ x, x = ia_wR h21 a 17 (a + 11) := ⟨_, rfl⟩
  have c22 : hc_ (a + 12) (a :: S) w h22 := by rw [e22]; exact hc_wR c21 List.mem_cons_self
  have f22 : hf_ a h h22 := by rw [e22]; exact hf_wR f21 (Nat.le_refl _)
  have r0_3_22 : ia_r h22 a 3 = a + 1 := by rw [e22]; exact hw_r (by decide) r0_3_21
  have r0_4_22 : ia_r h22 a 4 = a + 2 := by rw [e22]; exact hw_r (by decide) r0_4_21
  have r0_5_22 : ia_r h22 a 5 = a + 3 := by rw [e22]; exact hw_r (by decide) r0_5_21
  have r0_6_22 : ia_r h22 a 6 = a + 4 := by rw [e22]; exact hw_r (by decide) r0_6_21
  have r0_9_22 : ia_r h22 a 9 = a + 5 := by rw [e22]; exact hw_r (by decide) r0_9_21
  have r0_12_22 : ia_r h22 a 12 = a + 6 := by rw [e22]; exact hw_r (by decide) r0_12_21
  have r0_13_22 : ia_r h22 a 13 = a + 7 := by rw [e22]; exact hw_r (by decide) r0_13_21
  have r0_14_22 : ia_r h22 a 14 = a + 8 := by rw [e22]; exact hw_r (by decide) r0_14_21
  have r0_15_22 : ia_r h22 a 15 = a + 9 := by rw [e22]; exact hw_r (by decide) r0_15_21
  have r0_16_22 : ia_r h22 a 16 = a + 10 := by rw [e22]; exact hw_r (by decide) r0_16_21
  have r0_17_22 : ia_r h22 a 17 = a + 11 := by rw [e22]; exact wR_s
  have rr : ∀ k f, rd_o 3 k = some f → ia_r h22 a k = a + f := by
      intro k f q
      rcases rdo_3 k f q with ⟨rfl, rfl⟩ | ⟨rfl, rfl⟩ | ⟨rfl, rfl⟩ | ⟨rfl, rfl⟩ | ⟨rfl, rfl⟩ | ⟨rfl, rfl⟩ | ⟨rfl, rfl⟩ | ⟨rfl, rfl⟩ | ⟨rfl, rfl⟩ | ⟨rfl, rfl⟩ | ⟨rfl, rfl⟩
      · exact r0_3_22
      · exact r0_4_22
      · exact r0_5_22
      · exact r0_6_22
      · exact r0_9_22
      · exact r0_12_22
      · exact r0_13_22
      · exact r0_14_22
      · exact r0_15_22
      · exact r0_16_22
      · exact r0_17_22
  obtain ⟨h23, v23, kk23⟩ := cc_La d pe c22 rr
  have c23 : hc_ (a + 12) (a :: S) w h23 := by exact hc_sk c22 ha kk23
  have f23 : hf_ a h h23 := by exact hf_trans f22 (hf_sk kk23) (Nat.le_refl _)
  have r0_3_23 : ia_r h23 a 3 = a + 1 := by exact (congrFun (congrFun kk23.2.2.2.1 _) _).trans r0_3_22
  have r0_4_23 : ia_r h23 a 4 = a + 2 := by exact (congrFun (congrFun kk23.2.2.2.1 _) _).trans r0_4_22
  have r0_5_23 : ia_r h23 a 5 = a + 3 := by exact (congrFun (congrFun kk23.2.2.2.1 _) _).trans r0_5_22
  have r0_6_23 : ia_r h23 a 6 = a + 4 := by exact (congrFun (congrFun kk23.2.2.2.1 _) _).trans r0_6_22
  have r0_9_23 : ia_r h23 a 9 = a + 5 := by exact (congrFun (congrFun kk23.2.2.2.1 _) _).trans r0_9_22
  have r0_12_23 : ia_r h23 a 12 = a + 6 := by exact (congrFun (congrFun kk23.2.2.2.1 _) _).trans r0_12_22
  have r0_13_23 : ia_r h23 a 13 = a + 7 := by exact (congrFun (congrFun kk23.2.2.2.1 _) _).trans r0_13_22
  have r0_14_23 : ia_r h23 a 14 = a + 8 := by exact (congrFun (congrFun kk23.2.2.2.1 _) _).trans r0_14_22
  have r0_15_23 : ia_r h23 a 15 = a + 9 := by exact (congrFun (congrFun kk23.2.2.2.1 _) _).trans r0_15_22
  have r0_16_23 : ia_r h23 a 16 = a + 10 := by exact (congrFun (congrFun kk23.2.2.2.1 _) _).trans r0_16_22
  have r0_17_23 : ia_r h23 a 17 = a + 11 := by exact (congrFun (congrFun kk23.2.2.2.1 _) _).trans r0_17_22
  have d23_0 : hc_ (a + 12) (S) w h23 := by
    refine hc_fin c23 ?_ ?_ ?_ ?_ ?_
    · intro k f q
      rw [pe] at q
      rcases rdo_3 k f q with ⟨rfl, rfl⟩ | ⟨rfl, rfl⟩ | ⟨rfl, rfl⟩ | ⟨rfl, rfl⟩ | ⟨rfl, rfl⟩ | ⟨rfl, rfl⟩ | ⟨rfl, rfl⟩ | ⟨rfl, rfl⟩ | ⟨rfl, rfl⟩ | ⟨rfl, rfl⟩ | ⟨rfl, rfl⟩
      · exact r0_3_23
      · exact r0_4_23
      · exact r0_5_23
      · exact r0_6_23
      · exact r0_9_23
      · exact r0_12_23
      · exact r0_13_23
      · exact r0_14_23
      · exact r0_15_23
      · exact r0_16_23
      · exact r0_17_23
    · intro k f q
      rw [pe] at q
      exact (rdc_3 k f q).elim
    · intro j f q
      rw [pe] at q
      cases q
    · intro q
      rw [pe] at q
      cases q
    · intro q
      rw [pe] at q
      cases q
  have cN : hc_ (a + 12) (S) w h23 := d23_0
  refine ⟨h23, ia_Ev_intro ok_La_init (hc_cap hh cN (Nat.add_le_add_left (by decide) a)).1 (hc_cap hh cN (Nat.add_le_add_left (by decide) a)).2 (Nat.le_of_ble_eq_true rfl) (fun K hK hret => ?_), cN, f23⟩
  show K 0 [some (.inr (.inr a))] [] h
  refine ia_go hK ck_La_init_0_0 ?_
  show K 1 [some (.inr (.inr a))] [.inr (.inr a)] h
  refine ia_obj hK (ia_tb_in (List.mem_of_getElem? (i := 174) (by decide +kernel)) rfl) dc_La_init_1 ha (Nat.le_of_ble_eq_true rfl) ?_
  show K 4 [some (.inr (.inr a))] [] h
  refine ia_go hK ck_La_init_4_2 ?_
  show K 7 [some (.inr (.inr a))] [.inl 36, .inr (.inr a)] h
  refine kw_arr hK (at_ := .int) (k := 100) (ty := .int) rfl (ia_tb_in (by decide +kernel) rfl) dc_La_init_7 (Or.inl ⟨rfl, rfl⟩) ⟨by decide, by decide, by decide⟩ e1 (hc_at hh) (hc_cap c1 cN (Nat.add_le_add_left (by decide) a)) ?_
  show K 9 [some (.inr (.inr a))] [.inr (.inr (a + 1)), .inr (.inr a)] h1
  refine ia_go hK ck_La_init_9_6 ⟨hc_k c1 ha (Nat.lt_add_of_pos_right (by decide)) pe, ?_⟩
  show K 12 [some (.inr (.inr a))] [] (ia_wR h1 a 3 (a + 1))
  rw [← e2]
  refine ia_go hK ck_La_init_12_7 ?_
  show K 15 [some (.inr (.inr a))] [.inl 36, .inr (.inr a)] h2
  refine kw_arr hK (at_ := .int) (k := 100) (ty := .int) rfl (ia_tb_in (by decide +kernel) rfl) dc_La_init_15 (Or.inl ⟨rfl, rfl⟩) ⟨by decide, by decide, by decide⟩ e3 (hc_at c2) (hc_cap c3 cN (Nat.add_le_add_left (by decide) a)) ?_
  show K 17 [some (.inr (.inr a))] [.inr (.inr (a + 2)), .inr (.inr a)] h3
  refine ia_go hK ck_La_init_17_11 ⟨hc_k c3 ha (Nat.lt_add_of_pos_right (by decide)) pe, ?_⟩
  show K 20 [some (.inr (.inr a))] [] (ia_wR h3 a 4 (a + 2))
  rw [← e4]
  refine ia_go hK ck_La_init_20_12 ?_
  show K 23 [some (.inr (.inr a))] [.inl 36, .inr (.inr a)] h4
  refine kw_arr hK (at_ := .int) (k := 100) (ty := .int) rfl (ia_tb_in (by decide +kernel) rfl) dc_La_init_23 (Or.inl ⟨rfl, rfl⟩) ⟨by decide, by decide, by decide⟩ e5 (hc_at c4) (hc_cap c5 cN (Nat.add_le_add_left (by decide) a)) ?_
  show K 25 [some (.inr (.inr a))] [.inr (.inr (a + 3)), .inr (.inr a)] h5
  refine ia_go hK ck_La_init_25_16 ⟨hc_k c5 ha (Nat.lt_add_of_pos_right (by decide)) pe, ?_⟩
  show K 28 [some (.inr (.inr a))] [] (ia_wR h5 a 5 (a + 3))
  rw [← e6]
  refine ia_go hK ck_La_init_28_17 ?_
  show K 31 [some (.inr (.inr a))] [.inl 36, .inr (.inr a)] h6
  refine kw_arr hK (at_ := .long) (k := 103) (ty := .long) rfl (ia_tb_in (by decide +kernel) rfl) dc_La_init_31 (Or.inr (Or.inr (Or.inr ⟨rfl, rfl⟩))) ⟨by decide, by decide, by decide⟩ e7 (hc_at c6) (hc_cap c7 cN (Nat.add_le_add_left (by decide) a)) ?_
  show K 33 [some (.inr (.inr a))] [.inr (.inr (a + 4)), .inr (.inr a)] h7
  refine ia_go hK ck_La_init_33_21 ⟨hc_k c7 ha (Nat.lt_add_of_pos_right (by decide)) pe, ?_⟩
  show K 36 [some (.inr (.inr a))] [] (ia_wR h7 a 6 (a + 4))
  rw [← e8]
  refine ia_go hK ck_La_init_36_22 ?_
  show K 39 [some (.inr (.inr a))] [.inl 12, .inr (.inr a)] h8
  refine kw_arr hK (at_ := .int) (k := 100) (ty := .int) rfl (ia_tb_in (by decide +kernel) rfl) dc_La_init_39 (Or.inl ⟨rfl, rfl⟩) ⟨by decide, by decide, by decide⟩ e9 (hc_at c8) (hc_cap c9 cN (Nat.add_le_add_left (by decide) a)) ?_
  show K 41 [some (.inr (.inr a))] [.inr (.inr (a + 5)), .inr (.inr a)] h9
  refine ia_go hK ck_La_init_41_26 ⟨hc_k c9 ha (Nat.lt_add_of_pos_right (by decide)) pe, ?_⟩
  show K 44 [some (.inr (.inr a))] [] (ia_wR h9 a 9 (a + 5))
  rw [← e10]
  refine ia_go hK ck_La_init_44_27 ?_
  show K 47 [some (.inr (.inr a))] [.inl 6, .inr (.inr a)] h10
  refine kw_arr hK (at_ := .int) (k := 100) (ty := .int) rfl (ia_tb_in (by decide +kernel) rfl) dc_La_init_47 (Or.inl ⟨rfl, rfl⟩) ⟨by decide, by decide, by decide⟩ e11 (hc_at c10) (hc_cap c11 cN (Nat.add_le_add_left (by decide) a)) ?_
  show K 49 [some (.inr (.inr a))] [.inr (.inr (a + 6)), .inr (.inr a)] h11
  refine ia_go hK ck_La_init_49_31 ⟨hc_k c11 ha (Nat.lt_add_of_pos_right (by decide)) pe, ?_⟩
  show K 52 [some (.inr (.inr a))] [] (ia_wR h11 a 12 (a + 6))
  rw [← e12]
  refine ia_go hK ck_La_init_52_32 ?_
  show K 55 [some (.inr (.inr a))] [.inl 6, .inr (.inr a)] h12
  refine kw_arr hK (at_ := .int) (k := 100) (ty := .int) rfl (ia_tb_in (by decide +kernel) rfl) dc_La_init_55 (Or.inl ⟨rfl, rfl⟩) ⟨by decide, by decide, by decide⟩ e13 (hc_at c12) (hc_cap c13 cN (Nat.add_le_add_left (by decide) a)) ?_
  show K 57 [some (.inr (.inr a))] [.inr (.inr (a + 7)), .inr (.inr a)] h13
  refine ia_go hK ck_La_init_57_36 ⟨hc_k c13 ha (Nat.lt_add_of_pos_right (by decide)) pe, ?_⟩
  show K 60 [some (.inr (.inr a))] [] (ia_wR h13 a 13 (a + 7))
  rw [← e14]
  refine ia_go hK ck_La_init_60_37 ?_
  show K 63 [some (.inr (.inr a))] [.inl 6, .inr (.inr a)] h14
  refine kw_arr hK (at_ := .int) (k := 100) (ty := .int) rfl (ia_tb_in (by decide +kernel) rfl) dc_La_init_63 (Or.inl ⟨rfl, rfl⟩) ⟨by decide, by decide, by decide⟩ e15 (hc_at c14) (hc_cap c15 cN (Nat.add_le_add_left (by decide) a)) ?_
  show K 65 [some (.inr (.inr a))] [.inr (.inr (a + 8)), .inr (.inr a)] h15
  refine ia_go hK ck_La_init_65_41 ⟨hc_k c15 ha (Nat.lt_add_of_pos_right (by decide)) pe, ?_⟩
  show K 68 [some (.inr (.inr a))] [] (ia_wR h15 a 14 (a + 8))
  rw [← e16]
  refine ia_go hK ck_La_init_68_42 ?_
  show K 71 [some (.inr (.inr a))] [.inl 6, .inr (.inr a)] h16
  refine kw_arr hK (at_ := .int) (k := 100) (ty := .int) rfl (ia_tb_in (by decide +kernel) rfl) dc_La_init_71 (Or.inl ⟨rfl, rfl⟩) ⟨by decide, by decide, by decide⟩ e17 (hc_at c16) (hc_cap c17 cN (Nat.add_le_add_left (by decide) a)) ?_
  show K 73 [some (.inr (.inr a))] [.inr (.inr (a + 9)), .inr (.inr a)] h17
  refine ia_go hK ck_La_init_73_46 ⟨hc_k c17 ha (Nat.lt_add_of_pos_right (by decide)) pe, ?_⟩
  show K 76 [some (.inr (.inr a))] [] (ia_wR h17 a 15 (a + 9))
  rw [← e18]
  refine ia_go hK ck_La_init_76_47 ?_
  show K 80 [some (.inr (.inr a))] [.inl 144, .inr (.inr a)] h18
  refine kw_arr hK (at_ := .int) (k := 100) (ty := .int) rfl (ia_tb_in (by decide +kernel) rfl) dc_La_init_80 (Or.inl ⟨rfl, rfl⟩) ⟨by decide, by decide, by decide⟩ e19 (hc_at c18) (hc_cap c19 cN (Nat.add_le_add_left (by decide) a)) ?_
  show K 82 [some (.inr (.inr a))] [.inr (.inr (a + 10)), .inr (.inr a)] h19
  refine ia_go hK ck_La_init_82_51 ⟨hc_k c19 ha (Nat.lt_add_of_pos_right (by decide)) pe, ?_⟩
  show K 85 [some (.inr (.inr a))] [] (ia_wR h19 a 16 (a + 10))
  rw [← e20]
  refine ia_go hK ck_La_init_85_52 ?_
  show K 89 [some (.inr (.inr a))] [.inl 144, .inr (.inr a)] h20
  refine kw_arr hK (at_ := .int) (k := 100) (ty := .int) rfl (ia_tb_in (by decide +kernel) rfl) dc_La_init_89 (Or.inl ⟨rfl, rfl⟩) ⟨by decide, by decide, by decide⟩ e21 (hc_at c20) (hc_cap c21 cN (Nat.le_refl _)) ?_
  show K 91 [some (.inr (.inr a))] [.inr (.inr (a + 11)), .inr (.inr a)] h21
  refine ia_go hK ck_La_init_91_56 ⟨hc_k c21 ha (Nat.lt_add_of_pos_right (by decide)) pe, ?_⟩
  show K 94 [some (.inr (.inr a))] [] (ia_wR h21 a 17 (a + 11))
  rw [← e22]
  refine ia_go hK ck_La_init_94_57 ?_
  show K 95 [some (.inr (.inr a))] [.inr (.inr a)] h22
  refine ia_cV hK mk_La_clear lk_3_46 dc_La_init_95 a [] [] rfl rfl (Nat.le_of_ble_eq_true rfl) (by decide) rfl (hc_k c22 ha (Nat.lt_add_of_pos_right (by decide)) pe) v23 ⟨kk23.2.1, kk23.2.2.1⟩ ?_
  show K 98 [some (.inr (.inr a))] [] h23
  exact hret 98 _ dc_La_init_98
def mm_Lw_init : ia_M := (⟨"IceStreet$Law", "<init>", "()V"⟩, prog_5_method_1_code, 1, none, 4, true)
theorem ok_Lw_init : ia_mok mm_Lw_init := ⟨by decide +kernel, by decide +kernel, by decide +kernel, by decide +kernel⟩
theorem mk_Lw_init : ia_mkn mm_Lw_init 2 0 := ⟨ia_tb_in (List.mem_of_getElem? (i := 304) (by decide +kernel)) rfl, ia_tb_in (List.mem_of_getElem? (i := 137) (by decide +kernel)) rfl, by decide +kernel, by decide +kernel, ia_tb_in (List.mem_of_getElem? (i := 303) (by decide +kernel)) rfl, rfl, rfl⟩
theorem ck_Lw_init_0_0 : ia_cks 4 1 true prog_5_method_1_code 0 [(.aload_n 0, 0, 0, 0, 0)] = true := by decide +kernel
theorem dc_Lw_init_1 : decode prog_5_method_1_code 1 = .ok (.invokespecial 3, 3) := by decide +kernel
theorem ck_Lw_init_4_2 : ia_cks 4 1 true prog_5_method_1_code 4 [(.aload_n 0, 0, 0, 0, 0), (.bipush 12, 0, 0, 0, 0)] = true := by decide +kernel
theorem dc_Lw_init_7 : decode prog_5_method_1_code 7 = .ok (.newarray .int, 2) := by decide +kernel
theorem kt_4_1_0 : ∀ e ∈ [94, 98, 148, 152, 201, 205, 254, 258, 292], kd_D (e + 1) = (100, 12) := by decide +kernel
theorem kt_4_1 {e : Nat} (pe : (kd_D e).1 = 4) : kd_D (e + 1) = (100, 12) := kt_4_1_0 e (kn_4 pe)
theorem ck_Lw_init_9_6 : ia_cks 4 1 true prog_5_method_1_code 9 [(.putfield 9, 4, 5, 2, 0)] = true := by decide +kernel
theorem ck_Lw_init_12_7 : ia_cks 4 1 true prog_5_method_1_code 12 [(.aload_n 0, 0, 0, 0, 0), (.bipush 12, 0, 0, 0, 0)] = true := by decide +kernel
theorem dc_Lw_init_15 : decode prog_5_method_1_code 15 = .ok (.newarray .int, 2) := by decide +kernel
theorem kt_4_2_0 : ∀ e ∈ [94, 98, 148, 152, 201, 205, 254, 258, 292], kd_D (e + 2) = (100, 12) := by decide +kernel
theorem kt_4_2 {e : Nat} (pe : (kd_D e).1 = 4) : kd_D (e + 2) = (100, 12) := kt_4_2_0 e (kn_4 pe)
theorem ck_Lw_init_17_11 : ia_cks 4 1 true prog_5_method_1_code 17 [(.putfield 15, 4, 6, 2, 0)] = true := by decide +kernel
theorem ck_Lw_init_20_12 : ia_cks 4 1 true prog_5_method_1_code 20 [(.aload_n 0, 0, 0, 0, 0), (.bipush 36, 0, 0, 0, 0)] = true := by decide +kernel
theorem dc_Lw_init_23 : decode prog_5_method_1_code 23 = .ok (.newarray .long, 2) := by decide +kernel
theorem kt_4_3_0 : ∀ e ∈ [94, 98, 148, 152, 201, 205, 254, 258, 292], kd_D (e + 3) = (103, 36) := by decide +kernel
theorem kt_4_3 {e : Nat} (pe : (kd_D e).1 = 4) : kd_D (e + 3) = (103, 36) := kt_4_3_0 e (kn_4 pe)
theorem ck_Lw_init_25_16 : ia_cks 4 1 true prog_5_method_1_code 25 [(.putfield 18, 4, 8, 2, 0)] = true := by decide +kernel
theorem ck_Lw_init_28_17 : ia_cks 4 1 true prog_5_method_1_code 28 [(.aload_n 0, 0, 0, 0, 0)] = true := by decide +kernel
theorem dc_Lw_init_29 : decode prog_5_method_1_code 29 = .ok (.invokevirtual 22, 3) := by decide +kernel
theorem dc_Lw_init_32 : decode prog_5_method_1_code 32 = .ok (.return_, 1) := by decide +kernel
theorem rdo_4 (k f : Nat) (q : rd_o 4 k = some f) : (k = 5 ∧ f = 1) ∨ (k = 6 ∧ f = 2) ∨ (k = 8 ∧ f = 3) := by
  unfold rd_o at q
  split at q <;> simp_all
theorem rdc_4 (k f : Nat) (q : rd_c 4 k = some f) : False := by
  unfold rd_c at q
  split at q <;> simp_all
set_option maxHeartbeats 8000000 in
theorem mc_Lw_init (d : Nat) {a : Nat} (pe : (kd_D a).1 = 4) {S : List Nat} {w : ia_O0} {h : ia_H} (hh : hc_ (a + 1) (a :: S) w h) : ∃ h1, ia_Ev (d + 2) mm_Lw_init [.inr (.inr a)] h none h1 ∧ hc_ (a + 4) S w h1 ∧ hf_ a h h1 := by
  have ha : 64 ≤ a := ko_4 pe
  have hf0 : hf_ a h h := fun b hb => ⟨rfl, rfl, rfl⟩
  obtain ⟨h1, e1⟩ : ∃ x, x = ia_nw h 100 12 12 := ⟨_, rfl⟩
  have c1 : hc_ (a + 2) (a :: S) w h1 := by rw [e1]; exact hc_arr hh (kt_4_1 pe) (by decide) (by decide)
  have f1 : hf_ a h h1 := by rw [e1]; exact hf_nw hf0 (hc_le hh (Nat.le_add_right a _))
  obtain ⟨h2, e2⟩ : ∃ x, x = ia_wR h1 a 5 (a + 1) := ⟨_, rfl⟩
  have c2 : hc_ (a + 2) (a :: S) w h2 := by rw [e2]; exact hc_wR c1 List.mem_cons_self
  have f2 : hf_ a h h2 := by rw [e2]; exact hf_wR f1 (Nat.le_refl _)
  have r0_5_2 : ia_r h2 a 5 = a + 1 := by rw [e2]; exact wR_s
  obtain ⟨h3, e3⟩ : ∃ x, x = ia_nw h2 100 12 12 := ⟨_, rfl⟩
  have c3 : hc_ (a + 3) (a :: S) w h3 := by rw [e3]; exact hc_arr c2 (kt_4_2 pe) (by decide) (by decide)
  have f3 : hf_ a h h3 := by rw [e3]; exact hf_nw f2 (hc_le c2 (Nat.le_add_right a _))
  have r0_5_3 : ia_r h3 a 5 = a + 1 := by rw [e3]; exact hn_r (hc_ne c2 (Nat.lt_add_of_pos_right (by decide))) r0_5_2
  obtain ⟨h4, e4⟩ : ∃ x, x = ia_wR h3 a 6 (a + 2) := ⟨_, rfl⟩
  have c4 : hc_ (a + 3) (a :: S) w h4 := by rw [e4]; exact hc_wR c3 List.mem_cons_self
  have f4 : hf_ a h h4 := by rw [e4]; exact hf_wR f3 (Nat.le_refl _)
  have r0_5_4 : ia_r h4 a 5 = a + 1 := by rw [e4]; exact hw_r (by decide) r0_5_3
  have r0_6_4 : ia_r h4 a 6 = a + 2 := by rw [e4]; exact wR_s
  obtain ⟨h5, e5⟩ : ∃ x, x = ia_nw h4 103 36 36 := ⟨_, rfl⟩
  have c5 : hc_ (a + 4) (a :: S) w h5 := by rw [e5]; exact hc_arr c4 (kt_4_3 pe) (by decide) (by decide)
  have f5 : hf_ a h h5 := by rw [e5]; exact hf_nw f4 (hc_le c4 (Nat.le_add_right a _))
  have r0_5_5 : ia_r h5 a 5 = a + 1 := by rw [e5]; exact hn_r (hc_ne c4 (Nat.lt_add_of_pos_right (by decide))) r0_5_4
  have r0_6_5 : ia_r h5 a 6 = a + 2 := by rw [e5]; exact hn_r (hc_ne c4 (Nat.lt_add_of_pos_right (by decide))) r0_6_4
  obtain ⟨h6, e6⟩ : ∃ x, x = ia_wR h5 a 8 (a + 3) := ⟨_, rfl⟩
  have c6 : hc_ (a + 4) (a :: S) w h6 := by rw [e6]; exact hc_wR c5 List.mem_cons_self
  have f6 : hf_ a h h6 := by rw [e6]; exact hf_wR f5 (Nat.le_refl _)
  have r0_5_6 : ia_r h6 a 5 = a + 1 := by rw [e6]; exact hw_r (by decide) r0_5_5
  have r0_6_6 : ia_r h6 a 6 = a + 2 := by rw [e6]; exact hw_r (by decide) r0_6_5
  have r0_8_6 : ia_r h6 a 8 = a + 3 := by rw [e6]; exact wR_s
  have rr : ∀ k f, rd_o 4 k = some f → ia_r h6 a k = a + f := by
      intro k f q
      rcases rdo_4 k f q with ⟨rfl, rfl⟩ | ⟨rfl, rfl⟩ | ⟨rfl, rfl⟩
      · exact r0_5_6
      · exact r0_6_6
      · exact r0_8_6
  obtain ⟨h7, v7, kk7⟩ := cc_Lw d pe c6 rr
  have c7 : hc_ (a + 4) (a :: S) w h7 := by exact hc_sk c6 ha kk7
  have f7 : hf_ a h h7 := by exact hf_trans f6 (hf_sk kk7) (Nat.le_refl _)
  have r0_5_7 : ia_r h7 a 5 = a + 1 := by exact (congrFun (congrFun kk7.2.2.2.1 _) _).trans r0_5_6
  have r0_6_7 : ia_r h7 a 6 = a + 2 := by exact (congrFun (congrFun kk7.2.2.2.1 _) _).trans r0_6_6
  have r0_8_7 : ia_r h7 a 8 = a + 3 := by exact (congrFun (congrFun kk7.2.2.2.1 _) _).trans r0_8_6
  have d7_0 : hc_ (a + 4) (S) w h7 := by
    refine hc_fin c7 ?_ ?_ ?_ ?_ ?_
    · intro k f q
      rw [pe] at q
      rcases rdo_4 k f q with ⟨rfl, rfl⟩ | ⟨rfl, rfl⟩ | ⟨rfl, rfl⟩
      · exact r0_5_7
      · exact r0_6_7
      · exact r0_8_7
    · intro k f q
      rw [pe] at q
      exact (rdc_4 k f q).elim
    · intro j f q
      rw [pe] at q
      cases q
    · intro q
      rw [pe] at q
      cases q
    · intro q
      rw [pe] at q
      cases q
  have cN : hc_ (a + 4) (S) w h7 := d7_0
  refine ⟨h7, ia_Ev_intro ok_Lw_init (hc_cap hh cN (Nat.add_le_add_left (by decide) a)).1 (hc_cap hh cN (Nat.add_le_add_left (by decide) a)).2 (Nat.le_of_ble_eq_true rfl) (fun K hK hret => ?_), cN, f7⟩
  show K 0 [some (.inr (.inr a))] [] h
  refine ia_go hK ck_Lw_init_0_0 ?_
  show K 1 [some (.inr (.inr a))] [.inr (.inr a)] h
  refine ia_obj hK (ia_tb_in (List.mem_of_getElem? (i := 305) (by decide +kernel)) rfl) dc_Lw_init_1 ha (Nat.le_of_ble_eq_true rfl) ?_
  show K 4 [some (.inr (.inr a))] [] h
  refine ia_go hK ck_Lw_init_4_2 ?_
  show K 7 [some (.inr (.inr a))] [.inl 12, .inr (.inr a)] h
  refine kw_arr hK (at_ := .int) (k := 100) (ty := .int) rfl (ia_tb_in (by decide +kernel) rfl) dc_Lw_init_7 (Or.inl ⟨rfl, rfl⟩) ⟨by decide, by decide, by decide⟩ e1 (hc_at hh) (hc_cap c1 cN (Nat.add_le_add_left (by decide) a)) ?_
  show K 9 [some (.inr (.inr a))] [.inr (.inr (a + 1)), .inr (.inr a)] h1
  refine ia_go hK ck_Lw_init_9_6 ⟨hc_k c1 ha (Nat.lt_add_of_pos_right (by decide)) pe, ?_⟩
  show K 12 [some (.inr (.inr a))] [] (ia_wR h1 a 5 (a + 1))
  rw [← e2]
  refine ia_go hK ck_Lw_init_12_7 ?_
  show K 15 [some (.inr (.inr a))] [.inl 12, .inr (.inr a)] h2
  refine kw_arr hK (at_ := .int) (k := 100) (ty := .int) rfl (ia_tb_in (by decide +kernel) rfl) dc_Lw_init_15 (Or.inl ⟨rfl, rfl⟩) ⟨by decide, by decide, by decide⟩ e3 (hc_at c2) (hc_cap c3 cN (Nat.add_le_add_left (by decide) a)) ?_
  show K 17 [some (.inr (.inr a))] [.inr (.inr (a + 2)), .inr (.inr a)] h3
  refine ia_go hK ck_Lw_init_17_11 ⟨hc_k c3 ha (Nat.lt_add_of_pos_right (by decide)) pe, ?_⟩
  show K 20 [some (.inr (.inr a))] [] (ia_wR h3 a 6 (a + 2))
  rw [← e4]
  refine ia_go hK ck_Lw_init_20_12 ?_
  show K 23 [some (.inr (.inr a))] [.inl 36, .inr (.inr a)] h4
  refine kw_arr hK (at_ := .long) (k := 103) (ty := .long) rfl (ia_tb_in (by decide +kernel) rfl) dc_Lw_init_23 (Or.inr (Or.inr (Or.inr ⟨rfl, rfl⟩))) ⟨by decide, by decide, by decide⟩ e5 (hc_at c4) (hc_cap c5 cN (Nat.le_refl _)) ?_
  show K 25 [some (.inr (.inr a))] [.inr (.inr (a + 3)), .inr (.inr a)] h5
  refine ia_go hK ck_Lw_init_25_16 ⟨hc_k c5 ha (Nat.lt_add_of_pos_right (by decide)) pe, ?_⟩
  show K 28 [some (.inr (.inr a))] [] (ia_wR h5 a 8 (a + 3))
  rw [← e6]
  refine ia_go hK ck_Lw_init_28_17 ?_
  show K 29 [some (.inr (.inr a))] [.inr (.inr a)] h6
  refine ia_cV hK mk_Lw_clear lk_4_22 dc_Lw_init_29 a [] [] rfl rfl (Nat.le_of_ble_eq_true rfl) (by decide) rfl (hc_k c6 ha (Nat.lt_add_of_pos_right (by decide)) pe) v7 ⟨kk7.2.1, kk7.2.2.1⟩ ?_
  show K 32 [some (.inr (.inr a))] [] h7
  exact hret 32 _ dc_Lw_init_32
def mm_Sc_init : ia_M := (⟨"IceStreet$Scene", "<init>", "(LIceStreet$Lake;LIceStreet$Law;)V"⟩, prog_10_method_1_code, 3, none, 9, true)
theorem ok_Sc_init : ia_mok mm_Sc_init := ⟨by decide +kernel, by decide +kernel, by decide +kernel, by decide +kernel⟩
theorem mk_Sc_init : ia_mkn mm_Sc_init 2 2 := ⟨ia_tb_in (List.mem_of_getElem? (i := 492) (by decide +kernel)) rfl, ia_tb_in (List.mem_of_getElem? (i := 140) (by decide +kernel)) rfl, by decide +kernel, by decide +kernel, ia_tb_in (List.mem_of_getElem? (i := 491) (by decide +kernel)) rfl, rfl, rfl⟩
theorem ck_Sc_init_0_0 : ia_cks 9 3 true prog_10_method_1_code 0 [(.aload_n 0, 0, 0, 0, 0)] = true := by decide +kernel
theorem dc_Sc_init_1 : decode prog_10_method_1_code 1 = .ok (.invokespecial 3, 3) := by decide +kernel
theorem ck_Sc_init_4_2 : ia_cks 9 3 true prog_10_method_1_code 4 [(.aload_n 0, 0, 0, 0, 0), (.bipush 36, 0, 0, 0, 0)] = true := by decide +kernel
theorem dc_Sc_init_7 : decode prog_10_method_1_code 7 = .ok (.newarray .int, 2) := by decide +kernel
theorem kt_9_1_0 : ∀ e ∈ [303, 329, 337, 349, 357, 365, 373, 381, 389, 397, 405], kd_D (e + 1) = (100, 36) := by decide +kernel
theorem kt_9_1 {e : Nat} (pe : (kd_D e).1 = 9) : kd_D (e + 1) = (100, 36) := kt_9_1_0 e (kn_9 pe)
theorem ck_Sc_init_9_6 : ia_cks 9 3 true prog_10_method_1_code 9 [(.putfield 9, 9, 2, 2, 0)] = true := by decide +kernel
theorem ck_Sc_init_12_7 : ia_cks 9 3 true prog_10_method_1_code 12 [(.aload_n 0, 0, 0, 0, 0), (.bipush 36, 0, 0, 0, 0)] = true := by decide +kernel
theorem dc_Sc_init_15 : decode prog_10_method_1_code 15 = .ok (.newarray .int, 2) := by decide +kernel
theorem kt_9_2_0 : ∀ e ∈ [303, 329, 337, 349, 357, 365, 373, 381, 389, 397, 405], kd_D (e + 2) = (100, 36) := by decide +kernel
theorem kt_9_2 {e : Nat} (pe : (kd_D e).1 = 9) : kd_D (e + 2) = (100, 36) := kt_9_2_0 e (kn_9 pe)
theorem ck_Sc_init_17_11 : ia_cks 9 3 true prog_10_method_1_code 17 [(.putfield 15, 9, 3, 2, 0)] = true := by decide +kernel
theorem ck_Sc_init_20_12 : ia_cks 9 3 true prog_10_method_1_code 20 [(.aload_n 0, 0, 0, 0, 0), (.bipush 36, 0, 0, 0, 0)] = true := by decide +kernel
theorem dc_Sc_init_23 : decode prog_10_method_1_code 23 = .ok (.newarray .int, 2) := by decide +kernel
theorem kt_9_3_0 : ∀ e ∈ [303, 329, 337, 349, 357, 365, 373, 381, 389, 397, 405], kd_D (e + 3) = (100, 36) := by decide +kernel
theorem kt_9_3 {e : Nat} (pe : (kd_D e).1 = 9) : kd_D (e + 3) = (100, 36) := kt_9_3_0 e (kn_9 pe)
theorem ck_Sc_init_25_16 : ia_cks 9 3 true prog_10_method_1_code 25 [(.putfield 18, 9, 4, 2, 0)] = true := by decide +kernel
theorem ck_Sc_init_28_17 : ia_cks 9 3 true prog_10_method_1_code 28 [(.aload_n 0, 0, 0, 0, 0), (.bipush 36, 0, 0, 0, 0)] = true := by decide +kernel
theorem dc_Sc_init_31 : decode prog_10_method_1_code 31 = .ok (.newarray .int, 2) := by decide +kernel
theorem kt_9_4_0 : ∀ e ∈ [303, 329, 337, 349, 357, 365, 373, 381, 389, 397, 405], kd_D (e + 4) = (100, 36) := by decide +kernel
theorem kt_9_4 {e : Nat} (pe : (kd_D e).1 = 9) : kd_D (e + 4) = (100, 36) := kt_9_4_0 e (kn_9 pe)
theorem ck_Sc_init_33_21 : ia_cks 9 3 true prog_10_method_1_code 33 [(.putfield 21, 9, 5, 2, 0)] = true := by decide +kernel
theorem ck_Sc_init_36_22 : ia_cks 9 3 true prog_10_method_1_code 36 [(.aload_n 0, 0, 0, 0, 0), (.bipush 6, 0, 0, 0, 0)] = true := by decide +kernel
theorem dc_Sc_init_39 : decode prog_10_method_1_code 39 = .ok (.newarray .int, 2) := by decide +kernel
theorem kt_9_5_0 : ∀ e ∈ [303, 329, 337, 349, 357, 365, 373, 381, 389, 397, 405], kd_D (e + 5) = (100, 6) := by decide +kernel
theorem kt_9_5 {e : Nat} (pe : (kd_D e).1 = 9) : kd_D (e + 5) = (100, 6) := kt_9_5_0 e (kn_9 pe)
theorem ck_Sc_init_41_26 : ia_cks 9 3 true prog_10_method_1_code 41 [(.putfield 24, 9, 6, 2, 0)] = true := by decide +kernel
theorem ck_Sc_init_44_27 : ia_cks 9 3 true prog_10_method_1_code 44 [(.aload_n 0, 0, 0, 0, 0), (.bipush 6, 0, 0, 0, 0)] = true := by decide +kernel
theorem dc_Sc_init_47 : decode prog_10_method_1_code 47 = .ok (.newarray .int, 2) := by decide +kernel
theorem kt_9_6_0 : ∀ e ∈ [303, 329, 337, 349, 357, 365, 373, 381, 389, 397, 405], kd_D (e + 6) = (100, 6) := by decide +kernel
theorem kt_9_6 {e : Nat} (pe : (kd_D e).1 = 9) : kd_D (e + 6) = (100, 6) := kt_9_6_0 e (kn_9 pe)
theorem ck_Sc_init_49_31 : ia_cks 9 3 true prog_10_method_1_code 49 [(.putfield 27, 9, 7, 2, 0)] = true := by decide +kernel
theorem ck_Sc_init_52_32 : ia_cks 9 3 true prog_10_method_1_code 52 [(.aload_n 0, 0, 0, 0, 0), (.bipush 6, 0, 0, 0, 0)] = true := by decide +kernel
theorem dc_Sc_init_55 : decode prog_10_method_1_code 55 = .ok (.newarray .int, 2) := by decide +kernel
theorem kt_9_7_0 : ∀ e ∈ [303, 329, 337, 349, 357, 365, 373, 381, 389, 397, 405], kd_D (e + 7) = (100, 6) := by decide +kernel
theorem kt_9_7 {e : Nat} (pe : (kd_D e).1 = 9) : kd_D (e + 7) = (100, 6) := kt_9_7_0 e (kn_9 pe)
theorem ck_Sc_init_57_36 : ia_cks 9 3 true prog_10_method_1_code 57 [(.putfield 30, 9, 8, 2, 0)] = true := by decide +kernel
theorem ck_Sc_init_60_37 : ia_cks 9 3 true prog_10_method_1_code 60 [(.aload_n 0, 0, 0, 0, 0), (.aload_n 1, 0, 0, 0, 0), (.putfield 33, 9, 0, 2, 0)] = true := by decide +kernel
theorem ck_Sc_init_65_38 : ia_cks 9 3 true prog_10_method_1_code 65 [(.aload_n 0, 0, 0, 0, 0), (.aload_n 2, 0, 0, 0, 0), (.putfield 37, 9, 1, 2, 0)] = true := by decide +kernel
theorem dc_Sc_init_70 : decode prog_10_method_1_code 70 = .ok (.return_, 1) := by decide +kernel
theorem rdo_9 (k f : Nat) (q : rd_o 9 k = some f) : (k = 2 ∧ f = 1) ∨ (k = 3 ∧ f = 2) ∨ (k = 4 ∧ f = 3) ∨ (k = 5 ∧ f = 4) ∨ (k = 6 ∧ f = 5) ∨ (k = 7 ∧ f = 6) ∨ (k = 8 ∧ f = 7) := by
  unfold rd_o at q
  split at q <;> simp_all
theorem rdc_9 (k f : Nat) (q : rd_c 9 k = some f) : False := by
  unfold rd_c at q
  split at q <;> simp_all
set_option maxHeartbeats 8000000 in
theorem mc_Sc_init (d : Nat) {a : Nat} {b0 : Nat} {b1 : Nat} (pe : (kd_D a).1 = 9) (q0 : (kd_D b0).1 = 3) (q1 : (kd_D b1).1 = 4) {S : List Nat} {w : ia_O0} {h : ia_H} (hh : hc_ (a + 1) (a :: S) w h) : ∃ h1, ia_Ev (d + 0) mm_Sc_init [.inr (.inr a), .inr (.inr b0), .inr (.inr b1)] h none h1 ∧ hc_ (a + 8) S w h1 ∧ hf_ a h h1 := by
  have ha : 64 ≤ a := ko_9 pe
  have hf0 : hf_ a h h := fun b hb => ⟨rfl, rfl, rfl⟩
  obtain ⟨h1, e1⟩ : ∃ x, x = ia_nw h 100 36 36 := ⟨_, rfl⟩
  have c1 : hc_ (a + 2) (a :: S) w h1 := by rw [e1]; exact hc_arr hh (kt_9_1 pe) (by decide) (by decide)
  have f1 : hf_ a h h1 := by rw [e1]; exact hf_nw hf0 (hc_le hh (Nat.le_add_right a _))
  obtain ⟨h2, e2⟩ : ∃ x, x = ia_wR h1 a 2 (a + 1) := ⟨_, rfl⟩
  have c2 : hc_ (a + 2) (a :: S) w h2 := by rw [e2]; exact hc_wR c1 List.mem_cons_self
  have f2 : hf_ a h h2 := by rw [e2]; exact hf_wR f1 (Nat.le_refl _)
  have r0_2_2 : ia_r h2 a 2 = a + 1 := by rw [e2]; exact wR_s
  obtain ⟨h3, e3⟩ : ∃ x, x = ia_nw h2 100 36 36 := ⟨_, rfl⟩
  have c3 : hc_ (a + 3) (a :: S) w h3 := by rw [e3]; exact hc_arr c2 (kt_9_2 pe) (by decide) (by decide)
  have f3 : hf_ a h h3 := by rw [e3]; exact hf_nw f2 (hc_le c2 (Nat.le_add_right a _))
  have r0_2_3 : ia_r h3 a 2 = a + 1 := by rw [e3]; exact hn_r (hc_ne c2 (Nat.lt_add_of_pos_right (by decide))) r0_2_2
  obtain ⟨h4, e4⟩ : ∃ x, x = ia_wR h3 a 3 (a + 2) := ⟨_, rfl⟩
  have c4 : hc_ (a + 3) (a :: S) w h4 := by rw [e4]; exact hc_wR c3 List.mem_cons_self
  have f4 : hf_ a h h4 := by rw [e4]; exact hf_wR f3 (Nat.le_refl _)
  have r0_2_4 : ia_r h4 a 2 = a + 1 := by rw [e4]; exact hw_r (by decide) r0_2_3
  have r0_3_4 : ia_r h4 a 3 = a + 2 := by rw [e4]; exact wR_s
  obtain ⟨h5, e5⟩ : ∃ x, x = ia_nw h4 100 36 36 := ⟨_, rfl⟩
  have c5 : hc_ (a + 4) (a :: S) w h5 := by rw [e5]; exact hc_arr c4 (kt_9_3 pe) (by decide) (by decide)
  have f5 : hf_ a h h5 := by rw [e5]; exact hf_nw f4 (hc_le c4 (Nat.le_add_right a _))
  have r0_2_5 : ia_r h5 a 2 = a + 1 := by rw [e5]; exact hn_r (hc_ne c4 (Nat.lt_add_of_pos_right (by decide))) r0_2_4
  have r0_3_5 : ia_r h5 a 3 = a + 2 := by rw [e5]; exact hn_r (hc_ne c4 (Nat.lt_add_of_pos_right (by decide))) r0_3_4
  obtain ⟨h6, e6⟩ : ∃ x, x = ia_wR h5 a 4 (a + 3) := ⟨_, rfl⟩
  have c6 : hc_ (a + 4) (a :: S) w h6 := by rw [e6]; exact hc_wR c5 List.mem_cons_self
  have f6 : hf_ a h h6 := by rw [e6]; exact hf_wR f5 (Nat.le_refl _)
  have r0_2_6 : ia_r h6 a 2 = a + 1 := by rw [e6]; exact hw_r (by decide) r0_2_5
  have r0_3_6 : ia_r h6 a 3 = a + 2 := by rw [e6]; exact hw_r (by decide) r0_3_5
  have r0_4_6 : ia_r h6 a 4 = a + 3 := by rw [e6]; exact wR_s
  obtain ⟨h7, e7⟩ : ∃ x, x = ia_nw h6 100 36 36 := ⟨_, rfl⟩
  have c7 : hc_ (a + 5) (a :: S) w h7 := by rw [e7]; exact hc_arr c6 (kt_9_4 pe) (by decide) (by decide)
  have f7 : hf_ a h h7 := by rw [e7]; exact hf_nw f6 (hc_le c6 (Nat.le_add_right a _))
  have r0_2_7 : ia_r h7 a 2 = a + 1 := by rw [e7]; exact hn_r (hc_ne c6 (Nat.lt_add_of_pos_right (by decide))) r0_2_6
  have r0_3_7 : ia_r h7 a 3 = a + 2 := by rw [e7]; exact hn_r (hc_ne c6 (Nat.lt_add_of_pos_right (by decide))) r0_3_6
  have r0_4_7 : ia_r h7 a 4 = a + 3 := by rw [e7]; exact hn_r (hc_ne c6 (Nat.lt_add_of_pos_right (by decide))) r0_4_6
  obtain ⟨h8, e8⟩ : ∃ x, x = ia_wR h7 a 5 (a + 4) := ⟨_, rfl⟩
  have c8 : hc_ (a + 5) (a :: S) w h8 := by rw [e8]; exact hc_wR c7 List.mem_cons_self
  have f8 : hf_ a h h8 := by rw [e8]; exact hf_wR f7 (Nat.le_refl _)
  have r0_2_8 : ia_r h8 a 2 = a + 1 := by rw [e8]; exact hw_r (by decide) r0_2_7
  have r0_3_8 : ia_r h8 a 3 = a + 2 := by rw [e8]; exact hw_r (by decide) r0_3_7
  have r0_4_8 : ia_r h8 a 4 = a + 3 := by rw [e8]; exact hw_r (by decide) r0_4_7
  have r0_5_8 : ia_r h8 a 5 = a + 4 := by rw [e8]; exact wR_s
  obtain ⟨h9, e9⟩ : ∃ x, x = ia_nw h8 100 6 6 := ⟨_, rfl⟩
  have c9 : hc_ (a + 6) (a :: S) w h9 := by rw [e9]; exact hc_arr c8 (kt_9_5 pe) (by decide) (by decide)
  have f9 : hf_ a h h9 := by rw [e9]; exact hf_nw f8 (hc_le c8 (Nat.le_add_right a _))
  have r0_2_9 : ia_r h9 a 2 = a + 1 := by rw [e9]; exact hn_r (hc_ne c8 (Nat.lt_add_of_pos_right (by decide))) r0_2_8
  have r0_3_9 : ia_r h9 a 3 = a + 2 := by rw [e9]; exact hn_r (hc_ne c8 (Nat.lt_add_of_pos_right (by decide))) r0_3_8
  have r0_4_9 : ia_r h9 a 4 = a + 3 := by rw [e9]; exact hn_r (hc_ne c8 (Nat.lt_add_of_pos_right (by decide))) r0_4_8
  have r0_5_9 : ia_r h9 a 5 = a + 4 := by rw [e9]; exact hn_r (hc_ne c8 (Nat.lt_add_of_pos_right (by decide))) r0_5_8
  obtain ⟨h10, e10⟩ : ∃ x, x = ia_wR h9 a 6 (a + 5) := ⟨_, rfl⟩
  have c10 : hc_ (a + 6) (a :: S) w h10 := by rw [e10]; exact hc_wR c9 List.mem_cons_self
  have f10 : hf_ a h h10 := by rw [e10]; exact hf_wR f9 (Nat.le_refl _)
  have r0_2_10 : ia_r h10 a 2 = a + 1 := by rw [e10]; exact hw_r (by decide) r0_2_9
  have r0_3_10 : ia_r h10 a 3 = a + 2 := by rw [e10]; exact hw_r (by decide) r0_3_9
  have r0_4_10 : ia_r h10 a 4 = a + 3 := by rw [e10]; exact hw_r (by decide) r0_4_9
  have r0_5_10 : ia_r h10 a 5 = a + 4 := by rw [e10]; exact hw_r (by decide) r0_5_9
  have r0_6_10 : ia_r h10 a 6 = a + 5 := by rw [e10]; exact wR_s
  obtain ⟨h11, e11⟩ : ∃ x, x = ia_nw h10 100 6 6 := ⟨_, rfl⟩
  have c11 : hc_ (a + 7) (a :: S) w h11 := by rw [e11]; exact hc_arr c10 (kt_9_6 pe) (by decide) (by decide)
  have f11 : hf_ a h h11 := by rw [e11]; exact hf_nw f10 (hc_le c10 (Nat.le_add_right a _))
  have r0_2_11 : ia_r h11 a 2 = a + 1 := by rw [e11]; exact hn_r (hc_ne c10 (Nat.lt_add_of_pos_right (by decide))) r0_2_10
  have r0_3_11 : ia_r h11 a 3 = a + 2 := by rw [e11]; exact hn_r (hc_ne c10 (Nat.lt_add_of_pos_right (by decide))) r0_3_10
  have r0_4_11 : ia_r h11 a 4 = a + 3 := by rw [e11]; exact hn_r (hc_ne c10 (Nat.lt_add_of_pos_right (by decide))) r0_4_10
  have r0_5_11 : ia_r h11 a 5 = a + 4 := by rw [e11]; exact hn_r (hc_ne c10 (Nat.lt_add_of_pos_right (by decide))) r0_5_10
  have r0_6_11 : ia_r h11 a 6 = a + 5 := by rw [e11]; exact hn_r (hc_ne c10 (Nat.lt_add_of_pos_right (by decide))) r0_6_10
  obtain ⟨h12, e12⟩ : ∃ x, x = ia_wR h11 a 7 (a + 6) := ⟨_, rfl⟩
  have c12 : hc_ (a + 7) (a :: S) w h12 := by rw [e12]; exact hc_wR c11 List.mem_cons_self
  have f12 : hf_ a h h12 := by rw [e12]; exact hf_wR f11 (Nat.le_refl _)
  have r0_2_12 : ia_r h12 a 2 = a + 1 := by rw [e12]; exact hw_r (by decide) r0_2_11
  have r0_3_12 : ia_r h12 a 3 = a + 2 := by rw [e12]; exact hw_r (by decide) r0_3_11
  have r0_4_12 : ia_r h12 a 4 = a + 3 := by rw [e12]; exact hw_r (by decide) r0_4_11
  have r0_5_12 : ia_r h12 a 5 = a + 4 := by rw [e12]; exact hw_r (by decide) r0_5_11
  have r0_6_12 : ia_r h12 a 6 = a + 5 := by rw [e12]; exact hw_r (by decide) r0_6_11
  have r0_7_12 : ia_r h12 a 7 = a + 6 := by rw [e12]; exact wR_s
  obtain ⟨h13, e13⟩ : ∃ x, x = ia_nw h12 100 6 6 := ⟨_, rfl⟩
  have c13 : hc_ (a + 8) (a :: S) w h13 := by rw [e13]; exact hc_arr c12 (kt_9_7 pe) (by decide) (by decide)
  have f13 : hf_ a h h13 := by rw [e13]; exact hf_nw f12 (hc_le c12 (Nat.le_add_right a _))
  have r0_2_13 : ia_r h13 a 2 = a + 1 := by rw [e13]; exact hn_r (hc_ne c12 (Nat.lt_add_of_pos_right (by decide))) r0_2_12
  have r0_3_13 : ia_r h13 a 3 = a + 2 := by rw [e13]; exact hn_r (hc_ne c12 (Nat.lt_add_of_pos_right (by decide))) r0_3_12
  have r0_4_13 : ia_r h13 a 4 = a + 3 := by rw [e13]; exact hn_r (hc_ne c12 (Nat.lt_add_of_pos_right (by decide))) r0_4_12
  have r0_5_13 : ia_r h13 a 5 = a + 4 := by rw [e13]; exact hn_r (hc_ne c12 (Nat.lt_add_of_pos_right (by decide))) r0_5_12
  have r0_6_13 : ia_r h13 a 6 = a + 5 := by rw [e13]; exact hn_r (hc_ne c12 (Nat.lt_add_of_pos_right (by decide))) r0_6_12
  have r0_7_13 : ia_r h13 a 7 = a + 6 := by rw [e13]; exact hn_r (hc_ne c12 (Nat.lt_add_of_pos_right (by decide))) r0_7_12
  obtain ⟨h14, e14⟩ : ∃ x, x = ia_wR h13 a 8 (a + 7) := ⟨_, rfl⟩
  have c14 : hc_ (a + 8) (a :: S) w h14 := by rw [e14]; exact hc_wR c13 List.mem_cons_self
  have f14 : hf_ a h h14 := by rw [e14]; exact hf_wR f13 (Nat.le_refl _)
  have r0_2_14 : ia_r h14 a 2 = a + 1 := by rw [e14]; exact hw_r (by decide) r0_2_13
  have r0_3_14 : ia_r h14 a 3 = a + 2 := by rw [e14]; exact hw_r (by decide) r0_3_13
  have r0_4_14 : ia_r h14 a 4 = a + 3 := by rw [e14]; exact hw_r (by decide) r0_4_13
  have r0_5_14 : ia_r h14 a 5 = a + 4 := by rw [e14]; exact hw_r (by decide) r0_5_13
  have r0_6_14 : ia_r h14 a 6 = a + 5 := by rw [e14]; exact hw_r (by decide) r0_6_13
  have r0_7_14 : ia_r h14 a 7 = a + 6 := by rw [e14]; exact hw_r (by decide) r0_7_13
  have r0_8_14 : ia_r h14 a 8 = a + 7 := by rw [e14]; exact wR_s
  obtain ⟨h15, e15⟩ : ∃ x, x = ia_wR h14 a 0 b0 := ⟨_, rfl⟩
  have c15 : hc_ (a + 8) (a :: S) w h15 := by rw [e15]; exact hc_wR c14 List.mem_cons_self
  have f15 : hf_ a h h15 := by rw [e15]; exact hf_wR f14 (Nat.le_refl _)
  have r0_2_15 : ia_r h15 a 2 = a + 1 := by rw [e15]; exact hw_r (by decide) r0_2_14
  have r0_3_15 : ia_r h15 a 3 = a + 2 := by rw [e15]; exact hw_r (by decide) r0_3_14
  have r0_4_15 : ia_r h15 a 4 = a + 3 := by rw [e15]; exact hw_r (by decide) r0_4_14
  have r0_5_15 : ia_r h15 a 5 = a + 4 := by rw [e15]; exact hw_r (by decide) r0_5_14
  have r0_6_15 : ia_r h15 a 6 = a + 5 := by rw [e15]; exact hw_r (by decide) r0_6_14
  have r0_7_15 : ia_r h15 a 7 = a + 6 := by rw [e15]; exact hw_r (by decide) r0_7_14
  have r0_8_15 : ia_r h15 a 8 = a + 7 := by rw [e15]; exact hw_r (by decide) r0_8_14
  have r0_0_15 : ia_r h15 a 0 = b0 := by rw [e15]; exact wR_s
  obtain ⟨h16, e16⟩ : ∃ x, x = ia_wR h15 a 1 b1 := ⟨_, rfl⟩
  have c16 : hc_ (a + 8) (a :: S) w h16 := by rw [e16]; exact hc_wR c15 List.mem_cons_self
  have f16 : hf_ a h h16 := by rw [e16]; exact hf_wR f15 (Nat.le_refl _)
  have r0_2_16 : ia_r h16 a 2 = a + 1 := by rw [e16]; exact hw_r (by decide) r0_2_15
  have r0_3_16 : ia_r h16 a 3 = a + 2 := by rw [e16]; exact hw_r (by decide) r0_3_15
  have r0_4_16 : ia_r h16 a 4 = a + 3 := by rw [e16]; exact hw_r (by decide) r0_4_15
  have r0_5_16 : ia_r h16 a 5 = a + 4 := by rw [e16]; exact hw_r (by decide) r0_5_15
  have r0_6_16 : ia_r h16 a 6 = a + 5 := by rw [e16]; exact hw_r (by decide) r0_6_15
  have r0_7_16 : ia_r h16 a 7 = a + 6 := by rw [e16]; exact hw_r (by decide) r0_7_15
  have r0_8_16 : ia_r h16 a 8 = a + 7 := by rw [e16]; exact hw_r (by decide) r0_8_15
  have r0_0_16 : ia_r h16 a 0 = b0 := by rw [e16]; exact hw_r (by decide) r0_0_15
  have r0_1_16 : ia_r h16 a 1 = b1 := by rw [e16]; exact wR_s
  have d16_0 : hc_ (a + 8) (S) w h16 := by
    refine hc_fin c16 ?_ ?_ ?_ ?_ ?_
    · intro k f q
      rw [pe] at q
      rcases rdo_9 k f q with ⟨rfl, rfl⟩ | ⟨rfl, rfl⟩ | ⟨rfl, rfl⟩ | ⟨rfl, rfl⟩ | ⟨rfl, rfl⟩ | ⟨rfl, rfl⟩ | ⟨rfl, rfl⟩
      · exact r0_2_16
      · exact r0_3_16
      · exact r0_4_16
      · exact r0_5_16
      · exact r0_6_16
      · exact r0_7_16
      · exact r0_8_16
    · intro k f q
      rw [pe] at q
      exact (rdc_9 k f q).elim
    · intro j f q
      rw [pe] at q
      cases q
    · intro _
      rw [r0_0_16, r0_1_16]
      exact ⟨q0, q1⟩
    · intro q
      rw [pe] at q
      cases q
  have cN : hc_ (a + 8) (S) w h16 := d16_0
  refine ⟨h16, ia_Ev_intro ok_Sc_init (hc_cap hh cN (Nat.add_le_add_left (by decide) a)).1 (hc_cap hh cN (Nat.add_le_add_left (by decide) a)).2 (Nat.le_of_ble_eq_true rfl) (fun K hK hret => ?_), cN, f16⟩
  show K 0 [some (.inr (.inr a)), some (.inr (.inr b0)), some (.inr (.inr b1))] [] h
  refine ia_go hK ck_Sc_init_0_0 ?_
  show K 1 [some (.inr (.inr a)), some (.inr (.inr b0)), some (.inr (.inr b1))] [.inr (.inr a)] h
  refine ia_obj hK (ia_tb_in (List.mem_of_getElem? (i := 493) (by decide +kernel)) rfl) dc_Sc_init_1 ha (Nat.le_of_ble_eq_true rfl) ?_
  show K 4 [some (.inr (.inr a)), some (.inr (.inr b0)), some (.inr (.inr b1))] [] h
  refine ia_go hK ck_Sc_init_4_2 ?_
  show K 7 [some (.inr (.inr a)), some (.inr (.inr b0)), some (.inr (.inr b1))] [.inl 36, .inr (.inr a)] h
  refine kw_arr hK (at_ := .int) (k := 100) (ty := .int) rfl (ia_tb_in (by decide +kernel) rfl) dc_Sc_init_7 (Or.inl ⟨rfl, rfl⟩) ⟨by decide, by decide, by decide⟩ e1 (hc_at hh) (hc_cap c1 cN (Nat.add_le_add_left (by decide) a)) ?_
  show K 9 [some (.inr (.inr a)), some (.inr (.inr b0)), some (.inr (.inr b1))] [.inr (.inr (a + 1)), .inr (.inr a)] h1
  refine ia_go hK ck_Sc_init_9_6 ⟨hc_k c1 ha (Nat.lt_add_of_pos_right (by decide)) pe, ?_⟩
  show K 12 [some (.inr (.inr a)), some (.inr (.inr b0)), some (.inr (.inr b1))] [] (ia_wR h1 a 2 (a + 1))
  rw [← e2]
  refine ia_go hK ck_Sc_init_12_7 ?_
  show K 15 [some (.inr (.inr a)), some (.inr (.inr b0)), some (.inr (.inr b1))] [.inl 36, .inr (.inr a)] h2
  refine kw_arr hK (at_ := .int) (k := 100) (ty := .int) rfl (ia_tb_in (by decide +kernel) rfl) dc_Sc_init_15 (Or.inl ⟨rfl, rfl⟩) ⟨by decide, by decide, by decide⟩ e3 (hc_at c2) (hc_cap c3 cN (Nat.add_le_add_left (by decide) a)) ?_
  show K 17 [some (.inr (.inr a)), some (.inr (.inr b0)), some (.inr (.inr b1))] [.inr (.inr (a + 2)), .inr (.inr a)] h3
  refine ia_go hK ck_Sc_init_17_11 ⟨hc_k c3 ha (Nat.lt_add_of_pos_right (by decide)) pe, ?_⟩
  show K 20 [some (.inr (.inr a)), some (.inr (.inr b0)), some (.inr (.inr b1))] [] (ia_wR h3 a 3 (a + 2))
  rw [← e4]
  refine ia_go hK ck_Sc_init_20_12 ?_
  show K 23 [some (.inr (.inr a)), some (.inr (.inr b0)), some (.inr (.inr b1))] [.inl 36, .inr (.inr a)] h4
  refine kw_arr hK (at_ := .int) (k := 100) (ty := .int) rfl (ia_tb_in (by decide +kernel) rfl) dc_Sc_init_23 (Or.inl ⟨rfl, rfl⟩) ⟨by decide, by decide, by decide⟩ e5 (hc_at c4) (hc_cap c5 cN (Nat.add_le_add_left (by decide) a)) ?_
  show K 25 [some (.inr (.inr a)), some (.inr (.inr b0)), some (.inr (.inr b1))] [.inr (.inr (a + 3)), .inr (.inr a)] h5
  refine ia_go hK ck_Sc_init_25_16 ⟨hc_k c5 ha (Nat.lt_add_of_pos_right (by decide)) pe, ?_⟩
  show K 28 [some (.inr (.inr a)), some (.inr (.inr b0)), some (.inr (.inr b1))] [] (ia_wR h5 a 4 (a + 3))
  rw [← e6]
  refine ia_go hK ck_Sc_init_28_17 ?_
  show K 31 [some (.inr (.inr a)), some (.inr (.inr b0)), some (.inr (.inr b1))] [.inl 36, .inr (.inr a)] h6
  refine kw_arr hK (at_ := .int) (k := 100) (ty := .int) rfl (ia_tb_in (by decide +kernel) rfl) dc_Sc_init_31 (Or.inl ⟨rfl, rfl⟩) ⟨by decide, by decide, by decide⟩ e7 (hc_at c6) (hc_cap c7 cN (Nat.add_le_add_left (by decide) a)) ?_
  show K 33 [some (.inr (.inr a)), some (.inr (.inr b0)), some (.inr (.inr b1))] [.inr (.inr (a + 4)), .inr (.inr a)] h7
  refine ia_go hK ck_Sc_init_33_21 ⟨hc_k c7 ha (Nat.lt_add_of_pos_right (by decide)) pe, ?_⟩
  show K 36 [some (.inr (.inr a)), some (.inr (.inr b0)), some (.inr (.inr b1))] [] (ia_wR h7 a 5 (a + 4))
  rw [← e8]
  refine ia_go hK ck_Sc_init_36_22 ?_
  show K 39 [some (.inr (.inr a)), some (.inr (.inr b0)), some (.inr (.inr b1))] [.inl 6, .inr (.inr a)] h8
  refine kw_arr hK (at_ := .int) (k := 100) (ty := .int) rfl (ia_tb_in (by decide +kernel) rfl) dc_Sc_init_39 (Or.inl ⟨rfl, rfl⟩) ⟨by decide, by decide, by decide⟩ e9 (hc_at c8) (hc_cap c9 cN (Nat.add_le_add_left (by decide) a)) ?_
  show K 41 [some (.inr (.inr a)), some (.inr (.inr b0)), some (.inr (.inr b1))] [.inr (.inr (a + 5)), .inr (.inr a)] h9
  refine ia_go hK ck_Sc_init_41_26 ⟨hc_k c9 ha (Nat.lt_add_of_pos_right (by decide)) pe, ?_⟩
  show K 44 [some (.inr (.inr a)), some (.inr (.inr b0)), some (.inr (.inr b1))] [] (ia_wR h9 a 6 (a + 5))
  rw [← e10]
  refine ia_go hK ck_Sc_init_44_27 ?_
  show K 47 [some (.inr (.inr a)), some (.inr (.inr b0)), some (.inr (.inr b1))] [.inl 6, .inr (.inr a)] h10
  refine kw_arr hK (at_ := .int) (k := 100) (ty := .int) rfl (ia_tb_in (by decide +kernel) rfl) dc_Sc_init_47 (Or.inl ⟨rfl, rfl⟩) ⟨by decide, by decide, by decide⟩ e11 (hc_at c10) (hc_cap c11 cN (Nat.add_le_add_left (by decide) a)) ?_
  show K 49 [some (.inr (.inr a)), some (.inr (.inr b0)), some (.inr (.inr b1))] [.inr (.inr (a + 6)), .inr (.inr a)] h11
  refine ia_go hK ck_Sc_init_49_31 ⟨hc_k c11 ha (Nat.lt_add_of_pos_right (by decide)) pe, ?_⟩
  show K 52 [some (.inr (.inr a)), some (.inr (.inr b0)), some (.inr (.inr b1))] [] (ia_wR h11 a 7 (a + 6))
  rw [← e12]
  refine ia_go hK ck_Sc_init_52_32 ?_
  show K 55 [some (.inr (.inr a)), some (.inr (.inr b0)), some (.inr (.inr b1))] [.inl 6, .inr (.inr a)] h12
  refine kw_arr hK (at_ := .int) (k := 100) (ty := .int) rfl (ia_tb_in (by decide +kernel) rfl) dc_Sc_init_55 (Or.inl ⟨rfl, rfl⟩) ⟨by decide, by decide, by decide⟩ e13 (hc_at c12) (hc_cap c13 cN (Nat.le_refl _)) ?_
  show K 57 [some (.inr (.inr a)), some (.inr (.inr b0)), some (.inr (.inr b1))] [.inr (.inr (a + 7)), .inr (.inr a)] h13
  refine ia_go hK ck_Sc_init_57_36 ⟨hc_k c13 ha (Nat.lt_add_of_pos_right (by decide)) pe, ?_⟩
  show K 60 [some (.inr (.inr a)), some (.inr (.inr b0)), some (.inr (.inr b1))] [] (ia_wR h13 a 8 (a + 7))
  rw [← e14]
  refine ia_go hK ck_Sc_init_60_37 ⟨hc_k c14 ha (Nat.lt_add_of_pos_right (by decide)) pe, ?_⟩
  show K 65 [some (.inr (.inr a)), some (.inr (.inr b0)), some (.inr (.inr b1))] [] (ia_wR h14 a 0 b0)
  rw [← e15]
  refine ia_go hK ck_Sc_init_65_38 ⟨hc_k c15 ha (Nat.lt_add_of_pos_right (by decide)) pe, ?_⟩
  show K 70 [some (.inr (.inr a)), some (.inr (.inr b0)), some (.inr (.inr b1))] [] (ia_wR h15 a 1 b1)
  rw [← e16]
  exact hret 70 _ dc_Sc_init_70
def mm_Wa_init : ia_M := (⟨"IceStreet$Ways", "<init>", "(LIceStreet$Lake;LIceStreet$Law;)V"⟩, prog_12_method_1_code, 3, none, 11, true)
theorem ok_Wa_init : ia_mok mm_Wa_init := ⟨by decide +kernel, by decide +kernel, by decide +kernel, by decide +kernel⟩
theorem mk_Wa_init : ia_mkn mm_Wa_init 2 2 := ⟨ia_tb_in (List.mem_of_getElem? (i := 559) (by decide +kernel)) rfl, ia_tb_in (List.mem_of_getElem? (i := 141) (by decide +kernel)) rfl, by decide +kernel, by decide +kernel, ia_tb_in (List.mem_of_getElem? (i := 558) (by decide +kernel)) rfl, rfl, rfl⟩
theorem ck_Wa_init_0_0 : ia_cks 11 3 true prog_12_method_1_code 0 [(.aload_n 0, 0, 0, 0, 0)] = true := by decide +kernel
theorem dc_Wa_init_1 : decode prog_12_method_1_code 1 = .ok (.invokespecial 3, 3) := by decide +kernel
theorem ck_Wa_init_4_2 : ia_cks 11 3 true prog_12_method_1_code 4 [(.aload_n 0, 0, 0, 0, 0), (.bipush 36, 0, 0, 0, 0)] = true := by decide +kernel
theorem dc_Wa_init_7 : decode prog_12_method_1_code 7 = .ok (.newarray .int, 2) := by decide +kernel
theorem ks_11_1 : kd_D 312 = (100, 36) := by decide +kernel
theorem ck_Wa_init_9_5 : ia_cks 11 3 true prog_12_method_1_code 9 [(.putfield 9, 11, 3, 2, 0)] = true := by decide +kernel
theorem ck_Wa_init_12_6 : ia_cks 11 3 true prog_12_method_1_code 12 [(.aload_n 0, 0, 0, 0, 0), (.bipush 36, 0, 0, 0, 0)] = true := by decide +kernel
theorem dc_Wa_init_15 : decode prog_12_method_1_code 15 = .ok (.newarray .int, 2) := by decide +kernel
theorem ks_11_2 : kd_D 313 = (100, 36) := by decide +kernel
theorem ck_Wa_init_17_9 : ia_cks 11 3 true prog_12_method_1_code 17 [(.putfield 15, 11, 6, 2, 0)] = true := by decide +kernel
theorem ck_Wa_init_20_10 : ia_cks 11 3 true prog_12_method_1_code 20 [(.aload_n 0, 0, 0, 0, 0), (.bipush 36, 0, 0, 0, 0)] = true := by decide +kernel
theorem dc_Wa_init_23 : decode prog_12_method_1_code 23 = .ok (.newarray .int, 2) := by decide +kernel
theorem ks_11_3 : kd_D 314 = (100, 36) := by decide +kernel
theorem ck_Wa_init_25_13 : ia_cks 11 3 true prog_12_method_1_code 25 [(.putfield 18, 11, 7, 2, 0)] = true := by decide +kernel
theorem ck_Wa_init_28_14 : ia_cks 11 3 true prog_12_method_1_code 28 [(.aload_n 0, 0, 0, 0, 0), (.bipush 36, 0, 0, 0, 0)] = true := by decide +kernel
theorem dc_Wa_init_31 : decode prog_12_method_1_code 31 = .ok (.newarray .int, 2) := by decide +kernel
theorem ks_11_4 : kd_D 315 = (100, 36) := by decide +kernel
theorem ck_Wa_init_33_17 : ia_cks 11 3 true prog_12_method_1_code 33 [(.putfield 21, 11, 8, 2, 0)] = true := by decide +kernel
theorem ck_Wa_init_36_18 : ia_cks 11 3 true prog_12_method_1_code 36 [(.aload_n 0, 0, 0, 0, 0), (.bipush 8, 0, 0, 0, 0), (.bipush 36, 0, 0, 0, 0)] = true := by decide +kernel
theorem dc_Wa_init_41 : decode prog_12_method_1_code 41 = .ok (.multianewarray 24 2, 4) := by decide +kernel
theorem ck_Wa_init_45_20 : ia_cks 11 3 true prog_12_method_1_code 45 [(.putfield 26, 11, 9, 2, 0)] = true := by decide +kernel
theorem ck_Wa_init_48_21 : ia_cks 11 3 true prog_12_method_1_code 48 [(.aload_n 0, 0, 0, 0, 0), (.aload_n 1, 0, 0, 0, 0), (.putfield 29, 11, 4, 2, 0)] = true := by decide +kernel
theorem ck_Wa_init_53_22 : ia_cks 11 3 true prog_12_method_1_code 53 [(.aload_n 0, 0, 0, 0, 0), (.aload_n 2, 0, 0, 0, 0), (.putfield 33, 11, 5, 2, 0)] = true := by decide +kernel
theorem dc_Wa_init_58 : decode prog_12_method_1_code 58 = .ok (.return_, 1) := by decide +kernel
theorem rdo_11 (k f : Nat) (q : rd_o 11 k = some f) : (k = 3 ∧ f = 1) ∨ (k = 6 ∧ f = 2) ∨ (k = 7 ∧ f = 3) ∨ (k = 8 ∧ f = 4) ∨ (k = 9 ∧ f = 5) := by
  unfold rd_o at q
  split at q <;> simp_all
theorem rdc_11 (k f : Nat) (q : rd_c 11 k = some f) : False := by
  unfold rd_c at q
  split at q <;> simp_all
set_option maxHeartbeats 8000000 in
theorem mc_Wa_init (d : Nat) {b0 : Nat} {b1 : Nat} (q0 : (kd_D b0).1 = 3) (q1 : (kd_D b1).1 = 4) {S : List Nat} {w : ia_O0} {h : ia_H} (hh : hc_ 312 (311 :: S) w h) : ∃ h1, ia_Ev (d + 0) mm_Wa_init [.inr (.inr 311), .inr (.inr b0), .inr (.inr b1)] h none h1 ∧ hc_ (325) S w h1 ∧ hf_ 311 h h1 := by
  have pe : (kd_D 311).1 = 11 := by decide +kernel
  have ha : 64 ≤ 311 := by decide
  have hf0 : hf_ 311 h h := fun b hb => ⟨rfl, rfl, rfl⟩
  obtain ⟨h1, e1⟩ : ∃ x, x = ia_nw h 100 36 36 := ⟨_, rfl⟩
  have c1 : hc_ (313) (311 :: S) w h1 := by rw [e1]; exact hc_arr hh ks_11_1 (by decide) (by decide)
  have f1 : hf_ 311 h h1 := by rw [e1]; exact hf_nw hf0 (hc_le hh (by decide))
  obtain ⟨h2, e2⟩ : ∃ x, x = ia_wR h1 311 3 312 := ⟨_, rfl⟩
  have c2 : hc_ (313) (311 :: S) w h2 := by rw [e2]; exact hc_wR c1 List.mem_cons_self
  have f2 : hf_ 311 h h2 := by rw [e2]; exact hf_wR f1 (Nat.le_refl _)
  have r0_3_2 : ia_r h2 311 3 = 312 := by rw [e2]; exact wR_s
  obtain ⟨h3, e3⟩ : ∃ x, x = ia_nw h2 100 36 36 := ⟨_, rfl⟩
  have c3 : hc_ (314) (311 :: S) w h3 := by rw [e3]; exact hc_arr c2 ks_11_2 (by decide) (by decide)
  have f3 : hf_ 311 h h3 := by rw [e3]; exact hf_nw f2 (hc_le c2 (by decide))
  have r0_3_3 : ia_r h3 311 3 = 312 := by rw [e3]; exact hn_r (hc_ne c2 (by decide)) r0_3_2
  obtain ⟨h4, e4⟩ : ∃ x, x = ia_wR h3 311 6 313 := ⟨_, rfl⟩
  have c4 : hc_ (314) (311 :: S) w h4 := by rw [e4]; exact hc_wR c3 List.mem_cons_self
  have f4 : hf_ 311 h h4 := by rw [e4]; exact hf_wR f3 (Nat.le_refl _)
  have r0_3_4 : ia_r h4 311 3 = 312 := by rw [e4]; exact hw_r (by decide) r0_3_3
  have r0_6_4 : ia_r h4 311 6 = 313 := by rw [e4]; exact wR_s
  obtain ⟨h5, e5⟩ : ∃ x, x = ia_nw h4 100 36 36 := ⟨_, rfl⟩
  have c5 : hc_ (315) (311 :: S) w h5 := by rw [e5]; exact hc_arr c4 ks_11_3 (by decide) (by decide)
  have f5 : hf_ 311 h h5 := by rw [e5]; exact hf_nw f4 (hc_le c4 (by decide))
  have r0_3_5 : ia_r h5 311 3 = 312 := by rw [e5]; exact hn_r (hc_ne c4 (by decide)) r0_3_4
  have r0_6_5 : ia_r h5 311 6 = 313 := by rw [e5]; exact hn_r (hc_ne c4 (by decide)) r0_6_4
  obtain ⟨h6, e6⟩ : ∃ x, x = ia_wR h5 311 7 314 := ⟨_, rfl⟩
  have c6 : hc_ (315) (311 :: S) w h6 := by rw [e6]; exact hc_wR c5 List.mem_cons_self
  have f6 : hf_ 311 h h6 := by rw [e6]; exact hf_wR f5 (Nat.le_refl _)
  have r0_3_6 : ia_r h6 311 3 = 312 := by rw [e6]; exact hw_r (by decide) r0_3_5
  have r0_6_6 : ia_r h6 311 6 = 313 := by rw [e6]; exact hw_r (by decide) r0_6_5
  have r0_7_6 : ia_r h6 311 7 = 314 := by rw [e6]; exact wR_s
  obtain ⟨h7, e7⟩ : ∃ x, x = ia_nw h6 100 36 36 := ⟨_, rfl⟩
  have c7 : hc_ (316) (311 :: S) w h7 := by rw [e7]; exact hc_arr c6 ks_11_4 (by decide) (by decide)
  have f7 : hf_ 311 h h7 := by rw [e7]; exact hf_nw f6 (hc_le c6 (by decide))
  have r0_3_7 : ia_r h7 311 3 = 312 := by rw [e7]; exact hn_r (hc_ne c6 (by decide)) r0_3_6
  have r0_6_7 : ia_r h7 311 6 = 313 := by rw [e7]; exact hn_r (hc_ne c6 (by decide)) r0_6_6
  have r0_7_7 : ia_r h7 311 7 = 314 := by rw [e7]; exact hn_r (hc_ne c6 (by decide)) r0_7_6
  obtain ⟨h8, e8⟩ : ∃ x, x = ia_wR h7 311 8 315 := ⟨_, rfl⟩
  have c8 : hc_ (316) (311 :: S) w h8 := by rw [e8]; exact hc_wR c7 List.mem_cons_self
  have f8 : hf_ 311 h h8 := by rw [e8]; exact hf_wR f7 (Nat.le_refl _)
  have r0_3_8 : ia_r h8 311 3 = 312 := by rw [e8]; exact hw_r (by decide) r0_3_7
  have r0_6_8 : ia_r h8 311 6 = 313 := by rw [e8]; exact hw_r (by decide) r0_6_7
  have r0_7_8 : ia_r h8 311 7 = 314 := by rw [e8]; exact hw_r (by decide) r0_7_7
  have r0_8_8 : ia_r h8 311 8 = 315 := by rw [e8]; exact wR_s
  obtain ⟨h9, e9⟩ : ∃ x, x = ia_n2 h8 8 36 := ⟨_, rfl⟩
  have c9 : hc_ (325) (311 :: S) w h9 := by rw [e9]; exact hc_n2 c8
  have f9 : hf_ 311 h h9 := by rw [e9]; exact hf_n2 f8 c8.2.1 (by decide)
  have r0_3_9 : ia_r h9 311 3 = 312 := by rw [e9]; exact hn2_r c8.2.1 (by decide) r0_3_8
  have r0_6_9 : ia_r h9 311 6 = 313 := by rw [e9]; exact hn2_r c8.2.1 (by decide) r0_6_8
  have r0_7_9 : ia_r h9 311 7 = 314 := by rw [e9]; exact hn2_r c8.2.1 (by decide) r0_7_8
  have r0_8_9 : ia_r h9 311 8 = 315 := by rw [e9]; exact hn2_r c8.2.1 (by decide) r0_8_8
  obtain ⟨h10, e10⟩ : ∃ x, x = ia_wR h9 311 9 316 := ⟨_, rfl⟩
  have c10 : hc_ (325) (311 :: S) w h10 := by rw [e10]; exact hc_wR c9 List.mem_cons_self
  have f10 : hf_ 311 h h10 := by rw [e10]; exact hf_wR f9 (Nat.le_refl _)
  have r0_3_10 : ia_r h10 311 3 = 312 := by rw [e10]; exact hw_r (by decide) r0_3_9
  have r0_6_10 : ia_r h10 311 6 = 313 := by rw [e10]; exact hw_r (by decide) r0_6_9
  have r0_7_10 : ia_r h10 311 7 = 314 := by rw [e10]; exact hw_r (by decide) r0_7_9
  have r0_8_10 : ia_r h10 311 8 = 315 := by rw [e10]; exact hw_r (by decide) r0_8_9
  have r0_9_10 : ia_r h10 311 9 = 316 := by rw [e10]; exact wR_s
  obtain ⟨h11, e11⟩ : ∃ x, x = ia_wR h10 311 4 b0 := ⟨_, rfl⟩
  have c11 : hc_ (325) (311 :: S) w h11 := by rw [e11]; exact hc_wR c10 List.mem_cons_self
  have f11 : hf_ 311 h h11 := by rw [e11]; exact hf_wR f10 (Nat.le_refl _)
  have r0_3_11 : ia_r h11 311 3 = 312 := by rw [e11]; exact hw_r (by decide) r0_3_10
  have r0_6_11 : ia_r h11 311 6 = 313 := by rw [e11]; exact hw_r (by decide) r0_6_10
  have r0_7_11 : ia_r h11 311 7 = 314 := by rw [e11]; exact hw_r (by decide) r0_7_10
  have r0_8_11 : ia_r h11 311 8 = 315 := by rw [e11]; exact hw_r (by decide) r0_8_10
  have r0_9_11 : ia_r h11 311 9 = 316 := by rw [e11]; exact hw_r (by decide) r0_9_10
  have r0_4_11 : ia_r h11 311 4 = b0 := by rw [e11]; exact wR_s
  obtain ⟨h12, e12⟩ : ∃ x, x = ia_wR h11 311 5 b1 := ⟨_, rfl⟩
  have c12 : hc_ (325) (311 :: S) w h12 := by rw [e12]; exact hc_wR c11 List.mem_cons_self
  have f12 : hf_ 311 h h12 := by rw [e12]; exact hf_wR f11 (Nat.le_refl _)
  have r0_3_12 : ia_r h12 311 3 = 312 := by rw [e12]; exact hw_r (by decide) r0_3_11
  have r0_6_12 : ia_r h12 311 6 = 313 := by rw [e12]; exact hw_r (by decide) r0_6_11
  have r0_7_12 : ia_r h12 311 7 = 314 := by rw [e12]; exact hw_r (by decide) r0_7_11
  have r0_8_12 : ia_r h12 311 8 = 315 := by rw [e12]; exact hw_r (by decide) r0_8_11
  have r0_9_12 : ia_r h12 311 9 = 316 := by rw [e12]; exact hw_r (by decide) r0_9_11
  have r0_4_12 : ia_r h12 311 4 = b0 := by rw [e12]; exact hw_r (by decide) r0_4_11
  have r0_5_12 : ia_r h12 311 5 = b1 := by rw [e12]; exact wR_s
  have d12_0 : hc_ (325) (S) w h12 := by
    refine hc_fin c12 ?_ ?_ ?_ ?_ ?_
    · intro k f q
      rw [pe] at q
      rcases rdo_11 k f q with ⟨rfl, rfl⟩ | ⟨rfl, rfl⟩ | ⟨rfl, rfl⟩ | ⟨rfl, rfl⟩ | ⟨rfl, rfl⟩
      · exact r0_3_12
      · exact r0_6_12
      · exact r0_7_12
      · exact r0_8_12
      · exact r0_9_12
    · intro k f q
      rw [pe] at q
      exact (rdc_11 k f q).elim
    · intro j f q
      rw [pe] at q
      cases q
    · intro q
      rw [pe] at q
      cases q
    · intro _
      rw [r0_4_12, r0_5_12]
      exact ⟨q0, q1⟩
  have cN : hc_ (325) (S) w h12 := d12_0
  refine ⟨h12, ia_Ev_intro ok_Wa_init (hc_cap hh cN (by decide)).1 (hc_cap hh cN (by decide)).2 (Nat.le_of_ble_eq_true rfl) (fun K hK hret => ?_), cN, f12⟩
  show K 0 [some (.inr (.inr 311)), some (.inr (.inr b0)), some (.inr (.inr b1))] [] h
  refine ia_go hK ck_Wa_init_0_0 ?_
  show K 1 [some (.inr (.inr 311)), some (.inr (.inr b0)), some (.inr (.inr b1))] [.inr (.inr 311)] h
  refine ia_obj hK (ia_tb_in (List.mem_of_getElem? (i := 560) (by decide +kernel)) rfl) dc_Wa_init_1 (by decide) (Nat.le_of_ble_eq_true rfl) ?_
  show K 4 [some (.inr (.inr 311)), some (.inr (.inr b0)), some (.inr (.inr b1))] [] h
  refine ia_go hK ck_Wa_init_4_2 ?_
  show K 7 [some (.inr (.inr 311)), some (.inr (.inr b0)), some (.inr (.inr b1))] [.inl 36, .inr (.inr 311)] h
  refine kw_arr hK (at_ := .int) (k := 100) (ty := .int) rfl (ia_tb_in (by decide +kernel) rfl) dc_Wa_init_7 (Or.inl ⟨rfl, rfl⟩) ⟨by decide, by decide, by decide⟩ e1 (hc_at hh) (hc_cap c1 cN (by decide)) ?_
  show K 9 [some (.inr (.inr 311)), some (.inr (.inr b0)), some (.inr (.inr b1))] [.inr (.inr 312), .inr (.inr 311)] h1
  refine ia_go hK ck_Wa_init_9_5 ⟨hc_k c1 (by decide) (by decide) pe, ?_⟩
  show K 12 [some (.inr (.inr 311)), some (.inr (.inr b0)), some (.inr (.inr b1))] [] (ia_wR h1 311 3 312)
  rw [← e2]
  refine ia_go hK ck_Wa_init_12_6 ?_
  show K 15 [some (.inr (.inr 311)), some (.inr (.inr b0)), some (.inr (.inr b1))] [.inl 36, .inr (.inr 311)] h2
  refine kw_arr hK (at_ := .int) (k := 100) (ty := .int) rfl (ia_tb_in (by decide +kernel) rfl) dc_Wa_init_15 (Or.inl ⟨rfl, rfl⟩) ⟨by decide, by decide, by decide⟩ e3 (hc_at c2) (hc_cap c3 cN (by decide)) ?_
  show K 17 [some (.inr (.inr 311)), some (.inr (.inr b0)), some (.inr (.inr b1))] [.inr (.inr 313), .inr (.inr 311)] h3
  refine ia_go hK ck_Wa_init_17_9 ⟨hc_k c3 (by decide) (by decide) pe, ?_⟩
  show K 20 [some (.inr (.inr 311)), some (.inr (.inr b0)), some (.inr (.inr b1))] [] (ia_wR h3 311 6 313)
  rw [← e4]
  refine ia_go hK ck_Wa_init_20_10 ?_
  show K 23 [some (.inr (.inr 311)), some (.inr (.inr b0)), some (.inr (.inr b1))] [.inl 36, .inr (.inr 311)] h4
  refine kw_arr hK (at_ := .int) (k := 100) (ty := .int) rfl (ia_tb_in (by decide +kernel) rfl) dc_Wa_init_23 (Or.inl ⟨rfl, rfl⟩) ⟨by decide, by decide, by decide⟩ e5 (hc_at c4) (hc_cap c5 cN (by decide)) ?_
  show K 25 [some (.inr (.inr 311)), some (.inr (.inr b0)), some (.inr (.inr b1))] [.inr (.inr 314), .inr (.inr 311)] h5
  refine ia_go hK ck_Wa_init_25_13 ⟨hc_k c5 (by decide) (by decide) pe, ?_⟩
  show K 28 [some (.inr (.inr 311)), some (.inr (.inr b0)), some (.inr (.inr b1))] [] (ia_wR h5 311 7 314)
  rw [← e6]
  refine ia_go hK ck_Wa_init_28_14 ?_
  show K 31 [some (.inr (.inr 311)), some (.inr (.inr b0)), some (.inr (.inr b1))] [.inl 36, .inr (.inr 311)] h6
  refine kw_arr hK (at_ := .int) (k := 100) (ty := .int) rfl (ia_tb_in (by decide +kernel) rfl) dc_Wa_init_31 (Or.inl ⟨rfl, rfl⟩) ⟨by decide, by decide, by decide⟩ e7 (hc_at c6) (hc_cap c7 cN (by decide)) ?_
  show K 33 [some (.inr (.inr 311)), some (.inr (.inr b0)), some (.inr (.inr b1))] [.inr (.inr 315), .inr (.inr 311)] h7
  refine ia_go hK ck_Wa_init_33_17 ⟨hc_k c7 (by decide) (by decide) pe, ?_⟩
  show K 36 [some (.inr (.inr 311)), some (.inr (.inr b0)), some (.inr (.inr b1))] [] (ia_wR h7 311 8 315)
  rw [← e8]
  refine ia_go hK ck_Wa_init_36_18 ?_
  show K 41 [some (.inr (.inr 311)), some (.inr (.inr b0)), some (.inr (.inr b1))] [.inl 36, .inl 8, .inr (.inr 311)] h8
  refine kw_mna hK (ia_tb_in (List.mem_of_getElem? (i := 561) (by decide +kernel)) rfl) (ia_tb_in (by decide +kernel) rfl) dc_Wa_init_41 ⟨by decide, by decide, by decide, by decide⟩ ⟨by decide, by decide, by decide⟩ e9 (hc_at c8) (hc_cap c9 cN (by decide)) ?_
  show K 45 [some (.inr (.inr 311)), some (.inr (.inr b0)), some (.inr (.inr b1))] [.inr (.inr 316), .inr (.inr 311)] h9
  refine ia_go hK ck_Wa_init_45_20 ⟨hc_k c9 (by decide) (by decide) pe, ?_⟩
  show K 48 [some (.inr (.inr 311)), some (.inr (.inr b0)), some (.inr (.inr b1))] [] (ia_wR h9 311 9 316)
  rw [← e10]
  refine ia_go hK ck_Wa_init_48_21 ⟨hc_k c10 (by decide) (by decide) pe, ?_⟩
  show K 53 [some (.inr (.inr 311)), some (.inr (.inr b0)), some (.inr (.inr b1))] [] (ia_wR h10 311 4 b0)
  rw [← e11]
  refine ia_go hK ck_Wa_init_53_22 ⟨hc_k c11 (by decide) (by decide) pe, ?_⟩
  show K 58 [some (.inr (.inr 311)), some (.inr (.inr b0)), some (.inr (.inr b1))] [] (ia_wR h11 311 5 b1)
  rw [← e12]
  exact hret 58 _ dc_Wa_init_58
def mm_De_init : ia_M := (⟨"IceStreet$Deeds", "<init>", "(LIceStreet$Ways;)V"⟩, prog_2_method_1_code, 2, none, 1, true)
theorem ok_De_init : ia_mok mm_De_init := ⟨by decide +kernel, by decide +kernel, by decide +kernel, by decide +kernel⟩
theorem mk_De_init : ia_mkn mm_De_init 2 1 := ⟨ia_tb_in (List.mem_of_getElem? (i := 606) (by decide +kernel)) rfl, ia_tb_in (List.mem_of_getElem? (i := 142) (by decide +kernel)) rfl, by decide +kernel, by decide +kernel, ia_tb_in (List.mem_of_getElem? (i := 605) (by decide +kernel)) rfl, rfl, rfl⟩
theorem ck_De_init_0_0 : ia_cks 1 2 true prog_2_method_1_code 0 [(.aload_n 0, 0, 0, 0, 0)] = true := by decide +kernel
theorem dc_De_init_1 : decode prog_2_method_1_code 1 = .ok (.invokespecial 3, 3) := by decide +kernel
theorem ck_De_init_4_2 : ia_cks 1 2 true prog_2_method_1_code 4 [(.aload_n 0, 0, 0, 0, 0), (.aload_n 1, 0, 0, 0, 0), (.putfield 9, 1, 0, 2, 0)] = true := by decide +kernel
theorem dc_De_init_9 : decode prog_2_method_1_code 9 = .ok (.return_, 1) := by decide +kernel
theorem rdo_1 (k f : Nat) (q : rd_o 1 k = some f) : False := by
  unfold rd_o at q
  split at q <;> simp_all
theorem rdc_1 (k f : Nat) (q : rd_c 1 k = some f) : (k = 0 ∧ f = 311) := by
  unfold rd_c at q
  split at q <;> simp_all
set_option maxHeartbeats 8000000 in
theorem mc_De_init (d : Nat) {S : List Nat} {w : ia_O0} {h : ia_H} (hh : hc_ 326 (325 :: S) w h) : ∃ h1, ia_Ev (d + 0) mm_De_init [.inr (.inr 325), .inr (.inr 311)] h none h1 ∧ hc_ (326) S w h1 ∧ hf_ 325 h h1 := by
  have pe : (kd_D 325).1 = 1 := by decide +kernel
  have ha : 64 ≤ 325 := by decide
  have hf0 : hf_ 325 h h := fun b hb => ⟨rfl, rfl, rfl⟩
  obtain ⟨h1, e1⟩ : ∃ x, x = ia_wR h 325 0 311 := ⟨_, rfl⟩
  have c1 : hc_ (326) (325 :: S) w h1 := by rw [e1]; exact hc_wR hh List.mem_cons_self
  have f1 : hf_ 325 h h1 := by rw [e1]; exact hf_wR hf0 (Nat.le_refl _)
  have r0_0_1 : ia_r h1 325 0 = 311 := by rw [e1]; exact wR_s
  have d1_0 : hc_ (326) (S) w h1 := by
    refine hc_fin c1 ?_ ?_ ?_ ?_ ?_
    · intro k f q
      rw [pe] at q
      exact (rdo_1 k f q).elim
    · intro k f q
      rw [pe] at q
      rcases rdc_1 k f q with ⟨rfl, rfl⟩
      · exact r0_0_1
    · intro j f q
      rw [pe] at q
      cases q
    · intro q
      rw [pe] at q
      cases q
    · intro q
      rw [pe] at q
      cases q
  have cN : hc_ (326) (S) w h1 := d1_0
  refine ⟨h1, ia_Ev_intro ok_De_init (hc_cap hh cN (by decide)).1 (hc_cap hh cN (by decide)).2 (Nat.le_of_ble_eq_true rfl) (fun K hK hret => ?_), cN, f1⟩
  show K 0 [some (.inr (.inr 325)), some (.inr (.inr 311))] [] h
  refine ia_go hK ck_De_init_0_0 ?_
  show K 1 [some (.inr (.inr 325)), some (.inr (.inr 311))] [.inr (.inr 325)] h
  refine ia_obj hK (ia_tb_in (List.mem_of_getElem? (i := 607) (by decide +kernel)) rfl) dc_De_init_1 (by decide) (Nat.le_of_ble_eq_true rfl) ?_
  show K 4 [some (.inr (.inr 325)), some (.inr (.inr 311))] [] h
  refine ia_go hK ck_De_init_4_2 ⟨hc_k hh (by decide) (by decide) pe, ?_⟩
  show K 9 [some (.inr (.inr 325)), some (.inr (.inr 311))] [] (ia_wR h 325 0 311)
  rw [← e1]
  exact hret 9 _ dc_De_init_9
