/-! constructors that call others -/
def mm_To_init : ia_M := (⟨"IceStreet$Told", "<init>", "()V"⟩, prog_11_method_1_code, 1, none, 10, true)
theorem ok_To_init : ia_mok mm_To_init := ⟨by decide +kernel, by decide +kernel, by decide +kernel, by decide +kernel⟩
theorem mk_To_init : ia_mkn mm_To_init 2 0 := ⟨ia_tb_in (List.mem_of_getElem? (i := 166) (by decide +kernel)) rfl, ia_tb_in (List.mem_of_getElem? (i := 134) (by decide +kernel)) rfl, by decide +kernel, by decide +kernel, ia_tb_in (List.mem_of_getElem? (i := 165) (by decide +kernel)) rfl, rfl, rfl⟩
theorem ck_To_init_0_0 : ia_cks 10 1 true prog_11_method_1_code 0 [(.aload_n 0, 0, 0, 0, 0)] = true := by decide +kernel
theorem dc_To_init_1 : decode prog_11_method_1_code 1 = .ok (.invokespecial 3, 3) := by decide +kernel
theorem ck_To_init_4_2 : ia_cks 10 1 true prog_11_method_1_code 4 [(.aload_n 0, 0, 0, 0, 0), (.sipush 600, 0, 0, 0, 0)] = true := by decide +kernel
theorem dc_To_init_8 : decode prog_11_method_1_code 8 = .ok (.newarray .byte, 2) := by decide +kernel
theorem kt_10_1_0 : ∀ e ∈ [65, 119, 172, 225], kd_D (e + 1) = (102, 600) := by decide +kernel
theorem kt_10_1 {e : Nat} (pe : (kd_D e).1 = 10) : kd_D (e + 1) = (102, 600) := kt_10_1_0 e (kn_10 pe)
theorem ck_To_init_10_6 : ia_cks 10 1 true prog_11_method_1_code 10 [(.putfield 9, 10, 0, 2, 0)] = true := by decide +kernel
theorem ck_To_init_13_7 : ia_cks 10 1 true prog_11_method_1_code 13 [(.aload_n 0, 0, 0, 0, 0), (.iconst (-1), 0, 0, 0, 0), (.putfield 15, 10, 3, 0, 0)] = true := by decide +kernel
theorem ck_To_init_18_8 : ia_cks 10 1 true prog_11_method_1_code 18 [(.aload_n 0, 0, 0, 0, 0), (.iconst 3, 0, 0, 0, 0)] = true := by decide +kernel
theorem dc_To_init_20 : decode prog_11_method_1_code 20 = .ok (.newarray .int, 2) := by decide +kernel
theorem kt_10_2_0 : ∀ e ∈ [65, 119, 172, 225], kd_D (e + 2) = (100, 3) := by decide +kernel
theorem kt_10_2 {e : Nat} (pe : (kd_D e).1 = 10) : kd_D (e + 2) = (100, 3) := kt_10_2_0 e (kn_10 pe)
theorem ck_To_init_22_12 : ia_cks 10 1 true prog_11_method_1_code 22 [(.putfield 19, 10, 4, 2, 0)] = true := by decide +kernel
theorem ck_To_init_25_13 : ia_cks 10 1 true prog_11_method_1_code 25 [(.aload_n 0, 0, 0, 0, 0), (.iconst 2, 0, 0, 0, 0)] = true := by decide +kernel
theorem dc_To_init_27 : decode prog_11_method_1_code 27 = .ok (.anewarray 23, 3) := by decide +kernel
theorem kt_10_3_0 : ∀ e ∈ [65, 119, 172, 225], kd_D (e + 3) = (107, 2) := by decide +kernel
theorem kt_10_3 {e : Nat} (pe : (kd_D e).1 = 10) : kd_D (e + 3) = (107, 2) := kt_10_3_0 e (kn_10 pe)
theorem ck_To_init_30_17 : ia_cks 10 1 true prog_11_method_1_code 30 [(.dup, 0, 0, 0, 0), (.iconst 0, 0, 0, 0, 0)] = true := by decide +kernel
theorem dc_To_init_32 : decode prog_11_method_1_code 32 = .ok (.new 23, 3) := by decide +kernel
theorem kt_10_4_0 : ∀ e ∈ [65, 119, 172, 225], kd_D (e + 4) = (3, 0) := by decide +kernel
theorem kt_10_4 {e : Nat} (pe : (kd_D e).1 = 10) : kd_D (e + 4) = (3, 0) := kt_10_4_0 e (kn_10 pe)
theorem ck_To_init_35_21 : ia_cks 10 1 true prog_11_method_1_code 35 [(.dup, 0, 0, 0, 0)] = true := by decide +kernel
theorem dc_To_init_36 : decode prog_11_method_1_code 36 = .ok (.invokespecial 25, 3) := by decide +kernel
theorem ck_To_init_39_23 : ia_cks 10 1 true prog_11_method_1_code 39 [(.aastore, 3, 0, 0, 0)] = true := by decide +kernel
theorem ck_To_init_40_24 : ia_cks 10 1 true prog_11_method_1_code 40 [(.dup, 0, 0, 0, 0), (.iconst 1, 0, 0, 0, 0)] = true := by decide +kernel
theorem dc_To_init_42 : decode prog_11_method_1_code 42 = .ok (.new 23, 3) := by decide +kernel
theorem kt_10_16_0 : ∀ e ∈ [65, 119, 172, 225], kd_D (e + 16) = (3, 0) := by decide +kernel
theorem kt_10_16 {e : Nat} (pe : (kd_D e).1 = 10) : kd_D (e + 16) = (3, 0) := kt_10_16_0 e (kn_10 pe)
theorem ck_To_init_45_28 : ia_cks 10 1 true prog_11_method_1_code 45 [(.dup, 0, 0, 0, 0)] = true := by decide +kernel
theorem dc_To_init_46 : decode prog_11_method_1_code 46 = .ok (.invokespecial 25, 3) := by decide +kernel
theorem ck_To_init_49_30 : ia_cks 10 1 true prog_11_method_1_code 49 [(.aastore, 3, 0, 0, 0)] = true := by decide +kernel
theorem ck_To_init_50_31 : ia_cks 10 1 true prog_11_method_1_code 50 [(.putfield 26, 10, 5, 2, 0)] = true := by decide +kernel
theorem ck_To_init_53_32 : ia_cks 10 1 true prog_11_method_1_code 53 [(.aload_n 0, 0, 0, 0, 0), (.iconst 2, 0, 0, 0, 0)] = true := by decide +kernel
theorem dc_To_init_55 : decode prog_11_method_1_code 55 = .ok (.anewarray 30, 3) := by decide +kernel
theorem kt_10_28_0 : ∀ e ∈ [65, 119, 172, 225], kd_D (e + 28) = (108, 2) := by decide +kernel
theorem kt_10_28 {e : Nat} (pe : (kd_D e).1 = 10) : kd_D (e + 28) = (108, 2) := kt_10_28_0 e (kn_10 pe)
theorem ck_To_init_58_36 : ia_cks 10 1 true prog_11_method_1_code 58 [(.dup, 0, 0, 0, 0), (.iconst 0, 0, 0, 0, 0)] = true := by decide +kernel
theorem dc_To_init_60 : decode prog_11_method_1_code 60 = .ok (.new 30, 3) := by decide +kernel
theorem kt_10_29_0 : ∀ e ∈ [65, 119, 172, 225], kd_D (e + 29) = (4, 0) := by decide +kernel
theorem kt_10_29 {e : Nat} (pe : (kd_D e).1 = 10) : kd_D (e + 29) = (4, 0) := kt_10_29_0 e (kn_10 pe)
theorem ck_To_init_63_40 : ia_cks 10 1 true prog_11_method_1_code 63 [(.dup, 0, 0, 0, 0)] = true := by decide +kernel
theorem dc_To_init_64 : decode prog_11_method_1_code 64 = .ok (.invokespecial 32, 3) := by decide +kernel
theorem ck_To_init_67_42 : ia_cks 10 1 true prog_11_method_1_code 67 [(.aastore, 4, 0, 0, 0)] = true := by decide +kernel
theorem ck_To_init_68_43 : ia_cks 10 1 true prog_11_method_1_code 68 [(.dup, 0, 0, 0, 0), (.iconst 1, 0, 0, 0, 0)] = true := by decide +kernel
theorem dc_To_init_70 : decode prog_11_method_1_code 70 = .ok (.new 30, 3) := by decide +kernel
theorem kt_10_33_0 : ∀ e ∈ [65, 119, 172, 225], kd_D (e + 33) = (4, 0) := by decide +kernel
theorem kt_10_33 {e : Nat} (pe : (kd_D e).1 = 10) : kd_D (e + 33) = (4, 0) := kt_10_33_0 e (kn_10 pe)
theorem ck_To_init_73_47 : ia_cks 10 1 true prog_11_method_1_code 73 [(.dup, 0, 0, 0, 0)] = true := by decide +kernel
theorem dc_To_init_74 : decode prog_11_method_1_code 74 = .ok (.invokespecial 32, 3) := by decide +kernel
theorem ck_To_init_77_49 : ia_cks 10 1 true prog_11_method_1_code 77 [(.aastore, 4, 0, 0, 0)] = true := by decide +kernel
theorem ck_To_init_78_50 : ia_cks 10 1 true prog_11_method_1_code 78 [(.putfield 33, 10, 6, 2, 0)] = true := by decide +kernel
theorem ck_To_init_81_51 : ia_cks 10 1 true prog_11_method_1_code 81 [(.aload_n 0, 0, 0, 0, 0), (.iconst 3, 0, 0, 0, 0)] = true := by decide +kernel
theorem dc_To_init_83 : decode prog_11_method_1_code 83 = .ok (.anewarray 37, 3) := by decide +kernel
theorem kt_10_37_0 : ∀ e ∈ [65, 119, 172, 225], kd_D (e + 37) = (110, 3) := by decide +kernel
theorem kt_10_37 {e : Nat} (pe : (kd_D e).1 = 10) : kd_D (e + 37) = (110, 3) := kt_10_37_0 e (kn_10 pe)
theorem ck_To_init_86_55 : ia_cks 10 1 true prog_11_method_1_code 86 [(.dup, 0, 0, 0, 0), (.iconst 0, 0, 0, 0, 0)] = true := by decide +kernel
theorem dc_To_init_88 : decode prog_11_method_1_code 88 = .ok (.new 37, 3) := by decide +kernel
theorem kt_10_38_0 : ∀ e ∈ [65, 119, 172, 225], kd_D (e + 38) = (6, 0) := by decide +kernel
theorem kt_10_38 {e : Nat} (pe : (kd_D e).1 = 10) : kd_D (e + 38) = (6, 0) := kt_10_38_0 e (kn_10 pe)
theorem ck_To_init_91_59 : ia_cks 10 1 true prog_11_method_1_code 91 [(.dup, 0, 0, 0, 0)] = true := by decide +kernel
theorem dc_To_init_92 : decode prog_11_method_1_code 92 = .ok (.invokespecial 39, 3) := by decide +kernel
theorem ck_To_init_95_61 : ia_cks 10 1 true prog_11_method_1_code 95 [(.aastore, 6, 0, 0, 0)] = true := by decide +kernel
theorem ck_To_init_96_62 : ia_cks 10 1 true prog_11_method_1_code 96 [(.dup, 0, 0, 0, 0), (.iconst 1, 0, 0, 0, 0)] = true := by decide +kernel
theorem dc_To_init_98 : decode prog_11_method_1_code 98 = .ok (.new 37, 3) := by decide +kernel
theorem kt_10_43_0 : ∀ e ∈ [65, 119, 172, 225], kd_D (e + 43) = (6, 0) := by decide +kernel
theorem kt_10_43 {e : Nat} (pe : (kd_D e).1 = 10) : kd_D (e + 43) = (6, 0) := kt_10_43_0 e (kn_10 pe)
theorem ck_To_init_101_66 : ia_cks 10 1 true prog_11_method_1_code 101 [(.dup, 0, 0, 0, 0)] = true := by decide +kernel
theorem dc_To_init_102 : decode prog_11_method_1_code 102 = .ok (.invokespecial 39, 3) := by decide +kernel
theorem ck_To_init_105_68 : ia_cks 10 1 true prog_11_method_1_code 105 [(.aastore, 6, 0, 0, 0)] = true := by decide +kernel
theorem ck_To_init_106_69 : ia_cks 10 1 true prog_11_method_1_code 106 [(.dup, 0, 0, 0, 0), (.iconst 2, 0, 0, 0, 0)] = true := by decide +kernel
theorem dc_To_init_108 : decode prog_11_method_1_code 108 = .ok (.new 37, 3) := by decide +kernel
theorem kt_10_48_0 : ∀ e ∈ [65, 119, 172, 225], kd_D (e + 48) = (6, 0) := by decide +kernel
theorem kt_10_48 {e : Nat} (pe : (kd_D e).1 = 10) : kd_D (e + 48) = (6, 0) := kt_10_48_0 e (kn_10 pe)
theorem ck_To_init_111_73 : ia_cks 10 1 true prog_11_method_1_code 111 [(.dup, 0, 0, 0, 0)] = true := by decide +kernel
theorem dc_To_init_112 : decode prog_11_method_1_code 112 = .ok (.invokespecial 39, 3) := by decide +kernel
theorem ck_To_init_115_75 : ia_cks 10 1 true prog_11_method_1_code 115 [(.aastore, 6, 0, 0, 0)] = true := by decide +kernel
theorem ck_To_init_116_76 : ia_cks 10 1 true prog_11_method_1_code 116 [(.putfield 40, 10, 7, 2, 0)] = true := by decide +kernel
theorem dc_To_init_119 : decode prog_11_method_1_code 119 = .ok (.return_, 1) := by decide +kernel
theorem rdo_10 (k f : Nat) (q : rd_o 10 k = some f) : (k = 0 ∧ f = 1) ∨ (k = 4 ∧ f = 2) ∨ (k = 5 ∧ f = 3) ∨ (k = 6 ∧ f = 28) ∨ (k = 7 ∧ f = 37) := by
  unfold rd_o at q
  split at q <;> simp_all
theorem rdc_10 (k f : Nat) (q : rd_c 10 k = some f) : False := by
  unfold rd_c at q
  split at q <;> simp_all
set_option maxHeartbeats 8000000 in
theorem mc_To_init (d : Nat) {a : Nat} (pe : (kd_D a).1 = 10) {S : List Nat} {w : ia_O0} {h : ia_H} (hh : hc_ (a + 1) (a :: S) w h) (z : ∀ k, ia_i h a k = 0) : ∃ h1, ia_Ev (d + 5) mm_To_init [.inr (.inr a)] h none h1 ∧ hc_ (a + 53) S w h1 ∧ hf_ a h h1 ∧ ((∀ k, k ≠ 3 → ia_i h1 a k = 0) ∧ ia_i h1 a 3 = (-1)) ∧ ((∀ k, ia_i h1 (a + 2) k = 0)) := by
  have ha : 64 ≤ a := ko_10 pe
  have hf0 : hf_ a h h := fun b hb => ⟨rfl, rfl, rfl⟩
  obtain ⟨h1, e1⟩ : ∃ x, x = ia_nw h 102 600 600 := ⟨_, rfl⟩
  have c1 : hc_ (a + 2) (a :: S) w h1 := by rw [e1]; exact hc_arr hh (kt_10_1 pe) (by decide) (by decide)
  have f1 : hf_ a h h1 := by rw [e1]; exact hf_nw hf0 (hc_le hh (Nat.le_add_right a _))
  have z0_1 : (∀ k, ia_i h1 a k = 0) := by rw [e1]; exact fun k => (nw_i (hc_ne hh (Nat.lt_add_of_pos_right (by decide))) (z k))
  obtain ⟨h2, e2⟩ : ∃ x, x = ia_wR h1 a 0 (a + 1) := ⟨_, rfl⟩
  have c2 : hc_ (a + 2) (a :: S) w h2 := by rw [e2]; exact hc_wR c1 List.mem_cons_self
  have f2 : hf_ a h h2 := by rw [e2]; exact hf_wR f1 (Nat.le_refl _)
  have z0_2 : (∀ k, ia_i h2 a k = 0) := by rw [e2]; exact z0_1
  have r0_0_2 : ia_r h2 a 0 = a + 1 := by rw [e2]; exact wR_s
  obtain ⟨h3, e3⟩ : ∃ x, x = ia_wI h2 a 3 (-1) := ⟨_, rfl⟩
  have c3 : hc_ (a + 2) (a :: S) w h3 := by rw [e3]; exact hc_wI c2 ha
  have f3 : hf_ a h h3 := by rw [e3]; exact hf_wI f2 (Nat.le_refl _)
  have r0_0_3 : ia_r h3 a 0 = a + 1 := by rw [e3]; exact r0_0_2
  have z0_3 : (∀ k, k ≠ 3 → ia_i h3 a k = 0) ∧ ia_i h3 a 3 = (-1) := by rw [e3]; exact ⟨fun k u0 => wI_j u0 (z0_2 k), wI_s⟩
  obtain ⟨h4, e4⟩ : ∃ x, x = ia_nw h3 100 3 3 := ⟨_, rfl⟩
  have c4 : hc_ (a + 3) (a :: S) w h4 := by rw [e4]; exact hc_arr c3 (kt_10_2 pe) (by decide) (by decide)
  have f4 : hf_ a h h4 := by rw [e4]; exact hf_nw f3 (hc_le c3 (Nat.le_add_right a _))
  have r0_0_4 : ia_r h4 a 0 = a + 1 := by rw [e4]; exact hn_r (hc_ne c3 (Nat.lt_add_of_pos_right (by decide))) r0_0_3
  have z0_4 : (∀ k, k ≠ 3 → ia_i h4 a k = 0) ∧ ia_i h4 a 3 = (-1) := by rw [e4]; exact ⟨fun k u0 => (nw_i (hc_ne c3 (Nat.lt_add_of_pos_right (by decide))) (z0_3.1 k u0)), (nw_i (hc_ne c3 (Nat.lt_add_of_pos_right (by decide))) z0_3.2)⟩
  have z2_4 : ∀ k, ia_i h4 (a + 2) k = 0 := by rw [e4, ← hc_at c3]; exact fun _ => ia_nw_i0
  obtain ⟨h5, e5⟩ : ∃ x, x = ia_wR h4 a 4 (a + 2) := ⟨_, rfl⟩
  have c5 : hc_ (a + 3) (a :: S) w h5 := by rw [e5]; exact hc_wR c4 List.mem_cons_self
  have f5 : hf_ a h h5 := by rw [e5]; exact hf_wR f4 (Nat.le_refl _)
  have r0_0_5 : ia_r h5 a 0 = a + 1 := by rw [e5]; exact hw_r (by decide) r0_0_4
  have z0_5 : (∀ k, k ≠ 3 → ia_i h5 a k = 0) ∧ ia_i h5 a 3 = (-1) := by rw [e5]; exact z0_4
  have z2_5 : (∀ k, ia_i h5 (a + 2) k = 0) := by rw [e5]; exact z2_4
  have r0_4_5 : ia_r h5 a 4 = a + 2 := by rw [e5]; exact wR_s
  obtain ⟨h6, e6⟩ : ∃ x, x = ia_nw h5 107 2 2 := ⟨_, rfl⟩
  have c6 : hc_ (a + 4) ((a + 3) :: a :: S) w h6 := by rw [e6]; exact hc_new c5 (kt_10_3 pe) rfl (by decide) (by decide)
  have f6 : hf_ a h h6 := by rw [e6]; exact hf_nw f5 (hc_le c5 (Nat.le_add_right a _))
  have r0_0_6 : ia_r h6 a 0 = a + 1 := by rw [e6]; exact hn_r (hc_ne c5 (Nat.lt_add_of_pos_right (by decide))) r0_0_5
  have r0_4_6 : ia_r h6 a 4 = a + 2 := by rw [e6]; exact hn_r (hc_ne c5 (Nat.lt_add_of_pos_right (by decide))) r0_4_5
  have z0_6 : (∀ k, k ≠ 3 → ia_i h6 a k = 0) ∧ ia_i h6 a 3 = (-1) := by rw [e6]; exact ⟨fun k u0 => (nw_i (hc_ne c5 (Nat.lt_add_of_pos_right (by decide))) (z0_5.1 k u0)), (nw_i (hc_ne c5 (Nat.lt_add_of_pos_right (by decide))) z0_5.2)⟩
  have z2_6 : (∀ k, ia_i h6 (a + 2) k = 0) := by rw [e6]; exact fun k => (nw_i (hc_ne c5 (Nat.add_lt_add_left (by decide) a)) (z2_5 k))
  obtain ⟨h7, e7⟩ : ∃ x, x = ia_nw h6 3 0 18 := ⟨_, rfl⟩
  have c7 : hc_ (a + 5) ((a + 4) :: (a + 3) :: a :: S) w h7 := by rw [e7]; exact hc_new c6 (kt_10_4 pe) rfl (by decide) (by decide)
  have f7 : hf_ a h h7 := by rw [e7]; exact hf_nw f6 (hc_le c6 (Nat.le_add_right a _))
  have r0_0_7 : ia_r h7 a 0 = a + 1 := by rw [e7]; exact hn_r (hc_ne c6 (Nat.lt_add_of_pos_right (by decide))) r0_0_6
  have r0_4_7 : ia_r h7 a 4 = a + 2 := by rw [e7]; exact hn_r (hc_ne c6 (Nat.lt_add_of_pos_right (by decide))) r0_4_6
  have z0_7 : (∀ k, k ≠ 3 → ia_i h7 a k = 0) ∧ ia_i h7 a 3 = (-1) := by rw [e7]; exact ⟨fun k u0 => (nw_i (hc_ne c6 (Nat.lt_add_of_pos_right (by decide))) (z0_6.1 k u0)), (nw_i (hc_ne c6 (Nat.lt_add_of_pos_right (by decide))) z0_6.2)⟩
  have z2_7 : (∀ k, ia_i h7 (a + 2) k = 0) := by rw [e7]; exact fun k => (nw_i (hc_ne c6 (Nat.add_lt_add_left (by decide) a)) (z2_6 k))
  obtain ⟨h8, v8, cc8, ff8⟩ := mc_La_init (d + 0) (congrArg Prod.fst (kt_10_4 pe)) c7
  have c8 : hc_ (a + 16) ((a + 3) :: a :: S) w h8 := by exact cc8
  have f8 : hf_ a h h8 := by exact hf_trans f7 ff8 (Nat.le_add_right a _)
  have r0_0_8 : ia_r h8 a 0 = a + 1 := by exact hf_r ff8 (Nat.lt_add_of_pos_right (by decide)) r0_0_7
  have r0_4_8 : ia_r h8 a 4 = a + 2 := by exact hf_r ff8 (Nat.lt_add_of_pos_right (by decide)) r0_4_7
  have z0_8 : (∀ k, k ≠ 3 → ia_i h8 a k = 0) ∧ ia_i h8 a 3 = (-1) := by exact ⟨fun k u0 => (hf_i ff8 (Nat.lt_add_of_pos_right (by decide)) (z0_7.1 k u0)), (hf_i ff8 (Nat.lt_add_of_pos_right (by decide)) z0_7.2)⟩
  have z2_8 : (∀ k, ia_i h8 (a + 2) k = 0) := by exact fun k => (hf_i ff8 (Nat.add_lt_add_left (by decide) a) (z2_7 k))
  obtain ⟨h9, e9⟩ : ∃ x, x = ia_wR h8 (a + 3) 0 (a + 4) := ⟨_, rfl⟩
  have c9 : hc_ (a + 16) ((a + 3) :: a :: S) w h9 := by rw [e9]; exact hc_wR c8 List.mem_cons_self
  have f9 : hf_ a h h9 := by rw [e9]; exact hf_wR f8 (Nat.le_add_right a _)
  have r0_0_9 : ia_r h9 a 0 = a + 1 := by rw [e9]; exact wR_o (Nat.ne_of_lt (Nat.lt_add_of_pos_right (by decide))) r0_0_8
  have r0_4_9 : ia_r h9 a 4 = a + 2 := by rw [e9]; exact wR_o (Nat.ne_of_lt (Nat.lt_add_of_pos_right (by decide))) r0_4_8
  have z0_9 : (∀ k, k ≠ 3 → ia_i h9 a k = 0) ∧ ia_i h9 a 3 = (-1) := by rw [e9]; exact z0_8
  have z2_9 : (∀ k, ia_i h9 (a + 2) k = 0) := by rw [e9]; exact z2_8
  have r3_0_9 : ia_r h9 (a + 3) 0 = a + 4 := by rw [e9]; exact wR_s
  obtain ⟨h10, e10⟩ : ∃ x, x = ia_nw h9 3 0 18 := ⟨_, rfl⟩
  have c10 : hc_ (a + 17) ((a + 16) :: (a + 3) :: a :: S) w h10 := by rw [e10]; exact hc_new c9 (kt_10_16 pe) rfl (by decide) (by decide)
  have f10 : hf_ a h h10 := by rw [e10]; exact hf_nw f9 (hc_le c9 (Nat.le_add_right a _))
  have r0_0_10 : ia_r h10 a 0 = a + 1 := by rw [e10]; exact hn_r (hc_ne c9 (Nat.lt_add_of_pos_right (by decide))) r0_0_9
  have r0_4_10 : ia_r h10 a 4 = a + 2 := by rw [e10]; exact hn_r (hc_ne c9 (Nat.lt_add_of_pos_right (by decide))) r0_4_9
  have r3_0_10 : ia_r h10 (a + 3) 0 = a + 4 := by rw [e10]; exact hn_r (hc_ne c9 (Nat.add_lt_add_left (by decide) a)) r3_0_9
  have z0_10 : (∀ k, k ≠ 3 → ia_i h10 a k = 0) ∧ ia_i h10 a 3 = (-1) := by rw [e10]; exact ⟨fun k u0 => (nw_i (hc_ne c9 (Nat.lt_add_of_pos_right (by decide))) (z0_9.1 k u0)), (nw_i (hc_ne c9 (Nat.lt_add_of_pos_right (by decide))) z0_9.2)⟩
  have z2_10 : (∀ k, ia_i h10 (a + 2) k = 0) := by rw [e10]; exact fun k => (nw_i (hc_ne c9 (Nat.add_lt_add_left (by decide) a)) (z2_9 k))
  obtain ⟨h11, v11, cc11, ff11⟩ := mc_La_init (d + 0) (congrArg Prod.fst (kt_10_16 pe)) c10
  have c11 : hc_ (a + 28) ((a + 3) :: a :: S) w h11 := by exact cc11
  have f11 : hf_ a h h11 := by exact hf_trans f10 ff11 (Nat.le_add_right a _)
  have r0_0_11 : ia_r h11 a 0 = a + 1 := by exact hf_r ff11 (Nat.lt_add_of_pos_right (by decide)) r0_0_10
  have r0_4_11 : ia_r h11 a 4 = a + 2 := by exact hf_r ff11 (Nat.lt_add_of_pos_right (by decide)) r0_4_10
  have r3_0_11 : ia_r h11 (a + 3) 0 = a + 4 := by exact hf_r ff11 (Nat.add_lt_add_left (by decide) a) r3_0_10
  have z0_11 : (∀ k, k ≠ 3 → ia_i h11 a k = 0) ∧ ia_i h11 a 3 = (-1) := by exact ⟨fun k u0 => (hf_i ff11 (Nat.lt_add_of_pos_right (by decide)) (z0_10.1 k u0)), (hf_i ff11 (Nat.lt_add_of_pos_right (by decide)) z0_10.2)⟩
  have z2_11 : (∀ k, ia_i h11 (a + 2) k = 0) := by exact fun k => (hf_i ff11 (Nat.add_lt_add_left (by decide) a) (z2_10 k))
  obtain ⟨h12, e12⟩ : ∃ x, x = ia_wR h11 (a + 3) 1 (a + 16) := ⟨_, rfl⟩
  have c12 : hc_ (a + 28) ((a + 3) :: a :: S) w h12 := by rw [e12]; exact hc_wR c11 List.mem_cons_self
  have f12 : hf_ a h h12 := by rw [e12]; exact hf_wR f11 (Nat.le_add_right a _)
  have r0_0_12 : ia_r h12 a 0 = a + 1 := by rw [e12]; exact wR_o (Nat.ne_of_lt (Nat.lt_add_of_pos_right (by decide))) r0_0_11
  have r0_4_12 : ia_r h12 a 4 = a + 2 := by rw [e12]; exact wR_o (Nat.ne_of_lt (Nat.lt_add_of_pos_right (by decide))) r0_4_11
  have r3_0_12 : ia_r h12 (a + 3) 0 = a + 4 := by rw [e12]; exact hw_r (by decide) r3_0_11
  have z0_12 : (∀ k, k ≠ 3 → ia_i h12 a k = 0) ∧ ia_i h12 a 3 = (-1) := by rw [e12]; exact z0_11
  have z2_12 : (∀ k, ia_i h12 (a + 2) k = 0) := by rw [e12]; exact z2_11
  have r3_1_12 : ia_r h12 (a + 3) 1 = a + 16 := by rw [e12]; exact wR_s
  have d12_3 : hc_ (a + 28) (a :: S) w h12 := by
    refine hc_fin c12 ?_ ?_ ?_ ?_ ?_
    · intro k f q
      rw [(kt_10_3 pe)] at q
      cases q
    · intro k f q
      rw [(kt_10_3 pe)] at q
      cases q
    · intro j f q1 q2
      rw [(kt_10_3 pe)] at q1 q2
      obtain rfl := Option.some.inj (show some 12 = some f from q1)
      rcases (show j = 0 ∨ j = 1 by have q2 : j < 2 := q2; omega) with rfl | rfl
      · exact r3_0_12
      · exact r3_1_12
    · intro q
      rw [(kt_10_3 pe)] at q
      cases q
    · intro q
      rw [(kt_10_3 pe)] at q
      cases q
  obtain ⟨h13, e13⟩ : ∃ x, x = ia_wR h12 a 5 (a + 3) := ⟨_, rfl⟩
  have c13 : hc_ (a + 28) (a :: S) w h13 := by rw [e13]; exact hc_wR d12_3 List.mem_cons_self
  have f13 : hf_ a h h13 := by rw [e13]; exact hf_wR f12 (Nat.le_refl _)
  have r0_0_13 : ia_r h13 a 0 = a + 1 := by rw [e13]; exact hw_r (by decide) r0_0_12
  have r0_4_13 : ia_r h13 a 4 = a + 2 := by rw [e13]; exact hw_r (by decide) r0_4_12
  have z0_13 : (∀ k, k ≠ 3 → ia_i h13 a k = 0) ∧ ia_i h13 a 3 = (-1) := by rw [e13]; exact z0_12
  have z2_13 : (∀ k, ia_i h13 (a + 2) k = 0) := by rw [e13]; exact z2_12
  have r0_5_13 : ia_r h13 a 5 = a + 3 := by rw [e13]; exact wR_s
  obtain ⟨h14, e14⟩ : ∃ x, x = ia_nw h13 108 2 2 := ⟨_, rfl⟩
  have c14 : hc_ (a + 29) ((a + 28) :: a :: S) w h14 := by rw [e14]; exact hc_new c13 (kt_10_28 pe) rfl (by decide) (by decide)
  have f14 : hf_ a h h14 := by rw [e14]; exact hf_nw f13 (hc_le c13 (Nat.le_add_right a _))
  have r0_0_14 : ia_r h14 a 0 = a + 1 := by rw [e14]; exact hn_r (hc_ne c13 (Nat.lt_add_of_pos_right (by decide))) r0_0_13
  have r0_4_14 : ia_r h14 a 4 = a + 2 := by rw [e14]; exact hn_r (hc_ne c13 (Nat.lt_add_of_pos_right (by decide))) r0_4_13
  have r0_5_14 : ia_r h14 a 5 = a + 3 := by rw [e14]; exact hn_r (hc_ne c13 (Nat.lt_add_of_pos_right (by decide))) r0_5_13
  have z0_14 : (∀ k, k ≠ 3 → ia_i h14 a k = 0) ∧ ia_i h14 a 3 = (-1) := by rw [e14]; exact ⟨fun k u0 => (nw_i (hc_ne c13 (Nat.lt_add_of_pos_right (by decide))) (z0_13.1 k u0)), (nw_i (hc_ne c13 (Nat.lt_add_of_pos_right (by decide))) z0_13.2)⟩
  have z2_14 : (∀ k, ia_i h14 (a + 2) k = 0) := by rw [e14]; exact fun k => (nw_i (hc_ne c13 (Nat.add_lt_add_left (by decide) a)) (z2_13 k))
  obtain ⟨h15, e15⟩ : ∃ x, x = ia_nw h14 4 0 9 := ⟨_, rfl⟩
  have c15 : hc_ (a + 30) ((a + 29) :: (a + 28) :: a :: S) w h15 := by rw [e15]; exact hc_new c14 (kt_10_29 pe) rfl (by decide) (by decide)
  have f15 : hf_ a h h15 := by rw [e15]; exact hf_nw f14 (hc_le c14 (Nat.le_add_right a _))
  have r0_0_15 : ia_r h15 a 0 = a + 1 := by rw [e15]; exact hn_r (hc_ne c14 (Nat.lt_add_of_pos_right (by decide))) r0_0_14
  have r0_4_15 : ia_r h15 a 4 = a + 2 := by rw [e15]; exact hn_r (hc_ne c14 (Nat.lt_add_of_pos_right (by decide))) r0_4_14
  have r0_5_15 : ia_r h15 a 5 = a + 3 := by rw [e15]; exact hn_r (hc_ne c14 (Nat.lt_add_of_pos_right (by decide))) r0_5_14
  have z0_15 : (∀ k, k ≠ 3 → ia_i h15 a k = 0) ∧ ia_i h15 a 3 = (-1) := by rw [e15]; exact ⟨fun k u0 => (nw_i (hc_ne c14 (Nat.lt_add_of_pos_right (by decide))) (z0_14.1 k u0)), (nw_i (hc_ne c14 (Nat.lt_add_of_pos_right (by decide))) z0_14.2)⟩
  have z2_15 : (∀ k, ia_i h15 (a + 2) k = 0) := by rw [e15]; exact fun k => (nw_i (hc_ne c14 (Nat.add_lt_add_left (by decide) a)) (z2_14 k))
  obtain ⟨h16, v16, cc16, ff16⟩ := mc_Lw_init (d + 2) (congrArg Prod.fst (kt_10_29 pe)) c15
  have c16 : hc_ (a + 33) ((a + 28) :: a :: S) w h16 := by exact cc16
  have f16 : hf_ a h h16 := by exact hf_trans f15 ff16 (Nat.le_add_right a _)
  have r0_0_16 : ia_r h16 a 0 = a + 1 := by exact hf_r ff16 (Nat.lt_add_of_pos_right (by decide)) r0_0_15
  have r0_4_16 : ia_r h16 a 4 = a + 2 := by exact hf_r ff16 (Nat.lt_add_of_pos_right (by decide)) r0_4_15
  have r0_5_16 : ia_r h16 a 5 = a + 3 := by exact hf_r ff16 (Nat.lt_add_of_pos_right (by decide)) r0_5_15
  have z0_16 : (∀ k, k ≠ 3 → ia_i h16 a k = 0) ∧ ia_i h16 a 3 = (-1) := by exact ⟨fun k u0 => (hf_i ff16 (Nat.lt_add_of_pos_right (by decide)) (z0_15.1 k u0)), (hf_i ff16 (Nat.lt_add_of_pos_right (by decide)) z0_15.2)⟩
  have z2_16 : (∀ k, ia_i h16 (a + 2) k = 0) := by exact fun k => (hf_i ff16 (Nat.add_lt_add_left (by decide) a) (z2_15 k))
  obtain ⟨h17, e17⟩ : ∃ x, x = ia_wR h16 (a + 28) 0 (a + 29) := ⟨_, rfl⟩
  have c17 : hc_ (a + 33) ((a + 28) :: a :: S) w h17 := by rw [e17]; exact hc_wR c16 List.mem_cons_self
  have f17 : hf_ a h h17 := by rw [e17]; exact hf_wR f16 (Nat.le_add_right a _)
  have r0_0_17 : ia_r h17 a 0 = a + 1 := by rw [e17]; exact wR_o (Nat.ne_of_lt (Nat.lt_add_of_pos_right (by decide))) r0_0_16
  have r0_4_17 : ia_r h17 a 4 = a + 2 := by rw [e17]; exact wR_o (Nat.ne_of_lt (Nat.lt_add_of_pos_right (by decide))) r0_4_16
  have r0_5_17 : ia_r h17 a 5 = a + 3 := by rw [e17]; exact wR_o (Nat.ne_of_lt (Nat.lt_add_of_pos_right (by decide))) r0_5_16
  have z0_17 : (∀ k, k ≠ 3 → ia_i h17 a k = 0) ∧ ia_i h17 a 3 = (-1) := by rw [e17]; exact z0_16
  have z2_17 : (∀ k, ia_i h17 (a + 2) k = 0) := by rw [e17]; exact z2_16
  have r28_0_17 : ia_r h17 (a + 28) 0 = a + 29 := by rw [e17]; exact wR_s
  obtain ⟨h18, e18⟩ : ∃ x, x = ia_nw h17 4 0 9 := ⟨_, rfl⟩
  have c18 : hc_ (a + 34) ((a + 33) :: (a + 28) :: a :: S) w h18 := by rw [e18]; exact hc_new c17 (kt_10_33 pe) rfl (by decide) (by decide)
  have f18 : hf_ a h h18 := by rw [e18]; exact hf_nw f17 (hc_le c17 (Nat.le_add_right a _))
  have r0_0_18 : ia_r h18 a 0 = a + 1 := by rw [e18]; exact hn_r (hc_ne c17 (Nat.lt_add_of_pos_right (by decide))) r0_0_17
  have r0_4_18 : ia_r h18 a 4 = a + 2 := by rw [e18]; exact hn_r (hc_ne c17 (Nat.lt_add_of_pos_right (by decide))) r0_4_17
  have r0_5_18 : ia_r h18 a 5 = a + 3 := by rw [e18]; exact hn_r (hc_ne c17 (Nat.lt_add_of_pos_right (by decide))) r0_5_17
  have r28_0_18 : ia_r h18 (a + 28) 0 = a + 29 := by rw [e18]; exact hn_r (hc_ne c17 (Nat.add_lt_add_left (by decide) a)) r28_0_17
  have z0_18 : (∀ k, k ≠ 3 → ia_i h18 a k = 0) ∧ ia_i h18 a 3 = (-1) := by rw [e18]; exact ⟨fun k u0 => (nw_i (hc_ne c17 (Nat.lt_add_of_pos_right (by decide))) (z0_17.1 k u0)), (nw_i (hc_ne c17 (Nat.lt_add_of_pos_right (by decide))) z0_17.2)⟩
  have z2_18 : (∀ k, ia_i h18 (a + 2) k = 0) := by rw [e18]; exact fun k => (nw_i (hc_ne c17 (Nat.add_lt_add_left (by decide) a)) (z2_17 k))
  obtain ⟨h19, v19, cc19, ff19⟩ := mc_Lw_init (d + 2) (congrArg Prod.fst (kt_10_33 pe)) c18
  have c19 : hc_ (a + 37) ((a + 28) :: a :: S) w h19 := by exact cc19
  have f19 : hf_ a h h19 := by exact hf_trans f18 ff19 (Nat.le_add_right a _)
  have r0_0_19 : ia_r h19 a 0 = a + 1 := by exact hf_r ff19 (Nat.lt_add_of_pos_right (by decide)) r0_0_18
  have r0_4_19 : ia_r h19 a 4 = a + 2 := by exact hf_r ff19 (Nat.lt_add_of_pos_right (by decide)) r0_4_18
  have r0_5_19 : ia_r h19 a 5 = a + 3 := by exact hf_r ff19 (Nat.lt_add_of_pos_right (by decide)) r0_5_18
  have r28_0_19 : ia_r h19 (a + 28) 0 = a + 29 := by exact hf_r ff19 (Nat.add_lt_add_left (by decide) a) r28_0_18
  have z0_19 : (∀ k, k ≠ 3 → ia_i h19 a k = 0) ∧ ia_i h19 a 3 = (-1) := by exact ⟨fun k u0 => (hf_i ff19 (Nat.lt_add_of_pos_right (by decide)) (z0_18.1 k u0)), (hf_i ff19 (Nat.lt_add_of_pos_right (by decide)) z0_18.2)⟩
  have z2_19 : (∀ k, ia_i h19 (a + 2) k = 0) := by exact fun k => (hf_i ff19 (Nat.add_lt_add_left (by decide) a) (z2_18 k))
  obtain ⟨h20, e20⟩ : ∃ x, x = ia_wR h19 (a + 28) 1 (a + 33) := ⟨_, rfl⟩
  have c20 : hc_ (a + 37) ((a + 28) :: a :: S) w h20 := by rw [e20]; exact hc_wR c19 List.mem_cons_self
  have f20 : hf_ a h h20 := by rw [e20]; exact hf_wR f19 (Nat.le_add_right a _)
  have r0_0_20 : ia_r h20 a 0 = a + 1 := by rw [e20]; exact wR_o (Nat.ne_of_lt (Nat.lt_add_of_pos_right (by decide))) r0_0_19
  have r0_4_20 : ia_r h20 a 4 = a + 2 := by rw [e20]; exact wR_o (Nat.ne_of_lt (Nat.lt_add_of_pos_right (by decide))) r0_4_19
  have r0_5_20 : ia_r h20 a 5 = a + 3 := by rw [e20]; exact wR_o (Nat.ne_of_lt (Nat.lt_add_of_pos_right (by decide))) r0_5_19
  have r28_0_20 : ia_r h20 (a + 28) 0 = a + 29 := by rw [e20]; exact hw_r (by decide) r28_0_19
  have z0_20 : (∀ k, k ≠ 3 → ia_i h20 a k = 0) ∧ ia_i h20 a 3 = (-1) := by rw [e20]; exact z0_19
  have z2_20 : (∀ k, ia_i h20 (a + 2) k = 0) := by rw [e20]; exact z2_19
  have r28_1_20 : ia_r h20 (a + 28) 1 = a + 33 := by rw [e20]; exact wR_s
  have d20_28 : hc_ (a + 37) (a :: S) w h20 := by
    refine hc_fin c20 ?_ ?_ ?_ ?_ ?_
    · intro k f q
      rw [(kt_10_28 pe)] at q
      cases q
    · intro k f q
      rw [(kt_10_28 pe)] at q
      cases q
    · intro j f q1 q2
      rw [(kt_10_28 pe)] at q1 q2
      obtain rfl := Option.some.inj (show some 4 = some f from q1)
      rcases (show j = 0 ∨ j = 1 by have q2 : j < 2 := q2; omega) with rfl | rfl
      · exact r28_0_20
      · exact r28_1_20
    · intro q
      rw [(kt_10_28 pe)] at q
      cases q
    · intro q
      rw [(kt_10_28 pe)] at q
      cases q
  obtain ⟨h21, e21⟩ : ∃ x, x = ia_wR h20 a 6 (a + 28) := ⟨_, rfl⟩
  have c21 : hc_ (a + 37) (a :: S) w h21 := by rw [e21]; exact hc_wR d20_28 List.mem_cons_self
  have f21 : hf_ a h h21 := by rw [e21]; exact hf_wR f20 (Nat.le_refl _)
  have r0_0_21 : ia_r h21 a 0 = a + 1 := by rw [e21]; exact hw_r (by decide) r0_0_20
  have r0_4_21 : ia_r h21 a 4 = a + 2 := by rw [e21]; exact hw_r (by decide) r0_4_20
  have r0_5_21 : ia_r h21 a 5 = a + 3 := by rw [e21]; exact hw_r (by decide) r0_5_20
  have z0_21 : (∀ k, k ≠ 3 → ia_i h21 a k = 0) ∧ ia_i h21 a 3 = (-1) := by rw [e21]; exact z0_20
  have z2_21 : (∀ k, ia_i h21 (a + 2) k = 0) := by rw [e21]; exact z2_20
  have r0_6_21 : ia_r h21 a 6 = a + 28 := by rw [e21]; exact wR_s
  obtain ⟨h22, e22⟩ : ∃ x, x = ia_nw h21 110 3 3 := ⟨_, rfl⟩
  have c22 : hc_ (a + 38) ((a + 37) :: a :: S) w h22 := by rw [e22]; exact hc_new c21 (kt_10_37 pe) rfl (by decide) (by decide)
  have f22 : hf_ a h h22 := by rw [e22]; exact hf_nw f21 (hc_le c21 (Nat.le_add_right a _))
  have r0_0_22 : ia_r h22 a 0 = a + 1 := by rw [e22]; exact hn_r (hc_ne c21 (Nat.lt_add_of_pos_right (by decide))) r0_0_21
  have r0_4_22 : ia_r h22 a 4 = a + 2 := by rw [e22]; exact hn_r (hc_ne c21 (Nat.lt_add_of_pos_right (by decide))) r0_4_21
  have r0_5_22 : ia_r h22 a 5 = a + 3 := by rw [e22]; exact hn_r (hc_ne c21 (Nat.lt_add_of_pos_right (by decide))) r0_5_21
  have r0_6_22 : ia_r h22 a 6 = a + 28 := by rw [e22]; exact hn_r (hc_ne c21 (Nat.lt_add_of_pos_right (by decide))) r0_6_21
  have z0_22 : (∀ k, k ≠ 3 → ia_i h22 a k = 0) ∧ ia_i h22 a 3 = (-1) := by rw [e22]; exact ⟨fun k u0 => (nw_i (hc_ne c21 (Nat.lt_add_of_pos_right (by decide))) (z0_21.1 k u0)), (nw_i (hc_ne c21 (Nat.lt_add_of_pos_right (by decide))) z0_21.2)⟩
  have z2_22 : (∀ k, ia_i h22 (a + 2) k = 0) := by rw [e22]; exact fun k => (nw_i (hc_ne c21 (Nat.add_lt_add_left (by decide) a)) (z2_21 k))
  obtain ⟨h23, e23⟩ : ∃ x, x = ia_nw h22 6 0 5 := ⟨_, rfl⟩
  have c23 : hc_ (a + 39) ((a + 38) :: (a + 37) :: a :: S) w h23 := by rw [e23]; exact hc_new c22 (kt_10_38 pe) rfl (by decide) (by decide)
  have f23 : hf_ a h h23 := by rw [e23]; exact hf_nw f22 (hc_le c22 (Nat.le_add_right a _))
  have r0_0_23 : ia_r h23 a 0 = a + 1 := by rw [e23]; exact hn_r (hc_ne c22 (Nat.lt_add_of_pos_right (by decide))) r0_0_22
  have r0_4_23 : ia_r h23 a 4 = a + 2 := by rw [e23]; exact hn_r (hc_ne c22 (Nat.lt_add_of_pos_right (by decide))) r0_4_22
  have r0_5_23 : ia_r h23 a 5 = a + 3 := by rw [e23]; exact hn_r (hc_ne c22 (Nat.lt_add_of_pos_right (by decide))) r0_5_22
  have r0_6_23 : ia_r h23 a 6 = a + 28 := by rw [e23]; exact hn_r (hc_ne c22 (Nat.lt_add_of_pos_right (by decide))) r0_6_22
  have z0_23 : (∀ k, k ≠ 3 → ia_i h23 a k = 0) ∧ ia_i h23 a 3 = (-1) := by rw [e23]; exact ⟨fun k u0 => (nw_i (hc_ne c22 (Nat.lt_add_of_pos_right (by decide))) (z0_22.1 k u0)), (nw_i (hc_ne c22 (Nat.lt_add_of_pos_right (by decide))) z0_22.2)⟩
  have z2_23 : (∀ k, ia_i h23 (a + 2) k = 0) := by rw [e23]; exact fun k => (nw_i (hc_ne c22 (Nat.add_lt_add_left (by decide) a)) (z2_22 k))
  obtain ⟨h24, v24, cc24, ff24⟩ := mc_Pl_init (d + 4) (congrArg Prod.fst (kt_10_38 pe)) c23
  have c24 : hc_ (a + 43) ((a + 37) :: a :: S) w h24 := by exact cc24
  have f24 : hf_ a h h24 := by exact hf_trans f23 ff24 (Nat.le_add_right a _)
  have r0_0_24 : ia_r h24 a 0 = a + 1 := by exact hf_r ff24 (Nat.lt_add_of_pos_right (by decide)) r0_0_23
  have r0_4_24 : ia_r h24 a 4 = a + 2 := by exact hf_r ff24 (Nat.lt_add_of_pos_right (by decide)) r0_4_23
  have r0_5_24 : ia_r h24 a 5 = a + 3 := by exact hf_r ff24 (Nat.lt_add_of_pos_right (by decide)) r0_5_23
  have r0_6_24 : ia_r h24 a 6 = a + 28 := by exact hf_r ff24 (Nat.lt_add_of_pos_right (by decide)) r0_6_23
  have z0_24 : (∀ k, k ≠ 3 → ia_i h24 a k = 0) ∧ ia_i h24 a 3 = (-1) := by exact ⟨fun k u0 => (hf_i ff24 (Nat.lt_add_of_pos_right (by decide)) (z0_23.1 k u0)), (hf_i ff24 (Nat.lt_add_of_pos_right (by decide)) z0_23.2)⟩
  have z2_24 : (∀ k, ia_i h24 (a + 2) k = 0) := by exact fun k => (hf_i ff24 (Nat.add_lt_add_left (by decide) a) (z2_23 k))
  obtain ⟨h25, e25⟩ : ∃ x, x = ia_wR h24 (a + 37) 0 (a + 38) := ⟨_, rfl⟩
  have c25 : hc_ (a + 43) ((a + 37) :: a :: S) w h25 := by rw [e25]; exact hc_wR c24 List.mem_cons_self
  have f25 : hf_ a h h25 := by rw [e25]; exact hf_wR f24 (Nat.le_add_right a _)
  have r0_0_25 : ia_r h25 a 0 = a + 1 := by rw [e25]; exact wR_o (Nat.ne_of_lt (Nat.lt_add_of_pos_right (by decide))) r0_0_24
  have r0_4_25 : ia_r h25 a 4 = a + 2 := by rw [e25]; exact wR_o (Nat.ne_of_lt (Nat.lt_add_of_pos_right (by decide))) r0_4_24
  have r0_5_25 : ia_r h25 a 5 = a + 3 := by rw [e25]; exact wR_o (Nat.ne_of_lt (Nat.lt_add_of_pos_right (by decide))) r0_5_24
  have r0_6_25 : ia_r h25 a 6 = a + 28 := by rw [e25]; exact wR_o (Nat.ne_of_lt (Nat.lt_add_of_pos_right (by decide))) r0_6_24
  have z0_25 : (∀ k, k ≠ 3 → ia_i h25 a k = 0) ∧ ia_i h25 a 3 = (-1) := by rw [e25]; exact z0_24
  have z2_25 : (∀ k, ia_i h25 (a + 2) k = 0) := by rw [e25]; exact z2_24
  have r37_0_25 : ia_r h25 (a + 37) 0 = a + 38 := by rw [e25]; exact wR_s
  obtain ⟨h26, e26⟩ : ∃ x, x = ia_nw h25 6 0 5 := ⟨_, rfl⟩
  have c26 : hc_ (a + 44) ((a + 43) :: (a + 37) :: a :: S) w h26 := by rw [e26]; exact hc_new c25 (kt_10_43 pe) rfl (by decide) (by decide)
  have f26 : hf_ a h h26 := by rw [e26]; exact hf_nw f25 (hc_le c25 (Nat.le_add_right a _))
  have r0_0_26 : ia_r h26 a 0 = a + 1 := by rw [e26]; exact hn_r (hc_ne c25 (Nat.lt_add_of_pos_right (by decide))) r0_0_25
  have r0_4_26 : ia_r h26 a 4 = a + 2 := by rw [e26]; exact hn_r (hc_ne c25 (Nat.lt_add_of_pos_right (by decide))) r0_4_25
  have r0_5_26 : ia_r h26 a 5 = a + 3 := by rw [e26]; exact hn_r (hc_ne c25 (Nat.lt_add_of_pos_right (by decide))) r0_5_25
  have r0_6_26 : ia_r h26 a 6 = a + 28 := by rw [e26]; exact hn_r (hc_ne c25 (Nat.lt_add_of_pos_right (by decide))) r0_6_25
  have r37_0_26 : ia_r h26 (a + 37) 0 = a + 38 := by rw [e26]; exact hn_r (hc_ne c25 (Nat.add_lt_add_left (by decide) a)) r37_0_25
  have z0_26 : (∀ k, k ≠ 3 → ia_i h26 a k = 0) ∧ ia_i h26 a 3 = (-1) := by rw [e26]; exact ⟨fun k u0 => (nw_i (hc_ne c25 (Nat.lt_add_of_pos_right (by decide))) (z0_25.1 k u0)), (nw_i (hc_ne c25 (Nat.lt_add_of_pos_right (by decide))) z0_25.2)⟩
  have z2_26 : (∀ k, ia_i h26 (a + 2) k = 0) := by rw [e26]; exact fun k => (nw_i (hc_ne c25 (Nat.add_lt_add_left (by decide) a)) (z2_25 k))
  obtain ⟨h27, v27, cc27, ff27⟩ := mc_Pl_init (d + 4) (congrArg Prod.fst (kt_10_43 pe)) c26
  have c27 : hc_ (a + 48) ((a + 37) :: a :: S) w h27 := by exact cc27
  have f27 : hf_ a h h27 := by exact hf_trans f26 ff27 (Nat.le_add_right a _)
  have r0_0_27 : ia_r h27 a 0 = a + 1 := by exact hf_r ff27 (Nat.lt_add_of_pos_right (by decide)) r0_0_26
  have r0_4_27 : ia_r h27 a 4 = a + 2 := by exact hf_r ff27 (Nat.lt_add_of_pos_right (by decide)) r0_4_26
  have r0_5_27 : ia_r h27 a 5 = a + 3 := by exact hf_r ff27 (Nat.lt_add_of_pos_right (by decide)) r0_5_26
  have r0_6_27 : ia_r h27 a 6 = a + 28 := by exact hf_r ff27 (Nat.lt_add_of_pos_right (by decide)) r0_6_26
  have r37_0_27 : ia_r h27 (a + 37) 0 = a + 38 := by exact hf_r ff27 (Nat.add_lt_add_left (by decide) a) r37_0_26
  have z0_27 : (∀ k, k ≠ 3 → ia_i h27 a k = 0) ∧ ia_i h27 a 3 = (-1) := by exact ⟨fun k u0 => (hf_i ff27 (Nat.lt_add_of_pos_right (by decide)) (z0_26.1 k u0)), (hf_i ff27 (Nat.lt_add_of_pos_right (by decide)) z0_26.2)⟩
  have z2_27 : (∀ k, ia_i h27 (a + 2) k = 0) := by exact fun k => (hf_i ff27 (Nat.add_lt_add_left (by decide) a) (z2_26 k))
  obtain ⟨h28, e28⟩ : ∃ x, x = ia_wR h27 (a + 37) 1 (a + 43) := ⟨_, rfl⟩
  have c28 : hc_ (a + 48) ((a + 37) :: a :: S) w h28 := by rw [e28]; exact hc_wR c27 List.mem_cons_self
  have f28 : hf_ a h h28 := by rw [e28]; exact hf_wR f27 (Nat.le_add_right a _)
  have r0_0_28 : ia_r h28 a 0 = a + 1 := by rw [e28]; exact wR_o (Nat.ne_of_lt (Nat.lt_add_of_pos_right (by decide))) r0_0_27
  have r0_4_28 : ia_r h28 a 4 = a + 2 := by rw [e28]; exact wR_o (Nat.ne_of_lt (Nat.lt_add_of_pos_right (by decide))) r0_4_27
  have r0_5_28 : ia_r h28 a 5 = a + 3 := by rw [e28]; exact wR_o (Nat.ne_of_lt (Nat.lt_add_of_pos_right (by decide))) r0_5_27
  have r0_6_28 : ia_r h28 a 6 = a + 28 := by rw [e28]; exact wR_o (Nat.ne_of_lt (Nat.lt_add_of_pos_right (by decide))) r0_6_27
  have r37_0_28 : ia_r h28 (a + 37) 0 = a + 38 := by rw [e28]; exact hw_r (by decide) r37_0_27
  have z0_28 : (∀ k, k ≠ 3 → ia_i h28 a k = 0) ∧ ia_i h28 a 3 = (-1) := by rw [e28]; exact z0_27
  have z2_28 : (∀ k, ia_i h28 (a + 2) k = 0) := by rw [e28]; exact z2_27
  have r37_1_28 : ia_r h28 (a + 37) 1 = a + 43 := by rw [e28]; exact wR_s
  obtain ⟨h29, e29⟩ : ∃ x, x = ia_nw h28 6 0 5 := ⟨_, rfl⟩
  have c29 : hc_ (a + 49) ((a + 48) :: (a + 37) :: a :: S) w h29 := by rw [e29]; exact hc_new c28 (kt_10_48 pe) rfl (by decide) (by decide)
  have f29 : hf_ a h h29 := by rw [e29]; exact hf_nw f28 (hc_le c28 (Nat.le_add_right a _))
  have r0_0_29 : ia_r h29 a 0 = a + 1 := by rw [e29]; exact hn_r (hc_ne c28 (Nat.lt_add_of_pos_right (by decide))) r0_0_28
  have r0_4_29 : ia_r h29 a 4 = a + 2 := by rw [e29]; exact hn_r (hc_ne c28 (Nat.lt_add_of_pos_right (by decide))) r0_4_28
  have r0_5_29 : ia_r h29 a 5 = a + 3 := by rw [e29]; exact hn_r (hc_ne c28 (Nat.lt_add_of_pos_right (by decide))) r0_5_28
  have r0_6_29 : ia_r h29 a 6 = a + 28 := by rw [e29]; exact hn_r (hc_ne c28 (Nat.lt_add_of_pos_right (by decide))) r0_6_28
  have r37_0_29 : ia_r h29 (a + 37) 0 = a + 38 := by rw [e29]; exact hn_r (hc_ne c28 (Nat.add_lt_add_left (by decide) a)) r37_0_28
  have r37_1_29 : ia_r h29 (a + 37) 1 = a + 43 := by rw [e29]; exact hn_r (hc_ne c28 (Nat.add_lt_add_left (by decide) a)) r37_1_28
  have z0_29 : (∀ k, k ≠ 3 → ia_i h29 a k = 0) ∧ ia_i h29 a 3 = (-1) := by rw [e29]; exact ⟨fun k u0 => (nw_i (hc_ne c28 (Nat.lt_add_of_pos_right (by decide))) (z0_28.1 k u0)), (nw_i (hc_ne c28 (Nat.lt_add_of_pos_right (by decide))) z0_28.2)⟩
  have z2_29 : (∀ k, ia_i h29 (a + 2) k = 0) := by rw [e29]; exact fun k => (nw_i (hc_ne c28 (Nat.add_lt_add_left (by decide) a)) (z2_28 k))
  obtain ⟨h30, v30, cc30, ff30⟩ := mc_Pl_init (d + 4) (congrArg Prod.fst (kt_10_48 pe)) c29
  have c30 : hc_ (a + 53) ((a + 37) :: a :: S) w h30 := by exact cc30
  have f30 : hf_ a h h30 := by exact hf_trans f29 ff30 (Nat.le_add_right a _)
  have r0_0_30 : ia_r h30 a 0 = a + 1 := by exact hf_r ff30 (Nat.lt_add_of_pos_right (by decide)) r0_0_29
  have r0_4_30 : ia_r h30 a 4 = a + 2 := by exact hf_r ff30 (Nat.lt_add_of_pos_right (by decide)) r0_4_29
  have r0_5_30 : ia_r h30 a 5 = a + 3 := by exact hf_r ff30 (Nat.lt_add_of_pos_right (by decide)) r0_5_29
  have r0_6_30 : ia_r h30 a 6 = a + 28 := by exact hf_r ff30 (Nat.lt_add_of_pos_right (by decide)) r0_6_29
  have r37_0_30 : ia_r h30 (a + 37) 0 = a + 38 := by exact hf_r ff30 (Nat.add_lt_add_left (by decide) a) r37_0_29
  have r37_1_30 : ia_r h30 (a + 37) 1 = a + 43 := by exact hf_r ff30 (Nat.add_lt_add_left (by decide) a) r37_1_29
  have z0_30 : (∀ k, k ≠ 3 → ia_i h30 a k = 0) ∧ ia_i h30 a 3 = (-1) := by exact ⟨fun k u0 => (hf_i ff30 (Nat.lt_add_of_pos_right (by decide)) (z0_29.1 k u0)), (hf_i ff30 (Nat.lt_add_of_pos_right (by decide)) z0_29.2)⟩
  have z2_30 : (∀ k, ia_i h30 (a + 2) k = 0) := by exact fun k => (hf_i ff30 (Nat.add_lt_add_left (by decide) a) (z2_29 k))
  obtain ⟨h31, e31⟩ : ∃ x, x = ia_wR h30 (a + 37) 2 (a + 48) := ⟨_, rfl⟩
  have c31 : hc_ (a + 53) ((a + 37) :: a :: S) w h31 := by rw [e31]; exact hc_wR c30 List.mem_cons_self
  have f31 : hf_ a h h31 := by rw [e31]; exact hf_wR f30 (Nat.le_add_right a _)
  have r0_0_31 : ia_r h31 a 0 = a + 1 := by rw [e31]; exact wR_o (Nat.ne_of_lt (Nat.lt_add_of_pos_right (by decide))) r0_0_30
  have r0_4_31 : ia_r h31 a 4 = a + 2 := by rw [e31]; exact wR_o (Nat.ne_of_lt (Nat.lt_add_of_pos_right (by decide))) r0_4_30
  have r0_5_31 : ia_r h31 a 5 = a + 3 := by rw [e31]; exact wR_o (Nat.ne_of_lt (Nat.lt_add_of_pos_right (by decide))) r0_5_30
  have r0_6_31 : ia_r h31 a 6 = a + 28 := by rw [e31]; exact wR_o (Nat.ne_of_lt (Nat.lt_add_of_pos_right (by decide))) r0_6_30
  have r37_0_31 : ia_r h31 (a + 37) 0 = a + 38 := by rw [e31]; exact hw_r (by decide) r37_0_30
  have r37_1_31 : ia_r h31 (a + 37) 1 = a + 43 := by rw [e31]; exact hw_r (by decide) r37_1_30
  have z0_31 : (∀ k, k ≠ 3 → ia_i h31 a k = 0) ∧ ia_i h31 a 3 = (-1) := by rw [e31]; exact z0_30
  have z2_31 : (∀ k, ia_i h31 (a + 2) k = 0) := by rw [e31]; exact z2_30
  have r37_2_31 : ia_r h31 (a + 37) 2 = a + 48 := by rw [e31]; exact wR_s
  have d31_37 : hc_ (a + 53) (a :: S) w h31 := by
    refine hc_fin c31 ?_ ?_ ?_ ?_ ?_
    · intro k f q
      rw [(kt_10_37 pe)] at q
      cases q
    · intro k f q
      rw [(kt_10_37 pe)] at q
      cases q
    · intro j f q1 q2
      rw [(kt_10_37 pe)] at q1 q2
      obtain rfl := Option.some.inj (show some 5 = some f from q1)
      rcases (show j = 0 ∨ j = 1 ∨ j = 2 by have q2 : j < 3 := q2; omega) with rfl | rfl | rfl
      · exact r37_0_31
      · exact r37_1_31
      · exact r37_2_31
    · intro q
      rw [(kt_10_37 pe)] at q
      cases q
    · intro q
      rw [(kt_10_37 pe)] at q
      cases q
  obtain ⟨h32, e32⟩ : ∃ x, x = ia_wR h31 a 7 (a + 37) := ⟨_, rfl⟩
  have c32 : hc_ (a + 53) (a :: S) w h32 := by rw [e32]; exact hc_wR d31_37 List.mem_cons_self
  have f32 : hf_ a h h32 := by rw [e32]; exact hf_wR f31 (Nat.le_refl _)
  have r0_0_32 : ia_r h32 a 0 = a + 1 := by rw [e32]; exact hw_r (by decide) r0_0_31
  have r0_4_32 : ia_r h32 a 4 = a + 2 := by rw [e32]; exact hw_r (by decide) r0_4_31
  have r0_5_32 : ia_r h32 a 5 = a + 3 := by rw [e32]; exact hw_r (by decide) r0_5_31
  have r0_6_32 : ia_r h32 a 6 = a + 28 := by rw [e32]; exact hw_r (by decide) r0_6_31
  have z0_32 : (∀ k, k ≠ 3 → ia_i h32 a k = 0) ∧ ia_i h32 a 3 = (-1) := by rw [e32]; exact z0_31
  have z2_32 : (∀ k, ia_i h32 (a + 2) k = 0) := by rw [e32]; exact z2_31
  have r0_7_32 : ia_r h32 a 7 = a + 37 := by rw [e32]; exact wR_s
  have d32_0 : hc_ (a + 53) (S) w h32 := by
    refine hc_fin c32 ?_ ?_ ?_ ?_ ?_
    · intro k f q
      rw [pe] at q
      rcases rdo_10 k f q with ⟨rfl, rfl⟩ | ⟨rfl, rfl⟩ | ⟨rfl, rfl⟩ | ⟨rfl, rfl⟩ | ⟨rfl, rfl⟩
      · exact r0_0_32
      · exact r0_4_32
      · exact r0_5_32
      · exact r0_6_32
      · exact r0_7_32
    · intro k f q
      rw [pe] at q
      exact (rdc_10 k f q).elim
    · intro j f q
      rw [pe] at q
      cases q
    · intro q
      rw [pe] at q
      cases q
    · intro q
      rw [pe] at q
      cases q
  have cN : hc_ (a + 53) (S) w h32 := d32_0
  refine ⟨h32, ia_Ev_intro ok_To_init (hc_cap hh cN (Nat.add_le_add_left (by decide) a)).1 (hc_cap hh cN (Nat.add_le_add_left (by decide) a)).2 (Nat.le_of_ble_eq_true rfl) (fun K hK hret => ?_), cN, f32, z0_32, z2_32⟩
  show K 0 [some (.inr (.inr a))] [] h
  refine ia_go hK ck_To_init_0_0 ?_
  show K 1 [some (.inr (.inr a))] [.inr (.inr a)] h
  refine ia_obj hK (ia_tb_in (List.mem_of_getElem? (i := 167) (by decide +kernel)) rfl) dc_To_init_1 ha (Nat.le_of_ble_eq_true rfl) ?_
  show K 4 [some (.inr (.inr a))] [] h
  refine ia_go hK ck_To_init_4_2 ?_
  show K 8 [some (.inr (.inr a))] [.inl 600, .inr (.inr a)] h
  refine kw_arr hK (at_ := .byte) (k := 102) (ty := .byte) rfl (ia_tb_in (by decide +kernel) rfl) dc_To_init_8 (Or.inr (Or.inr (Or.inl ⟨rfl, rfl⟩))) ⟨by decide, by decide, by decide⟩ e1 (hc_at hh) (hc_cap c1 cN (Nat.add_le_add_left (by decide) a)) ?_
  show K 10 [some (.inr (.inr a))] [.inr (.inr (a + 1)), .inr (.inr a)] h1
  refine ia_go hK ck_To_init_10_6 ⟨hc_k c1 ha (Nat.lt_add_of_pos_right (by decide)) pe, ?_⟩
  show K 13 [some (.inr (.inr a))] [] (ia_wR h1 a 0 (a + 1))
  rw [← e2]
  refine ia_go hK ck_To_init_13_7 ⟨hc_k c2 ha (Nat.lt_add_of_pos_right (by decide)) pe, ?_⟩
  show K 18 [some (.inr (.inr a))] [] (ia_wI h2 a 3 (-1))
  rw [← e3]
  refine ia_go hK ck_To_init_18_8 ?_
  show K 20 [some (.inr (.inr a))] [.inl 3, .inr (.inr a)] h3
  refine kw_arr hK (at_ := .int) (k := 100) (ty := .int) rfl (ia_tb_in (by decide +kernel) rfl) dc_To_init_20 (Or.inl ⟨rfl, rfl⟩) ⟨by decide, by decide, by decide⟩ e4 (hc_at c3) (hc_cap c4 cN (Nat.add_le_add_left (by decide) a)) ?_
  show K 22 [some (.inr (.inr a))] [.inr (.inr (a + 2)), .inr (.inr a)] h4
  refine ia_go hK ck_To_init_22_12 ⟨hc_k c4 ha (Nat.lt_add_of_pos_right (by decide)) pe, ?_⟩
  show K 25 [some (.inr (.inr a))] [] (ia_wR h4 a 4 (a + 2))
  rw [← e5]
  refine ia_go hK ck_To_init_25_13 ?_
  show K 27 [some (.inr (.inr a))] [.inl 2, .inr (.inr a)] h5
  refine kw_newq hK (ci := 3) (k := 107) rfl (ia_tb_in (List.mem_of_getElem? (i := 168) (by decide +kernel)) rfl) dc_To_init_27 rfl ⟨by decide, by decide, by decide⟩ e6 (hc_at c5) (hc_cap c6 cN (Nat.add_le_add_left (by decide) a)) ?_
  show K 30 [some (.inr (.inr a))] [.inr (.inr (a + 3)), .inr (.inr a)] h6
  refine ia_go hK ck_To_init_30_17 ?_
  show K 32 [some (.inr (.inr a))] [.inl 0, .inr (.inr (a + 3)), .inr (.inr (a + 3)), .inr (.inr a)] h6
  refine kw_new hK (ci := 3) (by decide) (ia_tb_in (List.mem_of_getElem? (i := 168) (by decide +kernel)) rfl) (ia_tb_in (List.mem_of_getElem? (i := 170) (by decide +kernel)) rfl) (ia_tb_in (List.mem_of_getElem? (i := 135) (by decide +kernel)) rfl) dc_To_init_32 rfl e7 (hc_at c6) (hc_cap c7 cN (Nat.add_le_add_left (by decide) a)) ?_
  show K 35 [some (.inr (.inr a))] [.inr (.inr (a + 4)), .inl 0, .inr (.inr (a + 3)), .inr (.inr (a + 3)), .inr (.inr a)] h7
  refine ia_go hK ck_To_init_35_21 ?_
  show K 36 [some (.inr (.inr a))] [.inr (.inr (a + 4)), .inr (.inr (a + 4)), .inl 0, .inr (.inr (a + 3)), .inr (.inr (a + 3)), .inr (.inr a)] h7
  refine ia_callI hK mk_La_init lk_10_25 dc_To_init_36 (Nat.le_add_right_of_le ha) [] [.inr (.inr (a + 4)), .inl 0, .inr (.inr (a + 3)), .inr (.inr (a + 3)), .inr (.inr a)] rfl rfl (Nat.le_of_ble_eq_true rfl) v8 (hc_cap c8 cN (Nat.add_le_add_left (by decide) a)) ?_
  show K 39 [some (.inr (.inr a))] [.inr (.inr (a + 4)), .inl 0, .inr (.inr (a + 3)), .inr (.inr (a + 3)), .inr (.inr a)] h8
  refine ia_go hK ck_To_init_39_23 ⟨⟨(Nat.le_add_right_of_le ha), hc_k c8 (Nat.le_add_right_of_le ha) (Nat.add_lt_add_left (by decide) a) (congrArg Prod.fst (kt_10_3 pe)), hc_in c8 (Nat.le_add_right_of_le ha) (Nat.add_lt_add_left (by decide) a) (kt_10_3 pe) (by decide), hc_k c8 (Nat.le_add_right_of_le ha) (Nat.add_lt_add_left (by decide) a) (congrArg Prod.fst (kt_10_4 pe))⟩, ?_⟩
  show K 40 [some (.inr (.inr a))] [.inr (.inr (a + 3)), .inr (.inr a)] (ia_wR h8 (a + 3) 0 (a + 4))
  rw [← e9]
  refine ia_go hK ck_To_init_40_24 ?_
  show K 42 [some (.inr (.inr a))] [.inl 1, .inr (.inr (a + 3)), .inr (.inr (a + 3)), .inr (.inr a)] h9
  refine kw_new hK (ci := 3) (by decide) (ia_tb_in (List.mem_of_getElem? (i := 168) (by decide +kernel)) rfl) (ia_tb_in (List.mem_of_getElem? (i := 170) (by decide +kernel)) rfl) (ia_tb_in (List.mem_of_getElem? (i := 135) (by decide +kernel)) rfl) dc_To_init_42 rfl e10 (hc_at c9) (hc_cap c10 cN (Nat.add_le_add_left (by decide) a)) ?_
  show K 45 [some (.inr (.inr a))] [.inr (.inr (a + 16)), .inl 1, .inr (.inr (a + 3)), .inr (.inr (a + 3)), .inr (.inr a)] h10
  refine ia_go hK ck_To_init_45_28 ?_
  show K 46 [some (.inr (.inr a))] [.inr (.inr (a + 16)), .inr (.inr (a + 16)), .inl 1, .inr (.inr (a + 3)), .inr (.inr (a + 3)), .inr (.inr a)] h10
  refine ia_callI hK mk_La_init lk_10_25 dc_To_init_46 (Nat.le_add_right_of_le ha) [] [.inr (.inr (a + 16)), .inl 1, .inr (.inr (a + 3)), .inr (.inr (a + 3)), .inr (.inr a)] rfl rfl (Nat.le_of_ble_eq_true rfl) v11 (hc_cap c11 cN (Nat.add_le_add_left (by decide) a)) ?_
  show K 49 [some (.inr (.inr a))] [.inr (.inr (a + 16)), .inl 1, .inr (.inr (a + 3)), .inr (.inr (a + 3)), .inr (.inr a)] h11
  refine ia_go hK ck_To_init_49_30 ⟨⟨(Nat.le_add_right_of_le ha), hc_k c11 (Nat.le_add_right_of_le ha) (Nat.add_lt_add_left (by decide) a) (congrArg Prod.fst (kt_10_3 pe)), hc_in c11 (Nat.le_add_right_of_le ha) (Nat.add_lt_add_left (by decide) a) (kt_10_3 pe) (by decide), hc_k c11 (Nat.le_add_right_of_le ha) (Nat.add_lt_add_left (by decide) a) (congrArg Prod.fst (kt_10_16 pe))⟩, ?_⟩
  show K 50 [some (.inr (.inr a))] [.inr (.inr (a + 3)), .inr (.inr a)] (ia_wR h11 (a + 3) 1 (a + 16))
  rw [← e12]
  refine ia_go hK ck_To_init_50_31 ⟨hc_k d12_3 ha (Nat.lt_add_of_pos_right (by decide)) pe, ?_⟩
  show K 53 [some (.inr (.inr a))] [] (ia_wR h12 a 5 (a + 3))
  rw [← e13]
  refine ia_go hK ck_To_init_53_32 ?_
  show K 55 [some (.inr (.inr a))] [.inl 2, .inr (.inr a)] h13
  refine kw_newq hK (ci := 4) (k := 108) rfl (ia_tb_in (List.mem_of_getElem? (i := 299) (by decide +kernel)) rfl) dc_To_init_55 rfl ⟨by decide, by decide, by decide⟩ e14 (hc_at c13) (hc_cap c14 cN (Nat.add_le_add_left (by decide) a)) ?_
  show K 58 [some (.inr (.inr a))] [.inr (.inr (a + 28)), .inr (.inr a)] h14
  refine ia_go hK ck_To_init_58_36 ?_
  show K 60 [some (.inr (.inr a))] [.inl 0, .inr (.inr (a + 28)), .inr (.inr (a + 28)), .inr (.inr a)] h14
  refine kw_new hK (ci := 4) (by decide) (ia_tb_in (List.mem_of_getElem? (i := 299) (by decide +kernel)) rfl) (ia_tb_in (List.mem_of_getElem? (i := 301) (by decide +kernel)) rfl) (ia_tb_in (List.mem_of_getElem? (i := 137) (by decide +kernel)) rfl) dc_To_init_60 rfl e15 (hc_at c14) (hc_cap c15 cN (Nat.add_le_add_left (by decide) a)) ?_
  show K 63 [some (.inr (.inr a))] [.inr (.inr (a + 29)), .inl 0, .inr (.inr (a + 28)), .inr (.inr (a + 28)), .inr (.inr a)] h15
  refine ia_go hK ck_To_init_63_40 ?_
  show K 64 [some (.inr (.inr a))] [.inr (.inr (a + 29)), .inr (.inr (a + 29)), .inl 0, .inr (.inr (a + 28)), .inr (.inr (a + 28)), .inr (.inr a)] h15
  refine ia_callI hK mk_Lw_init lk_10_32 dc_To_init_64 (Nat.le_add_right_of_le ha) [] [.inr (.inr (a + 29)), .inl 0, .inr (.inr (a + 28)), .inr (.inr (a + 28)), .inr (.inr a)] rfl rfl (Nat.le_of_ble_eq_true rfl) v16 (hc_cap c16 cN (Nat.add_le_add_left (by decide) a)) ?_
  show K 67 [some (.inr (.inr a))] [.inr (.inr (a + 29)), .inl 0, .inr (.inr (a + 28)), .inr (.inr (a + 28)), .inr (.inr a)] h16
  refine ia_go hK ck_To_init_67_42 ⟨⟨(Nat.le_add_right_of_le ha), hc_k c16 (Nat.le_add_right_of_le ha) (Nat.add_lt_add_left (by decide) a) (congrArg Prod.fst (kt_10_28 pe)), hc_in c16 (Nat.le_add_right_of_le ha) (Nat.add_lt_add_left (by decide) a) (kt_10_28 pe) (by decide), hc_k c16 (Nat.le_add_right_of_le ha) (Nat.add_lt_add_left (by decide) a) (congrArg Prod.fst (kt_10_29 pe))⟩, ?_⟩
  show K 68 [some (.inr (.inr a))] [.inr (.inr (a + 28)), .inr (.inr a)] (ia_wR h16 (a + 28) 0 (a + 29))
  rw [← e17]
  refine ia_go hK ck_To_init_68_43 ?_
  show K 70 [some (.inr (.inr a))] [.inl 1, .inr (.inr (a + 28)), .inr (.inr (a + 28)), .inr (.inr a)] h17
  refine kw_new hK (ci := 4) (by decide) (ia_tb_in (List.mem_of_getElem? (i := 299) (by decide +kernel)) rfl) (ia_tb_in (List.mem_of_getElem? (i := 301) (by decide +kernel)) rfl) (ia_tb_in (List.mem_of_getElem? (i := 137) (by decide +kernel)) rfl) dc_To_init_70 rfl e18 (hc_at c17) (hc_cap c18 cN (Nat.add_le_add_left (by decide) a)) ?_
  show K 73 [some (.inr (.inr a))] [.inr (.inr (a + 33)), .inl 1, .inr (.inr (a + 28)), .inr (.inr (a + 28)), .inr (.inr a)] h18
  refine ia_go hK ck_To_init_73_47 ?_
  show K 74 [some (.inr (.inr a))] [.inr (.inr (a + 33)), .inr (.inr (a + 33)), .inl 1, .inr (.inr (a + 28)), .inr (.inr (a + 28)), .inr (.inr a)] h18
  refine ia_callI hK mk_Lw_init lk_10_32 dc_To_init_74 (Nat.le_add_right_of_le ha) [] [.inr (.inr (a + 33)), .inl 1, .inr (.inr (a + 28)), .inr (.inr (a + 28)), .inr (.inr a)] rfl rfl (Nat.le_of_ble_eq_true rfl) v19 (hc_cap c19 cN (Nat.add_le_add_left (by decide) a)) ?_
  show K 77 [some (.inr (.inr a))] [.inr (.inr (a + 33)), .inl 1, .inr (.inr (a + 28)), .inr (.inr (a + 28)), .inr (.inr a)] h19
  refine ia_go hK ck_To_init_77_49 ⟨⟨(Nat.le_add_right_of_le ha), hc_k c19 (Nat.le_add_right_of_le ha) (Nat.add_lt_add_left (by decide) a) (congrArg Prod.fst (kt_10_28 pe)), hc_in c19 (Nat.le_add_right_of_le ha) (Nat.add_lt_add_left (by decide) a) (kt_10_28 pe) (by decide), hc_k c19 (Nat.le_add_right_of_le ha) (Nat.add_lt_add_left (by decide) a) (congrArg Prod.fst (kt_10_33 pe))⟩, ?_⟩
  show K 78 [some (.inr (.inr a))] [.inr (.inr (a + 28)), .inr (.inr a)] (ia_wR h19 (a + 28) 1 (a + 33))
  rw [← e20]
  refine ia_go hK ck_To_init_78_50 ⟨hc_k d20_28 ha (Nat.lt_add_of_pos_right (by decide)) pe, ?_⟩
  show K 81 [some (.inr (.inr a))] [] (ia_wR h20 a 6 (a + 28))
  rw [← e21]
  refine ia_go hK ck_To_init_81_51 ?_
  show K 83 [some (.inr (.inr a))] [.inl 3, .inr (.inr a)] h21
  refine kw_newq hK (ci := 6) (k := 110) rfl (ia_tb_in (List.mem_of_getElem? (i := 354) (by decide +kernel)) rfl) dc_To_init_83 rfl ⟨by decide, by decide, by decide⟩ e22 (hc_at c21) (hc_cap c22 cN (Nat.add_le_add_left (by decide) a)) ?_
  show K 86 [some (.inr (.inr a))] [.inr (.inr (a + 37)), .inr (.inr a)] h22
  refine ia_go hK ck_To_init_86_55 ?_
  show K 88 [some (.inr (.inr a))] [.inl 0, .inr (.inr (a + 37)), .inr (.inr (a + 37)), .inr (.inr a)] h22
  refine kw_new hK (ci := 6) (by decide) (ia_tb_in (List.mem_of_getElem? (i := 354) (by decide +kernel)) rfl) (ia_tb_in (List.mem_of_getElem? (i := 356) (by decide +kernel)) rfl) (ia_tb_in (List.mem_of_getElem? (i := 138) (by decide +kernel)) rfl) dc_To_init_88 rfl e23 (hc_at c22) (hc_cap c23 cN (Nat.add_le_add_left (by decide) a)) ?_
  show K 91 [some (.inr (.inr a))] [.inr (.inr (a + 38)), .inl 0, .inr (.inr (a + 37)), .inr (.inr (a + 37)), .inr (.inr a)] h23
  refine ia_go hK ck_To_init_91_59 ?_
  show K 92 [some (.inr (.inr a))] [.inr (.inr (a + 38)), .inr (.inr (a + 38)), .inl 0, .inr (.inr (a + 37)), .inr (.inr (a + 37)), .inr (.inr a)] h23
  refine ia_callI hK mk_Pl_init lk_10_39 dc_To_init_92 (Nat.le_add_right_of_le ha) [] [.inr (.inr (a + 38)), .inl 0, .inr (.inr (a + 37)), .inr (.inr (a + 37)), .inr (.inr a)] rfl rfl (Nat.le_of_ble_eq_true rfl) v24 (hc_cap c24 cN (Nat.add_le_add_left (by decide) a)) ?_
  show K 95 [some (.inr (.inr a))] [.inr (.inr (a + 38)), .inl 0, .inr (.inr (a + 37)), .inr (.inr (a + 37)), .inr (.inr a)] h24
  refine ia_go hK ck_To_init_95_61 ⟨⟨(Nat.le_add_right_of_le ha), hc_k c24 (Nat.le_add_right_of_le ha) (Nat.add_lt_add_left (by decide) a) (congrArg Prod.fst (kt_10_37 pe)), hc_in c24 (Nat.le_add_right_of_le ha) (Nat.add_lt_add_left (by decide) a) (kt_10_37 pe) (by decide), hc_k c24 (Nat.le_add_right_of_le ha) (Nat.add_lt_add_left (by decide) a) (congrArg Prod.fst (kt_10_38 pe))⟩, ?_⟩
  show K 96 [some (.inr (.inr a))] [.inr (.inr (a + 37)), .inr (.inr a)] (ia_wR h24 (a + 37) 0 (a + 38))
  rw [← e25]
  refine ia_go hK ck_To_init_96_62 ?_
  show K 98 [some (.inr (.inr a))] [.inl 1, .inr (.inr (a + 37)), .inr (.inr (a + 37)), .inr (.inr a)] h25
  refine kw_new hK (ci := 6) (by decide) (ia_tb_in (List.mem_of_getElem? (i := 354) (by decide +kernel)) rfl) (ia_tb_in (List.mem_of_getElem? (i := 356) (by decide +kernel)) rfl) (ia_tb_in (List.mem_of_getElem? (i := 138) (by decide +kernel)) rfl) dc_To_init_98 rfl e26 (hc_at c25) (hc_cap c26 cN (Nat.add_le_add_left (by decide) a)) ?_
  show K 101 [some (.inr (.inr a))] [.inr (.inr (a + 43)), .inl 1, .inr (.inr (a + 37)), .inr (.inr (a + 37)), .inr (.inr a)] h26
  refine ia_go hK ck_To_init_101_66 ?_
  show K 102 [some (.inr (.inr a))] [.inr (.inr (a + 43)), .inr (.inr (a + 43)), .inl 1, .inr (.inr (a + 37)), .inr (.inr (a + 37)), .inr (.inr a)] h26
  refine ia_callI hK mk_Pl_init lk_10_39 dc_To_init_102 (Nat.le_add_right_of_le ha) [] [.inr (.inr (a + 43)), .inl 1, .inr (.inr (a + 37)), .inr (.inr (a + 37)), .inr (.inr a)] rfl rfl (Nat.le_of_ble_eq_true rfl) v27 (hc_cap c27 cN (Nat.add_le_add_left (by decide) a)) ?_
  show K 105 [some (.inr (.inr a))] [.inr (.inr (a + 43)), .inl 1, .inr (.inr (a + 37)), .inr (.inr (a + 37)), .inr (.inr a)] h27
  refine ia_go hK ck_To_init_105_68 ⟨⟨(Nat.le_add_right_of_le ha), hc_k c27 (Nat.le_add_right_of_le ha) (Nat.add_lt_add_left (by decide) a) (congrArg Prod.fst (kt_10_37 pe)), hc_in c27 (Nat.le_add_right_of_le ha) (Nat.add_lt_add_left (by decide) a) (kt_10_37 pe) (by decide), hc_k c27 (Nat.le_add_right_of_le ha) (Nat.add_lt_add_left (by decide) a) (congrArg Prod.fst (kt_10_43 pe))⟩, ?_⟩
  show K 106 [some (.inr (.inr a))] [.inr (.inr (a + 37)), .inr (.inr a)] (ia_wR h27 (a + 37) 1 (a + 43))
  rw [← e28]
  refine ia_go hK ck_To_init_106_69 ?_
  show K 108 [some (.inr (.inr a))] [.inl 2, .inr (.inr (a + 37)), .inr (.inr (a + 37)), .inr (.inr a)] h28
  refine kw_new hK (ci := 6) (by decide) (ia_tb_in (List.mem_of_getElem? (i := 354) (by decide +kernel)) rfl) (ia_tb_in (List.mem_of_getElem? (i := 356) (by decide +kernel)) rfl) (ia_tb_in (List.mem_of_getElem? (i := 138) (by decide +kernel)) rfl) dc_To_init_108 rfl e29 (hc_at c28) (hc_cap c29 cN (Nat.add_le_add_left (by decide) a)) ?_
  show K 111 [some (.inr (.inr a))] [.inr (.inr (a + 48)), .inl 2, .inr (.inr (a + 37)), .inr (.inr (a + 37)), .inr (.inr a)] h29
  refine ia_go hK ck_To_init_111_73 ?_
  show K 112 [some (.inr (.inr a))] [.inr (.inr (a + 48)), .inr (.inr (a + 48)), .inl 2, .inr (.inr (a + 37)), .inr (.inr (a + 37)), .inr (.inr a)] h29
  refine ia_callI hK mk_Pl_init lk_10_39 dc_To_init_112 (Nat.le_add_right_of_le ha) [] [.inr (.inr (a + 48)), .inl 2, .inr (.inr (a + 37)), .inr (.inr (a + 37)), .inr (.inr a)] rfl rfl (Nat.le_of_ble_eq_true rfl) v30 (hc_cap c30 cN (Nat.le_refl _)) ?_
  show K 115 [some (.inr (.inr a))] [.inr (.inr (a + 48)), .inl 2, .inr (.inr (a + 37)), .inr (.inr (a + 37)), .inr (.inr a)] h30
  refine ia_go hK ck_To_init_115_75 ⟨⟨(Nat.le_add_right_of_le ha), hc_k c30 (Nat.le_add_right_of_le ha) (Nat.add_lt_add_left (by decide) a) (congrArg Prod.fst (kt_10_37 pe)), hc_in c30 (Nat.le_add_right_of_le ha) (Nat.add_lt_add_left (by decide) a) (kt_10_37 pe) (by decide), hc_k c30 (Nat.le_add_right_of_le ha) (Nat.add_lt_add_left (by decide) a) (congrArg Prod.fst (kt_10_48 pe))⟩, ?_⟩
  show K 116 [some (.inr (.inr a))] [.inr (.inr (a + 37)), .inr (.inr a)] (ia_wR h30 (a + 37) 2 (a + 48))
  rw [← e31]
  refine ia_go hK ck_To_init_116_76 ⟨hc_k d31_37 ha (Nat.lt_add_of_pos_right (by decide)) pe, ?_⟩
  show K 119 [some (.inr (.inr a))] [] (ia_wR h31 a 7 (a + 37))
  rw [← e32]
  exact hret 119 _ dc_To_init_119
def mm_Re_init : ia_M := (⟨"IceStreet$Reader", "<init>", "()V"⟩, prog_8_method_1_code, 1, none, 7, true)
theorem ok_Re_init : ia_mok mm_Re_init := ⟨by decide +kernel, by decide +kernel, by decide +kernel, by decide +kernel⟩
theorem mk_Re_init : ia_mkn mm_Re_init 2 0 := ⟨ia_tb_in (List.mem_of_getElem? (i := 425) (by decide +kernel)) rfl, ia_tb_in (List.mem_of_getElem? (i := 139) (by decide +kernel)) rfl, by decide +kernel, by decide +kernel, ia_tb_in (List.mem_of_getElem? (i := 424) (by decide +kernel)) rfl, rfl, rfl⟩
theorem ck_Re_init_0_0 : ia_cks 7 1 true prog_8_method_1_code 0 [(.aload_n 0, 0, 0, 0, 0)] = true := by decide +kernel
theorem dc_Re_init_1 : decode prog_8_method_1_code 1 = .ok (.invokespecial 3, 3) := by decide +kernel
theorem ck_Re_init_4_2 : ia_cks 7 1 true prog_8_method_1_code 4 [(.aload_n 0, 0, 0, 0, 0)] = true := by decide +kernel
theorem dc_Re_init_5 : decode prog_8_method_1_code 5 = .ok (.new 9, 3) := by decide +kernel
theorem ks_7_1 : kd_D 280 = (3, 0) := by decide +kernel
theorem ck_Re_init_8_5 : ia_cks 7 1 true prog_8_method_1_code 8 [(.dup, 0, 0, 0, 0)] = true := by decide +kernel
theorem dc_Re_init_9 : decode prog_8_method_1_code 9 = .ok (.invokespecial 11, 3) := by decide +kernel
theorem ck_Re_init_12_7 : ia_cks 7 1 true prog_8_method_1_code 12 [(.putfield 12, 7, 0, 2, 0)] = true := by decide +kernel
theorem ck_Re_init_15_8 : ia_cks 7 1 true prog_8_method_1_code 15 [(.aload_n 0, 0, 0, 0, 0)] = true := by decide +kernel
theorem dc_Re_init_16 : decode prog_8_method_1_code 16 = .ok (.new 18, 3) := by decide +kernel
theorem ks_7_13 : kd_D 292 = (4, 0) := by decide +kernel
theorem ck_Re_init_19_11 : ia_cks 7 1 true prog_8_method_1_code 19 [(.dup, 0, 0, 0, 0)] = true := by decide +kernel
theorem dc_Re_init_20 : decode prog_8_method_1_code 20 = .ok (.invokespecial 20, 3) := by decide +kernel
theorem ck_Re_init_23_13 : ia_cks 7 1 true prog_8_method_1_code 23 [(.putfield 21, 7, 1, 2, 0)] = true := by decide +kernel
theorem ck_Re_init_26_14 : ia_cks 7 1 true prog_8_method_1_code 26 [(.aload_n 0, 0, 0, 0, 0)] = true := by decide +kernel
theorem dc_Re_init_27 : decode prog_8_method_1_code 27 = .ok (.new 25, 3) := by decide +kernel
theorem ks_7_17 : kd_D 296 = (6, 0) := by decide +kernel
theorem ck_Re_init_30_17 : ia_cks 7 1 true prog_8_method_1_code 30 [(.dup, 0, 0, 0, 0)] = true := by decide +kernel
theorem dc_Re_init_31 : decode prog_8_method_1_code 31 = .ok (.invokespecial 27, 3) := by decide +kernel
theorem ck_Re_init_34_19 : ia_cks 7 1 true prog_8_method_1_code 34 [(.putfield 28, 7, 2, 2, 0)] = true := by decide +kernel
theorem ck_Re_init_37_20 : ia_cks 7 1 true prog_8_method_1_code 37 [(.aload_n 0, 0, 0, 0, 0), (.iconst 4, 0, 0, 0, 0)] = true := by decide +kernel
theorem dc_Re_init_39 : decode prog_8_method_1_code 39 = .ok (.newarray .int, 2) := by decide +kernel
theorem ks_7_22 : kd_D 301 = (100, 4) := by decide +kernel
theorem ck_Re_init_41_23 : ia_cks 7 1 true prog_8_method_1_code 41 [(.putfield 32, 7, 5, 2, 0)] = true := by decide +kernel
theorem ck_Re_init_44_24 : ia_cks 7 1 true prog_8_method_1_code 44 [(.aload_n 0, 0, 0, 0, 0), (.iconst 0, 0, 0, 0, 0)] = true := by decide +kernel
theorem dc_Re_init_46 : decode prog_8_method_1_code 46 = .ok (.newarray .byte, 2) := by decide +kernel
theorem ks_7_23 : kd_D 302 = (102, 0) := by decide +kernel
theorem ck_Re_init_48_27 : ia_cks 7 1 true prog_8_method_1_code 48 [(.putfield 36, 7, 6, 2, 0)] = true := by decide +kernel
theorem dc_Re_init_51 : decode prog_8_method_1_code 51 = .ok (.return_, 1) := by decide +kernel
theorem rdo_7 (k f : Nat) (q : rd_o 7 k = some f) : (k = 0 ∧ f = 1) ∨ (k = 1 ∧ f = 13) ∨ (k = 2 ∧ f = 17) ∨ (k = 5 ∧ f = 22) := by
  unfold rd_o at q
  split at q <;> simp_all
theorem rdc_7 (k f : Nat) (q : rd_c 7 k = some f) : False := by
  unfold rd_c at q
  split at q <;> simp_all
set_option maxHeartbeats 8000000 in
theorem mc_Re_init (d : Nat) {S : List Nat} {w : ia_O0} {h : ia_H} (hh : hc_ 280 (279 :: S) w h) : ∃ h1, ia_Ev (d + 5) mm_Re_init [.inr (.inr 279)] h none h1 ∧ hc_ (303) S w h1 ∧ hf_ 279 h h1 := by
  have pe : (kd_D 279).1 = 7 := by decide +kernel
  have ha : 64 ≤ 279 := by decide
  have hf0 : hf_ 279 h h := fun b hb => ⟨rfl, rfl, rfl⟩
  obtain ⟨h1, e1⟩ : ∃ x, x = ia_nw h 3 0 18 := ⟨_, rfl⟩
  have c1 : hc_ (281) (280 :: 279 :: S) w h1 := by rw [e1]; exact hc_new hh ks_7_1 rfl (by decide) (by decide)
  have f1 : hf_ 279 h h1 := by rw [e1]; exact hf_nw hf0 (hc_le hh (by decide))
  obtain ⟨h2, v2, cc2, ff2⟩ := mc_La_init (d + 0) (congrArg Prod.fst ks_7_1) c1
  have c2 : hc_ (292) (279 :: S) w h2 := by exact cc2
  have f2 : hf_ 279 h h2 := by exact hf_trans f1 ff2 (by decide)
  obtain ⟨h3, e3⟩ : ∃ x, x = ia_wR h2 279 0 280 := ⟨_, rfl⟩
  have c3 : hc_ (292) (279 :: S) w h3 := by rw [e3]; exact hc_wR c2 List.mem_cons_self
  have f3 : hf_ 279 h h3 := by rw [e3]; exact hf_wR f2 (Nat.le_refl _)
  have r0_0_3 : ia_r h3 279 0 = 280 := by rw [e3]; exact wR_s
  obtain ⟨h4, e4⟩ : ∃ x, x = ia_nw h3 4 0 9 := ⟨_, rfl⟩
  have c4 : hc_ (293) (292 :: 279 :: S) w h4 := by rw [e4]; exact hc_new c3 ks_7_13 rfl (by decide) (by decide)
  have f4 : hf_ 279 h h4 := by rw [e4]; exact hf_nw f3 (hc_le c3 (by decide))
  have r0_0_4 : ia_r h4 279 0 = 280 := by rw [e4]; exact hn_r (hc_ne c3 (by decide)) r0_0_3
  obtain ⟨h5, v5, cc5, ff5⟩ := mc_Lw_init (d + 2) (congrArg Prod.fst ks_7_13) c4
  have c5 : hc_ (296) (279 :: S) w h5 := by exact cc5
  have f5 : hf_ 279 h h5 := by exact hf_trans f4 ff5 (by decide)
  have r0_0_5 : ia_r h5 279 0 = 280 := by exact hf_r ff5 (by decide) r0_0_4
  obtain ⟨h6, e6⟩ : ∃ x, x = ia_wR h5 279 1 292 := ⟨_, rfl⟩
  have c6 : hc_ (296) (279 :: S) w h6 := by rw [e6]; exact hc_wR c5 List.mem_cons_self
  have f6 : hf_ 279 h h6 := by rw [e6]; exact hf_wR f5 (Nat.le_refl _)
  have r0_0_6 : ia_r h6 279 0 = 280 := by rw [e6]; exact hw_r (by decide) r0_0_5
  have r0_1_6 : ia_r h6 279 1 = 292 := by rw [e6]; exact wR_s
  obtain ⟨h7, e7⟩ : ∃ x, x = ia_nw h6 6 0 5 := ⟨_, rfl⟩
  have c7 : hc_ (297) (296 :: 279 :: S) w h7 := by rw [e7]; exact hc_new c6 ks_7_17 rfl (by decide) (by decide)
  have f7 : hf_ 279 h h7 := by rw [e7]; exact hf_nw f6 (hc_le c6 (by decide))
  have r0_0_7 : ia_r h7 279 0 = 280 := by rw [e7]; exact hn_r (hc_ne c6 (by decide)) r0_0_6
  have r0_1_7 : ia_r h7 279 1 = 292 := by rw [e7]; exact hn_r (hc_ne c6 (by decide)) r0_1_6
  obtain ⟨h8, v8, cc8, ff8⟩ := mc_Pl_init (d + 4) (congrArg Prod.fst ks_7_17) c7
  have c8 : hc_ (301) (279 :: S) w h8 := by exact cc8
  have f8 : hf_ 279 h h8 := by exact hf_trans f7 ff8 (by decide)
  have r0_0_8 : ia_r h8 279 0 = 280 := by exact hf_r ff8 (by decide) r0_0_7
  have r0_1_8 : ia_r h8 279 1 = 292 := by exact hf_r ff8 (by decide) r0_1_7
  obtain ⟨h9, e9⟩ : ∃ x, x = ia_wR h8 279 2 296 := ⟨_, rfl⟩
  have c9 : hc_ (301) (279 :: S) w h9 := by rw [e9]; exact hc_wR c8 List.mem_cons_self
  have f9 : hf_ 279 h h9 := by rw [e9]; exact hf_wR f8 (Nat.le_refl _)
  have r0_0_9 : ia_r h9 279 0 = 280 := by rw [e9]; exact hw_r (by decide) r0_0_8
  have r0_1_9 : ia_r h9 279 1 = 292 := by rw [e9]; exact hw_r (by decide) r0_1_8
  have r0_2_9 : ia_r h9 279 2 = 296 := by rw [e9]; exact wR_s
  obtain ⟨h10, e10⟩ : ∃ x, x = ia_nw h9 100 4 4 := ⟨_, rfl⟩
  have c10 : hc_ (302) (279 :: S) w h10 := by rw [e10]; exact hc_arr c9 ks_7_22 (by decide) (by decide)
  have f10 : hf_ 279 h h10 := by rw [e10]; exact hf_nw f9 (hc_le c9 (by decide))
  have r0_0_10 : ia_r h10 279 0 = 280 := by rw [e10]; exact hn_r (hc_ne c9 (by decide)) r0_0_9
  have r0_1_10 : ia_r h10 279 1 = 292 := by rw [e10]; exact hn_r (hc_ne c9 (by decide)) r0_1_9
  have r0_2_10 : ia_r h10 279 2 = 296 := by rw [e10]; exact hn_r (hc_ne c9 (by decide)) r0_2_9
  obtain ⟨h11, e11⟩ : ∃ x, x = ia_wR h10 279 5 301 := ⟨_, rfl⟩
  have c11 : hc_ (302) (279 :: S) w h11 := by rw [e11]; exact hc_wR c10 List.mem_cons_self
  have f11 : hf_ 279 h h11 := by rw [e11]; exact hf_wR f10 (Nat.le_refl _)
  have r0_0_11 : ia_r h11 279 0 = 280 := by rw [e11]; exact hw_r (by decide) r0_0_10
  have r0_1_11 : ia_r h11 279 1 = 292 := by rw [e11]; exact hw_r (by decide) r0_1_10
  have r0_2_11 : ia_r h11 279 2 = 296 := by rw [e11]; exact hw_r (by decide) r0_2_10
  have r0_5_11 : ia_r h11 279 5 = 301 := by rw [e11]; exact wR_s
  obtain ⟨h12, e12⟩ : ∃ x, x = ia_nw h11 102 0 0 := ⟨_, rfl⟩
  have c12 : hc_ (303) (279 :: S) w h12 := by rw [e12]; exact hc_arr c11 ks_7_23 (by decide) (by decide)
  have f12 : hf_ 279 h h12 := by rw [e12]; exact hf_nw f11 (hc_le c11 (by decide))
  have r0_0_12 : ia_r h12 279 0 = 280 := by rw [e12]; exact hn_r (hc_ne c11 (by decide)) r0_0_11
  have r0_1_12 : ia_r h12 279 1 = 292 := by rw [e12]; exact hn_r (hc_ne c11 (by decide)) r0_1_11
  have r0_2_12 : ia_r h12 279 2 = 296 := by rw [e12]; exact hn_r (hc_ne c11 (by decide)) r0_2_11
  have r0_5_12 : ia_r h12 279 5 = 301 := by rw [e12]; exact hn_r (hc_ne c11 (by decide)) r0_5_11
  obtain ⟨h13, e13⟩ : ∃ x, x = ia_wR h12 279 6 302 := ⟨_, rfl⟩
  have c13 : hc_ (303) (279 :: S) w h13 := by rw [e13]; exact hc_wR c12 List.mem_cons_self
  have f13 : hf_ 279 h h13 := by rw [e13]; exact hf_wR f12 (Nat.le_refl _)
  have r0_0_13 : ia_r h13 279 0 = 280 := by rw [e13]; exact hw_r (by decide) r0_0_12
  have r0_1_13 : ia_r h13 279 1 = 292 := by rw [e13]; exact hw_r (by decide) r0_1_12
  have r0_2_13 : ia_r h13 279 2 = 296 := by rw [e13]; exact hw_r (by decide) r0_2_12
  have r0_5_13 : ia_r h13 279 5 = 301 := by rw [e13]; exact hw_r (by decide) r0_5_12
  have r0_6_13 : ia_r h13 279 6 = 302 := by rw [e13]; exact wR_s
  have d13_0 : hc_ (303) (S) w h13 := by
    refine hc_fin c13 ?_ ?_ ?_ ?_ ?_
    · intro k f q
      rw [pe] at q
      rcases rdo_7 k f q with ⟨rfl, rfl⟩ | ⟨rfl, rfl⟩ | ⟨rfl, rfl⟩ | ⟨rfl, rfl⟩
      · exact r0_0_13
      · exact r0_1_13
      · exact r0_2_13
      · exact r0_5_13
    · intro k f q
      rw [pe] at q
      exact (rdc_7 k f q).elim
    · intro j f q
      rw [pe] at q
      cases q
    · intro q
      rw [pe] at q
      cases q
    · intro q
      rw [pe] at q
      cases q
  have cN : hc_ (303) (S) w h13 := d13_0
  refine ⟨h13, ia_Ev_intro ok_Re_init (hc_cap hh cN (by decide)).1 (hc_cap hh cN (by decide)).2 (Nat.le_of_ble_eq_true rfl) (fun K hK hret => ?_), cN, f13⟩
  show K 0 [some (.inr (.inr 279))] [] h
  refine ia_go hK ck_Re_init_0_0 ?_
  show K 1 [some (.inr (.inr 279))] [.inr (.inr 279)] h
  refine ia_obj hK (ia_tb_in (List.mem_of_getElem? (i := 426) (by decide +kernel)) rfl) dc_Re_init_1 (by decide) (Nat.le_of_ble_eq_true rfl) ?_
  show K 4 [some (.inr (.inr 279))] [] h
  refine ia_go hK ck_Re_init_4_2 ?_
  show K 5 [some (.inr (.inr 279))] [.inr (.inr 279)] h
  refine kw_new hK (ci := 3) (by decide) (ia_tb_in (List.mem_of_getElem? (i := 427) (by decide +kernel)) rfl) (ia_tb_in (List.mem_of_getElem? (i := 170) (by decide +kernel)) rfl) (ia_tb_in (List.mem_of_getElem? (i := 135) (by decide +kernel)) rfl) dc_Re_init_5 rfl e1 (hc_at hh) (hc_cap c1 cN (by decide)) ?_
  show K 8 [some (.inr (.inr 279))] [.inr (.inr 280), .inr (.inr 279)] h1
  refine ia_go hK ck_Re_init_8_5 ?_
  show K 9 [some (.inr (.inr 279))] [.inr (.inr 280), .inr (.inr 280), .inr (.inr 279)] h1
  refine ia_callI hK mk_La_init lk_7_11 dc_Re_init_9 (by decide) [] [.inr (.inr 280), .inr (.inr 279)] rfl rfl (Nat.le_of_ble_eq_true rfl) v2 (hc_cap c2 cN (by decide)) ?_
  show K 12 [some (.inr (.inr 279))] [.inr (.inr 280), .inr (.inr 279)] h2
  refine ia_go hK ck_Re_init_12_7 ⟨hc_k c2 (by decide) (by decide) pe, ?_⟩
  show K 15 [some (.inr (.inr 279))] [] (ia_wR h2 279 0 280)
  rw [← e3]
  refine ia_go hK ck_Re_init_15_8 ?_
  show K 16 [some (.inr (.inr 279))] [.inr (.inr 279)] h3
  refine kw_new hK (ci := 4) (by decide) (ia_tb_in (List.mem_of_getElem? (i := 429) (by decide +kernel)) rfl) (ia_tb_in (List.mem_of_getElem? (i := 301) (by decide +kernel)) rfl) (ia_tb_in (List.mem_of_getElem? (i := 137) (by decide +kernel)) rfl) dc_Re_init_16 rfl e4 (hc_at c3) (hc_cap c4 cN (by decide)) ?_
  show K 19 [some (.inr (.inr 279))] [.inr (.inr 292), .inr (.inr 279)] h4
  refine ia_go hK ck_Re_init_19_11 ?_
  show K 20 [some (.inr (.inr 279))] [.inr (.inr 292), .inr (.inr 292), .inr (.inr 279)] h4
  refine ia_callI hK mk_Lw_init lk_7_20 dc_Re_init_20 (by decide) [] [.inr (.inr 292), .inr (.inr 279)] rfl rfl (Nat.le_of_ble_eq_true rfl) v5 (hc_cap c5 cN (by decide)) ?_
  show K 23 [some (.inr (.inr 279))] [.inr (.inr 292), .inr (.inr 279)] h5
  refine ia_go hK ck_Re_init_23_13 ⟨hc_k c5 (by decide) (by decide) pe, ?_⟩
  show K 26 [some (.inr (.inr 279))] [] (ia_wR h5 279 1 292)
  rw [← e6]
  refine ia_go hK ck_Re_init_26_14 ?_
  show K 27 [some (.inr (.inr 279))] [.inr (.inr 279)] h6
  refine kw_new hK (ci := 6) (by decide) (ia_tb_in (List.mem_of_getElem? (i := 431) (by decide +kernel)) rfl) (ia_tb_in (List.mem_of_getElem? (i := 356) (by decide +kernel)) rfl) (ia_tb_in (List.mem_of_getElem? (i := 138) (by decide +kernel)) rfl) dc_Re_init_27 rfl e7 (hc_at c6) (hc_cap c7 cN (by decide)) ?_
  show K 30 [some (.inr (.inr 279))] [.inr (.inr 296), .inr (.inr 279)] h7
  refine ia_go hK ck_Re_init_30_17 ?_
  show K 31 [some (.inr (.inr 279))] [.inr (.inr 296), .inr (.inr 296), .inr (.inr 279)] h7
  refine ia_callI hK mk_Pl_init lk_7_27 dc_Re_init_31 (by decide) [] [.inr (.inr 296), .inr (.inr 279)] rfl rfl (Nat.le_of_ble_eq_true rfl) v8 (hc_cap c8 cN (by decide)) ?_
  show K 34 [some (.inr (.inr 279))] [.inr (.inr 296), .inr (.inr 279)] h8
  refine ia_go hK ck_Re_init_34_19 ⟨hc_k c8 (by decide) (by decide) pe, ?_⟩
  show K 37 [some (.inr (.inr 279))] [] (ia_wR h8 279 2 296)
  rw [← e9]
  refine ia_go hK ck_Re_init_37_20 ?_
  show K 39 [some (.inr (.inr 279))] [.inl 4, .inr (.inr 279)] h9
  refine kw_arr hK (at_ := .int) (k := 100) (ty := .int) rfl (ia_tb_in (by decide +kernel) rfl) dc_Re_init_39 (Or.inl ⟨rfl, rfl⟩) ⟨by decide, by decide, by decide⟩ e10 (hc_at c9) (hc_cap c10 cN (by decide)) ?_
  show K 41 [some (.inr (.inr 279))] [.inr (.inr 301), .inr (.inr 279)] h10
  refine ia_go hK ck_Re_init_41_23 ⟨hc_k c10 (by decide) (by decide) pe, ?_⟩
  show K 44 [some (.inr (.inr 279))] [] (ia_wR h10 279 5 301)
  rw [← e11]
  refine ia_go hK ck_Re_init_44_24 ?_
  show K 46 [some (.inr (.inr 279))] [.inl 0, .inr (.inr 279)] h11
  refine kw_arr hK (at_ := .byte) (k := 102) (ty := .byte) rfl (ia_tb_in (by decide +kernel) rfl) dc_Re_init_46 (Or.inr (Or.inr (Or.inl ⟨rfl, rfl⟩))) ⟨by decide, by decide, by decide⟩ e12 (hc_at c11) (hc_cap c12 cN (by decide)) ?_
  show K 48 [some (.inr (.inr 279))] [.inr (.inr 302), .inr (.inr 279)] h12
  refine ia_go hK ck_Re_init_48_27 ⟨hc_k c12 (by decide) (by decide) pe, ?_⟩
  show K 51 [some (.inr (.inr 279))] [] (ia_wR h12 279 6 302)
  rw [← e13]
  exact hret 51 _ dc_Re_init_51
def mm_Ou_init : ia_M := (⟨"IceStreet$Outlook", "<init>", "(LIceStreet$Ways;LIceStreet$Lake;LIceStreet$Law;)V"⟩, prog_6_method_1_code, 4, none, 5, true)
theorem ok_Ou_init : ia_mok mm_Ou_init := ⟨by decide +kernel, by decide +kernel, by decide +kernel, by decide +kernel⟩
theorem mk_Ou_init : ia_mkn mm_Ou_init 2 3 := ⟨ia_tb_in (List.mem_of_getElem? (i := 616) (by decide +kernel)) rfl, ia_tb_in (List.mem_of_getElem? (i := 143) (by decide +kernel)) rfl, by decide +kernel, by decide +kernel, ia_tb_in (List.mem_of_getElem? (i := 615) (by decide +kernel)) rfl, rfl, rfl⟩
theorem ck_Ou_init_0_0 : ia_cks 5 4 true prog_6_method_1_code 0 [(.aload_n 0, 0, 0, 0, 0)] = true := by decide +kernel
theorem dc_Ou_init_1 : decode prog_6_method_1_code 1 = .ok (.invokespecial 3, 3) := by decide +kernel
theorem ck_Ou_init_4_2 : ia_cks 5 4 true prog_6_method_1_code 4 [(.aload_n 0, 0, 0, 0, 0), (.bipush 6, 0, 0, 0, 0)] = true := by decide +kernel
theorem dc_Ou_init_7 : decode prog_6_method_1_code 7 = .ok (.newarray .int, 2) := by decide +kernel
theorem ks_5_1 : kd_D 327 = (100, 6) := by decide +kernel
theorem ck_Ou_init_9_5 : ia_cks 5 4 true prog_6_method_1_code 9 [(.putfield 9, 5, 3, 2, 0)] = true := by decide +kernel
theorem ck_Ou_init_12_6 : ia_cks 5 4 true prog_6_method_1_code 12 [(.aload_n 0, 0, 0, 0, 0), (.bipush 6, 0, 0, 0, 0)] = true := by decide +kernel
theorem dc_Ou_init_15 : decode prog_6_method_1_code 15 = .ok (.newarray .int, 2) := by decide +kernel
theorem ks_5_2 : kd_D 328 = (100, 6) := by decide +kernel
theorem ck_Ou_init_17_9 : ia_cks 5 4 true prog_6_method_1_code 17 [(.putfield 15, 5, 4, 2, 0)] = true := by decide +kernel
theorem ck_Ou_init_20_10 : ia_cks 5 4 true prog_6_method_1_code 20 [(.aload_n 0, 0, 0, 0, 0), (.aload_n 1, 0, 0, 0, 0), (.putfield 18, 5, 0, 2, 0)] = true := by decide +kernel
theorem ck_Ou_init_25_11 : ia_cks 5 4 true prog_6_method_1_code 25 [(.aload_n 0, 0, 0, 0, 0)] = true := by decide +kernel
theorem dc_Ou_init_26 : decode prog_6_method_1_code 26 = .ok (.new 22, 3) := by decide +kernel
theorem ks_5_3 : kd_D 329 = (9, 0) := by decide +kernel
theorem ck_Ou_init_29_14 : ia_cks 5 4 true prog_6_method_1_code 29 [(.dup, 0, 0, 0, 0), (.aload_n 2, 0, 0, 0, 0), (.aload_n 3, 0, 0, 0, 0)] = true := by decide +kernel
theorem dc_Ou_init_32 : decode prog_6_method_1_code 32 = .ok (.invokespecial 24, 3) := by decide +kernel
theorem ck_Ou_init_35_16 : ia_cks 5 4 true prog_6_method_1_code 35 [(.putfield 27, 5, 1, 2, 0)] = true := by decide +kernel
theorem ck_Ou_init_38_17 : ia_cks 5 4 true prog_6_method_1_code 38 [(.aload_n 0, 0, 0, 0, 0)] = true := by decide +kernel
theorem dc_Ou_init_39 : decode prog_6_method_1_code 39 = .ok (.new 22, 3) := by decide +kernel
theorem ks_5_11 : kd_D 337 = (9, 0) := by decide +kernel
theorem ck_Ou_init_42_20 : ia_cks 5 4 true prog_6_method_1_code 42 [(.dup, 0, 0, 0, 0), (.aload_n 2, 0, 0, 0, 0), (.aload_n 3, 0, 0, 0, 0)] = true := by decide +kernel
theorem dc_Ou_init_45 : decode prog_6_method_1_code 45 = .ok (.invokespecial 24, 3) := by decide +kernel
theorem ck_Ou_init_48_22 : ia_cks 5 4 true prog_6_method_1_code 48 [(.putfield 31, 5, 2, 2, 0)] = true := by decide +kernel
theorem dc_Ou_init_51 : decode prog_6_method_1_code 51 = .ok (.return_, 1) := by decide +kernel
theorem rdo_5 (k f : Nat) (q : rd_o 5 k = some f) : (k = 1 ∧ f = 3) ∨ (k = 2 ∧ f = 11) ∨ (k = 3 ∧ f = 1) ∨ (k = 4 ∧ f = 2) := by
  unfold rd_o at q
  split at q <;> simp_all
theorem rdc_5 (k f : Nat) (q : rd_c 5 k = some f) : (k = 0 ∧ f = 311) := by
  unfold rd_c at q
  split at q <;> simp_all
set_option maxHeartbeats 8000000 in
theorem mc_Ou_init (d : Nat) {b1 : Nat} {b2 : Nat} (q1 : (kd_D b1).1 = 3) (q2 : (kd_D b2).1 = 4) {S : List Nat} {w : ia_O0} {h : ia_H} (hh : hc_ 327 (326 :: S) w h) : ∃ h1, ia_Ev (d + 1) mm_Ou_init [.inr (.inr 326), .inr (.inr 311), .inr (.inr b1), .inr (.inr b2)] h none h1 ∧ hc_ (345) S w h1 ∧ hf_ 326 h h1 := by
  have pe : (kd_D 326).1 = 5 := by decide +kernel
  have ha : 64 ≤ 326 := by decide
  have hf0 : hf_ 326 h h := fun b hb => ⟨rfl, rfl, rfl⟩
  obtain ⟨h1, e1⟩ : ∃ x, x = ia_nw h 100 6 6 := ⟨_, rfl⟩
  have c1 : hc_ (328) (326 :: S) w h1 := by rw [e1]; exact hc_arr hh ks_5_1 (by decide) (by decide)
  have f1 : hf_ 326 h h1 := by rw [e1]; exact hf_nw hf0 (hc_le hh (by decide))
  obtain ⟨h2, e2⟩ : ∃ x, x = ia_wR h1 326 3 327 := ⟨_, rfl⟩
  have c2 : hc_ (328) (326 :: S) w h2 := by rw [e2]; exact hc_wR c1 List.mem_cons_self
  have f2 : hf_ 326 h h2 := by rw [e2]; exact hf_wR f1 (Nat.le_refl _)
  have r0_3_2 : ia_r h2 326 3 = 327 := by rw [e2]; exact wR_s
  obtain ⟨h3, e3⟩ : ∃ x, x = ia_nw h2 100 6 6 := ⟨_, rfl⟩
  have c3 : hc_ (329) (326 :: S) w h3 := by rw [e3]; exact hc_arr c2 ks_5_2 (by decide) (by decide)
  have f3 : hf_ 326 h h3 := by rw [e3]; exact hf_nw f2 (hc_le c2 (by decide))
  have r0_3_3 : ia_r h3 326 3 = 327 := by rw [e3]; exact hn_r (hc_ne c2 (by decide)) r0_3_2
  obtain ⟨h4, e4⟩ : ∃ x, x = ia_wR h3 326 4 328 := ⟨_, rfl⟩
  have c4 : hc_ (329) (326 :: S) w h4 := by rw [e4]; exact hc_wR c3 List.mem_cons_self
  have f4 : hf_ 326 h h4 := by rw [e4]; exact hf_wR f3 (Nat.le_refl _)
  have r0_3_4 : ia_r h4 326 3 = 327 := by rw [e4]; exact hw_r (by decide) r0_3_3
  have r0_4_4 : ia_r h4 326 4 = 328 := by rw [e4]; exact wR_s
  obtain ⟨h5, e5⟩ : ∃ x, x = ia_wR h4 326 0 311 := ⟨_, rfl⟩
  have c5 : hc_ (329) (326 :: S) w h5 := by rw [e5]; exact hc_wR c4 List.mem_cons_self
  have f5 : hf_ 326 h h5 := by rw [e5]; exact hf_wR f4 (Nat.le_refl _)
  have r0_3_5 : ia_r h5 326 3 = 327 := by rw [e5]; exact hw_r (by decide) r0_3_4
  have r0_4_5 : ia_r h5 326 4 = 328 := by rw [e5]; exact hw_r (by decide) r0_4_4
  have r0_0_5 : ia_r h5 326 0 = 311 := by rw [e5]; exact wR_s
  obtain ⟨h6, e6⟩ : ∃ x, x = ia_nw h5 9 0 11 := ⟨_, rfl⟩
  have c6 : hc_ (330) (329 :: 326 :: S) w h6 := by rw [e6]; exact hc_new c5 ks_5_3 rfl (by decide) (by decide)
  have f6 : hf_ 326 h h6 := by rw [e6]; exact hf_nw f5 (hc_le c5 (by decide))
  have r0_3_6 : ia_r h6 326 3 = 327 := by rw [e6]; exact hn_r (hc_ne c5 (by decide)) r0_3_5
  have r0_4_6 : ia_r h6 326 4 = 328 := by rw [e6]; exact hn_r (hc_ne c5 (by decide)) r0_4_5
  have r0_0_6 : ia_r h6 326 0 = 311 := by rw [e6]; exact hn_r (hc_ne c5 (by decide)) r0_0_5
  obtain ⟨h7, v7, cc7, ff7⟩ := mc_Sc_init (d + 0) (congrArg Prod.fst ks_5_3) q1 q2 c6
  have c7 : hc_ (337) (326 :: S) w h7 := by exact cc7
  have f7 : hf_ 326 h h7 := by exact hf_trans f6 ff7 (by decide)
  have r0_3_7 : ia_r h7 326 3 = 327 := by exact hf_r ff7 (by decide) r0_3_6
  have r0_4_7 : ia_r h7 326 4 = 328 := by exact hf_r ff7 (by decide) r0_4_6
  have r0_0_7 : ia_r h7 326 0 = 311 := by exact hf_r ff7 (by decide) r0_0_6
  obtain ⟨h8, e8⟩ : ∃ x, x = ia_wR h7 326 1 329 := ⟨_, rfl⟩
  have c8 : hc_ (337) (326 :: S) w h8 := by rw [e8]; exact hc_wR c7 List.mem_cons_self
  have f8 : hf_ 326 h h8 := by rw [e8]; exact hf_wR f7 (Nat.le_refl _)
  have r0_3_8 : ia_r h8 326 3 = 327 := by rw [e8]; exact hw_r (by decide) r0_3_7
  have r0_4_8 : ia_r h8 326 4 = 328 := by rw [e8]; exact hw_r (by decide) r0_4_7
  have r0_0_8 : ia_r h8 326 0 = 311 := by rw [e8]; exact hw_r (by decide) r0_0_7
  have r0_1_8 : ia_r h8 326 1 = 329 := by rw [e8]; exact wR_s
  obtain ⟨h9, e9⟩ : ∃ x, x = ia_nw h8 9 0 11 := ⟨_, rfl⟩
  have c9 : hc_ (338) (337 :: 326 :: S) w h9 := by rw [e9]; exact hc_new c8 ks_5_11 rfl (by decide) (by decide)
  have f9 : hf_ 326 h h9 := by rw [e9]; exact hf_nw f8 (hc_le c8 (by decide))
  have r0_3_9 : ia_r h9 326 3 = 327 := by rw [e9]; exact hn_r (hc_ne c8 (by decide)) r0_3_8
  have r0_4_9 : ia_r h9 326 4 = 328 := by rw [e9]; exact hn_r (hc_ne c8 (by decide)) r0_4_8
  have r0_0_9 : ia_r h9 326 0 = 311 := by rw [e9]; exact hn_r (hc_ne c8 (by decide)) r0_0_8
  have r0_1_9 : ia_r h9 326 1 = 329 := by rw [e9]; exact hn_r (hc_ne c8 (by decide)) r0_1_8
  obtain ⟨h10, v10, cc10, ff10⟩ := mc_Sc_init (d + 0) (congrArg Prod.fst ks_5_11) q1 q2 c9
  have c10 : hc_ (345) (326 :: S) w h10 := by exact cc10
  have f10 : hf_ 326 h h10 := by exact hf_trans f9 ff10 (by decide)
  have r0_3_10 : ia_r h10 326 3 = 327 := by exact hf_r ff10 (by decide) r0_3_9
  have r0_4_10 : ia_r h10 326 4 = 328 := by exact hf_r ff10 (by decide) r0_4_9
  have r0_0_10 : ia_r h10 326 0 = 311 := by exact hf_r ff10 (by decide) r0_0_9
  have r0_1_10 : ia_r h10 326 1 = 329 := by exact hf_r ff10 (by decide) r0_1_9
  obtain ⟨h11, e11⟩ : ∃ x, x = ia_wR h10 326 2 337 := ⟨_, rfl⟩
  have c11 : hc_ (345) (326 :: S) w h11 := by rw [e11]; exact hc_wR c10 List.mem_cons_self
  have f11 : hf_ 326 h h11 := by rw [e11]; exact hf_wR f10 (Nat.le_refl _)
  have r0_3_11 : ia_r h11 326 3 = 327 := by rw [e11]; exact hw_r (by decide) r0_3_10
  have r0_4_11 : ia_r h11 326 4 = 328 := by rw [e11]; exact hw_r (by decide) r0_4_10
  have r0_0_11 : ia_r h11 326 0 = 311 := by rw [e11]; exact hw_r (by decide) r0_0_10
  have r0_1_11 : ia_r h11 326 1 = 329 := by rw [e11]; exact hw_r (by decide) r0_1_10
  have r0_2_11 : ia_r h11 326 2 = 337 := by rw [e11]; exact wR_s
  have d11_0 : hc_ (345) (S) w h11 := by
    refine hc_fin c11 ?_ ?_ ?_ ?_ ?_
    · intro k f q
      rw [pe] at q
      rcases rdo_5 k f q with ⟨rfl, rfl⟩ | ⟨rfl, rfl⟩ | ⟨rfl, rfl⟩ | ⟨rfl, rfl⟩
      · exact r0_1_11
      · exact r0_2_11
      · exact r0_3_11
      · exact r0_4_11
    · intro k f q
      rw [pe] at q
      rcases rdc_5 k f q with ⟨rfl, rfl⟩
      · exact r0_0_11
    · intro j f q
      rw [pe] at q
      cases q
    · intro q
      rw [pe] at q
      cases q
    · intro q
      rw [pe] at q
      cases q
  have cN : hc_ (345) (S) w h11 := d11_0
  refine ⟨h11, ia_Ev_intro ok_Ou_init (hc_cap hh cN (by decide)).1 (hc_cap hh cN (by decide)).2 (Nat.le_of_ble_eq_true rfl) (fun K hK hret => ?_), cN, f11⟩
  show K 0 [some (.inr (.inr 326)), some (.inr (.inr 311)), some (.inr (.inr b1)), some (.inr (.inr b2))] [] h
  refine ia_go hK ck_Ou_init_0_0 ?_
  show K 1 [some (.inr (.inr 326)), some (.inr (.inr 311)), some (.inr (.inr b1)), some (.inr (.inr b2))] [.inr (.inr 326)] h
  refine ia_obj hK (ia_tb_in (List.mem_of_getElem? (i := 617) (by decide +kernel)) rfl) dc_Ou_init_1 (by decide) (Nat.le_of_ble_eq_true rfl) ?_
  show K 4 [some (.inr (.inr 326)), some (.inr (.inr 311)), some (.inr (.inr b1)), some (.inr (.inr b2))] [] h
  refine ia_go hK ck_Ou_init_4_2 ?_
  show K 7 [some (.inr (.inr 326)), some (.inr (.inr 311)), some (.inr (.inr b1)), some (.inr (.inr b2))] [.inl 6, .inr (.inr 326)] h
  refine kw_arr hK (at_ := .int) (k := 100) (ty := .int) rfl (ia_tb_in (by decide +kernel) rfl) dc_Ou_init_7 (Or.inl ⟨rfl, rfl⟩) ⟨by decide, by decide, by decide⟩ e1 (hc_at hh) (hc_cap c1 cN (by decide)) ?_
  show K 9 [some (.inr (.inr 326)), some (.inr (.inr 311)), some (.inr (.inr b1)), some (.inr (.inr b2))] [.inr (.inr 327), .inr (.inr 326)] h1
  refine ia_go hK ck_Ou_init_9_5 ⟨hc_k c1 (by decide) (by decide) pe, ?_⟩
  show K 12 [some (.inr (.inr 326)), some (.inr (.inr 311)), some (.inr (.inr b1)), some (.inr (.inr b2))] [] (ia_wR h1 326 3 327)
  rw [← e2]
  refine ia_go hK ck_Ou_init_12_6 ?_
  show K 15 [some (.inr (.inr 326)), some (.inr (.inr 311)), some (.inr (.inr b1)), some (.inr (.inr b2))] [.inl 6, .inr (.inr 326)] h2
  refine kw_arr hK (at_ := .int) (k := 100) (ty := .int) rfl (ia_tb_in (by decide +kernel) rfl) dc_Ou_init_15 (Or.inl ⟨rfl, rfl⟩) ⟨by decide, by decide, by decide⟩ e3 (hc_at c2) (hc_cap c3 cN (by decide)) ?_
  show K 17 [some (.inr (.inr 326)), some (.inr (.inr 311)), some (.inr (.inr b1)), some (.inr (.inr b2))] [.inr (.inr 328), .inr (.inr 326)] h3
  refine ia_go hK ck_Ou_init_17_9 ⟨hc_k c3 (by decide) (by decide) pe, ?_⟩
  show K 20 [some (.inr (.inr 326)), some (.inr (.inr 311)), some (.inr (.inr b1)), some (.inr (.inr b2))] [] (ia_wR h3 326 4 328)
  rw [← e4]
  refine ia_go hK ck_Ou_init_20_10 ⟨hc_k c4 (by decide) (by decide) pe, ?_⟩
  show K 25 [some (.inr (.inr 326)), some (.inr (.inr 311)), some (.inr (.inr b1)), some (.inr (.inr b2))] [] (ia_wR h4 326 0 311)
  rw [← e5]
  refine ia_go hK ck_Ou_init_25_11 ?_
  show K 26 [some (.inr (.inr 326)), some (.inr (.inr 311)), some (.inr (.inr b1)), some (.inr (.inr b2))] [.inr (.inr 326)] h5
  refine kw_new hK (ci := 9) (by decide) (ia_tb_in (List.mem_of_getElem? (i := 618) (by decide +kernel)) rfl) (ia_tb_in (List.mem_of_getElem? (i := 489) (by decide +kernel)) rfl) (ia_tb_in (List.mem_of_getElem? (i := 140) (by decide +kernel)) rfl) dc_Ou_init_26 rfl e6 (hc_at c5) (hc_cap c6 cN (by decide)) ?_
  show K 29 [some (.inr (.inr 326)), some (.inr (.inr 311)), some (.inr (.inr b1)), some (.inr (.inr b2))] [.inr (.inr 329), .inr (.inr 326)] h6
  refine ia_go hK ck_Ou_init_29_14 ?_
  show K 32 [some (.inr (.inr 326)), some (.inr (.inr 311)), some (.inr (.inr b1)), some (.inr (.inr b2))] [.inr (.inr b2), .inr (.inr b1), .inr (.inr 329), .inr (.inr 329), .inr (.inr 326)] h6
  refine ia_callI hK mk_Sc_init lk_5_24 dc_Ou_init_32 (by decide) [.inr (.inr b1), .inr (.inr b2)] [.inr (.inr 329), .inr (.inr 326)] rfl rfl (Nat.le_of_ble_eq_true rfl) v7 (hc_cap c7 cN (by decide)) ?_
  show K 35 [some (.inr (.inr 326)), some (.inr (.inr 311)), some (.inr (.inr b1)), some (.inr (.inr b2))] [.inr (.inr 329), .inr (.inr 326)] h7
  refine ia_go hK ck_Ou_init_35_16 ⟨hc_k c7 (by decide) (by decide) pe, ?_⟩
  show K 38 [some (.inr (.inr 326)), some (.inr (.inr 311)), some (.inr (.inr b1)), some (.inr (.inr b2))] [] (ia_wR h7 326 1 329)
  rw [← e8]
  refine ia_go hK ck_Ou_init_38_17 ?_
  show K 39 [some (.inr (.inr 326)), some (.inr (.inr 311)), some (.inr (.inr b1)), some (.inr (.inr b2))] [.inr (.inr 326)] h8
  refine kw_new hK (ci := 9) (by decide) (ia_tb_in (List.mem_of_getElem? (i := 618) (by decide +kernel)) rfl) (ia_tb_in (List.mem_of_getElem? (i := 489) (by decide +kernel)) rfl) (ia_tb_in (List.mem_of_getElem? (i := 140) (by decide +kernel)) rfl) dc_Ou_init_39 rfl e9 (hc_at c8) (hc_cap c9 cN (by decide)) ?_
  show K 42 [some (.inr (.inr 326)), some (.inr (.inr 311)), some (.inr (.inr b1)), some (.inr (.inr b2))] [.inr (.inr 337), .inr (.inr 326)] h9
  refine ia_go hK ck_Ou_init_42_20 ?_
  show K 45 [some (.inr (.inr 326)), some (.inr (.inr 311)), some (.inr (.inr b1)), some (.inr (.inr b2))] [.inr (.inr b2), .inr (.inr b1), .inr (.inr 337), .inr (.inr 337), .inr (.inr 326)] h9
  refine ia_callI hK mk_Sc_init lk_5_24 dc_Ou_init_45 (by decide) [.inr (.inr b1), .inr (.inr b2)] [.inr (.inr 337), .inr (.inr 326)] rfl rfl (Nat.le_of_ble_eq_true rfl) v10 (hc_cap c10 cN (by decide)) ?_
  show K 48 [some (.inr (.inr 326)), some (.inr (.inr 311)), some (.inr (.inr b1)), some (.inr (.inr b2))] [.inr (.inr 337), .inr (.inr 326)] h10
  refine ia_go hK ck_Ou_init_48_22 ⟨hc_k c10 (by decide) (by decide) pe, ?_⟩
  show K 51 [some (.inr (.inr 326)), some (.inr (.inr 311)), some (.inr (.inr b1)), some (.inr (.inr b2))] [] (ia_wR h10 326 2 337)
  rw [← e11]
  exact hret 51 _ dc_Ou_init_51
def mm_Dr_init : ia_M := (⟨"IceStreet$Drawing", "<init>", "(LIceStreet$Ways;LIceStreet$Lake;LIceStreet$Law;)V"⟩, prog_3_method_1_code, 5, none, 2, true)
theorem ok_Dr_init : ia_mok mm_Dr_init := ⟨by decide +kernel, by decide +kernel, by decide +kernel, by decide +kernel⟩
theorem mk_Dr_init : ia_mkn mm_Dr_init 2 3 := ⟨ia_tb_in (List.mem_of_getElem? (i := 640) (by decide +kernel)) rfl, ia_tb_in (List.mem_of_getElem? (i := 144) (by decide +kernel)) rfl, by decide +kernel, by decide +kernel, ia_tb_in (List.mem_of_getElem? (i := 639) (by decide +kernel)) rfl, rfl, rfl⟩
theorem ck_Dr_init_0_0 : ia_cks 2 5 true prog_3_method_1_code 0 [(.aload_n 0, 0, 0, 0, 0)] = true := by decide +kernel
theorem dc_Dr_init_1 : decode prog_3_method_1_code 1 = .ok (.invokespecial 3, 3) := by decide +kernel
theorem ck_Dr_init_4_2 : ia_cks 2 5 true prog_3_method_1_code 4 [(.aload_n 0, 0, 0, 0, 0), (.bipush 6, 0, 0, 0, 0)] = true := by decide +kernel
theorem dc_Dr_init_7 : decode prog_3_method_1_code 7 = .ok (.newarray .int, 2) := by decide +kernel
theorem ks_2_1 : kd_D 346 = (100, 6) := by decide +kernel
theorem ck_Dr_init_9_5 : ia_cks 2 5 true prog_3_method_1_code 9 [(.putfield 9, 2, 1, 2, 0)] = true := by decide +kernel
theorem ck_Dr_init_12_6 : ia_cks 2 5 true prog_3_method_1_code 12 [(.aload_n 0, 0, 0, 0, 0), (.bipush 6, 0, 0, 0, 0)] = true := by decide +kernel
theorem dc_Dr_init_15 : decode prog_3_method_1_code 15 = .ok (.newarray .int, 2) := by decide +kernel
theorem ks_2_2 : kd_D 347 = (100, 6) := by decide +kernel
theorem ck_Dr_init_17_9 : ia_cks 2 5 true prog_3_method_1_code 17 [(.putfield 15, 2, 3, 2, 0)] = true := by decide +kernel
theorem ck_Dr_init_20_10 : ia_cks 2 5 true prog_3_method_1_code 20 [(.aload_n 0, 0, 0, 0, 0), (.bipush 7, 0, 0, 0, 0)] = true := by decide +kernel
theorem dc_Dr_init_23 : decode prog_3_method_1_code 23 = .ok (.anewarray 18, 3) := by decide +kernel
theorem ks_2_3 : kd_D 348 = (113, 7) := by decide +kernel
theorem ck_Dr_init_26_13 : ia_cks 2 5 true prog_3_method_1_code 26 [(.putfield 20, 2, 4, 2, 0)] = true := by decide +kernel
theorem ck_Dr_init_29_14 : ia_cks 2 5 true prog_3_method_1_code 29 [(.aload_n 0, 0, 0, 0, 0), (.aload_n 1, 0, 0, 0, 0), (.putfield 24, 2, 2, 2, 0)] = true := by decide +kernel
theorem ck_Dr_init_34_15 : ia_cks 2 5 true prog_3_method_1_code 34 [(.iconst 0, 0, 0, 0, 0), (.istore 4, 0, 0, 0, 0), (.iload 4, 0, 0, 0, 0), (.bipush 6, 0, 0, 0, 0), (.if_icmp .gt 25, 0, 0, 0, 0)] = true := by decide +kernel
theorem ck_Dr_init_44_16 : ia_cks 2 5 true prog_3_method_1_code 44 [(.aload_n 0, 0, 0, 0, 0), (.getfield 20, 2, 4, 4, 348)] = true := by decide +kernel
theorem ck_Dr_init_48_17 : ia_cks 2 5 true prog_3_method_1_code 48 [(.iload 4, 0, 0, 0, 0)] = true := by decide +kernel
theorem dc_Dr_init_50 : decode prog_3_method_1_code 50 = .ok (.new 18, 3) := by decide +kernel
theorem ks_2_4 : kd_D 349 = (9, 0) := by decide +kernel
theorem ck_Dr_init_53_20 : ia_cks 2 5 true prog_3_method_1_code 53 [(.dup, 0, 0, 0, 0), (.aload_n 2, 0, 0, 0, 0), (.aload_n 3, 0, 0, 0, 0)] = true := by decide +kernel
theorem dc_Dr_init_56 : decode prog_3_method_1_code 56 = .ok (.invokespecial 28, 3) := by decide +kernel
theorem ck_Dr_init_59_22 : ia_cks 2 5 true prog_3_method_1_code 59 [(.aastore, 9, 0, 0, 0)] = true := by decide +kernel
theorem ck_Dr_init_60_23 : ia_cks 2 5 true prog_3_method_1_code 60 [(.iinc 4 1, 0, 0, 0, 0), (.goto (-26), 0, 0, 0, 0)] = true := by decide +kernel
theorem ck_Dr_init_37_24 : ia_cks 2 5 true prog_3_method_1_code 37 [(.iload 4, 0, 0, 0, 0), (.bipush 6, 0, 0, 0, 0), (.if_icmp .gt 25, 0, 0, 0, 0)] = true := by decide +kernel
theorem ck_Dr_init_44_25 : ia_cks 2 5 true prog_3_method_1_code 44 [(.aload_n 0, 0, 0, 0, 0), (.getfield 20, 2, 4, 4, 348)] = true := by decide +kernel
theorem ck_Dr_init_48_26 : ia_cks 2 5 true prog_3_method_1_code 48 [(.iload 4, 0, 0, 0, 0)] = true := by decide +kernel
theorem ks_2_12 : kd_D 357 = (9, 0) := by decide +kernel
theorem ck_Dr_init_53_28 : ia_cks 2 5 true prog_3_method_1_code 53 [(.dup, 0, 0, 0, 0), (.aload_n 2, 0, 0, 0, 0), (.aload_n 3, 0, 0, 0, 0)] = true := by decide +kernel
theorem ck_Dr_init_59_29 : ia_cks 2 5 true prog_3_method_1_code 59 [(.aastore, 9, 0, 0, 0)] = true := by decide +kernel
theorem ck_Dr_init_60_30 : ia_cks 2 5 true prog_3_method_1_code 60 [(.iinc 4 1, 0, 0, 0, 0), (.goto (-26), 0, 0, 0, 0)] = true := by decide +kernel
theorem ck_Dr_init_37_31 : ia_cks 2 5 true prog_3_method_1_code 37 [(.iload 4, 0, 0, 0, 0), (.bipush 6, 0, 0, 0, 0), (.if_icmp .gt 25, 0, 0, 0, 0)] = true := by decide +kernel
theorem ck_Dr_init_44_32 : ia_cks 2 5 true prog_3_method_1_code 44 [(.aload_n 0, 0, 0, 0, 0), (.getfield 20, 2, 4, 4, 348)] = true := by decide +kernel
theorem ck_Dr_init_48_33 : ia_cks 2 5 true prog_3_method_1_code 48 [(.iload 4, 0, 0, 0, 0)] = true := by decide +kernel
theorem ks_2_20 : kd_D 365 = (9, 0) := by decide +kernel
theorem ck_Dr_init_53_35 : ia_cks 2 5 true prog_3_method_1_code 53 [(.dup, 0, 0, 0, 0), (.aload_n 2, 0, 0, 0, 0), (.aload_n 3, 0, 0, 0, 0)] = true := by decide +kernel
theorem ck_Dr_init_59_36 : ia_cks 2 5 true prog_3_method_1_code 59 [(.aastore, 9, 0, 0, 0)] = true := by decide +kernel
theorem ck_Dr_init_60_37 : ia_cks 2 5 true prog_3_method_1_code 60 [(.iinc 4 1, 0, 0, 0, 0), (.goto (-26), 0, 0, 0, 0)] = true := by decide +kernel
theorem ck_Dr_init_37_38 : ia_cks 2 5 true prog_3_method_1_code 37 [(.iload 4, 0, 0, 0, 0), (.bipush 6, 0, 0, 0, 0), (.if_icmp .gt 25, 0, 0, 0, 0)] = true := by decide +kernel
theorem ck_Dr_init_44_39 : ia_cks 2 5 true prog_3_method_1_code 44 [(.aload_n 0, 0, 0, 0, 0), (.getfield 20, 2, 4, 4, 348)] = true := by decide +kernel
theorem ck_Dr_init_48_40 : ia_cks 2 5 true prog_3_method_1_code 48 [(.iload 4, 0, 0, 0, 0)] = true := by decide +kernel
theorem ks_2_28 : kd_D 373 = (9, 0) := by decide +kernel
theorem ck_Dr_init_53_42 : ia_cks 2 5 true prog_3_method_1_code 53 [(.dup, 0, 0, 0, 0), (.aload_n 2, 0, 0, 0, 0), (.aload_n 3, 0, 0, 0, 0)] = true := by decide +kernel
theorem ck_Dr_init_59_43 : ia_cks 2 5 true prog_3_method_1_code 59 [(.aastore, 9, 0, 0, 0)] = true := by decide +kernel
theorem ck_Dr_init_60_44 : ia_cks 2 5 true prog_3_method_1_code 60 [(.iinc 4 1, 0, 0, 0, 0), (.goto (-26), 0, 0, 0, 0)] = true := by decide +kernel
theorem ck_Dr_init_37_45 : ia_cks 2 5 true prog_3_method_1_code 37 [(.iload 4, 0, 0, 0, 0), (.bipush 6, 0, 0, 0, 0), (.if_icmp .gt 25, 0, 0, 0, 0)] = true := by decide +kernel
theorem ck_Dr_init_44_46 : ia_cks 2 5 true prog_3_method_1_code 44 [(.aload_n 0, 0, 0, 0, 0), (.getfield 20, 2, 4, 4, 348)] = true := by decide +kernel
theorem ck_Dr_init_48_47 : ia_cks 2 5 true prog_3_method_1_code 48 [(.iload 4, 0, 0, 0, 0)] = true := by decide +kernel
theorem ks_2_36 : kd_D 381 = (9, 0) := by decide +kernel
theorem ck_Dr_init_53_49 : ia_cks 2 5 true prog_3_method_1_code 53 [(.dup, 0, 0, 0, 0), (.aload_n 2, 0, 0, 0, 0), (.aload_n 3, 0, 0, 0, 0)] = true := by decide +kernel
theorem ck_Dr_init_59_50 : ia_cks 2 5 true prog_3_method_1_code 59 [(.aastore, 9, 0, 0, 0)] = true := by decide +kernel
theorem ck_Dr_init_60_51 : ia_cks 2 5 true prog_3_method_1_code 60 [(.iinc 4 1, 0, 0, 0, 0), (.goto (-26), 0, 0, 0, 0)] = true := by decide +kernel
theorem ck_Dr_init_37_52 : ia_cks 2 5 true prog_3_method_1_code 37 [(.iload 4, 0, 0, 0, 0), (.bipush 6, 0, 0, 0, 0), (.if_icmp .gt 25, 0, 0, 0, 0)] = true := by decide +kernel
theorem ck_Dr_init_44_53 : ia_cks 2 5 true prog_3_method_1_code 44 [(.aload_n 0, 0, 0, 0, 0), (.getfield 20, 2, 4, 4, 348)] = true := by decide +kernel
theorem ck_Dr_init_48_54 : ia_cks 2 5 true prog_3_method_1_code 48 [(.iload 4, 0, 0, 0, 0)] = true := by decide +kernel
theorem ks_2_44 : kd_D 389 = (9, 0) := by decide +kernel
theorem ck_Dr_init_53_56 : ia_cks 2 5 true prog_3_method_1_code 53 [(.dup, 0, 0, 0, 0), (.aload_n 2, 0, 0, 0, 0), (.aload_n 3, 0, 0, 0, 0)] = true := by decide +kernel
theorem ck_Dr_init_59_57 : ia_cks 2 5 true prog_3_method_1_code 59 [(.aastore, 9, 0, 0, 0)] = true := by decide +kernel
theorem ck_Dr_init_60_58 : ia_cks 2 5 true prog_3_method_1_code 60 [(.iinc 4 1, 0, 0, 0, 0), (.goto (-26), 0, 0, 0, 0)] = true := by decide +kernel
theorem ck_Dr_init_37_59 : ia_cks 2 5 true prog_3_method_1_code 37 [(.iload 4, 0, 0, 0, 0), (.bipush 6, 0, 0, 0, 0), (.if_icmp .gt 25, 0, 0, 0, 0)] = true := by decide +kernel
theorem ck_Dr_init_44_60 : ia_cks 2 5 true prog_3_method_1_code 44 [(.aload_n 0, 0, 0, 0, 0), (.getfield 20, 2, 4, 4, 348)] = true := by decide +kernel
theorem ck_Dr_init_48_61 : ia_cks 2 5 true prog_3_method_1_code 48 [(.iload 4, 0, 0, 0, 0)] = true := by decide +kernel
theorem ks_2_52 : kd_D 397 = (9, 0) := by decide +kernel
theorem ck_Dr_init_53_63 : ia_cks 2 5 true prog_3_method_1_code 53 [(.dup, 0, 0, 0, 0), (.aload_n 2, 0, 0, 0, 0), (.aload_n 3, 0, 0, 0, 0)] = true := by decide +kernel
theorem ck_Dr_init_59_64 : ia_cks 2 5 true prog_3_method_1_code 59 [(.aastore, 9, 0, 0, 0)] = true := by decide +kernel
theorem ck_Dr_init_60_65 : ia_cks 2 5 true prog_3_method_1_code 60 [(.iinc 4 1, 0, 0, 0, 0), (.goto (-26), 0, 0, 0, 0)] = true := by decide +kernel
theorem ck_Dr_init_37_66 : ia_cks 2 5 true prog_3_method_1_code 37 [(.iload 4, 0, 0, 0, 0), (.bipush 6, 0, 0, 0, 0), (.if_icmp .gt 25, 0, 0, 0, 0)] = true := by decide +kernel
theorem ck_Dr_init_66_67 : ia_cks 2 5 true prog_3_method_1_code 66 [(.aload_n 0, 0, 0, 0, 0)] = true := by decide +kernel
theorem dc_Dr_init_67 : decode prog_3_method_1_code 67 = .ok (.new 18, 3) := by decide +kernel
theorem ks_2_60 : kd_D 405 = (9, 0) := by decide +kernel
theorem ck_Dr_init_70_70 : ia_cks 2 5 true prog_3_method_1_code 70 [(.dup, 0, 0, 0, 0), (.aload_n 2, 0, 0, 0, 0), (.aload_n 3, 0, 0, 0, 0)] = true := by decide +kernel
theorem dc_Dr_init_73 : decode prog_3_method_1_code 73 = .ok (.invokespecial 28, 3) := by decide +kernel
theorem ck_Dr_init_76_72 : ia_cks 2 5 true prog_3_method_1_code 76 [(.putfield 31, 2, 5, 2, 0)] = true := by decide +kernel
theorem dc_Dr_init_79 : decode prog_3_method_1_code 79 = .ok (.return_, 1) := by decide +kernel
theorem rdo_2 (k f : Nat) (q : rd_o 2 k = some f) : (k = 1 ∧ f = 1) ∨ (k = 3 ∧ f = 2) ∨ (k = 4 ∧ f = 3) ∨ (k = 5 ∧ f = 60) := by
  unfold rd_o at q
  split at q <;> simp_all
theorem rdc_2 (k f : Nat) (q : rd_c 2 k = some f) : (k = 2 ∧ f = 311) := by
  unfold rd_c at q
  split at q <;> simp_all
set_option maxHeartbeats 8000000 in
theorem mc_Dr_init (d : Nat) {b1 : Nat} {b2 : Nat} (q1 : (kd_D b1).1 = 3) (q2 : (kd_D b2).1 = 4) {S : List Nat} {w : ia_O0} {h : ia_H} (hh : hc_ 346 (345 :: S) w h) : ∃ h1, ia_Ev (d + 1) mm_Dr_init [.inr (.inr 345), .inr (.inr 311), .inr (.inr b1), .inr (.inr b2)] h none h1 ∧ hc_ (413) S w h1 ∧ hf_ 345 h h1 := by
  have pe : (kd_D 345).1 = 2 := by decide +kernel
  have ha : 64 ≤ 345 := by decide
  have hf0 : hf_ 345 h h := fun b hb => ⟨rfl, rfl, rfl⟩
  obtain ⟨h1, e1⟩ : ∃ x, x = ia_nw h 100 6 6 := ⟨_, rfl⟩
  have c1 : hc_ (347) (345 :: S) w h1 := by rw [e1]; exact hc_arr hh ks_2_1 (by decide) (by decide)
  have f1 : hf_ 345 h h1 := by rw [e1]; exact hf_nw hf0 (hc_le hh (by decide))
  obtain ⟨h2, e2⟩ : ∃ x, x = ia_wR h1 345 1 346 := ⟨_, rfl⟩
  have c2 : hc_ (347) (345 :: S) w h2 := by rw [e2]; exact hc_wR c1 List.mem_cons_self
  have f2 : hf_ 345 h h2 := by rw [e2]; exact hf_wR f1 (Nat.le_refl _)
  have r0_1_2 : ia_r h2 345 1 = 346 := by rw [e2]; exact wR_s
  obtain ⟨h3, e3⟩ : ∃ x, x = ia_nw h2 100 6 6 := ⟨_, rfl⟩
  have c3 : hc_ (348) (345 :: S) w h3 := by rw [e3]; exact hc_arr c2 ks_2_2 (by decide) (by decide)
  have f3 : hf_ 345 h h3 := by rw [e3]; exact hf_nw f2 (hc_le c2 (by decide))
  have r0_1_3 : ia_r h3 345 1 = 346 := by rw [e3]; exact hn_r (hc_ne c2 (by decide)) r0_1_2
  obtain ⟨h4, e4⟩ : ∃ x, x = ia_wR h3 345 3 347 := ⟨_, rfl⟩
  have c4 : hc_ (348) (345 :: S) w h4 := by rw [e4]; exact hc_wR c3 List.mem_cons_self
  have f4 : hf_ 345 h h4 := by rw [e4]; exact hf_wR f3 (Nat.le_refl _)
  have r0_1_4 : ia_r h4 345 1 = 346 := by rw [e4]; exact hw_r (by decide) r0_1_3
  have r0_3_4 : ia_r h4 345 3 = 347 := by rw [e4]; exact wR_s
  obtain ⟨h5, e5⟩ : ∃ x, x = ia_nw h4 113 7 7 := ⟨_, rfl⟩
  have c5 : hc_ (349) (348 :: 345 :: S) w h5 := by rw [e5]; exact hc_new c4 ks_2_3 rfl (by decide) (by decide)
  have f5 : hf_ 345 h h5 := by rw [e5]; exact hf_nw f4 (hc_le c4 (by decide))
  have r0_1_5 : ia_r h5 345 1 = 346 := by rw [e5]; exact hn_r (hc_ne c4 (by decide)) r0_1_4
  have r0_3_5 : ia_r h5 345 3 = 347 := by rw [e5]; exact hn_r (hc_ne c4 (by decide)) r0_3_4
  obtain ⟨h6, e6⟩ : ∃ x, x = ia_wR h5 345 4 348 := ⟨_, rfl⟩
  have c6 : hc_ (349) (348 :: 345 :: S) w h6 := by rw [e6]; exact hc_wR c5 (List.mem_cons_of_mem _ List.mem_cons_self)
  have f6 : hf_ 345 h h6 := by rw [e6]; exact hf_wR f5 (Nat.le_refl _)
  have r0_1_6 : ia_r h6 345 1 = 346 := by rw [e6]; exact hw_r (by decide) r0_1_5
  have r0_3_6 : ia_r h6 345 3 = 347 := by rw [e6]; exact hw_r (by decide) r0_3_5
  have r0_4_6 : ia_r h6 345 4 = 348 := by rw [e6]; exact wR_s
  obtain ⟨h7, e7⟩ : ∃ x, x = ia_wR h6 345 2 311 := ⟨_, rfl⟩
  have c7 : hc_ (349) (348 :: 345 :: S) w h7 := by rw [e7]; exact hc_wR c6 (List.mem_cons_of_mem _ List.mem_cons_self)
  have f7 : hf_ 345 h h7 := by rw [e7]; exact hf_wR f6 (Nat.le_refl _)
  have r0_1_7 : ia_r h7 345 1 = 346 := by rw [e7]; exact hw_r (by decide) r0_1_6
  have r0_3_7 : ia_r h7 345 3 = 347 := by rw [e7]; exact hw_r (by decide) r0_3_6
  have r0_4_7 : ia_r h7 345 4 = 348 := by rw [e7]; exact hw_r (by decide) r0_4_6
  have r0_2_7 : ia_r h7 345 2 = 311 := by rw [e7]; exact wR_s
  obtain ⟨h8, e8⟩ : ∃ x, x = ia_nw h7 9 0 11 := ⟨_, rfl⟩
  have c8 : hc_ (350) (349 :: 348 :: 345 :: S) w h8 := by rw [e8]; exact hc_new c7 ks_2_4 rfl (by decide) (by decide)
  have f8 : hf_ 345 h h8 := by rw [e8]; exact hf_nw f7 (hc_le c7 (by decide))
  have r0_1_8 : ia_r h8 345 1 = 346 := by rw [e8]; exact hn_r (hc_ne c7 (by decide)) r0_1_7
  have r0_3_8 : ia_r h8 345 3 = 347 := by rw [e8]; exact hn_r (hc_ne c7 (by decide)) r0_3_7
  have r0_4_8 : ia_r h8 345 4 = 348 := by rw [e8]; exact hn_r (hc_ne c7 (by decide)) r0_4_7
  have r0_2_8 : ia_r h8 345 2 = 311 := by rw [e8]; exact hn_r (hc_ne c7 (by decide)) r0_2_7
  obtain ⟨h9, v9, cc9, ff9⟩ := mc_Sc_init (d + 0) (congrArg Prod.fst ks_2_4) q1 q2 c8
  have c9 : hc_ (357) (348 :: 345 :: S) w h9 := by exact cc9
  have f9 : hf_ 345 h h9 := by exact hf_trans f8 ff9 (by decide)
  have r0_1_9 : ia_r h9 345 1 = 346 := by exact hf_r ff9 (by decide) r0_1_8
  have r0_3_9 : ia_r h9 345 3 = 347 := by exact hf_r ff9 (by decide) r0_3_8
  have r0_4_9 : ia_r h9 345 4 = 348 := by exact hf_r ff9 (by decide) r0_4_8
  have r0_2_9 : ia_r h9 345 2 = 311 := by exact hf_r ff9 (by decide) r0_2_8
  obtain ⟨h10, e10⟩ : ∃ x, x = ia_wR h9 348 0 349 := ⟨_, rfl⟩
  have c10 : hc_ (357) (348 :: 345 :: S) w h10 := by rw [e10]; exact hc_wR c9 List.mem_cons_self
  have f10 : hf_ 345 h h10 := by rw [e10]; exact hf_wR f9 (by decide)
  have r0_1_10 : ia_r h10 345 1 = 346 := by rw [e10]; exact wR_o (by decide) r0_1_9
  have r0_3_10 : ia_r h10 345 3 = 347 := by rw [e10]; exact wR_o (by decide) r0_3_9
  have r0_4_10 : ia_r h10 345 4 = 348 := by rw [e10]; exact wR_o (by decide) r0_4_9
  have r0_2_10 : ia_r h10 345 2 = 311 := by rw [e10]; exact wR_o (by decide) r0_2_9
  have r3_0_10 : ia_r h10 348 0 = 349 := by rw [e10]; exact wR_s
  obtain ⟨h11, e11⟩ : ∃ x, x = ia_nw h10 9 0 11 := ⟨_, rfl⟩
  have c11 : hc_ (358) (357 :: 348 :: 345 :: S) w h11 := by rw [e11]; exact hc_new c10 ks_2_12 rfl (by decide) (by decide)
  have f11 : hf_ 345 h h11 := by rw [e11]; exact hf_nw f10 (hc_le c10 (by decide))
  have r0_1_11 : ia_r h11 345 1 = 346 := by rw [e11]; exact hn_r (hc_ne c10 (by decide)) r0_1_10
  have r0_3_11 : ia_r h11 345 3 = 347 := by rw [e11]; exact hn_r (hc_ne c10 (by decide)) r0_3_10
  have r0_4_11 : ia_r h11 345 4 = 348 := by rw [e11]; exact hn_r (hc_ne c10 (by decide)) r0_4_10
  have r0_2_11 : ia_r h11 345 2 = 311 := by rw [e11]; exact hn_r (hc_ne c10 (by decide)) r0_2_10
  have r3_0_11 : ia_r h11 348 0 = 349 := by rw [e11]; exact hn_r (hc_ne c10 (by decide)) r3_0_10
  obtain ⟨h12, v12, cc12, ff12⟩ := mc_Sc_init (d + 0) (congrArg Prod.fst ks_2_12) q1 q2 c11
  have c12 : hc_ (365) (348 :: 345 :: S) w h12 := by exact cc12
  have f12 : hf_ 345 h h12 := by exact hf_trans f11 ff12 (by decide)
  have r0_1_12 : ia_r h12 345 1 = 346 := by exact hf_r ff12 (by decide) r0_1_11
  have r0_3_12 : ia_r h12 345 3 = 347 := by exact hf_r ff12 (by decide) r0_3_11
  have r0_4_12 : ia_r h12 345 4 = 348 := by exact hf_r ff12 (by decide) r0_4_11
  have r0_2_12 : ia_r h12 345 2 = 311 := by exact hf_r ff12 (by decide) r0_2_11
  have r3_0_12 : ia_r h12 348 0 = 349 := by exact hf_r ff12 (by decide) r3_0_11
  obtain ⟨h13, e13⟩ : ∃ x, x = ia_wR h12 348 1 357 := ⟨_, rfl⟩
  have c13 : hc_ (365) (348 :: 345 :: S) w h13 := by rw [e13]; exact hc_wR c12 List.mem_cons_self
  have f13 : hf_ 345 h h13 := by rw [e13]; exact hf_wR f12 (by decide)
  have r0_1_13 : ia_r h13 345 1 = 346 := by rw [e13]; exact wR_o (by decide) r0_1_12
  have r0_3_13 : ia_r h13 345 3 = 347 := by rw [e13]; exact wR_o (by decide) r0_3_12
  have r0_4_13 : ia_r h13 345 4 = 348 := by rw [e13]; exact wR_o (by decide) r0_4_12
  have r0_2_13 : ia_r h13 345 2 = 311 := by rw [e13]; exact wR_o (by decide) r0_2_12
  have r3_0_13 : ia_r h13 348 0 = 349 := by rw [e13]; exact hw_r (by decide) r3_0_12
  have r3_1_13 : ia_r h13 348 1 = 357 := by rw [e13]; exact wR_s
  obtain ⟨h14, e14⟩ : ∃ x, x = ia_nw h13 9 0 11 := ⟨_, rfl⟩
  have c14 : hc_ (366) (365 :: 348 :: 345 :: S) w h14 := by rw [e14]; exact hc_new c13 ks_2_20 rfl (by decide) (by decide)
  have f14 : hf_ 345 h h14 := by rw [e14]; exact hf_nw f13 (hc_le c13 (by decide))
  have r0_1_14 : ia_r h14 345 1 = 346 := by rw [e14]; exact hn_r (hc_ne c13 (by decide)) r0_1_13
  have r0_3_14 : ia_r h14 345 3 = 347 := by rw [e14]; exact hn_r (hc_ne c13 (by decide)) r0_3_13
  have r0_4_14 : ia_r h14 345 4 = 348 := by rw [e14]; exact hn_r (hc_ne c13 (by decide)) r0_4_13
  have r0_2_14 : ia_r h14 345 2 = 311 := by rw [e14]; exact hn_r (hc_ne c13 (by decide)) r0_2_13
  have r3_0_14 : ia_r h14 348 0 = 349 := by rw [e14]; exact hn_r (hc_ne c13 (by decide)) r3_0_13
  have r3_1_14 : ia_r h14 348 1 = 357 := by rw [e14]; exact hn_r (hc_ne c13 (by decide)) r3_1_13
  obtain ⟨h15, v15, cc15, ff15⟩ := mc_Sc_init (d + 0) (congrArg Prod.fst ks_2_20) q1 q2 c14
  have c15 : hc_ (373) (348 :: 345 :: S) w h15 := by exact cc15
  have f15 : hf_ 345 h h15 := by exact hf_trans f14 ff15 (by decide)
  have r0_1_15 : ia_r h15 345 1 = 346 := by exact hf_r ff15 (by decide) r0_1_14
  have r0_3_15 : ia_r h15 345 3 = 347 := by exact hf_r ff15 (by decide) r0_3_14
  have r0_4_15 : ia_r h15 345 4 = 348 := by exact hf_r ff15 (by decide) r0_4_14
  have r0_2_15 : ia_r h15 345 2 = 311 := by exact hf_r ff15 (by decide) r0_2_14
  have r3_0_15 : ia_r h15 348 0 = 349 := by exact hf_r ff15 (by decide) r3_0_14
  have r3_1_15 : ia_r h15 348 1 = 357 := by exact hf_r ff15 (by decide) r3_1_14
  obtain ⟨h16, e16⟩ : ∃ x, x = ia_wR h15 348 2 365 := ⟨_, rfl⟩
  have c16 : hc_ (373) (348 :: 345 :: S) w h16 := by rw [e16]; exact hc_wR c15 List.mem_cons_self
  have f16 : hf_ 345 h h16 := by rw [e16]; exact hf_wR f15 (by decide)
  have r0_1_16 : ia_r h16 345 1 = 346 := by rw [e16]; exact wR_o (by decide) r0_1_15
  have r0_3_16 : ia_r h16 345 3 = 347 := by rw [e16]; exact wR_o (by decide) r0_3_15
  have r0_4_16 : ia_r h16 345 4 = 348 := by rw [e16]; exact wR_o (by decide) r0_4_15
  have r0_2_16 : ia_r h16 345 2 = 311 := by rw [e16]; exact wR_o (by decide) r0_2_15
  have r3_0_16 : ia_r h16 348 0 = 349 := by rw [e16]; exact hw_r (by decide) r3_0_15
  have r3_1_16 : ia_r h16 348 1 = 357 := by rw [e16]; exact hw_r (by decide) r3_1_15
  have r3_2_16 : ia_r h16 348 2 = 365 := by rw [e16]; exact wR_s
  obtain ⟨h17, e17⟩ : ∃ x, x = ia_nw h16 9 0 11 := ⟨_, rfl⟩
  have c17 : hc_ (374) (373 :: 348 :: 345 :: S) w h17 := by rw [e17]; exact hc_new c16 ks_2_28 rfl (by decide) (by decide)
  have f17 : hf_ 345 h h17 := by rw [e17]; exact hf_nw f16 (hc_le c16 (by decide))
  have r0_1_17 : ia_r h17 345 1 = 346 := by rw [e17]; exact hn_r (hc_ne c16 (by decide)) r0_1_16
  have r0_3_17 : ia_r h17 345 3 = 347 := by rw [e17]; exact hn_r (hc_ne c16 (by decide)) r0_3_16
  have r0_4_17 : ia_r h17 345 4 = 348 := by rw [e17]; exact hn_r (hc_ne c16 (by decide)) r0_4_16
  have r0_2_17 : ia_r h17 345 2 = 311 := by rw [e17]; exact hn_r (hc_ne c16 (by decide)) r0_2_16
  have r3_0_17 : ia_r h17 348 0 = 349 := by rw [e17]; exact hn_r (hc_ne c16 (by decide)) r3_0_16
  have r3_1_17 : ia_r h17 348 1 = 357 := by rw [e17]; exact hn_r (hc_ne c16 (by decide)) r3_1_16
  have r3_2_17 : ia_r h17 348 2 = 365 := by rw [e17]; exact hn_r (hc_ne c16 (by decide)) r3_2_16
  obtain ⟨h18, v18, cc18, ff18⟩ := mc_Sc_init (d + 0) (congrArg Prod.fst ks_2_28) q1 q2 c17
  have c18 : hc_ (381) (348 :: 345 :: S) w h18 := by exact cc18
  have f18 : hf_ 345 h h18 := by exact hf_trans f17 ff18 (by decide)
  have r0_1_18 : ia_r h18 345 1 = 346 := by exact hf_r ff18 (by decide) r0_1_17
  have r0_3_18 : ia_r h18 345 3 = 347 := by exact hf_r ff18 (by decide) r0_3_17
  have r0_4_18 : ia_r h18 345 4 = 348 := by exact hf_r ff18 (by decide) r0_4_17
  have r0_2_18 : ia_r h18 345 2 = 311 := by exact hf_r ff18 (by decide) r0_2_17
  have r3_0_18 : ia_r h18 348 0 = 349 := by exact hf_r ff18 (by decide) r3_0_17
  have r3_1_18 : ia_r h18 348 1 = 357 := by exact hf_r ff18 (by decide) r3_1_17
  have r3_2_18 : ia_r h18 348 2 = 365 := by exact hf_r ff18 (by decide) r3_2_17
  obtain ⟨h19, e19⟩ : ∃ x, x = ia_wR h18 348 3 373 := ⟨_, rfl⟩
  have c19 : hc_ (381) (348 :: 345 :: S) w h19 := by rw [e19]; exact hc_wR c18 List.mem_cons_self
  have f19 : hf_ 345 h h19 := by rw [e19]; exact hf_wR f18 (by decide)
  have r0_1_19 : ia_r h19 345 1 = 346 := by rw [e19]; exact wR_o (by decide) r0_1_18
  have r0_3_19 : ia_r h19 345 3 = 347 := by rw [e19]; exact wR_o (by decide) r0_3_18
  have r0_4_19 : ia_r h19 345 4 = 348 := by rw [e19]; exact wR_o (by decide) r0_4_18
  have r0_2_19 : ia_r h19 345 2 = 311 := by rw [e19]; exact wR_o (by decide) r0_2_18
  have r3_0_19 : ia_r h19 348 0 = 349 := by rw [e19]; exact hw_r (by decide) r3_0_18
  have r3_1_19 : ia_r h19 348 1 = 357 := by rw [e19]; exact hw_r (by decide) r3_1_18
  have r3_2_19 : ia_r h19 348 2 = 365 := by rw [e19]; exact hw_r (by decide) r3_2_18
  have r3_3_19 : ia_r h19 348 3 = 373 := by rw [e19]; exact wR_s
  obtain ⟨h20, e20⟩ : ∃ x, x = ia_nw h19 9 0 11 := ⟨_, rfl⟩
  have c20 : hc_ (382) (381 :: 348 :: 345 :: S) w h20 := by rw [e20]; exact hc_new c19 ks_2_36 rfl (by decide) (by decide)
  have f20 : hf_ 345 h h20 := by rw [e20]; exact hf_nw f19 (hc_le c19 (by decide))
  have r0_1_20 : ia_r h20 345 1 = 346 := by rw [e20]; exact hn_r (hc_ne c19 (by decide)) r0_1_19
  have r0_3_20 : ia_r h20 345 3 = 347 := by rw [e20]; exact hn_r (hc_ne c19 (by decide)) r0_3_19
  have r0_4_20 : ia_r h20 345 4 = 348 := by rw [e20]; exact hn_r (hc_ne c19 (by decide)) r0_4_19
  have r0_2_20 : ia_r h20 345 2 = 311 := by rw [e20]; exact hn_r (hc_ne c19 (by decide)) r0_2_19
  have r3_0_20 : ia_r h20 348 0 = 349 := by rw [e20]; exact hn_r (hc_ne c19 (by decide)) r3_0_19
  have r3_1_20 : ia_r h20 348 1 = 357 := by rw [e20]; exact hn_r (hc_ne c19 (by decide)) r3_1_19
  have r3_2_20 : ia_r h20 348 2 = 365 := by rw [e20]; exact hn_r (hc_ne c19 (by decide)) r3_2_19
  have r3_3_20 : ia_r h20 348 3 = 373 := by rw [e20]; exact hn_r (hc_ne c19 (by decide)) r3_3_19
  obtain ⟨h21, v21, cc21, ff21⟩ := mc_Sc_init (d + 0) (congrArg Prod.fst ks_2_36) q1 q2 c20
  have c21 : hc_ (389) (348 :: 345 :: S) w h21 := by exact cc21
  have f21 : hf_ 345 h h21 := by exact hf_trans f20 ff21 (by decide)
  have r0_1_21 : ia_r h21 345 1 = 346 := by exact hf_r ff21 (by decide) r0_1_20
  have r0_3_21 : ia_r h21 345 3 = 347 := by exact hf_r ff21 (by decide) r0_3_20
  have r0_4_21 : ia_r h21 345 4 = 348 := by exact hf_r ff21 (by decide) r0_4_20
  have r0_2_21 : ia_r h21 345 2 = 311 := by exact hf_r ff21 (by decide) r0_2_20
  have r3_0_21 : ia_r h21 348 0 = 349 := by exact hf_r ff21 (by decide) r3_0_20
  have r3_1_21 : ia_r h21 348 1 = 357 := by exact hf_r ff21 (by decide) r3_1_20
  have r3_2_21 : ia_r h21 348 2 = 365 := by exact hf_r ff21 (by decide) r3_2_20
  have r3_3_21 : ia_r h21 348 3 = 373 := by exact hf_r ff21 (by decide) r3_3_20
  obtain ⟨h22, e22⟩ : ∃ x, x = ia_wR h21 348 4 381 := ⟨_, rfl⟩
  have c22 : hc_ (389) (348 :: 345 :: S) w h22 := by rw [e22]; exact hc_wR c21 List.mem_cons_self
  have f22 : hf_ 345 h h22 := by rw [e22]; exact hf_wR f21 (by decide)
  have r0_1_22 : ia_r h22 345 1 = 346 := by rw [e22]; exact wR_o (by decide) r0_1_21
  have r0_3_22 : ia_r h22 345 3 = 347 := by rw [e22]; exact wR_o (by decide) r0_3_21
  have r0_4_22 : ia_r h22 345 4 = 348 := by rw [e22]; exact wR_o (by decide) r0_4_21
  have r0_2_22 : ia_r h22 345 2 = 311 := by rw [e22]; exact wR_o (by decide) r0_2_21
  have r3_0_22 : ia_r h22 348 0 = 349 := by rw [e22]; exact hw_r (by decide) r3_0_21
  have r3_1_22 : ia_r h22 348 1 = 357 := by rw [e22]; exact hw_r (by decide) r3_1_21
  have r3_2_22 : ia_r h22 348 2 = 365 := by rw [e22]; exact hw_r (by decide) r3_2_21
  have r3_3_22 : ia_r h22 348 3 = 373 := by rw [e22]; exact hw_r (by decide) r3_3_21
  have r3_4_22 : ia_r h22 348 4 = 381 := by rw [e22]; exact wR_s
  obtain ⟨h23, e23⟩ : ∃ x, x = ia_nw h22 9 0 11 := ⟨_, rfl⟩
  have c23 : hc_ (390) (389 :: 348 :: 345 :: S) w h23 := by rw [e23]; exact hc_new c22 ks_2_44 rfl (by decide) (by decide)
  have f23 : hf_ 345 h h23 := by rw [e23]; exact hf_nw f22 (hc_le c22 (by decide))
  have r0_1_23 : ia_r h23 345 1 = 346 := by rw [e23]; exact hn_r (hc_ne c22 (by decide)) r0_1_22
  have r0_3_23 : ia_r h23 345 3 = 347 := by rw [e23]; exact hn_r (hc_ne c22 (by decide)) r0_3_22
  have r0_4_23 : ia_r h23 345 4 = 348 := by rw [e23]; exact hn_r (hc_ne c22 (by decide)) r0_4_22
  have r0_2_23 : ia_r h23 345 2 = 311 := by rw [e23]; exact hn_r (hc_ne c22 (by decide)) r0_2_22
  have r3_0_23 : ia_r h23 348 0 = 349 := by rw [e23]; exact hn_r (hc_ne c22 (by decide)) r3_0_22
  have r3_1_23 : ia_r h23 348 1 = 357 := by rw [e23]; exact hn_r (hc_ne c22 (by decide)) r3_1_22
  have r3_2_23 : ia_r h23 348 2 = 365 := by rw [e23]; exact hn_r (hc_ne c22 (by decide)) r3_2_22
  have r3_3_23 : ia_r h23 348 3 = 373 := by rw [e23]; exact hn_r (hc_ne c22 (by decide)) r3_3_22
  have r3_4_23 : ia_r h23 348 4 = 381 := by rw [e23]; exact hn_r (hc_ne c22 (by decide)) r3_4_22
  obtain ⟨h24, v24, cc24, ff24⟩ := mc_Sc_init (d + 0) (congrArg Prod.fst ks_2_44) q1 q2 c23
  have c24 : hc_ (397) (348 :: 345 :: S) w h24 := by exact cc24
  have f24 : hf_ 345 h h24 := by exact hf_trans f23 ff24 (by decide)
  have r0_1_24 : ia_r h24 345 1 = 346 := by exact hf_r ff24 (by decide) r0_1_23
  have r0_3_24 : ia_r h24 345 3 = 347 := by exact hf_r ff24 (by decide) r0_3_23
  have r0_4_24 : ia_r h24 345 4 = 348 := by exact hf_r ff24 (by decide) r0_4_23
  have r0_2_24 : ia_r h24 345 2 = 311 := by exact hf_r ff24 (by decide) r0_2_23
  have r3_0_24 : ia_r h24 348 0 = 349 := by exact hf_r ff24 (by decide) r3_0_23
  have r3_1_24 : ia_r h24 348 1 = 357 := by exact hf_r ff24 (by decide) r3_1_23
  have r3_2_24 : ia_r h24 348 2 = 365 := by exact hf_r ff24 (by decide) r3_2_23
  have r3_3_24 : ia_r h24 348 3 = 373 := by exact hf_r ff24 (by decide) r3_3_23
  have r3_4_24 : ia_r h24 348 4 = 381 := by exact hf_r ff24 (by decide) r3_4_23
  obtain ⟨h25, e25⟩ : ∃ x, x = ia_wR h24 348 5 389 := ⟨_, rfl⟩
  have c25 : hc_ (397) (348 :: 345 :: S) w h25 := by rw [e25]; exact hc_wR c24 List.mem_cons_self
  have f25 : hf_ 345 h h25 := by rw [e25]; exact hf_wR f24 (by decide)
  have r0_1_25 : ia_r h25 345 1 = 346 := by rw [e25]; exact wR_o (by decide) r0_1_24
  have r0_3_25 : ia_r h25 345 3 = 347 := by rw [e25]; exact wR_o (by decide) r0_3_24
  have r0_4_25 : ia_r h25 345 4 = 348 := by rw [e25]; exact wR_o (by decide) r0_4_24
  have r0_2_25 : ia_r h25 345 2 = 311 := by rw [e25]; exact wR_o (by decide) r0_2_24
  have r3_0_25 : ia_r h25 348 0 = 349 := by rw [e25]; exact hw_r (by decide) r3_0_24
  have r3_1_25 : ia_r h25 348 1 = 357 := by rw [e25]; exact hw_r (by decide) r3_1_24
  have r3_2_25 : ia_r h25 348 2 = 365 := by rw [e25]; exact hw_r (by decide) r3_2_24
  have r3_3_25 : ia_r h25 348 3 = 373 := by rw [e25]; exact hw_r (by decide) r3_3_24
  have r3_4_25 : ia_r h25 348 4 = 381 := by rw [e25]; exact hw_r (by decide) r3_4_24
  have r3_5_25 : ia_r h25 348 5 = 389 := by rw [e25]; exact wR_s
  obtain ⟨h26, e26⟩ : ∃ x, x = ia_nw h25 9 0 11 := ⟨_, rfl⟩
  have c26 : hc_ (398) (397 :: 348 :: 345 :: S) w h26 := by rw [e26]; exact hc_new c25 ks_2_52 rfl (by decide) (by decide)
  have f26 : hf_ 345 h h26 := by rw [e26]; exact hf_nw f25 (hc_le c25 (by decide))
  have r0_1_26 : ia_r h26 345 1 = 346 := by rw [e26]; exact hn_r (hc_ne c25 (by decide)) r0_1_25
  have r0_3_26 : ia_r h26 345 3 = 347 := by rw [e26]; exact hn_r (hc_ne c25 (by decide)) r0_3_25
  have r0_4_26 : ia_r h26 345 4 = 348 := by rw [e26]; exact hn_r (hc_ne c25 (by decide)) r0_4_25
  have r0_2_26 : ia_r h26 345 2 = 311 := by rw [e26]; exact hn_r (hc_ne c25 (by decide)) r0_2_25
  have r3_0_26 : ia_r h26 348 0 = 349 := by rw [e26]; exact hn_r (hc_ne c25 (by decide)) r3_0_25
  have r3_1_26 : ia_r h26 348 1 = 357 := by rw [e26]; exact hn_r (hc_ne c25 (by decide)) r3_1_25
  have r3_2_26 : ia_r h26 348 2 = 365 := by rw [e26]; exact hn_r (hc_ne c25 (by decide)) r3_2_25
  have r3_3_26 : ia_r h26 348 3 = 373 := by rw [e26]; exact hn_r (hc_ne c25 (by decide)) r3_3_25
  have r3_4_26 : ia_r h26 348 4 = 381 := by rw [e26]; exact hn_r (hc_ne c25 (by decide)) r3_4_25
  have r3_5_26 : ia_r h26 348 5 = 389 := by rw [e26]; exact hn_r (hc_ne c25 (by decide)) r3_5_25
  obtain ⟨h27, v27, cc27, ff27⟩ := mc_Sc_init (d + 0) (congrArg Prod.fst ks_2_52) q1 q2 c26
  have c27 : hc_ (405) (348 :: 345 :: S) w h27 := by exact cc27
  have f27 : hf_ 345 h h27 := by exact hf_trans f26 ff27 (by decide)
  have r0_1_27 : ia_r h27 345 1 = 346 := by exact hf_r ff27 (by decide) r0_1_26
  have r0_3_27 : ia_r h27 345 3 = 347 := by exact hf_r ff27 (by decide) r0_3_26
  have r0_4_27 : ia_r h27 345 4 = 348 := by exact hf_r ff27 (by decide) r0_4_26
  have r0_2_27 : ia_r h27 345 2 = 311 := by exact hf_r ff27 (by decide) r0_2_26
  have r3_0_27 : ia_r h27 348 0 = 349 := by exact hf_r ff27 (by decide) r3_0_26
  have r3_1_27 : ia_r h27 348 1 = 357 := by exact hf_r ff27 (by decide) r3_1_26
  have r3_2_27 : ia_r h27 348 2 = 365 := by exact hf_r ff27 (by decide) r3_2_26
  have r3_3_27 : ia_r h27 348 3 = 373 := by exact hf_r ff27 (by decide) r3_3_26
  have r3_4_27 : ia_r h27 348 4 = 381 := by exact hf_r ff27 (by decide) r3_4_26
  have r3_5_27 : ia_r h27 348 5 = 389 := by exact hf_r ff27 (by decide) r3_5_26
  obtain ⟨h28, e28⟩ : ∃ x, x = ia_wR h27 348 6 397 := ⟨_, rfl⟩
  have c28 : hc_ (405) (348 :: 345 :: S) w h28 := by rw [e28]; exact hc_wR c27 List.mem_cons_self
  have f28 : hf_ 345 h h28 := by rw [e28]; exact hf_wR f27 (by decide)
  have r0_1_28 : ia_r h28 345 1 = 346 := by rw [e28]; exact wR_o (by decide) r0_1_27
  have r0_3_28 : ia_r h28 345 3 = 347 := by rw [e28]; exact wR_o (by decide) r0_3_27
  have r0_4_28 : ia_r h28 345 4 = 348 := by rw [e28]; exact wR_o (by decide) r0_4_27
  have r0_2_28 : ia_r h28 345 2 = 311 := by rw [e28]; exact wR_o (by decide) r0_2_27
  have r3_0_28 : ia_r h28 348 0 = 349 := by rw [e28]; exact hw_r (by decide) r3_0_27
  have r3_1_28 : ia_r h28 348 1 = 357 := by rw [e28]; exact hw_r (by decide) r3_1_27
  have r3_2_28 : ia_r h28 348 2 = 365 := by rw [e28]; exact hw_r (by decide) r3_2_27
  have r3_3_28 : ia_r h28 348 3 = 373 := by rw [e28]; exact hw_r (by decide) r3_3_27
  have r3_4_28 : ia_r h28 348 4 = 381 := by rw [e28]; exact hw_r (by decide) r3_4_27
  have r3_5_28 : ia_r h28 348 5 = 389 := by rw [e28]; exact hw_r (by decide) r3_5_27
  have r3_6_28 : ia_r h28 348 6 = 397 := by rw [e28]; exact wR_s
  have d28_3 : hc_ (405) (345 :: S) w h28 := by
    refine hc_fin c28 ?_ ?_ ?_ ?_ ?_
    · intro k f q
      rw [ks_2_3] at q
      cases q
    · intro k f q
      rw [ks_2_3] at q
      cases q
    · intro j f q1 q2
      rw [ks_2_3] at q1 q2
      obtain rfl := Option.some.inj (show some 8 = some f from q1)
      rcases (show j = 0 ∨ j = 1 ∨ j = 2 ∨ j = 3 ∨ j = 4 ∨ j = 5 ∨ j = 6 by have q2 : j < 7 := q2; omega) with rfl | rfl | rfl | rfl | rfl | rfl | rfl
      · exact r3_0_28
      · exact r3_1_28
      · exact r3_2_28
      · exact r3_3_28
      · exact r3_4_28
      · exact r3_5_28
      · exact r3_6_28
    · intro q
      rw [ks_2_3] at q
      cases q
    · intro q
      rw [ks_2_3] at q
      cases q
  obtain ⟨h29, e29⟩ : ∃ x, x = ia_nw h28 9 0 11 := ⟨_, rfl⟩
  have c29 : hc_ (406) (405 :: 345 :: S) w h29 := by rw [e29]; exact hc_new d28_3 ks_2_60 rfl (by decide) (by decide)
  have f29 : hf_ 345 h h29 := by rw [e29]; exact hf_nw f28 (hc_le d28_3 (by decide))
  have r0_1_29 : ia_r h29 345 1 = 346 := by rw [e29]; exact hn_r (hc_ne d28_3 (by decide)) r0_1_28
  have r0_3_29 : ia_r h29 345 3 = 347 := by rw [e29]; exact hn_r (hc_ne d28_3 (by decide)) r0_3_28
  have r0_4_29 : ia_r h29 345 4 = 348 := by rw [e29]; exact hn_r (hc_ne d28_3 (by decide)) r0_4_28
  have r0_2_29 : ia_r h29 345 2 = 311 := by rw [e29]; exact hn_r (hc_ne d28_3 (by decide)) r0_2_28
  obtain ⟨h30, v30, cc30, ff30⟩ := mc_Sc_init (d + 0) (congrArg Prod.fst ks_2_60) q1 q2 c29
  have c30 : hc_ (413) (345 :: S) w h30 := by exact cc30
  have f30 : hf_ 345 h h30 := by exact hf_trans f29 ff30 (by decide)
  have r0_1_30 : ia_r h30 345 1 = 346 := by exact hf_r ff30 (by decide) r0_1_29
  have r0_3_30 : ia_r h30 345 3 = 347 := by exact hf_r ff30 (by decide) r0_3_29
  have r0_4_30 : ia_r h30 345 4 = 348 := by exact hf_r ff30 (by decide) r0_4_29
  have r0_2_30 : ia_r h30 345 2 = 311 := by exact hf_r ff30 (by decide) r0_2_29
  obtain ⟨h31, e31⟩ : ∃ x, x = ia_wR h30 345 5 405 := ⟨_, rfl⟩
  have c31 : hc_ (413) (345 :: S) w h31 := by rw [e31]; exact hc_wR c30 List.mem_cons_self
  have f31 : hf_ 345 h h31 := by rw [e31]; exact hf_wR f30 (Nat.le_refl _)
  have r0_1_31 : ia_r h31 345 1 = 346 := by rw [e31]; exact hw_r (by decide) r0_1_30
  have r0_3_31 : ia_r h31 345 3 = 347 := by rw [e31]; exact hw_r (by decide) r0_3_30
  have r0_4_31 : ia_r h31 345 4 = 348 := by rw [e31]; exact hw_r (by decide) r0_4_30
  have r0_2_31 : ia_r h31 345 2 = 311 := by rw [e31]; exact hw_r (by decide) r0_2_30
  have r0_5_31 : ia_r h31 345 5 = 405 := by rw [e31]; exact wR_s
  have d31_0 : hc_ (413) (S) w h31 := by
    refine hc_fin c31 ?_ ?_ ?_ ?_ ?_
    · intro k f q
      rw [pe] at q
      rcases rdo_2 k f q with ⟨rfl, rfl⟩ | ⟨rfl, rfl⟩ | ⟨rfl, rfl⟩ | ⟨rfl, rfl⟩
      · exact r0_1_31
      · exact r0_3_31
      · exact r0_4_31
      · exact r0_5_31
    · intro k f q
      rw [pe] at q
      rcases rdc_2 k f q with ⟨rfl, rfl⟩
      · exact r0_2_31
    · intro j f q
      rw [pe] at q
      cases q
    · intro q
      rw [pe] at q
      cases q
    · intro q
      rw [pe] at q
      cases q
  have cN : hc_ (413) (S) w h31 := d31_0
  refine ⟨h31, ia_Ev_intro ok_Dr_init (hc_cap hh cN (by decide)).1 (hc_cap hh cN (by decide)).2 (Nat.le_of_ble_eq_true rfl) (fun K hK hret => ?_), cN, f31⟩
  show K 0 [some (.inr (.inr 345)), some (.inr (.inr 311)), some (.inr (.inr b1)), some (.inr (.inr b2)), none] [] h
  refine ia_go hK ck_Dr_init_0_0 ?_
  show K 1 [some (.inr (.inr 345)), some (.inr (.inr 311)), some (.inr (.inr b1)), some (.inr (.inr b2)), none] [.inr (.inr 345)] h
  refine ia_obj hK (ia_tb_in (List.mem_of_getElem? (i := 641) (by decide +kernel)) rfl) dc_Dr_init_1 (by decide) (Nat.le_of_ble_eq_true rfl) ?_
  show K 4 [some (.inr (.inr 345)), some (.inr (.inr 311)), some (.inr (.inr b1)), some (.inr (.inr b2)), none] [] h
  refine ia_go hK ck_Dr_init_4_2 ?_
  show K 7 [some (.inr (.inr 345)), some (.inr (.inr 311)), some (.inr (.inr b1)), some (.inr (.inr b2)), none] [.inl 6, .inr (.inr 345)] h
  refine kw_arr hK (at_ := .int) (k := 100) (ty := .int) rfl (ia_tb_in (by decide +kernel) rfl) dc_Dr_init_7 (Or.inl ⟨rfl, rfl⟩) ⟨by decide, by decide, by decide⟩ e1 (hc_at hh) (hc_cap c1 cN (by decide)) ?_
  show K 9 [some (.inr (.inr 345)), some (.inr (.inr 311)), some (.inr (.inr b1)), some (.inr (.inr b2)), none] [.inr (.inr 346), .inr (.inr 345)] h1
  refine ia_go hK ck_Dr_init_9_5 ⟨hc_k c1 (by decide) (by decide) pe, ?_⟩
  show K 12 [some (.inr (.inr 345)), some (.inr (.inr 311)), some (.inr (.inr b1)), some (.inr (.inr b2)), none] [] (ia_wR h1 345 1 346)
  rw [← e2]
  refine ia_go hK ck_Dr_init_12_6 ?_
  show K 15 [some (.inr (.inr 345)), some (.inr (.inr 311)), some (.inr (.inr b1)), some (.inr (.inr b2)), none] [.inl 6, .inr (.inr 345)] h2
  refine kw_arr hK (at_ := .int) (k := 100) (ty := .int) rfl (ia_tb_in (by decide +kernel) rfl) dc_Dr_init_15 (Or.inl ⟨rfl, rfl⟩) ⟨by decide, by decide, by decide⟩ e3 (hc_at c2) (hc_cap c3 cN (by decide)) ?_
  show K 17 [some (.inr (.inr 345)), some (.inr (.inr 311)), some (.inr (.inr b1)), some (.inr (.inr b2)), none] [.inr (.inr 347), .inr (.inr 345)] h3
  refine ia_go hK ck_Dr_init_17_9 ⟨hc_k c3 (by decide) (by decide) pe, ?_⟩
  show K 20 [some (.inr (.inr 345)), some (.inr (.inr 311)), some (.inr (.inr b1)), some (.inr (.inr b2)), none] [] (ia_wR h3 345 3 347)
  rw [← e4]
  refine ia_go hK ck_Dr_init_20_10 ?_
  show K 23 [some (.inr (.inr 345)), some (.inr (.inr 311)), some (.inr (.inr b1)), some (.inr (.inr b2)), none] [.inl 7, .inr (.inr 345)] h4
  refine kw_newq hK (ci := 9) (k := 113) rfl (ia_tb_in (List.mem_of_getElem? (i := 642) (by decide +kernel)) rfl) dc_Dr_init_23 rfl ⟨by decide, by decide, by decide⟩ e5 (hc_at c4) (hc_cap c5 cN (by decide)) ?_
  show K 26 [some (.inr (.inr 345)), some (.inr (.inr 311)), some (.inr (.inr b1)), some (.inr (.inr b2)), none] [.inr (.inr 348), .inr (.inr 345)] h5
  refine ia_go hK ck_Dr_init_26_13 ⟨hc_k c5 (by decide) (by decide) pe, ?_⟩
  show K 29 [some (.inr (.inr 345)), some (.inr (.inr 311)), some (.inr (.inr b1)), some (.inr (.inr b2)), none] [] (ia_wR h5 345 4 348)
  rw [← e6]
  refine ia_go hK ck_Dr_init_29_14 ⟨hc_k c6 (by decide) (by decide) pe, ?_⟩
  show K 34 [some (.inr (.inr 345)), some (.inr (.inr 311)), some (.inr (.inr b1)), some (.inr (.inr b2)), none] [] (ia_wR h6 345 2 311)
  rw [← e7]
  refine ia_go hK ck_Dr_init_34_15 ⟨fun c => absurd c (by decide), fun _ => ?_⟩
  show K 44 [some (.inr (.inr 345)), some (.inr (.inr 311)), some (.inr (.inr b1)), some (.inr (.inr b2)), some (.inl 0)] [] h7
  refine ia_go hK ck_Dr_init_44_16 ⟨hc_k c7 (by decide) (by decide) pe, r0_4_7, ?_⟩
  show K 48 [some (.inr (.inr 345)), some (.inr (.inr 311)), some (.inr (.inr b1)), some (.inr (.inr b2)), some (.inl 0)] [.inr (.inr 348)] h7
  refine ia_go hK ck_Dr_init_48_17 ?_
  show K 50 [some (.inr (.inr 345)), some (.inr (.inr 311)), some (.inr (.inr b1)), some (.inr (.inr b2)), some (.inl 0)] [.inl 0, .inr (.inr 348)] h7
  refine kw_new hK (ci := 9) (by decide) (ia_tb_in (List.mem_of_getElem? (i := 642) (by decide +kernel)) rfl) (ia_tb_in (List.mem_of_getElem? (i := 489) (by decide +kernel)) rfl) (ia_tb_in (List.mem_of_getElem? (i := 140) (by decide +kernel)) rfl) dc_Dr_init_50 rfl e8 (hc_at c7) (hc_cap c8 cN (by decide)) ?_
  show K 53 [some (.inr (.inr 345)), some (.inr (.inr 311)), some (.inr (.inr b1)), some (.inr (.inr b2)), some (.inl 0)] [.inr (.inr 349), .inl 0, .inr (.inr 348)] h8
  refine ia_go hK ck_Dr_init_53_20 ?_
  show K 56 [some (.inr (.inr 345)), some (.inr (.inr 311)), some (.inr (.inr b1)), some (.inr (.inr b2)), some (.inl 0)] [.inr (.inr b2), .inr (.inr b1), .inr (.inr 349), .inr (.inr 349), .inl 0, .inr (.inr 348)] h8
  refine ia_callI hK mk_Sc_init lk_2_28 dc_Dr_init_56 (by decide) [.inr (.inr b1), .inr (.inr b2)] [.inr (.inr 349), .inl 0, .inr (.inr 348)] rfl rfl (Nat.le_of_ble_eq_true rfl) v9 (hc_cap c9 cN (by decide)) ?_
  show K 59 [some (.inr (.inr 345)), some (.inr (.inr 311)), some (.inr (.inr b1)), some (.inr (.inr b2)), some (.inl 0)] [.inr (.inr 349), .inl 0, .inr (.inr 348)] h9
  refine ia_go hK ck_Dr_init_59_22 ⟨⟨(by decide), hc_k c9 (by decide) (by decide) (congrArg Prod.fst ks_2_3), hc_in c9 (by decide) (by decide) ks_2_3 (by decide), hc_k c9 (by decide) (by decide) (congrArg Prod.fst ks_2_4)⟩, ?_⟩
  show K 60 [some (.inr (.inr 345)), some (.inr (.inr 311)), some (.inr (.inr b1)), some (.inr (.inr b2)), some (.inl 0)] [] (ia_wR h9 348 0 349)
  rw [← e10]
  refine ia_go hK ck_Dr_init_60_23 ?_
  show K 37 [some (.inr (.inr 345)), some (.inr (.inr 311)), some (.inr (.inr b1)), some (.inr (.inr b2)), some (.inl 1)] [] h10
  refine ia_go hK ck_Dr_init_37_24 ⟨fun c => absurd c (by decide), fun _ => ?_⟩
  show K 44 [some (.inr (.inr 345)), some (.inr (.inr 311)), some (.inr (.inr b1)), some (.inr (.inr b2)), some (.inl 1)] [] h10
  refine ia_go hK ck_Dr_init_44_25 ⟨hc_k c10 (by decide) (by decide) pe, r0_4_10, ?_⟩
  show K 48 [some (.inr (.inr 345)), some (.inr (.inr 311)), some (.inr (.inr b1)), some (.inr (.inr b2)), some (.inl 1)] [.inr (.inr 348)] h10
  refine ia_go hK ck_Dr_init_48_26 ?_
  show K 50 [some (.inr (.inr 345)), some (.inr (.inr 311)), some (.inr (.inr b1)), some (.inr (.inr b2)), some (.inl 1)] [.inl 1, .inr (.inr 348)] h10
  refine kw_new hK (ci := 9) (by decide) (ia_tb_in (List.mem_of_getElem? (i := 642) (by decide +kernel)) rfl) (ia_tb_in (List.mem_of_getElem? (i := 489) (by decide +kernel)) rfl) (ia_tb_in (List.mem_of_getElem? (i := 140) (by decide +kernel)) rfl) dc_Dr_init_50 rfl e11 (hc_at c10) (hc_cap c11 cN (by decide)) ?_
  show K 53 [some (.inr (.inr 345)), some (.inr (.inr 311)), some (.inr (.inr b1)), some (.inr (.inr b2)), some (.inl 1)] [.inr (.inr 357), .inl 1, .inr (.inr 348)] h11
  refine ia_go hK ck_Dr_init_53_28 ?_
  show K 56 [some (.inr (.inr 345)), some (.inr (.inr 311)), some (.inr (.inr b1)), some (.inr (.inr b2)), some (.inl 1)] [.inr (.inr b2), .inr (.inr b1), .inr (.inr 357), .inr (.inr 357), .inl 1, .inr (.inr 348)] h11
  refine ia_callI hK mk_Sc_init lk_2_28 dc_Dr_init_56 (by decide) [.inr (.inr b1), .inr (.inr b2)] [.inr (.inr 357), .inl 1, .inr (.inr 348)] rfl rfl (Nat.le_of_ble_eq_true rfl) v12 (hc_cap c12 cN (by decide)) ?_
  show K 59 [some (.inr (.inr 345)), some (.inr (.inr 311)), some (.inr (.inr b1)), some (.inr (.inr b2)), some (.inl 1)] [.inr (.inr 357), .inl 1, .inr (.inr 348)] h12
  refine ia_go hK ck_Dr_init_59_29 ⟨⟨(by decide), hc_k c12 (by decide) (by decide) (congrArg Prod.fst ks_2_3), hc_in c12 (by decide) (by decide) ks_2_3 (by decide), hc_k c12 (by decide) (by decide) (congrArg Prod.fst ks_2_12)⟩, ?_⟩
  show K 60 [some (.inr (.inr 345)), some (.inr (.inr 311)), some (.inr (.inr b1)), some (.inr (.inr b2)), some (.inl 1)] [] (ia_wR h12 348 1 357)
  rw [← e13]
  refine ia_go hK ck_Dr_init_60_30 ?_
  show K 37 [some (.inr (.inr 345)), some (.inr (.inr 311)), some (.inr (.inr b1)), some (.inr (.inr b2)), some (.inl 2)] [] h13
  refine ia_go hK ck_Dr_init_37_31 ⟨fun c => absurd c (by decide), fun _ => ?_⟩
  show K 44 [some (.inr (.inr 345)), some (.inr (.inr 311)), some (.inr (.inr b1)), some (.inr (.inr b2)), some (.inl 2)] [] h13
  refine ia_go hK ck_Dr_init_44_32 ⟨hc_k c13 (by decide) (by decide) pe, r0_4_13, ?_⟩
  show K 48 [some (.inr (.inr 345)), some (.inr (.inr 311)), some (.inr (.inr b1)), some (.inr (.inr b2)), some (.inl 2)] [.inr (.inr 348)] h13
  refine ia_go hK ck_Dr_init_48_33 ?_
  show K 50 [some (.inr (.inr 345)), some (.inr (.inr 311)), some (.inr (.inr b1)), some (.inr (.inr b2)), some (.inl 2)] [.inl 2, .inr (.inr 348)] h13
  refine kw_new hK (ci := 9) (by decide) (ia_tb_in (List.mem_of_getElem? (i := 642) (by decide +kernel)) rfl) (ia_tb_in (List.mem_of_getElem? (i := 489) (by decide +kernel)) rfl) (ia_tb_in (List.mem_of_getElem? (i := 140) (by decide +kernel)) rfl) dc_Dr_init_50 rfl e14 (hc_at c13) (hc_cap c14 cN (by decide)) ?_
  show K 53 [some (.inr (.inr 345)), some (.inr (.inr 311)), some (.inr (.inr b1)), some (.inr (.inr b2)), some (.inl 2)] [.inr (.inr 365), .inl 2, .inr (.inr 348)] h14
  refine ia_go hK ck_Dr_init_53_35 ?_
  show K 56 [some (.inr (.inr 345)), some (.inr (.inr 311)), some (.inr (.inr b1)), some (.inr (.inr b2)), some (.inl 2)] [.inr (.inr b2), .inr (.inr b1), .inr (.inr 365), .inr (.inr 365), .inl 2, .inr (.inr 348)] h14
  refine ia_callI hK mk_Sc_init lk_2_28 dc_Dr_init_56 (by decide) [.inr (.inr b1), .inr (.inr b2)] [.inr (.inr 365), .inl 2, .inr (.inr 348)] rfl rfl (Nat.le_of_ble_eq_true rfl) v15 (hc_cap c15 cN (by decide)) ?_
  show K 59 [some (.inr (.inr 345)), some (.inr (.inr 311)), some (.inr (.inr b1)), some (.inr (.inr b2)), some (.inl 2)] [.inr (.inr 365), .inl 2, .inr (.inr 348)] h15
  refine ia_go hK ck_Dr_init_59_36 ⟨⟨(by decide), hc_k c15 (by decide) (by decide) (congrArg Prod.fst ks_2_3), hc_in c15 (by decide) (by decide) ks_2_3 (by decide), hc_k c15 (by decide) (by decide) (congrArg Prod.fst ks_2_20)⟩, ?_⟩
  show K 60 [some (.inr (.inr 345)), some (.inr (.inr 311)), some (.inr (.inr b1)), some (.inr (.inr b2)), some (.inl 2)] [] (ia_wR h15 348 2 365)
  rw [← e16]
  refine ia_go hK ck_Dr_init_60_37 ?_
  show K 37 [some (.inr (.inr 345)), some (.inr (.inr 311)), some (.inr (.inr b1)), some (.inr (.inr b2)), some (.inl 3)] [] h16
  refine ia_go hK ck_Dr_init_37_38 ⟨fun c => absurd c (by decide), fun _ => ?_⟩
  show K 44 [some (.inr (.inr 345)), some (.inr (.inr 311)), some (.inr (.inr b1)), some (.inr (.inr b2)), some (.inl 3)] [] h16
  refine ia_go hK ck_Dr_init_44_39 ⟨hc_k c16 (by decide) (by decide) pe, r0_4_16, ?_⟩
  show K 48 [some (.inr (.inr 345)), some (.inr (.inr 311)), some (.inr (.inr b1)), some (.inr (.inr b2)), some (.inl 3)] [.inr (.inr 348)] h16
  refine ia_go hK ck_Dr_init_48_40 ?_
  show K 50 [some (.inr (.inr 345)), some (.inr (.inr 311)), some (.inr (.inr b1)), some (.inr (.inr b2)), some (.inl 3)] [.inl 3, .inr (.inr 348)] h16
  refine kw_new hK (ci := 9) (by decide) (ia_tb_in (List.mem_of_getElem? (i := 642) (by decide +kernel)) rfl) (ia_tb_in (List.mem_of_getElem? (i := 489) (by decide +kernel)) rfl) (ia_tb_in (List.mem_of_getElem? (i := 140) (by decide +kernel)) rfl) dc_Dr_init_50 rfl e17 (hc_at c16) (hc_cap c17 cN (by decide)) ?_
  show K 53 [some (.inr (.inr 345)), some (.inr (.inr 311)), some (.inr (.inr b1)), some (.inr (.inr b2)), some (.inl 3)] [.inr (.inr 373), .inl 3, .inr (.inr 348)] h17
  refine ia_go hK ck_Dr_init_53_42 ?_
  show K 56 [some (.inr (.inr 345)), some (.inr (.inr 311)), some (.inr (.inr b1)), some (.inr (.inr b2)), some (.inl 3)] [.inr (.inr b2), .inr (.inr b1), .inr (.inr 373), .inr (.inr 373), .inl 3, .inr (.inr 348)] h17
  refine ia_callI hK mk_Sc_init lk_2_28 dc_Dr_init_56 (by decide) [.inr (.inr b1), .inr (.inr b2)] [.inr (.inr 373), .inl 3, .inr (.inr 348)] rfl rfl (Nat.le_of_ble_eq_true rfl) v18 (hc_cap c18 cN (by decide)) ?_
  show K 59 [some (.inr (.inr 345)), some (.inr (.inr 311)), some (.inr (.inr b1)), some (.inr (.inr b2)), some (.inl 3)] [.inr (.inr 373), .inl 3, .inr (.inr 348)] h18
  refine ia_go hK ck_Dr_init_59_43 ⟨⟨(by decide), hc_k c18 (by decide) (by decide) (congrArg Prod.fst ks_2_3), hc_in c18 (by decide) (by decide) ks_2_3 (by decide), hc_k c18 (by decide) (by decide) (congrArg Prod.fst ks_2_28)⟩, ?_⟩
  show K 60 [some (.inr (.inr 345)), some (.inr (.inr 311)), some (.inr (.inr b1)), some (.inr (.inr b2)), some (.inl 3)] [] (ia_wR h18 348 3 373)
  rw [← e19]
  refine ia_go hK ck_Dr_init_60_44 ?_
  show K 37 [some (.inr (.inr 345)), some (.inr (.inr 311)), some (.inr (.inr b1)), some (.inr (.inr b2)), some (.inl 4)] [] h19
  refine ia_go hK ck_Dr_init_37_45 ⟨fun c => absurd c (by decide), fun _ => ?_⟩
  show K 44 [some (.inr (.inr 345)), some (.inr (.inr 311)), some (.inr (.inr b1)), some (.inr (.inr b2)), some (.inl 4)] [] h19
  refine ia_go hK ck_Dr_init_44_46 ⟨hc_k c19 (by decide) (by decide) pe, r0_4_19, ?_⟩
  show K 48 [some (.inr (.inr 345)), some (.inr (.inr 311)), some (.inr (.inr b1)), some (.inr (.inr b2)), some (.inl 4)] [.inr (.inr 348)] h19
  refine ia_go hK ck_Dr_init_48_47 ?_
  show K 50 [some (.inr (.inr 345)), some (.inr (.inr 311)), some (.inr (.inr b1)), some (.inr (.inr b2)), some (.inl 4)] [.inl 4, .inr (.inr 348)] h19
  refine kw_new hK (ci := 9) (by decide) (ia_tb_in (List.mem_of_getElem? (i := 642) (by decide +kernel)) rfl) (ia_tb_in (List.mem_of_getElem? (i := 489) (by decide +kernel)) rfl) (ia_tb_in (List.mem_of_getElem? (i := 140) (by decide +kernel)) rfl) dc_Dr_init_50 rfl e20 (hc_at c19) (hc_cap c20 cN (by decide)) ?_
  show K 53 [some (.inr (.inr 345)), some (.inr (.inr 311)), some (.inr (.inr b1)), some (.inr (.inr b2)), some (.inl 4)] [.inr (.inr 381), .inl 4, .inr (.inr 348)] h20
  refine ia_go hK ck_Dr_init_53_49 ?_
  show K 56 [some (.inr (.inr 345)), some (.inr (.inr 311)), some (.inr (.inr b1)), some (.inr (.inr b2)), some (.inl 4)] [.inr (.inr b2), .inr (.inr b1), .inr (.inr 381), .inr (.inr 381), .inl 4, .inr (.inr 348)] h20
  refine ia_callI hK mk_Sc_init lk_2_28 dc_Dr_init_56 (by decide) [.inr (.inr b1), .inr (.inr b2)] [.inr (.inr 381), .inl 4, .inr (.inr 348)] rfl rfl (Nat.le_of_ble_eq_true rfl) v21 (hc_cap c21 cN (by decide)) ?_
  show K 59 [some (.inr (.inr 345)), some (.inr (.inr 311)), some (.inr (.inr b1)), some (.inr (.inr b2)), some (.inl 4)] [.inr (.inr 381), .inl 4, .inr (.inr 348)] h21
  refine ia_go hK ck_Dr_init_59_50 ⟨⟨(by decide), hc_k c21 (by decide) (by decide) (congrArg Prod.fst ks_2_3), hc_in c21 (by decide) (by decide) ks_2_3 (by decide), hc_k c21 (by decide) (by decide) (congrArg Prod.fst ks_2_36)⟩, ?_⟩
  show K 60 [some (.inr (.inr 345)), some (.inr (.inr 311)), some (.inr (.inr b1)), some (.inr (.inr b2)), some (.inl 4)] [] (ia_wR h21 348 4 381)
  rw [← e22]
  refine ia_go hK ck_Dr_init_60_51 ?_
  show K 37 [some (.inr (.inr 345)), some (.inr (.inr 311)), some (.inr (.inr b1)), some (.inr (.inr b2)), some (.inl 5)] [] h22
  refine ia_go hK ck_Dr_init_37_52 ⟨fun c => absurd c (by decide), fun _ => ?_⟩
  show K 44 [some (.inr (.inr 345)), some (.inr (.inr 311)), some (.inr (.inr b1)), some (.inr (.inr b2)), some (.inl 5)] [] h22
  refine ia_go hK ck_Dr_init_44_53 ⟨hc_k c22 (by decide) (by decide) pe, r0_4_22, ?_⟩
  show K 48 [some (.inr (.inr 345)), some (.inr (.inr 311)), some (.inr (.inr b1)), some (.inr (.inr b2)), some (.inl 5)] [.inr (.inr 348)] h22
  refine ia_go hK ck_Dr_init_48_54 ?_
  show K 50 [some (.inr (.inr 345)), some (.inr (.inr 311)), some (.inr (.inr b1)), some (.inr (.inr b2)), some (.inl 5)] [.inl 5, .inr (.inr 348)] h22
  refine kw_new hK (ci := 9) (by decide) (ia_tb_in (List.mem_of_getElem? (i := 642) (by decide +kernel)) rfl) (ia_tb_in (List.mem_of_getElem? (i := 489) (by decide +kernel)) rfl) (ia_tb_in (List.mem_of_getElem? (i := 140) (by decide +kernel)) rfl) dc_Dr_init_50 rfl e23 (hc_at c22) (hc_cap c23 cN (by decide)) ?_
  show K 53 [some (.inr (.inr 345)), some (.inr (.inr 311)), some (.inr (.inr b1)), some (.inr (.inr b2)), some (.inl 5)] [.inr (.inr 389), .inl 5, .inr (.inr 348)] h23
  refine ia_go hK ck_Dr_init_53_56 ?_
  show K 56 [some (.inr (.inr 345)), some (.inr (.inr 311)), some (.inr (.inr b1)), some (.inr (.inr b2)), some (.inl 5)] [.inr (.inr b2), .inr (.inr b1), .inr (.inr 389), .inr (.inr 389), .inl 5, .inr (.inr 348)] h23
  refine ia_callI hK mk_Sc_init lk_2_28 dc_Dr_init_56 (by decide) [.inr (.inr b1), .inr (.inr b2)] [.inr (.inr 389), .inl 5, .inr (.inr 348)] rfl rfl (Nat.le_of_ble_eq_true rfl) v24 (hc_cap c24 cN (by decide)) ?_
  show K 59 [some (.inr (.inr 345)), some (.inr (.inr 311)), some (.inr (.inr b1)), some (.inr (.inr b2)), some (.inl 5)] [.inr (.inr 389), .inl 5, .inr (.inr 348)] h24
  refine ia_go hK ck_Dr_init_59_57 ⟨⟨(by decide), hc_k c24 (by decide) (by decide) (congrArg Prod.fst ks_2_3), hc_in c24 (by decide) (by decide) ks_2_3 (by decide), hc_k c24 (by decide) (by decide) (congrArg Prod.fst ks_2_44)⟩, ?_⟩
  show K 60 [some (.inr (.inr 345)), some (.inr (.inr 311)), some (.inr (.inr b1)), some (.inr (.inr b2)), some (.inl 5)] [] (ia_wR h24 348 5 389)
  rw [← e25]
  refine ia_go hK ck_Dr_init_60_58 ?_
  show K 37 [some (.inr (.inr 345)), some (.inr (.inr 311)), some (.inr (.inr b1)), some (.inr (.inr b2)), some (.inl 6)] [] h25
  refine ia_go hK ck_Dr_init_37_59 ⟨fun c => absurd c (by decide), fun _ => ?_⟩
  show K 44 [some (.inr (.inr 345)), some (.inr (.inr 311)), some (.inr (.inr b1)), some (.inr (.inr b2)), some (.inl 6)] [] h25
  refine ia_go hK ck_Dr_init_44_60 ⟨hc_k c25 (by decide) (by decide) pe, r0_4_25, ?_⟩
  show K 48 [some (.inr (.inr 345)), some (.inr (.inr 311)), some (.inr (.inr b1)), some (.inr (.inr b2)), some (.inl 6)] [.inr (.inr 348)] h25
  refine ia_go hK ck_Dr_init_48_61 ?_
  show K 50 [some (.inr (.inr 345)), some (.inr (.inr 311)), some (.inr (.inr b1)), some (.inr (.inr b2)), some (.inl 6)] [.inl 6, .inr (.inr 348)] h25
  refine kw_new hK (ci := 9) (by decide) (ia_tb_in (List.mem_of_getElem? (i := 642) (by decide +kernel)) rfl) (ia_tb_in (List.mem_of_getElem? (i := 489) (by decide +kernel)) rfl) (ia_tb_in (List.mem_of_getElem? (i := 140) (by decide +kernel)) rfl) dc_Dr_init_50 rfl e26 (hc_at c25) (hc_cap c26 cN (by decide)) ?_
  show K 53 [some (.inr (.inr 345)), some (.inr (.inr 311)), some (.inr (.inr b1)), some (.inr (.inr b2)), some (.inl 6)] [.inr (.inr 397), .inl 6, .inr (.inr 348)] h26
  refine ia_go hK ck_Dr_init_53_63 ?_
  show K 56 [some (.inr (.inr 345)), some (.inr (.inr 311)), some (.inr (.inr b1)), some (.inr (.inr b2)), some (.inl 6)] [.inr (.inr b2), .inr (.inr b1), .inr (.inr 397), .inr (.inr 397), .inl 6, .inr (.inr 348)] h26
  refine ia_callI hK mk_Sc_init lk_2_28 dc_Dr_init_56 (by decide) [.inr (.inr b1), .inr (.inr b2)] [.inr (.inr 397), .inl 6, .inr (.inr 348)] rfl rfl (Nat.le_of_ble_eq_true rfl) v27 (hc_cap c27 cN (by decide)) ?_
  show K 59 [some (.inr (.inr 345)), some (.inr (.inr 311)), some (.inr (.inr b1)), some (.inr (.inr b2)), some (.inl 6)] [.inr (.inr 397), .inl 6, .inr (.inr 348)] h27
  refine ia_go hK ck_Dr_init_59_64 ⟨⟨(by decide), hc_k c27 (by decide) (by decide) (congrArg Prod.fst ks_2_3), hc_in c27 (by decide) (by decide) ks_2_3 (by decide), hc_k c27 (by decide) (by decide) (congrArg Prod.fst ks_2_52)⟩, ?_⟩
  show K 60 [some (.inr (.inr 345)), some (.inr (.inr 311)), some (.inr (.inr b1)), some (.inr (.inr b2)), some (.inl 6)] [] (ia_wR h27 348 6 397)
  rw [← e28]
  refine ia_go hK ck_Dr_init_60_65 ?_
  show K 37 [some (.inr (.inr 345)), some (.inr (.inr 311)), some (.inr (.inr b1)), some (.inr (.inr b2)), some (.inl 7)] [] h28
  refine ia_go hK ck_Dr_init_37_66 ⟨fun _ => ?_, fun c => absurd (by decide) c⟩
  show K 66 [some (.inr (.inr 345)), some (.inr (.inr 311)), some (.inr (.inr b1)), some (.inr (.inr b2)), some (.inl 7)] [] h28
  refine ia_go hK ck_Dr_init_66_67 ?_
  show K 67 [some (.inr (.inr 345)), some (.inr (.inr 311)), some (.inr (.inr b1)), some (.inr (.inr b2)), some (.inl 7)] [.inr (.inr 345)] h28
  refine kw_new hK (ci := 9) (by decide) (ia_tb_in (List.mem_of_getElem? (i := 642) (by decide +kernel)) rfl) (ia_tb_in (List.mem_of_getElem? (i := 489) (by decide +kernel)) rfl) (ia_tb_in (List.mem_of_getElem? (i := 140) (by decide +kernel)) rfl) dc_Dr_init_67 rfl e29 (hc_at d28_3) (hc_cap c29 cN (by decide)) ?_
  show K 70 [some (.inr (.inr 345)), some (.inr (.inr 311)), some (.inr (.inr b1)), some (.inr (.inr b2)), some (.inl 7)] [.inr (.inr 405), .inr (.inr 345)] h29
  refine ia_go hK ck_Dr_init_70_70 ?_
  show K 73 [some (.inr (.inr 345)), some (.inr (.inr 311)), some (.inr (.inr b1)), some (.inr (.inr b2)), some (.inl 7)] [.inr (.inr b2), .inr (.inr b1), .inr (.inr 405), .inr (.inr 405), .inr (.inr 345)] h29
  refine ia_callI hK mk_Sc_init lk_2_28 dc_Dr_init_73 (by decide) [.inr (.inr b1), .inr (.inr b2)] [.inr (.inr 405), .inr (.inr 345)] rfl rfl (Nat.le_of_ble_eq_true rfl) v30 (hc_cap c30 cN (by decide)) ?_
  show K 76 [some (.inr (.inr 345)), some (.inr (.inr 311)), some (.inr (.inr b1)), some (.inr (.inr b2)), some (.inl 7)] [.inr (.inr 405), .inr (.inr 345)] h30
  refine ia_go hK ck_Dr_init_76_72 ⟨hc_k c30 (by decide) (by decide) pe, ?_⟩
  show K 79 [some (.inr (.inr 345)), some (.inr (.inr 311)), some (.inr (.inr b1)), some (.inr (.inr b2)), some (.inl 7)] [] (ia_wR h30 345 5 405)
  rw [← e31]
  exact hret 79 _ dc_Dr_init_79
