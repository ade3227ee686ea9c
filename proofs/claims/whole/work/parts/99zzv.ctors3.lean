/-! constructors that call others -/
def mm_M_init : ia_M := (⟨"IceStreetModel", "<init>", "()V"⟩, prog_14_method_1_code, 1, none, 12, true)
theorem ok_M_init : ia_mok mm_M_init := ⟨by decide +kernel, by decide +kernel, by decide +kernel, by decide +kernel⟩
theorem mk_M_init : ia_mkn mm_M_init 2 0 := ⟨ia_tb_in (List.mem_of_getElem? (i := 1606) (by decide +kernel)) rfl, ia_tb_in (List.mem_of_getElem? (i := 146) (by decide +kernel)) rfl, by decide +kernel, by decide +kernel, ia_tb_in (List.mem_of_getElem? (i := 1605) (by decide +kernel)) rfl, rfl, rfl⟩
theorem ck_M_init_0_0 : ia_cks 12 1 true prog_14_method_1_code 0 [(.aload_n 0, 0, 0, 0, 0)] = true := by decide +kernel
theorem dc_M_init_1 : decode prog_14_method_1_code 1 = .ok (.invokespecial 1, 3) := by decide +kernel
theorem ck_M_init_4_2 : ia_cks 12 1 true prog_14_method_1_code 4 [(.aload_n 0, 0, 0, 0, 0), (.sipush 6528, 0, 0, 0, 0)] = true := by decide +kernel
theorem dc_M_init_8 : decode prog_14_method_1_code 8 = .ok (.newarray .int, 2) := by decide +kernel
theorem ks_12_1 : kd_D 418 = (100, 6528) := by decide +kernel
theorem ck_M_init_10_5 : ia_cks 12 1 true prog_14_method_1_code 10 [(.putfield 7, 12, 0, 2, 0)] = true := by decide +kernel
theorem ck_M_init_13_6 : ia_cks 12 1 true prog_14_method_1_code 13 [(.aload_n 0, 0, 0, 0, 0), (.iconst 3, 0, 0, 0, 0)] = true := by decide +kernel
theorem dc_M_init_15 : decode prog_14_method_1_code 15 = .ok (.newarray .boolean, 2) := by decide +kernel
theorem ks_12_2 : kd_D 419 = (101, 3) := by decide +kernel
theorem ck_M_init_17_9 : ia_cks 12 1 true prog_14_method_1_code 17 [(.putfield 13, 12, 1, 2, 0)] = true := by decide +kernel
theorem ck_M_init_20_10 : ia_cks 12 1 true prog_14_method_1_code 20 [(.aload_n 0, 0, 0, 0, 0), (.sipush 260, 0, 0, 0, 0)] = true := by decide +kernel
theorem dc_M_init_24 : decode prog_14_method_1_code 24 = .ok (.newarray .int, 2) := by decide +kernel
theorem ks_12_3 : kd_D 420 = (100, 260) := by decide +kernel
theorem ck_M_init_26_13 : ia_cks 12 1 true prog_14_method_1_code 26 [(.putfield 17, 12, 10, 2, 0)] = true := by decide +kernel
theorem ck_M_init_29_14 : ia_cks 12 1 true prog_14_method_1_code 29 [(.aload_n 0, 0, 0, 0, 0), (.sipush 140, 0, 0, 0, 0)] = true := by decide +kernel
theorem dc_M_init_33 : decode prog_14_method_1_code 33 = .ok (.newarray .int, 2) := by decide +kernel
theorem ks_12_4 : kd_D 421 = (100, 140) := by decide +kernel
theorem ck_M_init_35_17 : ia_cks 12 1 true prog_14_method_1_code 35 [(.putfield 20, 12, 12, 2, 0)] = true := by decide +kernel
theorem ck_M_init_38_18 : ia_cks 12 1 true prog_14_method_1_code 38 [(.aload_n 0, 0, 0, 0, 0), (.sipush 1120, 0, 0, 0, 0)] = true := by decide +kernel
theorem dc_M_init_42 : decode prog_14_method_1_code 42 = .ok (.newarray .int, 2) := by decide +kernel
theorem ks_12_5 : kd_D 422 = (100, 1120) := by decide +kernel
theorem ck_M_init_44_21 : ia_cks 12 1 true prog_14_method_1_code 44 [(.putfield 23, 12, 13, 2, 0)] = true := by decide +kernel
theorem ck_M_init_47_22 : ia_cks 12 1 true prog_14_method_1_code 47 [(.aload_n 0, 0, 0, 0, 0), (.iconst (-1), 0, 0, 0, 0), (.putfield 26, 12, 16, 0, 0)] = true := by decide +kernel
theorem ck_M_init_52_23 : ia_cks 12 1 true prog_14_method_1_code 52 [(.aload_n 0, 0, 0, 0, 0), (.iconst (-1), 0, 0, 0, 0), (.putfield 30, 12, 17, 0, 0)] = true := by decide +kernel
theorem ck_M_init_57_24 : ia_cks 12 1 true prog_14_method_1_code 57 [(.aload_n 0, 0, 0, 0, 0), (.bipush 36, 0, 0, 0, 0)] = true := by decide +kernel
theorem dc_M_init_60 : decode prog_14_method_1_code 60 = .ok (.newarray .int, 2) := by decide +kernel
theorem ks_12_6 : kd_D 423 = (100, 36) := by decide +kernel
theorem ck_M_init_62_27 : ia_cks 12 1 true prog_14_method_1_code 62 [(.putfield 33, 12, 20, 2, 0)] = true := by decide +kernel
theorem ck_M_init_65_28 : ia_cks 12 1 true prog_14_method_1_code 65 [(.aload_n 0, 0, 0, 0, 0), (.bipush 36, 0, 0, 0, 0)] = true := by decide +kernel
theorem dc_M_init_68 : decode prog_14_method_1_code 68 = .ok (.newarray .boolean, 2) := by decide +kernel
theorem ks_12_7 : kd_D 424 = (101, 36) := by decide +kernel
theorem ck_M_init_70_31 : ia_cks 12 1 true prog_14_method_1_code 70 [(.putfield 36, 12, 21, 2, 0)] = true := by decide +kernel
theorem ck_M_init_73_32 : ia_cks 12 1 true prog_14_method_1_code 73 [(.aload_n 0, 0, 0, 0, 0), (.bipush 36, 0, 0, 0, 0)] = true := by decide +kernel
theorem dc_M_init_76 : decode prog_14_method_1_code 76 = .ok (.newarray .int, 2) := by decide +kernel
theorem ks_12_8 : kd_D 425 = (100, 36) := by decide +kernel
theorem ck_M_init_78_35 : ia_cks 12 1 true prog_14_method_1_code 78 [(.putfield 39, 12, 22, 2, 0)] = true := by decide +kernel
theorem ck_M_init_81_36 : ia_cks 12 1 true prog_14_method_1_code 81 [(.aload_n 0, 0, 0, 0, 0), (.bipush 36, 0, 0, 0, 0)] = true := by decide +kernel
theorem dc_M_init_84 : decode prog_14_method_1_code 84 = .ok (.newarray .boolean, 2) := by decide +kernel
theorem ks_12_9 : kd_D 426 = (101, 36) := by decide +kernel
theorem ck_M_init_86_39 : ia_cks 12 1 true prog_14_method_1_code 86 [(.putfield 42, 12, 25, 2, 0)] = true := by decide +kernel
theorem ck_M_init_89_40 : ia_cks 12 1 true prog_14_method_1_code 89 [(.aload_n 0, 0, 0, 0, 0), (.bipush 36, 0, 0, 0, 0)] = true := by decide +kernel
theorem dc_M_init_92 : decode prog_14_method_1_code 92 = .ok (.newarray .int, 2) := by decide +kernel
theorem ks_12_10 : kd_D 427 = (100, 36) := by decide +kernel
theorem ck_M_init_94_43 : ia_cks 12 1 true prog_14_method_1_code 94 [(.putfield 45, 12, 26, 2, 0)] = true := by decide +kernel
theorem ck_M_init_97_44 : ia_cks 12 1 true prog_14_method_1_code 97 [(.aload_n 0, 0, 0, 0, 0), (.bipush 9, 0, 0, 0, 0)] = true := by decide +kernel
theorem dc_M_init_100 : decode prog_14_method_1_code 100 = .ok (.newarray .int, 2) := by decide +kernel
theorem ks_12_11 : kd_D 428 = (100, 9) := by decide +kernel
theorem ck_M_init_102_47 : ia_cks 12 1 true prog_14_method_1_code 102 [(.putfield 48, 12, 28, 2, 0)] = true := by decide +kernel
theorem ck_M_init_105_48 : ia_cks 12 1 true prog_14_method_1_code 105 [(.aload_n 0, 0, 0, 0, 0), (.bipush 9, 0, 0, 0, 0)] = true := by decide +kernel
theorem dc_M_init_108 : decode prog_14_method_1_code 108 = .ok (.newarray .int, 2) := by decide +kernel
theorem ks_12_12 : kd_D 429 = (100, 9) := by decide +kernel
theorem ck_M_init_110_51 : ia_cks 12 1 true prog_14_method_1_code 110 [(.putfield 51, 12, 29, 2, 0)] = true := by decide +kernel
theorem ck_M_init_113_52 : ia_cks 12 1 true prog_14_method_1_code 113 [(.aload_n 0, 0, 0, 0, 0), (.bipush 36, 0, 0, 0, 0)] = true := by decide +kernel
theorem dc_M_init_116 : decode prog_14_method_1_code 116 = .ok (.newarray .int, 2) := by decide +kernel
theorem ks_12_13 : kd_D 430 = (100, 36) := by decide +kernel
theorem ck_M_init_118_55 : ia_cks 12 1 true prog_14_method_1_code 118 [(.putfield 54, 12, 31, 2, 0)] = true := by decide +kernel
theorem ck_M_init_121_56 : ia_cks 12 1 true prog_14_method_1_code 121 [(.aload_n 0, 0, 0, 0, 0), (.bipush 6, 0, 0, 0, 0)] = true := by decide +kernel
theorem dc_M_init_124 : decode prog_14_method_1_code 124 = .ok (.newarray .int, 2) := by decide +kernel
theorem ks_12_14 : kd_D 431 = (100, 6) := by decide +kernel
theorem ck_M_init_126_59 : ia_cks 12 1 true prog_14_method_1_code 126 [(.putfield 57, 12, 32, 2, 0)] = true := by decide +kernel
theorem ck_M_init_129_60 : ia_cks 12 1 true prog_14_method_1_code 129 [(.aload_n 0, 0, 0, 0, 0), (.bipush 6, 0, 0, 0, 0)] = true := by decide +kernel
theorem dc_M_init_132 : decode prog_14_method_1_code 132 = .ok (.newarray .int, 2) := by decide +kernel
theorem ks_12_15 : kd_D 432 = (100, 6) := by decide +kernel
theorem ck_M_init_134_63 : ia_cks 12 1 true prog_14_method_1_code 134 [(.putfield 60, 12, 33, 2, 0)] = true := by decide +kernel
theorem ck_M_init_137_64 : ia_cks 12 1 true prog_14_method_1_code 137 [(.aload_n 0, 0, 0, 0, 0), (.bipush 6, 0, 0, 0, 0)] = true := by decide +kernel
theorem dc_M_init_140 : decode prog_14_method_1_code 140 = .ok (.newarray .int, 2) := by decide +kernel
theorem ks_12_16 : kd_D 433 = (100, 6) := by decide +kernel
theorem ck_M_init_142_67 : ia_cks 12 1 true prog_14_method_1_code 142 [(.putfield 63, 12, 34, 2, 0)] = true := by decide +kernel
theorem ck_M_init_145_68 : ia_cks 12 1 true prog_14_method_1_code 145 [(.aload_n 0, 0, 0, 0, 0), (.bipush 36, 0, 0, 0, 0)] = true := by decide +kernel
theorem dc_M_init_148 : decode prog_14_method_1_code 148 = .ok (.newarray .int, 2) := by decide +kernel
theorem ks_12_17 : kd_D 434 = (100, 36) := by decide +kernel
theorem ck_M_init_150_71 : ia_cks 12 1 true prog_14_method_1_code 150 [(.putfield 66, 12, 35, 2, 0)] = true := by decide +kernel
theorem ck_M_init_153_72 : ia_cks 12 1 true prog_14_method_1_code 153 [(.aload_n 0, 0, 0, 0, 0), (.getfield 7, 12, 0, 4, 418)] = true := by decide +kernel
theorem ck_M_init_157_73 : ia_cks 12 1 true prog_14_method_1_code 157 [(.iconst 5, 0, 0, 0, 0), (.iconst (-1), 0, 0, 0, 0), (.iastore, 0, 0, 0, 0)] = true := by decide +kernel
theorem dc_M_init_160 : decode prog_14_method_1_code 160 = .ok (.return_, 1) := by decide +kernel
theorem rdo_12 (k f : Nat) (q : rd_o 12 k = some f) : (k = 0 ∧ f = 1) ∨ (k = 1 ∧ f = 2) ∨ (k = 10 ∧ f = 3) ∨ (k = 12 ∧ f = 4) ∨ (k = 13 ∧ f = 5) ∨ (k = 20 ∧ f = 6) ∨ (k = 21 ∧ f = 7) ∨ (k = 22 ∧ f = 8) ∨ (k = 25 ∧ f = 9) ∨ (k = 26 ∧ f = 10) ∨ (k = 28 ∧ f = 11) ∨ (k = 29 ∧ f = 12) ∨ (k = 31 ∧ f = 13) ∨ (k = 32 ∧ f = 14) ∨ (k = 33 ∧ f = 15) ∨ (k = 34 ∧ f = 16) ∨ (k = 35 ∧ f = 17) := by
  unfold rd_o at q
  split at q <;> simp_all
theorem rdc_12 (k f : Nat) (q : rd_c 12 k = some f) : False := by
  unfold rd_c at q
  split at q <;> simp_all
set_option maxHeartbeats 8000000 in
theorem mc_M_init (d : Nat) {S : List Nat} {w : ia_O0} {h : ia_H} (hh : hc_ 418 (417 :: S) w h) (z : ∀ k, ia_i h 417 k = 0) : ∃ h1, ia_Ev (d + 0) mm_M_init [.inr (.inr 417)] h none h1 ∧ hc_ (435) S w h1 ∧ hf_ 417 h h1 ∧ ((∀ k, k ≠ 16 → k ≠ 17 → ia_i h1 417 k = 0) ∧ ia_i h1 417 16 = (-1) ∧ ia_i h1 417 17 = (-1)) ∧ ((∀ k, k ≠ 5 → ia_i h1 418 k = 0) ∧ ia_i h1 418 5 = (-1)) ∧ ((∀ k, ia_i h1 419 k = 0)) ∧ ((∀ k, ia_i h1 424 k = 0)) := by
  have pe : (kd_D 417).1 = 12 := by decide +kernel
  have ha : 64 ≤ 417 := by decide
  have hf0 : hf_ 417 h h := fun b hb => ⟨rfl, rfl, rfl⟩
  obtain ⟨h1, e1⟩ : ∃ x, x = ia_nw h 100 6528 6528 := ⟨_, rfl⟩
  have c1 : hc_ (419) (417 :: S) w h1 := by rw [e1]; exact hc_arr hh ks_12_1 (by decide) (by decide)
  have f1 : hf_ 417 h h1 := by rw [e1]; exact hf_nw hf0 (hc_le hh (by decide))
  have z0_1 : (∀ k, ia_i h1 417 k = 0) := by rw [e1]; exact fun k => (nw_i (hc_ne hh (by decide)) (z k))
  have z1_1 : ∀ k, ia_i h1 418 k = 0 := by rw [e1, ← hc_at hh]; exact fun _ => ia_nw_i0
  obtain ⟨h2, e2⟩ : ∃ x, x = ia_wR h1 417 0 418 := ⟨_, rfl⟩
  have c2 : hc_ (419) (417 :: S) w h2 := by rw [e2]; exact hc_wR c1 List.mem_cons_self
  have f2 : hf_ 417 h h2 := by rw [e2]; exact hf_wR f1 (Nat.le_refl _)
  have z0_2 : (∀ k, ia_i h2 417 k = 0) := by rw [e2]; exact z0_1
  have z1_2 : (∀ k, ia_i h2 418 k = 0) := by rw [e2]; exact z1_1
  have r0_0_2 : ia_r h2 417 0 = 418 := by rw [e2]; exact wR_s
  obtain ⟨h3, e3⟩ : ∃ x, x = ia_nw h2 101 3 3 := ⟨_, rfl⟩
  have c3 : hc_ (420) (417 :: S) w h3 := by rw [e3]; exact hc_arr c2 ks_12_2 (by decide) (by decide)
  have f3 : hf_ 417 h h3 := by rw [e3]; exact hf_nw f2 (hc_le c2 (by decide))
  have r0_0_3 : ia_r h3 417 0 = 418 := by rw [e3]; exact hn_r (hc_ne c2 (by decide)) r0_0_2
  have z0_3 : (∀ k, ia_i h3 417 k = 0) := by rw [e3]; exact fun k => (nw_i (hc_ne c2 (by decide)) (z0_2 k))
  have z1_3 : (∀ k, ia_i h3 418 k = 0) := by rw [e3]; exact fun k => (nw_i (hc_ne c2 (by decide)) (z1_2 k))
  have z2_3 : ∀ k, ia_i h3 419 k = 0 := by rw [e3, ← hc_at c2]; exact fun _ => ia_nw_i0
  obtain ⟨h4, e4⟩ : ∃ x, x = ia_wR h3 417 1 419 := ⟨_, rfl⟩
  have c4 : hc_ (420) (417 :: S) w h4 := by rw [e4]; exact hc_wR c3 List.mem_cons_self
  have f4 : hf_ 417 h h4 := by rw [e4]; exact hf_wR f3 (Nat.le_refl _)
  have r0_0_4 : ia_r h4 417 0 = 418 := by rw [e4]; exact hw_r (by decide) r0_0_3
  have z0_4 : (∀ k, ia_i h4 417 k = 0) := by rw [e4]; exact z0_3
  have z1_4 : (∀ k, ia_i h4 418 k = 0) := by rw [e4]; exact z1_3
  have z2_4 : (∀ k, ia_i h4 419 k = 0) := by rw [e4]; exact z2_3
  have r0_1_4 : ia_r h4 417 1 = 419 := by rw [e4]; exact wR_s
  obtain ⟨h5, e5⟩ : ∃ x, x = ia_nw h4 100 260 260 := ⟨_, rfl⟩
  have c5 : hc_ (421) (417 :: S) w h5 := by rw [e5]; exact hc_arr c4 ks_12_3 (by decide) (by decide)
  have f5 : hf_ 417 h h5 := by rw [e5]; exact hf_nw f4 (hc_le c4 (by decide))
  have r0_0_5 : ia_r h5 417 0 = 418 := by rw [e5]; exact hn_r (hc_ne c4 (by decide)) r0_0_4
  have r0_1_5 : ia_r h5 417 1 = 419 := by rw [e5]; exact hn_r (hc_ne c4 (by decide)) r0_1_4
  have z0_5 : (∀ k, ia_i h5 417 k = 0) := by rw [e5]; exact fun k => (nw_i (hc_ne c4 (by decide)) (z0_4 k))
  have z1_5 : (∀ k, ia_i h5 418 k = 0) := by rw [e5]; exact fun k => (nw_i (hc_ne c4 (by decide)) (z1_4 k))
  have z2_5 : (∀ k, ia_i h5 419 k = 0) := by rw [e5]; exact fun k => (nw_i (hc_ne c4 (by decide)) (z2_4 k))
  obtain ⟨h6, e6⟩ : ∃ x, x = ia_wR h5 417 10 420 := ⟨_, rfl⟩
  have c6 : hc_ (421) (417 :: S) w h6 := by rw [e6]; exact hc_wR c5 List.mem_cons_self
  have f6 : hf_ 417 h h6 := by rw [e6]; exact hf_wR f5 (Nat.le_refl _)
  have r0_0_6 : ia_r h6 417 0 = 418 := by rw [e6]; exact hw_r (by decide) r0_0_5
  have r0_1_6 : ia_r h6 417 1 = 419 := by rw [e6]; exact hw_r (by decide) r0_1_5
  have z0_6 : (∀ k, ia_i h6 417 k = 0) := by rw [e6]; exact z0_5
  have z1_6 : (∀ k, ia_i h6 418 k = 0) := by rw [e6]; exact z1_5
  have z2_6 : (∀ k, ia_i h6 419 k = 0) := by rw [e6]; exact z2_5
  have r0_10_6 : ia_r h6 417 10 = 420 := by rw [e6]; exact wR_s
  obtain ⟨h7, e7⟩ : ∃ x, x = ia_nw h6 100 140 140 := ⟨_, rfl⟩
  have c7 : hc_ (422) (417 :: S) w h7 := by rw [e7]; exact hc_arr c6 ks_12_4 (by decide) (by decide)
  have f7 : hf_ 417 h h7 := by rw [e7]; exact hf_nw f6 (hc_le c6 (by decide))
  have r0_0_7 : ia_r h7 417 0 = 418 := by rw [e7]; exact hn_r (hc_ne c6 (by decide)) r0_0_6
  have r0_1_7 : ia_r h7 417 1 = 419 := by rw [e7]; exact hn_r (hc_ne c6 (by decide)) r0_1_6
  have r0_10_7 : ia_r h7 417 10 = 420 := by rw [e7]; exact hn_r (hc_ne c6 (by decide)) r0_10_6
  have z0_7 : (∀ k, ia_i h7 417 k = 0) := by rw [e7]; exact fun k => (nw_i (hc_ne c6 (by decide)) (z0_6 k))
  have z1_7 : (∀ k, ia_i h7 418 k = 0) := by rw [e7]; exact fun k => (nw_i (hc_ne c6 (by decide)) (z1_6 k))
  have z2_7 : (∀ k, ia_i h7 419 k = 0) := by rw [e7]; exact fun k => (nw_i (hc_ne c6 (by decide)) (z2_6 k))
  obtain ⟨h8, e8⟩ : ∃ x, x = ia_wR h7 417 12 421 := ⟨_, rfl⟩
  have c8 : hc_ (422) (417 :: S) w h8 := by rw [e8]; exact hc_wR c7 List.mem_cons_self
  have f8 : hf_ 417 h h8 := by rw [e8]; exact hf_wR f7 (Nat.le_refl _)
  have r0_0_8 : ia_r h8 417 0 = 418 := by rw [e8]; exact hw_r (by decide) r0_0_7
  have r0_1_8 : ia_r h8 417 1 = 419 := by rw [e8]; exact hw_r (by decide) r0_1_7
  have r0_10_8 : ia_r h8 417 10 = 420 := by rw [e8]; exact hw_r (by decide) r0_10_7
  have z0_8 : (∀ k, ia_i h8 417 k = 0) := by rw [e8]; exact z0_7
  have z1_8 : (∀ k, ia_i h8 418 k = 0) := by rw [e8]; exact z1_7
  have z2_8 : (∀ k, ia_i h8 419 k = 0) := by rw [e8]; exact z2_7
  have r0_12_8 : ia_r h8 417 12 = 421 := by rw [e8]; exact wR_s
  obtain ⟨h9, e9⟩ : ∃ x, x = ia_nw h8 100 1120 1120 := ⟨_, rfl⟩
  have c9 : hc_ (423) (417 :: S) w h9 := by rw [e9]; exact hc_arr c8 ks_12_5 (by decide) (by decide)
  have f9 : hf_ 417 h h9 := by rw [e9]; exact hf_nw f8 (hc_le c8 (by decide))
  have r0_0_9 : ia_r h9 417 0 = 418 := by rw [e9]; exact hn_r (hc_ne c8 (by decide)) r0_0_8
  have r0_1_9 : ia_r h9 417 1 = 419 := by rw [e9]; exact hn_r (hc_ne c8 (by decide)) r0_1_8
  have r0_10_9 : ia_r h9 417 10 = 420 := by rw [e9]; exact hn_r (hc_ne c8 (by decide)) r0_10_8
  have r0_12_9 : ia_r h9 417 12 = 421 := by rw [e9]; exact hn_r (hc_ne c8 (by decide)) r0_12_8
  have z0_9 : (∀ k, ia_i h9 417 k = 0) := by rw [e9]; exact fun k => (nw_i (hc_ne c8 (by decide)) (z0_8 k))
  have z1_9 : (∀ k, ia_i h9 418 k = 0) := by rw [e9]; exact fun k => (nw_i (hc_ne c8 (by decide)) (z1_8 k))
  have z2_9 : (∀ k, ia_i h9 419 k = 0) := by rw [e9]; exact fun k => (nw_i (hc_ne c8 (by decide)) (z2_8 k))
  obtain ⟨h10, e10⟩ : ∃ x, x = ia_wR h9 417 13 422 := ⟨_, rfl⟩
  have c10 : hc_ (423) (417 :: S) w h10 := by rw [e10]; exact hc_wR c9 List.mem_cons_self
  have f10 : hf_ 417 h h10 := by rw [e10]; exact hf_wR f9 (Nat.le_refl _)
  have r0_0_10 : ia_r h10 417 0 = 418 := by rw [e10]; exact hw_r (by decide) r0_0_9
  have r0_1_10 : ia_r h10 417 1 = 419 := by rw [e10]; exact hw_r (by decide) r0_1_9
  have r0_10_10 : ia_r h10 417 10 = 420 := by rw [e10]; exact hw_r (by decide) r0_10_9
  have r0_12_10 : ia_r h10 417 12 = 421 := by rw [e10]; exact hw_r (by decide) r0_12_9
  have z0_10 : (∀ k, ia_i h10 417 k = 0) := by rw [e10]; exact z0_9
  have z1_10 : (∀ k, ia_i h10 418 k = 0) := by rw [e10]; exact z1_9
  have z2_10 : (∀ k, ia_i h10 419 k = 0) := by rw [e10]; exact z2_9
  have r0_13_10 : ia_r h10 417 13 = 422 := by rw [e10]; exact wR_s
  obtain ⟨h11, e11⟩ : ∃ x, x = ia_wI h10 417 16 (-1) := ⟨_, rfl⟩
  have c11 : hc_ (423) (417 :: S) w h11 := by rw [e11]; exact hc_wI c10 (by decide)
  have f11 : hf_ 417 h h11 := by rw [e11]; exact hf_wI f10 (by decide)
  have r0_0_11 : ia_r h11 417 0 = 418 := by rw [e11]; exact r0_0_10
  have r0_1_11 : ia_r h11 417 1 = 419 := by rw [e11]; exact r0_1_10
  have r0_10_11 : ia_r h11 417 10 = 420 := by rw [e11]; exact r0_10_10
  have r0_12_11 : ia_r h11 417 12 = 421 := by rw [e11]; exact r0_12_10
  have r0_13_11 : ia_r h11 417 13 = 422 := by rw [e11]; exact r0_13_10
  have z1_11 : (∀ k, ia_i h11 418 k = 0) := by rw [e11]; exact fun k => (wI_o (by decide) (z1_10 k))
  have z2_11 : (∀ k, ia_i h11 419 k = 0) := by rw [e11]; exact fun k => (wI_o (by decide) (z2_10 k))
  have z0_11 : (∀ k, k ≠ 16 → ia_i h11 417 k = 0) ∧ ia_i h11 417 16 = (-1) := by rw [e11]; exact ⟨fun k u0 => wI_j u0 (z0_10 k), wI_s⟩
  obtain ⟨h12, e12⟩ : ∃ x, x = ia_wI h11 417 17 (-1) := ⟨_, rfl⟩
  have c12 : hc_ (423) (417 :: S) w h12 := by rw [e12]; exact hc_wI c11 (by decide)
  have f12 : hf_ 417 h h12 := by rw [e12]; exact hf_wI f11 (by decide)
  have r0_0_12 : ia_r h12 417 0 = 418 := by rw [e12]; exact r0_0_11
  have r0_1_12 : ia_r h12 417 1 = 419 := by rw [e12]; exact r0_1_11
  have r0_10_12 : ia_r h12 417 10 = 420 := by rw [e12]; exact r0_10_11
  have r0_12_12 : ia_r h12 417 12 = 421 := by rw [e12]; exact r0_12_11
  have r0_13_12 : ia_r h12 417 13 = 422 := by rw [e12]; exact r0_13_11
  have z1_12 : (∀ k, ia_i h12 418 k = 0) := by rw [e12]; exact fun k => (wI_o (by decide) (z1_11 k))
  have z2_12 : (∀ k, ia_i h12 419 k = 0) := by rw [e12]; exact fun k => (wI_o (by decide) (z2_11 k))
  have z0_12 : (∀ k, k ≠ 16 → k ≠ 17 → ia_i h12 417 k = 0) ∧ ia_i h12 417 16 = (-1) ∧ ia_i h12 417 17 = (-1) := by rw [e12]; exact ⟨fun k u0 u1 => wI_j u1 (z0_11.1 k u0), wI_j (by decide) z0_11.2, wI_s⟩
  obtain ⟨h13, e13⟩ : ∃ x, x = ia_nw h12 100 36 36 := ⟨_, rfl⟩
  have c13 : hc_ (424) (417 :: S) w h13 := by rw [e13]; exact hc_arr c12 ks_12_6 (by decide) (by decide)
  have f13 : hf_ 417 h h13 := by rw [e13]; exact hf_nw f12 (hc_le c12 (by decide))
  have r0_0_13 : ia_r h13 417 0 = 418 := by rw [e13]; exact hn_r (hc_ne c12 (by decide)) r0_0_12
  have r0_1_13 : ia_r h13 417 1 = 419 := by rw [e13]; exact hn_r (hc_ne c12 (by decide)) r0_1_12
  have r0_10_13 : ia_r h13 417 10 = 420 := by rw [e13]; exact hn_r (hc_ne c12 (by decide)) r0_10_12
  have r0_12_13 : ia_r h13 417 12 = 421 := by rw [e13]; exact hn_r (hc_ne c12 (by decide)) r0_12_12
  have r0_13_13 : ia_r h13 417 13 = 422 := by rw [e13]; exact hn_r (hc_ne c12 (by decide)) r0_13_12
  have z1_13 : (∀ k, ia_i h13 418 k = 0) := by rw [e13]; exact fun k => (nw_i (hc_ne c12 (by decide)) (z1_12 k))
  have z2_13 : (∀ k, ia_i h13 419 k = 0) := by rw [e13]; exact fun k => (nw_i (hc_ne c12 (by decide)) (z2_12 k))
  have z0_13 : (∀ k, k ≠ 16 → k ≠ 17 → ia_i h13 417 k = 0) ∧ ia_i h13 417 16 = (-1) ∧ ia_i h13 417 17 = (-1) := by rw [e13]; exact ⟨fun k u0 u1 => (nw_i (hc_ne c12 (by decide)) (z0_12.1 k u0 u1)), (nw_i (hc_ne c12 (by decide)) z0_12.2.1), (nw_i (hc_ne c12 (by decide)) z0_12.2.2)⟩
  obtain ⟨h14, e14⟩ : ∃ x, x = ia_wR h13 417 20 423 := ⟨_, rfl⟩
  have c14 : hc_ (424) (417 :: S) w h14 := by rw [e14]; exact hc_wR c13 List.mem_cons_self
  have f14 : hf_ 417 h h14 := by rw [e14]; exact hf_wR f13 (Nat.le_refl _)
  have r0_0_14 : ia_r h14 417 0 = 418 := by rw [e14]; exact hw_r (by decide) r0_0_13
  have r0_1_14 : ia_r h14 417 1 = 419 := by rw [e14]; exact hw_r (by decide) r0_1_13
  have r0_10_14 : ia_r h14 417 10 = 420 := by rw [e14]; exact hw_r (by decide) r0_10_13
  have r0_12_14 : ia_r h14 417 12 = 421 := by rw [e14]; exact hw_r (by decide) r0_12_13
  have r0_13_14 : ia_r h14 417 13 = 422 := by rw [e14]; exact hw_r (by decide) r0_13_13
  have z1_14 : (∀ k, ia_i h14 418 k = 0) := by rw [e14]; exact z1_13
  have z2_14 : (∀ k, ia_i h14 419 k = 0) := by rw [e14]; exact z2_13
  have z0_14 : (∀ k, k ≠ 16 → k ≠ 17 → ia_i h14 417 k = 0) ∧ ia_i h14 417 16 = (-1) ∧ ia_i h14 417 17 = (-1) := by rw [e14]; exact z0_13
  have r0_20_14 : ia_r h14 417 20 = 423 := by rw [e14]; exact wR_s
  obtain ⟨h15, e15⟩ : ∃ x, x = ia_nw h14 101 36 36 := ⟨_, rfl⟩
  have c15 : hc_ (425) (417 :: S) w h15 := by rw [e15]; exact hc_arr c14 ks_12_7 (by decide) (by decide)
  have f15 : hf_ 417 h h15 := by rw [e15]; exact hf_nw f14 (hc_le c14 (by decide))
  have r0_0_15 : ia_r h15 417 0 = 418 := by rw [e15]; exact hn_r (hc_ne c14 (by decide)) r0_0_14
  have r0_1_15 : ia_r h15 417 1 = 419 := by rw [e15]; exact hn_r (hc_ne c14 (by decide)) r0_1_14
  have r0_10_15 : ia_r h15 417 10 = 420 := by rw [e15]; exact hn_r (hc_ne c14 (by decide)) r0_10_14
  have r0_12_15 : ia_r h15 417 12 = 421 := by rw [e15]; exact hn_r (hc_ne c14 (by decide)) r0_12_14
  have r0_13_15 : ia_r h15 417 13 = 422 := by rw [e15]; exact hn_r (hc_ne c14 (by decide)) r0_13_14
  have r0_20_15 : ia_r h15 417 20 = 423 := by rw [e15]; exact hn_r (hc_ne c14 (by decide)) r0_20_14
  have z1_15 : (∀ k, ia_i h15 418 k = 0) := by rw [e15]; exact fun k => (nw_i (hc_ne c14 (by decide)) (z1_14 k))
  have z2_15 : (∀ k, ia_i h15 419 k = 0) := by rw [e15]; exact fun k => (nw_i (hc_ne c14 (by decide)) (z2_14 k))
  have z0_15 : (∀ k, k ≠ 16 → k ≠ 17 → ia_i h15 417 k = 0) ∧ ia_i h15 417 16 = (-1) ∧ ia_i h15 417 17 = (-1) := by rw [e15]; exact ⟨fun k u0 u1 => (nw_i (hc_ne c14 (by decide)) (z0_14.1 k u0 u1)), (nw_i (hc_ne c14 (by decide)) z0_14.2.1), (nw_i (hc_ne c14 (by decide)) z0_14.2.2)⟩
  have z7_15 : ∀ k, ia_i h15 424 k = 0 := by rw [e15, ← hc_at c14]; exact fun _ => ia_nw_i0
  obtain ⟨h16, e16⟩ : ∃ x, x = ia_wR h15 417 21 424 := ⟨_, rfl⟩
  have c16 : hc_ (425) (417 :: S) w h16 := by rw [e16]; exact hc_wR c15 List.mem_cons_self
  have f16 : hf_ 417 h h16 := by rw [e16]; exact hf_wR f15 (Nat.le_refl _)
  have r0_0_16 : ia_r h16 417 0 = 418 := by rw [e16]; exact hw_r (by decide) r0_0_15
  have r0_1_16 : ia_r h16 417 1 = 419 := by rw [e16]; exact hw_r (by decide) r0_1_15
  have r0_10_16 : ia_r h16 417 10 = 420 := by rw [e16]; exact hw_r (by decide) r0_10_15
  have r0_12_16 : ia_r h16 417 12 = 421 := by rw [e16]; exact hw_r (by decide) r0_12_15
  have r0_13_16 : ia_r h16 417 13 = 422 := by rw [e16]; exact hw_r (by decide) r0_13_15
  have r0_20_16 : ia_r h16 417 20 = 423 := by rw [e16]; exact hw_r (by decide) r0_20_15
  have z1_16 : (∀ k, ia_i h16 418 k = 0) := by rw [e16]; exact z1_15
  have z2_16 : (∀ k, ia_i h16 419 k = 0) := by rw [e16]; exact z2_15
  have z0_16 : (∀ k, k ≠ 16 → k ≠ 17 → ia_i h16 417 k = 0) ∧ ia_i h16 417 16 = (-1) ∧ ia_i h16 417 17 = (-1) := by rw [e16]; exact z0_15
  have z7_16 : (∀ k, ia_i h16 424 k = 0) := by rw [e16]; exact z7_15
  have r0_21_16 : ia_r h16 417 21 = 424 := by rw [e16]; exact wR_s
  obtain ⟨h17, e17⟩ : ∃ x, x = ia_nw h16 100 36 36 := ⟨_, rfl⟩
  have c17 : hc_ (426) (417 :: S) w h17 := by rw [e17]; exact hc_arr c16 ks_12_8 (by decide) (by decide)
  have f17 : hf_ 417 h h17 := by rw [e17]; exact hf_nw f16 (hc_le c16 (by decide))
  have r0_0_17 : ia_r h17 417 0 = 418 := by rw [e17]; exact hn_r (hc_ne c16 (by decide)) r0_0_16
  have r0_1_17 : ia_r h17 417 1 = 419 := by rw [e17]; exact hn_r (hc_ne c16 (by decide)) r0_1_16
  have r0_10_17 : ia_r h17 417 10 = 420 := by rw [e17]; exact hn_r (hc_ne c16 (by decide)) r0_10_16
  have r0_12_17 : ia_r h17 417 12 = 421 := by rw [e17]; exact hn_r (hc_ne c16 (by decide)) r0_12_16
  have r0_13_17 : ia_r h17 417 13 = 422 := by rw [e17]; exact hn_r (hc_ne c16 (by decide)) r0_13_16
  have r0_20_17 : ia_r h17 417 20 = 423 := by rw [e17]; exact hn_r (hc_ne c16 (by decide)) r0_20_16
  have r0_21_17 : ia_r h17 417 21 = 424 := by rw [e17]; exact hn_r (hc_ne c16 (by decide)) r0_21_16
  have z1_17 : (∀ k, ia_i h17 418 k = 0) := by rw [e17]; exact fun k => (nw_i (hc_ne c16 (by decide)) (z1_16 k))
  have z2_17 : (∀ k, ia_i h17 419 k = 0) := by rw [e17]; exact fun k => (nw_i (hc_ne c16 (by decide)) (z2_16 k))
  have z0_17 : (∀ k, k ≠ 16 → k ≠ 17 → ia_i h17 417 k = 0) ∧ ia_i h17 417 16 = (-1) ∧ ia_i h17 417 17 = (-1) := by rw [e17]; exact ⟨fun k u0 u1 => (nw_i (hc_ne c16 (by decide)) (z0_16.1 k u0 u1)), (nw_i (hc_ne c16 (by decide)) z0_16.2.1), (nw_i (hc_ne c16 (by decide)) z0_16.2.2)⟩
  have z7_17 : (∀ k, ia_i h17 424 k = 0) := by rw [e17]; exact fun k => (nw_i (hc_ne c16 (by decide)) (z7_16 k))
  obtain ⟨h18, e18⟩ : ∃ x, x = ia_wR h17 417 22 425 := ⟨_, rfl⟩
  have c18 : hc_ (426) (417 :: S) w h18 := by rw [e18]; exact hc_wR c17 List.mem_cons_self
  have f18 : hf_ 417 h h18 := by rw [e18]; exact hf_wR f17 (Nat.le_refl _)
  have r0_0_18 : ia_r h18 417 0 = 418 := by rw [e18]; exact hw_r (by decide) r0_0_17
  have r0_1_18 : ia_r h18 417 1 = 419 := by rw [e18]; exact hw_r (by decide) r0_1_17
  have r0_10_18 : ia_r h18 417 10 = 420 := by rw [e18]; exact hw_r (by decide) r0_10_17
  have r0_12_18 : ia_r h18 417 12 = 421 := by rw [e18]; exact hw_r (by decide) r0_12_17
  have r0_13_18 : ia_r h18 417 13 = 422 := by rw [e18]; exact hw_r (by decide) r0_13_17
  have r0_20_18 : ia_r h18 417 20 = 423 := by rw [e18]; exact hw_r (by decide) r0_20_17
  have r0_21_18 : ia_r h18 417 21 = 424 := by rw [e18]; exact hw_r (by decide) r0_21_17
  have z1_18 : (∀ k, ia_i h18 418 k = 0) := by rw [e18]; exact z1_17
  have z2_18 : (∀ k, ia_i h18 419 k = 0) := by rw [e18]; exact z2_17
  have z0_18 : (∀ k, k ≠ 16 → k ≠ 17 → ia_i h18 417 k = 0) ∧ ia_i h18 417 16 = (-1) ∧ ia_i h18 417 17 = (-1) := by rw [e18]; exact z0_17
  have z7_18 : (∀ k, ia_i h18 424 k = 0) := by rw [e18]; exact z7_17
  have r0_22_18 : ia_r h18 417 22 = 425 := by rw [e18]; exact wR_s
  obtain ⟨h19, e19⟩ : ∃ x, x = ia_nw h18 101 36 36 := ⟨_, rfl⟩
  have c19 : hc_ (427) (417 :: S) w h19 := by rw [e19]; exact hc_arr c18 ks_12_9 (by decide) (by decide)
  have f19 : hf_ 417 h h19 := by rw [e19]; exact hf_nw f18 (hc_le c18 (by decide))
  have r0_0_19 : ia_r h19 417 0 = 418 := by rw [e19]; exact hn_r (hc_ne c18 (by decide)) r0_0_18
  have r0_1_19 : ia_r h19 417 1 = 419 := by rw [e19]; exact hn_r (hc_ne c18 (by decide)) r0_1_18
  have r0_10_19 : ia_r h19 417 10 = 420 := by rw [e19]; exact hn_r (hc_ne c18 (by decide)) r0_10_18
  have r0_12_19 : ia_r h19 417 12 = 421 := by rw [e19]; exact hn_r (hc_ne c18 (by decide)) r0_12_18
  have r0_13_19 : ia_r h19 417 13 = 422 := by rw [e19]; exact hn_r (hc_ne c18 (by decide)) r0_13_18
  have r0_20_19 : ia_r h19 417 20 = 423 := by rw [e19]; exact hn_r (hc_ne c18 (by decide)) r0_20_18
  have r0_21_19 : ia_r h19 417 21 = 424 := by rw [e19]; exact hn_r (hc_ne c18 (by decide)) r0_21_18
  have r0_22_19 : ia_r h19 417 22 = 425 := by rw [e19]; exact hn_r (hc_ne c18 (by decide)) r0_22_18
  have z1_19 : (∀ k, ia_i h19 418 k = 0) := by rw [e19]; exact fun k => (nw_i (hc_ne c18 (by decide)) (z1_18 k))
  have z2_19 : (∀ k, ia_i h19 419 k = 0) := by rw [e19]; exact fun k => (nw_i (hc_ne c18 (by decide)) (z2_18 k))
  have z0_19 : (∀ k, k ≠ 16 → k ≠ 17 → ia_i h19 417 k = 0) ∧ ia_i h19 417 16 = (-1) ∧ ia_i h19 417 17 = (-1) := by rw [e19]; exact ⟨fun k u0 u1 => (nw_i (hc_ne c18 (by decide)) (z0_18.1 k u0 u1)), (nw_i (hc_ne c18 (by decide)) z0_18.2.1), (nw_i (hc_ne c18 (by decide)) z0_18.2.2)⟩
  have z7_19 : (∀ k, ia_i h19 424 k = 0) := by rw [e19]; exact fun k => (nw_i (hc_ne c18 (by decide)) (z7_18 k))
  obtain ⟨h20, e20⟩ : ∃ x, x = ia_wR h19 417 25 426 := ⟨_, rfl⟩
  have c20 : hc_ (427) (417 :: S) w h20 := by rw [e20]; exact hc_wR c19 List.mem_cons_self
  have f20 : hf_ 417 h h20 := by rw [e20]; exact hf_wR f19 (Nat.le_refl _)
  have r0_0_20 : ia_r h20 417 0 = 418 := by rw [e20]; exact hw_r (by decide) r0_0_19
  have r0_1_20 : ia_r h20 417 1 = 419 := by rw [e20]; exact hw_r (by decide) r0_1_19
  have r0_10_20 : ia_r h20 417 10 = 420 := by rw [e20]; exact hw_r (by decide) r0_10_19
  have r0_12_20 : ia_r h20 417 12 = 421 := by rw [e20]; exact hw_r (by decide) r0_12_19
  have r0_13_20 : ia_r h20 417 13 = 422 := by rw [e20]; exact hw_r (by decide) r0_13_19
  have r0_20_20 : ia_r h20 417 20 = 423 := by rw [e20]; exact hw_r (by decide) r0_20_19
  have r0_21_20 : ia_r h20 417 21 = 424 := by rw [e20]; exact hw_r (by decide) r0_21_19
  have r0_22_20 : ia_r h20 417 22 = 425 := by rw [e20]; exact hw_r (by decide) r0_22_19
  have z1_20 : (∀ k, ia_i h20 418 k = 0) := by rw [e20]; exact z1_19
  have z2_20 : (∀ k, ia_i h20 419 k = 0) := by rw [e20]; exact z2_19
  have z0_20 : (∀ k, k ≠ 16 → k ≠ 17 → ia_i h20 417 k = 0) ∧ ia_i h20 417 16 = (-1) ∧ ia_i h20 417 17 = (-1) := by rw [e20]; exact z0_19
  have z7_20 : (∀ k, ia_i h20 424 k = 0) := by rw [e20]; exact z7_19
  have r0_25_20 : ia_r h20 417 25 = 426 := by rw [e20]; exact wR_s
  obtain ⟨h21, e21⟩ : ∃ x, x = ia_nw h20 100 36 36 := ⟨_, rfl⟩
  have c21 : hc_ (428) (417 :: S) w h21 := by rw [e21]; exact hc_arr c20 ks_12_10 (by decide) (by decide)
  have f21 : hf_ 417 h h21 := by rw [e21]; exact hf_nw f20 (hc_le c20 (by decide))
  have r0_0_21 : ia_r h21 417 0 = 418 := by rw [e21]; exact hn_r (hc_ne c20 (by decide)) r0_0_20
  have r0_1_21 : ia_r h21 417 1 = 419 := by rw [e21]; exact hn_r (hc_ne c20 (by decide)) r0_1_20
  have r0_10_21 : ia_r h21 417 10 = 420 := by rw [e21]; exact hn_r (hc_ne c20 (by decide)) r0_10_20
  have r0_12_21 : ia_r h21 417 12 = 421 := by rw [e21]; exact hn_r (hc_ne c20 (by decide)) r0_12_20
  have r0_13_21 : ia_r h21 417 13 = 422 := by rw [e21]; exact hn_r (hc_ne c20 (by decide)) r0_13_20
  have r0_20_21 : ia_r h21 417 20 = 423 := by rw [e21]; exact hn_r (hc_ne c20 (by decide)) r0_20_20
  have r0_21_21 : ia_r h21 417 21 = 424 := by rw [e21]; exact hn_r (hc_ne c20 (by decide)) r0_21_20
  have r0_22_21 : ia_r h21 417 22 = 425 := by rw [e21]; exact hn_r (hc_ne c20 (by decide)) r0_22_20
  have r0_25_21 : ia_r h21 417 25 = 426 := by rw [e21]; exact hn_r (hc_ne c20 (by decide)) r0_25_20
  have z1_21 : (∀ k, ia_i h21 418 k = 0) := by rw [e21]; exact fun k => (nw_i (hc_ne c20 (by decide)) (z1_20 k))
  have z2_21 : (∀ k, ia_i h21 419 k = 0) := by rw [e21]; exact fun k => (nw_i (hc_ne c20 (by decide)) (z2_20 k))
  have z0_21 : (∀ k, k ≠ 16 → k ≠ 17 → ia_i h21 417 k = 0) ∧ ia_i h21 417 16 = (-1) ∧ ia_i h21 417 17 = (-1) := by rw [e21]; exact ⟨fun k u0 u1 => (nw_i (hc_ne c20 (by decide)) (z0_20.1 k u0 u1)), (nw_i (hc_ne c20 (by decide)) z0_20.2.1), (nw_i (hc_ne c20 (by decide)) z0_20.2.2)⟩
  have z7_21 : (∀ k, ia_i h21 424 k = 0) := by rw [e21]; exact fun k => (nw_i (hc_ne c20 (by decide)) (z7_20 k))
  obtain ⟨h22, e22⟩ : ∃ x, x = ia_wR h21 417 26 427 := ⟨_, rfl⟩
  have c22 : hc_ (428) (417 :: S) w h22 := by rw [e22]; exact hc_wR c21 List.mem_cons_self
  have f22 : hf_ 417 h h22 := by rw [e22]; exact hf_wR f21 (Nat.le_refl _)
  have r0_0_22 : ia_r h22 417 0 = 418 := by rw [e22]; exact hw_r (by decide) r0_0_21
  have r0_1_22 : ia_r h22 417 1 = 419 := by rw [e22]; exact hw_r (by decide) r0_1_21
  have r0_10_22 : ia_r h22 417 10 = 420 := by rw [e22]; exact hw_r (by decide) r0_10_21
  have r0_12_22 : ia_r h22 417 12 = 421 := by rw [e22]; exact hw_r (by decide) r0_12_21
  have r0_13_22 : ia_r h22 417 13 = 422 := by rw [e22]; exact hw_r (by decide) r0_13_21
  have r0_20_22 : ia_r h22 417 20 = 423 := by rw [e22]; exact hw_r (by decide) r0_20_21
  have r0_21_22 : ia_r h22 417 21 = 424 := by rw [e22]; exact hw_r (by decide) r0_21_21
  have r0_22_22 : ia_r h22 417 22 = 425 := by rw [e22]; exact hw_r (by decide) r0_22_21
  have r0_25_22 : ia_r h22 417 25 = 426 := by rw [e22]; exact hw_r (by decide) r0_25_21
  have z1_22 : (∀ k, ia_i h22 418 k = 0) := by rw [e22]; exact z1_21
  have z2_22 : (∀ k, ia_i h22 419 k = 0) := by rw [e22]; exact z2_21
  have z0_22 : (∀ k, k ≠ 16 → k ≠ 17 → ia_i h22 417 k = 0) ∧ ia_i h22 417 16 = (-1) ∧ ia_i h22 417 17 = (-1) := by rw [e22]; exact z0_21
  have z7_22 : (∀ k, ia_i h22 424 k = 0) := by rw [e22]; exact z7_21
  have r0_26_22 : ia_r h22 417 26 = 427 := by rw [e22]; exact wR_s
  obtain ⟨h23, e23⟩ : ∃ x, x = ia_nw h22 100 9 9 := ⟨_, rfl⟩
  have c23 : hc_ (429) (417 :: S) w h23 := by rw [e23]; exact hc_arr c22 ks_12_11 (by decide) (by decide)
  have f23 : hf_ 417 h h23 := by rw [e23]; exact hf_nw f22 (hc_le c22 (by decide))
  have r0_0_23 : ia_r h23 417 0 = 418 := by rw [e23]; exact hn_r (hc_ne c22 (by decide)) r0_0_22
  have r0_1_23 : ia_r h23 417 1 = 419 := by rw [e23]; exact hn_r (hc_ne c22 (by decide)) r0_1_22
  have r0_10_23 : ia_r h23 417 10 = 420 := by rw [e23]; exact hn_r (hc_ne c22 (by decide)) r0_10_22
  have r0_12_23 : ia_r h23 417 12 = 421 := by rw [e23]; exact hn_r (hc_ne c22 (by decide)) r0_12_22
  have r0_13_23 : ia_r h23 417 13 = 422 := by rw [e23]; exact hn_r (hc_ne c22 (by decide)) r0_13_22
  have r0_20_23 : ia_r h23 417 20 = 423 := by rw [e23]; exact hn_r (hc_ne c22 (by decide)) r0_20_22
  have r0_21_23 : ia_r h23 417 21 = 424 := by rw [e23]; exact hn_r (hc_ne c22 (by decide)) r0_21_22
  have r0_22_23 : ia_r h23 417 22 = 425 := by rw [e23]; exact hn_r (hc_ne c22 (by decide)) r0_22_22
  have r0_25_23 : ia_r h23 417 25 = 426 := by rw [e23]; exact hn_r (hc_ne c22 (by decide)) r0_25_22
  have r0_26_23 : ia_r h23 417 26 = 427 := by rw [e23]; exact hn_r (hc_ne c22 (by decide)) r0_26_22
  have z1_23 : (∀ k, ia_i h23 418 k = 0) := by rw [e23]; exact fun k => (nw_i (hc_ne c22 (by decide)) (z1_22 k))
  have z2_23 : (∀ k, ia_i h23 419 k = 0) := by rw [e23]; exact fun k => (nw_i (hc_ne c22 (by decide)) (z2_22 k))
  have z0_23 : (∀ k, k ≠ 16 → k ≠ 17 → ia_i h23 417 k = 0) ∧ ia_i h23 417 16 = (-1) ∧ ia_i h23 417 17 = (-1) := by rw [e23]; exact ⟨fun k u0 u1 => (nw_i (hc_ne c22 (by decide)) (z0_22.1 k u0 u1)), (nw_i (hc_ne c22 (by decide)) z0_22.2.1), (nw_i (hc_ne c22 (by decide)) z0_22.2.2)⟩
  have z7_23 : (∀ k, ia_i h23 424 k = 0) := by rw [e23]; exact fun k => (nw_i (hc_ne c22 (by decide)) (z7_22 k))
  obtain ⟨h24, e24⟩ : ∃ x, x = ia_wR h23 417 28 428 := ⟨_, rfl⟩
  have c24 : hc_ (429) (417 :: S) w h24 := by rw [e24]; exact hc_wR c23 List.mem_cons_self
  have f24 : hf_ 417 h h24 := by rw [e24]; exact hf_wR f23 (Nat.le_refl _)
  have r0_0_24 : ia_r h24 417 0 = 418 := by rw [e24]; exact hw_r (by decide) r0_0_23
  have r0_1_24 : ia_r h24 417 1 = 419 := by rw [e24]; exact hw_r (by decide) r0_1_23
  have r0_10_24 : ia_r h24 417 10 = 420 := by rw [e24]; exact hw_r (by decide) r0_10_23
  have r0_12_24 : ia_r h24 417 12 = 421 := by rw [e24]; exact hw_r (by decide) r0_12_23
  have r0_13_24 : ia_r h24 417 13 = 422 := by rw [e24]; exact hw_r (by decide) r0_13_23
  have r0_20_24 : ia_r h24 417 20 = 423 := by rw [e24]; exact hw_r (by decide) r0_20_23
  have r0_21_24 : ia_r h24 417 21 = 424 := by rw [e24]; exact hw_r (by decide) r0_21_23
  have r0_22_24 : ia_r h24 417 22 = 425 := by rw [e24]; exact hw_r (by decide) r0_22_23
  have r0_25_24 : ia_r h24 417 25 = 426 := by rw [e24]; exact hw_r (by decide) r0_25_23
  have r0_26_24 : ia_r h24 417 26 = 427 := by rw [e24]; exact hw_r (by decide) r0_26_23
  have z1_24 : (∀ k, ia_i h24 418 k = 0) := by rw [e24]; exact z1_23
  have z2_24 : (∀ k, ia_i h24 419 k = 0) := by rw [e24]; exact z2_23
  have z0_24 : (∀ k, k ≠ 16 → k ≠ 17 → ia_i h24 417 k = 0) ∧ ia_i h24 417 16 = (-1) ∧ ia_i h24 417 17 = (-1) := by rw [e24]; exact z0_23
  have z7_24 : (∀ k, ia_i h24 424 k = 0) := by rw [e24]; exact z7_23
  have r0_28_24 : ia_r h24 417 28 = 428 := by rw [e24]; exact wR_s
  obtain ⟨h25, e25⟩ : ∃ x, x = ia_nw h24 100 9 9 := ⟨_, rfl⟩
  have c25 : hc_ (430) (417 :: S) w h25 := by rw [e25]; exact hc_arr c24 ks_12_12 (by decide) (by decide)
  have f25 : hf_ 417 h h25 := by rw [e25]; exact hf_nw f24 (hc_le c24 (by decide))
  have r0_0_25 : ia_r h25 417 0 = 418 := by rw [e25]; exact hn_r (hc_ne c24 (by decide)) r0_0_24
  have r0_1_25 : ia_r h25 417 1 = 419 := by rw [e25]; exact hn_r (hc_ne c24 (by decide)) r0_1_24
  have r0_10_25 : ia_r h25 417 10 = 420 := by rw [e25]; exact hn_r (hc_ne c24 (by decide)) r0_10_24
  have r0_12_25 : ia_r h25 417 12 = 421 := by rw [e25]; exact hn_r (hc_ne c24 (by decide)) r0_12_24
  have r0_13_25 : ia_r h25 417 13 = 422 := by rw [e25]; exact hn_r (hc_ne c24 (by decide)) r0_13_24
  have r0_20_25 : ia_r h25 417 20 = 423 := by rw [e25]; exact hn_r (hc_ne c24 (by decide)) r0_20_24
  have r0_21_25 : ia_r h25 417 21 = 424 := by rw [e25]; exact hn_r (hc_ne c24 (by decide)) r0_21_24
  have r0_22_25 : ia_r h25 417 22 = 425 := by rw [e25]; exact hn_r (hc_ne c24 (by decide)) r0_22_24
  have r0_25_25 : ia_r h25 417 25 = 426 := by rw [e25]; exact hn_r (hc_ne c24 (by decide)) r0_25_24
  have r0_26_25 : ia_r h25 417 26 = 427 := by rw [e25]; exact hn_r (hc_ne c24 (by decide)) r0_26_24
  have r0_28_25 : ia_r h25 417 28 = 428 := by rw [e25]; exact hn_r (hc_ne c24 (by decide)) r0_28_24
  have z1_25 : (∀ k, ia_i h25 418 k = 0) := by rw [e25]; exact fun k => (nw_i (hc_ne c24 (by decide)) (z1_24 k))
  have z2_25 : (∀ k, ia_i h25 419 k = 0) := by rw [e25]; exact fun k => (nw_i (hc_ne c24 (by decide)) (z2_24 k))
  have z0_25 : (∀ k, k ≠ 16 → k ≠ 17 → ia_i h25 417 k = 0) ∧ ia_i h25 417 16 = (-1) ∧ ia_i h25 417 17 = (-1) := by rw [e25]; exact ⟨fun k u0 u1 => (nw_i (hc_ne c24 (by decide)) (z0_24.1 k u0 u1)), (nw_i (hc_ne c24 (by decide)) z0_24.2.1), (nw_i (hc_ne c24 (by decide)) z0_24.2.2)⟩
  have z7_25 : (∀ k, ia_i h25 424 k = 0) := by rw [e25]; exact fun k => (nw_i (hc_ne c24 (by decide)) (z7_24 k))
  obtain ⟨h26, e26⟩ : ∃ x, x = ia_wR h25 417 29 429 := ⟨_, rfl⟩
  have c26 : hc_ (430) (417 :: S) w h26 := by rw [e26]; exact hc_wR c25 List.mem_cons_self
  have f26 : hf_ 417 h h26 := by rw [e26]; exact hf_wR f25 (Nat.le_refl _)
  have r0_0_26 : ia_r h26 417 0 = 418 := by rw [e26]; exact hw_r (by decide) r0_0_25
  have r0_1_26 : ia_r h26 417 1 = 419 := by rw [e26]; exact hw_r (by decide) r0_1_25
  have r0_10_26 : ia_r h26 417 10 = 420 := by rw [e26]; exact hw_r (by decide) r0_10_25
  have r0_12_26 : ia_r h26 417 12 = 421 := by rw [e26]; exact hw_r (by decide) r0_12_25
  have r0_13_26 : ia_r h26 417 13 = 422 := by rw [e26]; exact hw_r (by decide) r0_13_25
  have r0_20_26 : ia_r h26 417 20 = 423 := by rw [e26]; exact hw_r (by decide) r0_20_25
  have r0_21_26 : ia_r h26 417 21 = 424 := by rw [e26]; exact hw_r (by decide) r0_21_25
  have r0_22_26 : ia_r h26 417 22 = 425 := by rw [e26]; exact hw_r (by decide) r0_22_25
  have r0_25_26 : ia_r h26 417 25 = 426 := by rw [e26]; exact hw_r (by decide) r0_25_25
  have r0_26_26 : ia_r h26 417 26 = 427 := by rw [e26]; exact hw_r (by decide) r0_26_25
  have r0_28_26 : ia_r h26 417 28 = 428 := by rw [e26]; exact hw_r (by decide) r0_28_25
  have z1_26 : (∀ k, ia_i h26 418 k = 0) := by rw [e26]; exact z1_25
  have z2_26 : (∀ k, ia_i h26 419 k = 0) := by rw [e26]; exact z2_25
  have z0_26 : (∀ k, k ≠ 16 → k ≠ 17 → ia_i h26 417 k = 0) ∧ ia_i h26 417 16 = (-1) ∧ ia_i h26 417 17 = (-1) := by rw [e26]; exact z0_25
  have z7_26 : (∀ k, ia_i h26 424 k = 0) := by rw [e26]; exact z7_25
  have r0_29_26 : ia_r h26 417 29 = 429 := by rw [e26]; exact wR_s
  obtain ⟨h27, e27⟩ : ∃ x, x = ia_nw h26 100 36 36 := ⟨_, rfl⟩
  have c27 : hc_ (431) (417 :: S) w h27 := by rw [e27]; exact hc_arr c26 ks_12_13 (by decide) (by decide)
  have f27 : hf_ 417 h h27 := by rw [e27]; exact hf_nw f26 (hc_le c26 (by decide))
  have r0_0_27 : ia_r h27 417 0 = 418 := by rw [e27]; exact hn_r (hc_ne c26 (by decide)) r0_0_26
  have r0_1_27 : ia_r h27 417 1 = 419 := by rw [e27]; exact hn_r (hc_ne c26 (by decide)) r0_1_26
  have r0_10_27 : ia_r h27 417 10 = 420 := by rw [e27]; exact hn_r (hc_ne c26 (by decide)) r0_10_26
  have r0_12_27 : ia_r h27 417 12 = 421 := by rw [e27]; exact hn_r (hc_ne c26 (by decide)) r0_12_26
  have r0_13_27 : ia_r h27 417 13 = 422 := by rw [e27]; exact hn_r (hc_ne c26 (by decide)) r0_13_26
  have r0_20_27 : ia_r h27 417 20 = 423 := by rw [e27]; exact hn_r (hc_ne c26 (by decide)) r0_20_26
  have r0_21_27 : ia_r h27 417 21 = 424 := by rw [e27]; exact hn_r (hc_ne c26 (by decide)) r0_21_26
  have r0_22_27 : ia_r h27 417 22 = 425 := by rw [e27]; exact hn_r (hc_ne c26 (by decide)) r0_22_26
  have r0_25_27 : ia_r h27 417 25 = 426 := by rw [e27]; exact hn_r (hc_ne c26 (by decide)) r0_25_26
  have r0_26_27 : ia_r h27 417 26 = 427 := by rw [e27]; exact hn_r (hc_ne c26 (by decide)) r0_26_26
  have r0_28_27 : ia_r h27 417 28 = 428 := by rw [e27]; exact hn_r (hc_ne c26 (by decide)) r0_28_26
  have r0_29_27 : ia_r h27 417 29 = 429 := by rw [e27]; exact hn_r (hc_ne c26 (by decide)) r0_29_26
  have z1_27 : (∀ k, ia_i h27 418 k = 0) := by rw [e27]; exact fun k => (nw_i (hc_ne c26 (by decide)) (z1_26 k))
  have z2_27 : (∀ k, ia_i h27 419 k = 0) := by rw [e27]; exact fun k => (nw_i (hc_ne c26 (by decide)) (z2_26 k))
  have z0_27 : (∀ k, k ≠ 16 → k ≠ 17 → ia_i h27 417 k = 0) ∧ ia_i h27 417 16 = (-1) ∧ ia_i h27 417 17 = (-1) := by rw [e27]; exact ⟨fun k u0 u1 => (nw_i (hc_ne c26 (by decide)) (z0_26.1 k u0 u1)), (nw_i (hc_ne c26 (by decide)) z0_26.2.1), (nw_i (hc_ne c26 (by decide)) z0_26.2.2)⟩
  have z7_27 : (∀ k, ia_i h27 424 k = 0) := by rw [e27]; exact fun k => (nw_i (hc_ne c26 (by decide)) (z7_26 k))
  obtain ⟨h28, e28⟩ : ∃ x, x = ia_wR h27 417 31 430 := ⟨_, rfl⟩
  have c28 : hc_ (431) (417 :: S) w h28 := by rw [e28]; exact hc_wR c27 List.mem_cons_self
  have f28 : hf_ 417 h h28 := by rw [e28]; exact hf_wR f27 (Nat.le_refl _)
  have r0_0_28 : ia_r h28 417 0 = 418 := by rw [e28]; exact hw_r (by decide) r0_0_27
  have r0_1_28 : ia_r h28 417 1 = 419 := by rw [e28]; exact hw_r (by decide) r0_1_27
  have r0_10_28 : ia_r h28 417 10 = 420 := by rw [e28]; exact hw_r (by decide) r0_10_27
  have r0_12_28 : ia_r h28 417 12 = 421 := by rw [e28]; exact hw_r (by decide) r0_12_27
  have r0_13_28 : ia_r h28 417 13 = 422 := by rw [e28]; exact hw_r (by decide) r0_13_27
  have r0_20_28 : ia_r h28 417 20 = 423 := by rw [e28]; exact hw_r (by decide) r0_20_27
  have r0_21_28 : ia_r h28 417 21 = 424 := by rw [e28]; exact hw_r (by decide) r0_21_27
  have r0_22_28 : ia_r h28 417 22 = 425 := by rw [e28]; exact hw_r (by decide) r0_22_27
  have r0_25_28 : ia_r h28 417 25 = 426 := by rw [e28]; exact hw_r (by decide) r0_25_27
  have r0_26_28 : ia_r h28 417 26 = 427 := by rw [e28]; exact hw_r (by decide) r0_26_27
  have r0_28_28 : ia_r h28 417 28 = 428 := by rw [e28]; exact hw_r (by decide) r0_28_27
  have r0_29_28 : ia_r h28 417 29 = 429 := by rw [e28]; exact hw_r (by decide) r0_29_27
  have z1_28 : (∀ k, ia_i h28 418 k = 0) := by rw [e28]; exact z1_27
  have z2_28 : (∀ k, ia_i h28 419 k = 0) := by rw [e28]; exact z2_27
  have z0_28 : (∀ k, k ≠ 16 → k ≠ 17 → ia_i h28 417 k = 0) ∧ ia_i h28 417 16 = (-1) ∧ ia_i h28 417 17 = (-1) := by rw [e28]; exact z0_27
  have z7_28 : (∀ k, ia_i h28 424 k = 0) := by rw [e28]; exact z7_27
  have r0_31_28 : ia_r h28 417 31 = 430 := by rw [e28]; exact wR_s
  obtain ⟨h29, e29⟩ : ∃ x, x = ia_nw h28 100 6 6 := ⟨_, rfl⟩
  have c29 : hc_ (432) (417 :: S) w h29 := by rw [e29]; exact hc_arr c28 ks_12_14 (by decide) (by decide)
  have f29 : hf_ 417 h h29 := by rw [e29]; exact hf_nw f28 (hc_le c28 (by decide))
  have r0_0_29 : ia_r h29 417 0 = 418 := by rw [e29]; exact hn_r (hc_ne c28 (by decide)) r0_0_28
  have r0_1_29 : ia_r h29 417 1 = 419 := by rw [e29]; exact hn_r (hc_ne c28 (by decide)) r0_1_28
  have r0_10_29 : ia_r h29 417 10 = 420 := by rw [e29]; exact hn_r (hc_ne c28 (by decide)) r0_10_28
  have r0_12_29 : ia_r h29 417 12 = 421 := by rw [e29]; exact hn_r (hc_ne c28 (by decide)) r0_12_28
  have r0_13_29 : ia_r h29 417 13 = 422 := by rw [e29]; exact hn_r (hc_ne c28 (by decide)) r0_13_28
  have r0_20_29 : ia_r h29 417 20 = 423 := by rw [e29]; exact hn_r (hc_ne c28 (by decide)) r0_20_28
  have r0_21_29 : ia_r h29 417 21 = 424 := by rw [e29]; exact hn_r (hc_ne c28 (by decide)) r0_21_28
  have r0_22_29 : ia_r h29 417 22 = 425 := by rw [e29]; exact hn_r (hc_ne c28 (by decide)) r0_22_28
  have r0_25_29 : ia_r h29 417 25 = 426 := by rw [e29]; exact hn_r (hc_ne c28 (by decide)) r0_25_28
  have r0_26_29 : ia_r h29 417 26 = 427 := by rw [e29]; exact hn_r (hc_ne c28 (by decide)) r0_26_28
  have r0_28_29 : ia_r h29 417 28 = 428 := by rw [e29]; exact hn_r (hc_ne c28 (by decide)) r0_28_28
  have r0_29_29 : ia_r h29 417 29 = 429 := by rw [e29]; exact hn_r (hc_ne c28 (by decide)) r0_29_28
  have r0_31_29 : ia_r h29 417 31 = 430 := by rw [e29]; exact hn_r (hc_ne c28 (by decide)) r0_31_28
  have z1_29 : (∀ k, ia_i h29 418 k = 0) := by rw [e29]; exact fun k => (nw_i (hc_ne c28 (by decide)) (z1_28 k))
  have z2_29 : (∀ k, ia_i h29 419 k = 0) := by rw [e29]; exact fun k => (nw_i (hc_ne c28 (by decide)) (z2_28 k))
  have z0_29 : (∀ k, k ≠ 16 → k ≠ 17 → ia_i h29 417 k = 0) ∧ ia_i h29 417 16 = (-1) ∧ ia_i h29 417 17 = (-1) := by rw [e29]; exact ⟨fun k u0 u1 => (nw_i (hc_ne c28 (by decide)) (z0_28.1 k u0 u1)), (nw_i (hc_ne c28 (by decide)) z0_28.2.1), (nw_i (hc_ne c28 (by decide)) z0_28.2.2)⟩
  have z7_29 : (∀ k, ia_i h29 424 k = 0) := by rw [e29]; exact fun k => (nw_i (hc_ne c28 (by decide)) (z7_28 k))
  obtain ⟨h30, e30⟩ : ∃ x, x = ia_wR h29 417 32 431 := ⟨_, rfl⟩
  have c30 : hc_ (432) (417 :: S) w h30 := by rw [e30]; exact hc_wR c29 List.mem_cons_self
  have f30 : hf_ 417 h h30 := by rw [e30]; exact hf_wR f29 (Nat.le_refl _)
  have r0_0_30 : ia_r h30 417 0 = 418 := by rw [e30]; exact hw_r (by decide) r0_0_29
  have r0_1_30 : ia_r h30 417 1 = 419 := by rw [e30]; exact hw_r (by decide) r0_1_29
  have r0_10_30 : ia_r h30 417 10 = 420 := by rw [e30]; exact hw_r (by decide) r0_10_29
  have r0_12_30 : ia_r h30 417 12 = 421 := by rw [e30]; exact hw_r (by decide) r0_12_29
  have r0_13_30 : ia_r h30 417 13 = 422 := by rw [e30]; exact hw_r (by decide) r0_13_29
  have r0_20_30 : ia_r h30 417 20 = 423 := by rw [e30]; exact hw_r (by decide) r0_20_29
  have r0_21_30 : ia_r h30 417 21 = 424 := by rw [e30]; exact hw_r (by decide) r0_21_29
  have r0_22_30 : ia_r h30 417 22 = 425 := by rw [e30]; exact hw_r (by decide) r0_22_29
  have r0_25_30 : ia_r h30 417 25 = 426 := by rw [e30]; exact hw_r (by decide) r0_25_29
  have r0_26_30 : ia_r h30 417 26 = 427 := by rw [e30]; exact hw_r (by decide) r0_26_29
  have r0_28_30 : ia_r h30 417 28 = 428 := by rw [e30]; exact hw_r (by decide) r0_28_29
  have r0_29_30 : ia_r h30 417 29 = 429 := by rw [e30]; exact hw_r (by decide) r0_29_29
  have r0_31_30 : ia_r h30 417 31 = 430 := by rw [e30]; exact hw_r (by decide) r0_31_29
  have z1_30 : (∀ k, ia_i h30 418 k = 0) := by rw [e30]; exact z1_29
  have z2_30 : (∀ k, ia_i h30 419 k = 0) := by rw [e30]; exact z2_29
  have z0_30 : (∀ k, k ≠ 16 → k ≠ 17 → ia_i h30 417 k = 0) ∧ ia_i h30 417 16 = (-1) ∧ ia_i h30 417 17 = (-1) := by rw [e30]; exact z0_29
  have z7_30 : (∀ k, ia_i h30 424 k = 0) := by rw [e30]; exact z7_29
  have r0_32_30 : ia_r h30 417 32 = 431 := by rw [e30]; exact wR_s
  obtain ⟨h31, e31⟩ : ∃ x, x = ia_nw h30 100 6 6 := ⟨_, rfl⟩
  have c31 : hc_ (433) (417 :: S) w h31 := by rw [e31]; exact hc_arr c30 ks_12_15 (by decide) (by decide)
  have f31 : hf_ 417 h h31 := by rw [e31]; exact hf_nw f30 (hc_le c30 (by decide))
  have r0_0_31 : ia_r h31 417 0 = 418 := by rw [e31]; exact hn_r (hc_ne c30 (by decide)) r0_0_30
  have r0_1_31 : ia_r h31 417 1 = 419 := by rw [e31]; exact hn_r (hc_ne c30 (by decide)) r0_1_30
  have r0_10_31 : ia_r h31 417 10 = 420 := by rw [e31]; exact hn_r (hc_ne c30 (by decide)) r0_10_30
  have r0_12_31 : ia_r h31 417 12 = 421 := by rw [e31]; exact hn_r (hc_ne c30 (by decide)) r0_12_30
  have r0_13_31 : ia_r h31 417 13 = 422 := by rw [e31]; exact hn_r (hc_ne c30 (by decide)) r0_13_30
  have r0_20_31 : ia_r h31 417 20 = 423 := by rw [e31]; exact hn_r (hc_ne c30 (by decide)) r0_20_30
  have r0_21_31 : ia_r h31 417 21 = 424 := by rw [e31]; exact hn_r (hc_ne c30 (by decide)) r0_21_30
  have r0_22_31 : ia_r h31 417 22 = 425 := by rw [e31]; exact hn_r (hc_ne c30 (by decide)) r0_22_30
  have r0_25_31 : ia_r h31 417 25 = 426 := by rw [e31]; exact hn_r (hc_ne c30 (by decide)) r0_25_30
  have r0_26_31 : ia_r h31 417 26 = 427 := by rw [e31]; exact hn_r (hc_ne c30 (by decide)) r0_26_30
  have r0_28_31 : ia_r h31 417 28 = 428 := by rw [e31]; exact hn_r (hc_ne c30 (by decide)) r0_28_30
  have r0_29_31 : ia_r h31 417 29 = 429 := by rw [e31]; exact hn_r (hc_ne c30 (by decide)) r0_29_30
  have r0_31_31 : ia_r h31 417 31 = 430 := by rw [e31]; exact hn_r (hc_ne c30 (by decide)) r0_31_30
  have r0_32_31 : ia_r h31 417 32 = 431 := by rw [e31]; exact hn_r (hc_ne c30 (by decide)) r0_32_30
  have z1_31 : (∀ k, ia_i h31 418 k = 0) := by rw [e31]; exact fun k => (nw_i (hc_ne c30 (by decide)) (z1_30 k))
  have z2_31 : (∀ k, ia_i h31 419 k = 0) := by rw [e31]; exact fun k => (nw_i (hc_ne c30 (by decide)) (z2_30 k))
  have z0_31 : (∀ k, k ≠ 16 → k ≠ 17 → ia_i h31 417 k = 0) ∧ ia_i h31 417 16 = (-1) ∧ ia_i h31 417 17 = (-1) := by rw [e31]; exact ⟨fun k u0 u1 => (nw_i (hc_ne c30 (by decide)) (z0_30.1 k u0 u1)), (nw_i (hc_ne c30 (by decide)) z0_30.2.1), (nw_i (hc_ne c30 (by decide)) z0_30.2.2)⟩
  have z7_31 : (∀ k, ia_i h31 424 k = 0) := by rw [e31]; exact fun k => (nw_i (hc_ne c30 (by decide)) (z7_30 k))
  obtain ⟨h32, e32⟩ : ∃ x, x = ia_wR h31 417 33 432 := ⟨_, rfl⟩
  have c32 : hc_ (433) (417 :: S) w h32 := by rw [e32]; exact hc_wR c31 List.mem_cons_self
  have f32 : hf_ 417 h h32 := by rw [e32]; exact hf_wR f31 (Nat.le_refl _)
  have r0_0_32 : ia_r h32 417 0 = 418 := by rw [e32]; exact hw_r (by decide) r0_0_31
  have r0_1_32 : ia_r h32 417 1 = 419 := by rw [e32]; exact hw_r (by decide) r0_1_31
  have r0_10_32 : ia_r h32 417 10 = 420 := by rw [e32]; exact hw_r (by decide) r0_10_31
  have r0_12_32 : ia_r h32 417 12 = 421 := by rw [e32]; exact hw_r (by decide) r0_12_31
  have r0_13_32 : ia_r h32 417 13 = 422 := by rw [e32]; exact hw_r (by decide) r0_13_31
  have r0_20_32 : ia_r h32 417 20 = 423 := by rw [e32]; exact hw_r (by decide) r0_20_31
  have r0_21_32 : ia_r h32 417 21 = 424 := by rw [e32]; exact hw_r (by decide) r0_21_31
  have r0_22_32 : ia_r h32 417 22 = 425 := by rw [e32]; exact hw_r (by decide) r0_22_31
  have r0_25_32 : ia_r h32 417 25 = 426 := by rw [e32]; exact hw_r (by decide) r0_25_31
  have r0_26_32 : ia_r h32 417 26 = 427 := by rw [e32]; exact hw_r (by decide) r0_26_31
  have r0_28_32 : ia_r h32 417 28 = 428 := by rw [e32]; exact hw_r (by decide) r0_28_31
  have r0_29_32 : ia_r h32 417 29 = 429 := by rw [e32]; exact hw_r (by decide) r0_29_31
  have r0_31_32 : ia_r h32 417 31 = 430 := by rw [e32]; exact hw_r (by decide) r0_31_31
  have r0_32_32 : ia_r h32 417 32 = 431 := by rw [e32]; exact hw_r (by decide) r0_32_31
  have z1_32 : (∀ k, ia_i h32 418 k = 0) := by rw [e32]; exact z1_31
  have z2_32 : (∀ k, ia_i h32 419 k = 0) := by rw [e32]; exact z2_31
  have z0_32 : (∀ k, k ≠ 16 → k ≠ 17 → ia_i h32 417 k = 0) ∧ ia_i h32 417 16 = (-1) ∧ ia_i h32 417 17 = (-1) := by rw [e32]; exact z0_31
  have z7_32 : (∀ k, ia_i h32 424 k = 0) := by rw [e32]; exact z7_31
  have r0_33_32 : ia_r h32 417 33 = 432 := by rw [e32]; exact wR_s
  obtain ⟨h33, e33⟩ : ∃ x, x = ia_nw h32 100 6 6 := ⟨_, rfl⟩
  have c33 : hc_ (434) (417 :: S) w h33 := by rw [e33]; exact hc_arr c32 ks_12_16 (by decide) (by decide)
  have f33 : hf_ 417 h h33 := by rw [e33]; exact hf_nw f32 (hc_le c32 (by decide))
  have r0_0_33 : ia_r h33 417 0 = 418 := by rw [e33]; exact hn_r (hc_ne c32 (by decide)) r0_0_32
  have r0_1_33 : ia_r h33 417 1 = 419 := by rw [e33]; exact hn_r (hc_ne c32 (by decide)) r0_1_32
  have r0_10_33 : ia_r h33 417 10 = 420 := by rw [e33]; exact hn_r (hc_ne c32 (by decide)) r0_10_32
  have r0_12_33 : ia_r h33 417 12 = 421 := by rw [e33]; exact hn_r (hc_ne c32 (by decide)) r0_12_32
  have r0_13_33 : ia_r h33 417 13 = 422 := by rw [e33]; exact hn_r (hc_ne c32 (by decide)) r0_13_32
  have r0_20_33 : ia_r h33 417 20 = 423 := by rw [e33]; exact hn_r (hc_ne c32 (by decide)) r0_20_32
  have r0_21_33 : ia_r h33 417 21 = 424 := by rw [e33]; exact hn_r (hc_ne c32 (by decide)) r0_21_32
  have r0_22_33 : ia_r h33 417 22 = 425 := by rw [e33]; exact hn_r (hc_ne c32 (by decide)) r0_22_32
  have r0_25_33 : ia_r h33 417 25 = 426 := by rw [e33]; exact hn_r (hc_ne c32 (by decide)) r0_25_32
  have r0_26_33 : ia_r h33 417 26 = 427 := by rw [e33]; exact hn_r (hc_ne c32 (by decide)) r0_26_32
  have r0_28_33 : ia_r h33 417 28 = 428 := by rw [e33]; exact hn_r (hc_ne c32 (by decide)) r0_28_32
  have r0_29_33 : ia_r h33 417 29 = 429 := by rw [e33]; exact hn_r (hc_ne c32 (by decide)) r0_29_32
  have r0_31_33 : ia_r h33 417 31 = 430 := by rw [e33]; exact hn_r (hc_ne c32 (by decide)) r0_31_32
  have r0_32_33 : ia_r h33 417 32 = 431 := by rw [e33]; exact hn_r (hc_ne c32 (by decide)) r0_32_32
  have r0_33_33 : ia_r h33 417 33 = 432 := by rw [e33]; exact hn_r (hc_ne c32 (by decide)) r0_33_32
  have z1_33 : (∀ k, ia_i h33 418 k = 0) := by rw [e33]; exact fun k => (nw_i (hc_ne c32 (by decide)) (z1_32 k))
  have z2_33 : (∀ k, ia_i h33 419 k = 0) := by rw [e33]; exact fun k => (nw_i (hc_ne c32 (by decide)) (z2_32 k))
  have z0_33 : (∀ k, k ≠ 16 → k ≠ 17 → ia_i h33 417 k = 0) ∧ ia_i h33 417 16 = (-1) ∧ ia_i h33 417 17 = (-1) := by rw [e33]; exact ⟨fun k u0 u1 => (nw_i (hc_ne c32 (by decide)) (z0_32.1 k u0 u1)), (nw_i (hc_ne c32 (by decide)) z0_32.2.1), (nw_i (hc_ne c32 (by decide)) z0_32.2.2)⟩
  have z7_33 : (∀ k, ia_i h33 424 k = 0) := by rw [e33]; exact fun k => (nw_i (hc_ne c32 (by decide)) (z7_32 k))
  obtain ⟨h34, e34⟩ : ∃ x, x = ia_wR h33 417 34 433 := ⟨_, rfl⟩
  have c34 : hc_ (434) (417 :: S) w h34 := by rw [e34]; exact hc_wR c33 List.mem_cons_self
  have f34 : hf_ 417 h h34 := by rw [e34]; exact hf_wR f33 (Nat.le_refl _)
  have r0_0_34 : ia_r h34 417 0 = 418 := by rw [e34]; exact hw_r (by decide) r0_0_33
  have r0_1_34 : ia_r h34 417 1 = 419 := by rw [e34]; exact hw_r (by decide) r0_1_33
  have r0_10_34 : ia_r h34 417 10 = 420 := by rw [e34]; exact hw_r (by decide) r0_10_33
  have r0_12_34 : ia_r h34 417 12 = 421 := by rw [e34]; exact hw_r (by decide) r0_12_33
  have r0_13_34 : ia_r h34 417 13 = 422 := by rw [e34]; exact hw_r (by decide) r0_13_33
  have r0_20_34 : ia_r h34 417 20 = 423 := by rw [e34]; exact hw_r (by decide) r0_20_33
  have r0_21_34 : ia_r h34 417 21 = 424 := by rw [e34]; exact hw_r (by decide) r0_21_33
  have r0_22_34 : ia_r h34 417 22 = 425 := by rw [e34]; exact hw_r (by decide) r0_22_33
  have r0_25_34 : ia_r h34 417 25 = 426 := by rw [e34]; exact hw_r (by decide) r0_25_33
  have r0_26_34 : ia_r h34 417 26 = 427 := by rw [e34]; exact hw_r (by decide) r0_26_33
  have r0_28_34 : ia_r h34 417 28 = 428 := by rw [e34]; exact hw_r (by decide) r0_28_33
  have r0_29_34 : ia_r h34 417 29 = 429 := by rw [e34]; exact hw_r (by decide) r0_29_33
  have r0_31_34 : ia_r h34 417 31 = 430 := by rw [e34]; exact hw_r (by decide) r0_31_33
  have r0_32_34 : ia_r h34 417 32 = 431 := by rw [e34]; exact hw_r (by decide) r0_32_33
  have r0_33_34 : ia_r h34 417 33 = 432 := by rw [e34]; exact hw_r (by decide) r0_33_33
  have z1_34 : (∀ k, ia_i h34 418 k = 0) := by rw [e34]; exact z1_33
  have z2_34 : (∀ k, ia_i h34 419 k = 0) := by rw [e34]; exact z2_33
  have z0_34 : (∀ k, k ≠ 16 → k ≠ 17 → ia_i h34 417 k = 0) ∧ ia_i h34 417 16 = (-1) ∧ ia_i h34 417 17 = (-1) := by rw [e34]; exact z0_33
  have z7_34 : (∀ k, ia_i h34 424 k = 0) := by rw [e34]; exact z7_33
  have r0_34_34 : ia_r h34 417 34 = 433 := by rw [e34]; exact wR_s
  obtain ⟨h35, e35⟩ : ∃ x, x = ia_nw h34 100 36 36 := ⟨_, rfl⟩
  have c35 : hc_ (435) (417 :: S) w h35 := by rw [e35]; exact hc_arr c34 ks_12_17 (by decide) (by decide)
  have f35 : hf_ 417 h h35 := by rw [e35]; exact hf_nw f34 (hc_le c34 (by decide))
  have r0_0_35 : ia_r h35 417 0 = 418 := by rw [e35]; exact hn_r (hc_ne c34 (by decide)) r0_0_34
  have r0_1_35 : ia_r h35 417 1 = 419 := by rw [e35]; exact hn_r (hc_ne c34 (by decide)) r0_1_34
  have r0_10_35 : ia_r h35 417 10 = 420 := by rw [e35]; exact hn_r (hc_ne c34 (by decide)) r0_10_34
  have r0_12_35 : ia_r h35 417 12 = 421 := by rw [e35]; exact hn_r (hc_ne c34 (by decide)) r0_12_34
  have r0_13_35 : ia_r h35 417 13 = 422 := by rw [e35]; exact hn_r (hc_ne c34 (by decide)) r0_13_34
  have r0_20_35 : ia_r h35 417 20 = 423 := by rw [e35]; exact hn_r (hc_ne c34 (by decide)) r0_20_34
  have r0_21_35 : ia_r h35 417 21 = 424 := by rw [e35]; exact hn_r (hc_ne c34 (by decide)) r0_21_34
  have r0_22_35 : ia_r h35 417 22 = 425 := by rw [e35]; exact hn_r (hc_ne c34 (by decide)) r0_22_34
  have r0_25_35 : ia_r h35 417 25 = 426 := by rw [e35]; exact hn_r (hc_ne c34 (by decide)) r0_25_34
  have r0_26_35 : ia_r h35 417 26 = 427 := by rw [e35]; exact hn_r (hc_ne c34 (by decide)) r0_26_34
  have r0_28_35 : ia_r h35 417 28 = 428 := by rw [e35]; exact hn_r (hc_ne c34 (by decide)) r0_28_34
  have r0_29_35 : ia_r h35 417 29 = 429 := by rw [e35]; exact hn_r (hc_ne c34 (by decide)) r0_29_34
  have r0_31_35 : ia_r h35 417 31 = 430 := by rw [e35]; exact hn_r (hc_ne c34 (by decide)) r0_31_34
  have r0_32_35 : ia_r h35 417 32 = 431 := by rw [e35]; exact hn_r (hc_ne c34 (by decide)) r0_32_34
  have r0_33_35 : ia_r h35 417 33 = 432 := by rw [e35]; exact hn_r (hc_ne c34 (by decide)) r0_33_34
  have r0_34_35 : ia_r h35 417 34 = 433 := by rw [e35]; exact hn_r (hc_ne c34 (by decide)) r0_34_34
  have z1_35 : (∀ k, ia_i h35 418 k = 0) := by rw [e35]; exact fun k => (nw_i (hc_ne c34 (by decide)) (z1_34 k))
  have z2_35 : (∀ k, ia_i h35 419 k = 0) := by rw [e35]; exact fun k => (nw_i (hc_ne c34 (by decide)) (z2_34 k))
  have z0_35 : (∀ k, k ≠ 16 → k ≠ 17 → ia_i h35 417 k = 0) ∧ ia_i h35 417 16 = (-1) ∧ ia_i h35 417 17 = (-1) := by rw [e35]; exact ⟨fun k u0 u1 => (nw_i (hc_ne c34 (by decide)) (z0_34.1 k u0 u1)), (nw_i (hc_ne c34 (by decide)) z0_34.2.1), (nw_i (hc_ne c34 (by decide)) z0_34.2.2)⟩
  have z7_35 : (∀ k, ia_i h35 424 k = 0) := by rw [e35]; exact fun k => (nw_i (hc_ne c34 (by decide)) (z7_34 k))
  obtain ⟨h36, e36⟩ : ∃ x, x = ia_wR h35 417 35 434 := ⟨_, rfl⟩
  have c36 : hc_ (435) (417 :: S) w h36 := by rw [e36]; exact hc_wR c35 List.mem_cons_self
  have f36 : hf_ 417 h h36 := by rw [e36]; exact hf_wR f35 (Nat.le_refl _)
  have r0_0_36 : ia_r h36 417 0 = 418 := by rw [e36]; exact hw_r (by decide) r0_0_35
  have r0_1_36 : ia_r h36 417 1 = 419 := by rw [e36]; exact hw_r (by decide) r0_1_35
  have r0_10_36 : ia_r h36 417 10 = 420 := by rw [e36]; exact hw_r (by decide) r0_10_35
  have r0_12_36 : ia_r h36 417 12 = 421 := by rw [e36]; exact hw_r (by decide) r0_12_35
  have r0_13_36 : ia_r h36 417 13 = 422 := by rw [e36]; exact hw_r (by decide) r0_13_35
  have r0_20_36 : ia_r h36 417 20 = 423 := by rw [e36]; exact hw_r (by decide) r0_20_35
  have r0_21_36 : ia_r h36 417 21 = 424 := by rw [e36]; exact hw_r (by decide) r0_21_35
  have r0_22_36 : ia_r h36 417 22 = 425 := by rw [e36]; exact hw_r (by decide) r0_22_35
  have r0_25_36 : ia_r h36 417 25 = 426 := by rw [e36]; exact hw_r (by decide) r0_25_35
  have r0_26_36 : ia_r h36 417 26 = 427 := by rw [e36]; exact hw_r (by decide) r0_26_35
  have r0_28_36 : ia_r h36 417 28 = 428 := by rw [e36]; exact hw_r (by decide) r0_28_35
  have r0_29_36 : ia_r h36 417 29 = 429 := by rw [e36]; exact hw_r (by decide) r0_29_35
  have r0_31_36 : ia_r h36 417 31 = 430 := by rw [e36]; exact hw_r (by decide) r0_31_35
  have r0_32_36 : ia_r h36 417 32 = 431 := by rw [e36]; exact hw_r (by decide) r0_32_35
  have r0_33_36 : ia_r h36 417 33 = 432 := by rw [e36]; exact hw_r (by decide) r0_33_35
  have r0_34_36 : ia_r h36 417 34 = 433 := by rw [e36]; exact hw_r (by decide) r0_34_35
  have z1_36 : (∀ k, ia_i h36 418 k = 0) := by rw [e36]; exact z1_35
  have z2_36 : (∀ k, ia_i h36 419 k = 0) := by rw [e36]; exact z2_35
  have z0_36 : (∀ k, k ≠ 16 → k ≠ 17 → ia_i h36 417 k = 0) ∧ ia_i h36 417 16 = (-1) ∧ ia_i h36 417 17 = (-1) := by rw [e36]; exact z0_35
  have z7_36 : (∀ k, ia_i h36 424 k = 0) := by rw [e36]; exact z7_35
  have r0_35_36 : ia_r h36 417 35 = 434 := by rw [e36]; exact wR_s
  obtain ⟨h37, e37⟩ : ∃ x, x = ia_wI h36 418 5 (-1) := ⟨_, rfl⟩
  have c37 : hc_ (435) (417 :: S) w h37 := by rw [e37]; exact hc_wI c36 (by decide)
  have f37 : hf_ 417 h h37 := by rw [e37]; exact hf_wI f36 (by decide)
  have r0_0_37 : ia_r h37 417 0 = 418 := by rw [e37]; exact r0_0_36
  have r0_1_37 : ia_r h37 417 1 = 419 := by rw [e37]; exact r0_1_36
  have r0_10_37 : ia_r h37 417 10 = 420 := by rw [e37]; exact r0_10_36
  have r0_12_37 : ia_r h37 417 12 = 421 := by rw [e37]; exact r0_12_36
  have r0_13_37 : ia_r h37 417 13 = 422 := by rw [e37]; exact r0_13_36
  have r0_20_37 : ia_r h37 417 20 = 423 := by rw [e37]; exact r0_20_36
  have r0_21_37 : ia_r h37 417 21 = 424 := by rw [e37]; exact r0_21_36
  have r0_22_37 : ia_r h37 417 22 = 425 := by rw [e37]; exact r0_22_36
  have r0_25_37 : ia_r h37 417 25 = 426 := by rw [e37]; exact r0_25_36
  have r0_26_37 : ia_r h37 417 26 = 427 := by rw [e37]; exact r0_26_36
  have r0_28_37 : ia_r h37 417 28 = 428 := by rw [e37]; exact r0_28_36
  have r0_29_37 : ia_r h37 417 29 = 429 := by rw [e37]; exact r0_29_36
  have r0_31_37 : ia_r h37 417 31 = 430 := by rw [e37]; exact r0_31_36
  have r0_32_37 : ia_r h37 417 32 = 431 := by rw [e37]; exact r0_32_36
  have r0_33_37 : ia_r h37 417 33 = 432 := by rw [e37]; exact r0_33_36
  have r0_34_37 : ia_r h37 417 34 = 433 := by rw [e37]; exact r0_34_36
  have r0_35_37 : ia_r h37 417 35 = 434 := by rw [e37]; exact r0_35_36
  have z2_37 : (∀ k, ia_i h37 419 k = 0) := by rw [e37]; exact fun k => (wI_o (by decide) (z2_36 k))
  have z0_37 : (∀ k, k ≠ 16 → k ≠ 17 → ia_i h37 417 k = 0) ∧ ia_i h37 417 16 = (-1) ∧ ia_i h37 417 17 = (-1) := by rw [e37]; exact ⟨fun k u0 u1 => (wI_o (by decide) (z0_36.1 k u0 u1)), (wI_o (by decide) z0_36.2.1), (wI_o (by decide) z0_36.2.2)⟩
  have z7_37 : (∀ k, ia_i h37 424 k = 0) := by rw [e37]; exact fun k => (wI_o (by decide) (z7_36 k))
  have z1_37 : (∀ k, k ≠ 5 → ia_i h37 418 k = 0) ∧ ia_i h37 418 5 = (-1) := by rw [e37]; exact ⟨fun k u0 => wI_j u0 (z1_36 k), wI_s⟩
  have d37_0 : hc_ (435) (S) w h37 := by
    refine hc_fin c37 ?_ ?_ ?_ ?_ ?_
    · intro k f q
      rw [pe] at q
      rcases rdo_12 k f q with ⟨rfl, rfl⟩ | ⟨rfl, rfl⟩ | ⟨rfl, rfl⟩ | ⟨rfl, rfl⟩ | ⟨rfl, rfl⟩ | ⟨rfl, rfl⟩ | ⟨rfl, rfl⟩ | ⟨rfl, rfl⟩ | ⟨rfl, rfl⟩ | ⟨rfl, rfl⟩ | ⟨rfl, rfl⟩ | ⟨rfl, rfl⟩ | ⟨rfl, rfl⟩ | ⟨rfl, rfl⟩ | ⟨rfl, rfl⟩ | ⟨rfl, rfl⟩ | ⟨rfl, rfl⟩
      · exact r0_0_37
      · exact r0_1_37
      · exact r0_10_37
      · exact r0_12_37
      · exact r0_13_37
      · exact r0_20_37
      · exact r0_21_37
      · exact r0_22_37
      · exact r0_25_37
      · exact r0_26_37
      · exact r0_28_37
      · exact r0_29_37
      · exact r0_31_37
      · exact r0_32_37
      · exact r0_33_37
      · exact r0_34_37
      · exact r0_35_37
    · intro k f q
      rw [pe] at q
      exact (rdc_12 k f q).elim
    · intro j f q
      rw [pe] at q
      cases q
    · intro q
      rw [pe] at q
      cases q
    · intro q
      rw [pe] at q
      cases q
  have cN : hc_ (435) (S) w h37 := d37_0
  refine ⟨h37, ia_Ev_intro ok_M_init (hc_cap hh cN (by decide)).1 (hc_cap hh cN (by decide)).2 (Nat.le_of_ble_eq_true rfl) (fun K hK hret => ?_), cN, f37, z0_37, z1_37, z2_37, z7_37⟩
  show K 0 [some (.inr (.inr 417))] [] h
  refine ia_go hK ck_M_init_0_0 ?_
  show K 1 [some (.inr (.inr 417))] [.inr (.inr 417)] h
  refine ia_obj hK (ia_tb_in (List.mem_of_getElem? (i := 1607) (by decide +kernel)) rfl) dc_M_init_1 (by decide) (Nat.le_of_ble_eq_true rfl) ?_
  show K 4 [some (.inr (.inr 417))] [] h
  refine ia_go hK ck_M_init_4_2 ?_
  show K 8 [some (.inr (.inr 417))] [.inl 6528, .inr (.inr 417)] h
  refine kw_arr hK (at_ := .int) (k := 100) (ty := .int) rfl (ia_tb_in (by decide +kernel) rfl) dc_M_init_8 (Or.inl ⟨rfl, rfl⟩) ⟨by decide, by decide, by decide⟩ e1 (hc_at hh) (hc_cap c1 cN (by decide)) ?_
  show K 10 [some (.inr (.inr 417))] [.inr (.inr 418), .inr (.inr 417)] h1
  refine ia_go hK ck_M_init_10_5 ⟨hc_k c1 (by decide) (by decide) pe, ?_⟩
  show K 13 [some (.inr (.inr 417))] [] (ia_wR h1 417 0 418)
  rw [← e2]
  refine ia_go hK ck_M_init_13_6 ?_
  show K 15 [some (.inr (.inr 417))] [.inl 3, .inr (.inr 417)] h2
  refine kw_arr hK (at_ := .boolean) (k := 101) (ty := .boolean) rfl (ia_tb_in (by decide +kernel) rfl) dc_M_init_15 (Or.inr (Or.inl ⟨rfl, rfl⟩)) ⟨by decide, by decide, by decide⟩ e3 (hc_at c2) (hc_cap c3 cN (by decide)) ?_
  show K 17 [some (.inr (.inr 417))] [.inr (.inr 419), .inr (.inr 417)] h3
  refine ia_go hK ck_M_init_17_9 ⟨hc_k c3 (by decide) (by decide) pe, ?_⟩
  show K 20 [some (.inr (.inr 417))] [] (ia_wR h3 417 1 419)
  rw [← e4]
  refine ia_go hK ck_M_init_20_10 ?_
  show K 24 [some (.inr (.inr 417))] [.inl 260, .inr (.inr 417)] h4
  refine kw_arr hK (at_ := .int) (k := 100) (ty := .int) rfl (ia_tb_in (by decide +kernel) rfl) dc_M_init_24 (Or.inl ⟨rfl, rfl⟩) ⟨by decide, by decide, by decide⟩ e5 (hc_at c4) (hc_cap c5 cN (by decide)) ?_
  show K 26 [some (.inr (.inr 417))] [.inr (.inr 420), .inr (.inr 417)] h5
  refine ia_go hK ck_M_init_26_13 ⟨hc_k c5 (by decide) (by decide) pe, ?_⟩
  show K 29 [some (.inr (.inr 417))] [] (ia_wR h5 417 10 420)
  rw [← e6]
  refine ia_go hK ck_M_init_29_14 ?_
  show K 33 [some (.inr (.inr 417))] [.inl 140, .inr (.inr 417)] h6
  refine kw_arr hK (at_ := .int) (k := 100) (ty := .int) rfl (ia_tb_in (by decide +kernel) rfl) dc_M_init_33 (Or.inl ⟨rfl, rfl⟩) ⟨by decide, by decide, by decide⟩ e7 (hc_at c6) (hc_cap c7 cN (by decide)) ?_
  show K 35 [some (.inr (.inr 417))] [.inr (.inr 421), .inr (.inr 417)] h7
  refine ia_go hK ck_M_init_35_17 ⟨hc_k c7 (by decide) (by decide) pe, ?_⟩
  show K 38 [some (.inr (.inr 417))] [] (ia_wR h7 417 12 421)
  rw [← e8]
  refine ia_go hK ck_M_init_38_18 ?_
  show K 42 [some (.inr (.inr 417))] [.inl 1120, .inr (.inr 417)] h8
  refine kw_arr hK (at_ := .int) (k := 100) (ty := .int) rfl (ia_tb_in (by decide +kernel) rfl) dc_M_init_42 (Or.inl ⟨rfl, rfl⟩) ⟨by decide, by decide, by decide⟩ e9 (hc_at c8) (hc_cap c9 cN (by decide)) ?_
  show K 44 [some (.inr (.inr 417))] [.inr (.inr 422), .inr (.inr 417)] h9
  refine ia_go hK ck_M_init_44_21 ⟨hc_k c9 (by decide) (by decide) pe, ?_⟩
  show K 47 [some (.inr (.inr 417))] [] (ia_wR h9 417 13 422)
  rw [← e10]
  refine ia_go hK ck_M_init_47_22 ⟨hc_k c10 (by decide) (by decide) pe, ?_⟩
  show K 52 [some (.inr (.inr 417))] [] (ia_wI h10 417 16 (-1))
  rw [← e11]
  refine ia_go hK ck_M_init_52_23 ⟨hc_k c11 (by decide) (by decide) pe, ?_⟩
  show K 57 [some (.inr (.inr 417))] [] (ia_wI h11 417 17 (-1))
  rw [← e12]
  refine ia_go hK ck_M_init_57_24 ?_
  show K 60 [some (.inr (.inr 417))] [.inl 36, .inr (.inr 417)] h12
  refine kw_arr hK (at_ := .int) (k := 100) (ty := .int) rfl (ia_tb_in (by decide +kernel) rfl) dc_M_init_60 (Or.inl ⟨rfl, rfl⟩) ⟨by decide, by decide, by decide⟩ e13 (hc_at c12) (hc_cap c13 cN (by decide)) ?_
  show K 62 [some (.inr (.inr 417))] [.inr (.inr 423), .inr (.inr 417)] h13
  refine ia_go hK ck_M_init_62_27 ⟨hc_k c13 (by decide) (by decide) pe, ?_⟩
  show K 65 [some (.inr (.inr 417))] [] (ia_wR h13 417 20 423)
  rw [← e14]
  refine ia_go hK ck_M_init_65_28 ?_
  show K 68 [some (.inr (.inr 417))] [.inl 36, .inr (.inr 417)] h14
  refine kw_arr hK (at_ := .boolean) (k := 101) (ty := .boolean) rfl (ia_tb_in (by decide +kernel) rfl) dc_M_init_68 (Or.inr (Or.inl ⟨rfl, rfl⟩)) ⟨by decide, by decide, by decide⟩ e15 (hc_at c14) (hc_cap c15 cN (by decide)) ?_
  show K 70 [some (.inr (.inr 417))] [.inr (.inr 424), .inr (.inr 417)] h15
  refine ia_go hK ck_M_init_70_31 ⟨hc_k c15 (by decide) (by decide) pe, ?_⟩
  show K 73 [some (.inr (.inr 417))] [] (ia_wR h15 417 21 424)
  rw [← e16]
  refine ia_go hK ck_M_init_73_32 ?_
  show K 76 [some (.inr (.inr 417))] [.inl 36, .inr (.inr 417)] h16
  refine kw_arr hK (at_ := .int) (k := 100) (ty := .int) rfl (ia_tb_in (by decide +kernel) rfl) dc_M_init_76 (Or.inl ⟨rfl, rfl⟩) ⟨by decide, by decide, by decide⟩ e17 (hc_at c16) (hc_cap c17 cN (by decide)) ?_
  show K 78 [some (.inr (.inr 417))] [.inr (.inr 425), .inr (.inr 417)] h17
  refine ia_go hK ck_M_init_78_35 ⟨hc_k c17 (by decide) (by decide) pe, ?_⟩
  show K 81 [some (.inr (.inr 417))] [] (ia_wR h17 417 22 425)
  rw [← e18]
  refine ia_go hK ck_M_init_81_36 ?_
  show K 84 [some (.inr (.inr 417))] [.inl 36, .inr (.inr 417)] h18
  refine kw_arr hK (at_ := .boolean) (k := 101) (ty := .boolean) rfl (ia_tb_in (by decide +kernel) rfl) dc_M_init_84 (Or.inr (Or.inl ⟨rfl, rfl⟩)) ⟨by decide, by decide, by decide⟩ e19 (hc_at c18) (hc_cap c19 cN (by decide)) ?_
  show K 86 [some (.inr (.inr 417))] [.inr (.inr 426), .inr (.inr 417)] h19
  refine ia_go hK ck_M_init_86_39 ⟨hc_k c19 (by decide) (by decide) pe, ?_⟩
  show K 89 [some (.inr (.inr 417))] [] (ia_wR h19 417 25 426)
  rw [← e20]
  refine ia_go hK ck_M_init_89_40 ?_
  show K 92 [some (.inr (.inr 417))] [.inl 36, .inr (.inr 417)] h20
  refine kw_arr hK (at_ := .int) (k := 100) (ty := .int) rfl (ia_tb_in (by decide +kernel) rfl) dc_M_init_92 (Or.inl ⟨rfl, rfl⟩) ⟨by decide, by decide, by decide⟩ e21 (hc_at c20) (hc_cap c21 cN (by decide)) ?_
  show K 94 [some (.inr (.inr 417))] [.inr (.inr 427), .inr (.inr 417)] h21
  refine ia_go hK ck_M_init_94_43 ⟨hc_k c21 (by decide) (by decide) pe, ?_⟩
  show K 97 [some (.inr (.inr 417))] [] (ia_wR h21 417 26 427)
  rw [← e22]
  refine ia_go hK ck_M_init_97_44 ?_
  show K 100 [some (.inr (.inr 417))] [.inl 9, .inr (.inr 417)] h22
  refine kw_arr hK (at_ := .int) (k := 100) (ty := .int) rfl (ia_tb_in (by decide +kernel) rfl) dc_M_init_100 (Or.inl ⟨rfl, rfl⟩) ⟨by decide, by decide, by decide⟩ e23 (hc_at c22) (hc_cap c23 cN (by decide)) ?_
  show K 102 [some (.inr (.inr 417))] [.inr (.inr 428), .inr (.inr 417)] h23
  refine ia_go hK ck_M_init_102_47 ⟨hc_k c23 (by decide) (by decide) pe, ?_⟩
  show K 105 [some (.inr (.inr 417))] [] (ia_wR h23 417 28 428)
  rw [← e24]
  refine ia_go hK ck_M_init_105_48 ?_
  show K 108 [some (.inr (.inr 417))] [.inl 9, .inr (.inr 417)] h24
  refine kw_arr hK (at_ := .int) (k := 100) (ty := .int) rfl (ia_tb_in (by decide +kernel) rfl) dc_M_init_108 (Or.inl ⟨rfl, rfl⟩) ⟨by decide, by decide, by decide⟩ e25 (hc_at c24) (hc_cap c25 cN (by decide)) ?_
  show K 110 [some (.inr (.inr 417))] [.inr (.inr 429), .inr (.inr 417)] h25
  refine ia_go hK ck_M_init_110_51 ⟨hc_k c25 (by decide) (by decide) pe, ?_⟩
  show K 113 [some (.inr (.inr 417))] [] (ia_wR h25 417 29 429)
  rw [← e26]
  refine ia_go hK ck_M_init_113_52 ?_
  show K 116 [some (.inr (.inr 417))] [.inl 36, .inr (.inr 417)] h26
  refine kw_arr hK (at_ := .int) (k := 100) (ty := .int) rfl (ia_tb_in (by decide +kernel) rfl) dc_M_init_116 (Or.inl ⟨rfl, rfl⟩) ⟨by decide, by decide, by decide⟩ e27 (hc_at c26) (hc_cap c27 cN (by decide)) ?_
  show K 118 [some (.inr (.inr 417))] [.inr (.inr 430), .inr (.inr 417)] h27
  refine ia_go hK ck_M_init_118_55 ⟨hc_k c27 (by decide) (by decide) pe, ?_⟩
  show K 121 [some (.inr (.inr 417))] [] (ia_wR h27 417 31 430)
  rw [← e28]
  refine ia_go hK ck_M_init_121_56 ?_
  show K 124 [some (.inr (.inr 417))] [.inl 6, .inr (.inr 417)] h28
  refine kw_arr hK (at_ := .int) (k := 100) (ty := .int) rfl (ia_tb_in (by decide +kernel) rfl) dc_M_init_124 (Or.inl ⟨rfl, rfl⟩) ⟨by decide, by decide, by decide⟩ e29 (hc_at c28) (hc_cap c29 cN (by decide)) ?_
  show K 126 [some (.inr (.inr 417))] [.inr (.inr 431), .inr (.inr 417)] h29
  refine ia_go hK ck_M_init_126_59 ⟨hc_k c29 (by decide) (by decide) pe, ?_⟩
  show K 129 [some (.inr (.inr 417))] [] (ia_wR h29 417 32 431)
  rw [← e30]
  refine ia_go hK ck_M_init_129_60 ?_
  show K 132 [some (.inr (.inr 417))] [.inl 6, .inr (.inr 417)] h30
  refine kw_arr hK (at_ := .int) (k := 100) (ty := .int) rfl (ia_tb_in (by decide +kernel) rfl) dc_M_init_132 (Or.inl ⟨rfl, rfl⟩) ⟨by decide, by decide, by decide⟩ e31 (hc_at c30) (hc_cap c31 cN (by decide)) ?_
  show K 134 [some (.inr (.inr 417))] [.inr (.inr 432), .inr (.inr 417)] h31
  refine ia_go hK ck_M_init_134_63 ⟨hc_k c31 (by decide) (by decide) pe, ?_⟩
  show K 137 [some (.inr (.inr 417))] [] (ia_wR h31 417 33 432)
  rw [← e32]
  refine ia_go hK ck_M_init_137_64 ?_
  show K 140 [some (.inr (.inr 417))] [.inl 6, .inr (.inr 417)] h32
  refine kw_arr hK (at_ := .int) (k := 100) (ty := .int) rfl (ia_tb_in (by decide +kernel) rfl) dc_M_init_140 (Or.inl ⟨rfl, rfl⟩) ⟨by decide, by decide, by decide⟩ e33 (hc_at c32) (hc_cap c33 cN (by decide)) ?_
  show K 142 [some (.inr (.inr 417))] [.inr (.inr 433), .inr (.inr 417)] h33
  refine ia_go hK ck_M_init_142_67 ⟨hc_k c33 (by decide) (by decide) pe, ?_⟩
  show K 145 [some (.inr (.inr 417))] [] (ia_wR h33 417 34 433)
  rw [← e34]
  refine ia_go hK ck_M_init_145_68 ?_
  show K 148 [some (.inr (.inr 417))] [.inl 36, .inr (.inr 417)] h34
  refine kw_arr hK (at_ := .int) (k := 100) (ty := .int) rfl (ia_tb_in (by decide +kernel) rfl) dc_M_init_148 (Or.inl ⟨rfl, rfl⟩) ⟨by decide, by decide, by decide⟩ e35 (hc_at c34) (hc_cap c35 cN (by decide)) ?_
  show K 150 [some (.inr (.inr 417))] [.inr (.inr 434), .inr (.inr 417)] h35
  refine ia_go hK ck_M_init_150_71 ⟨hc_k c35 (by decide) (by decide) pe, ?_⟩
  show K 153 [some (.inr (.inr 417))] [] (ia_wR h35 417 35 434)
  rw [← e36]
  refine ia_go hK ck_M_init_153_72 ⟨hc_k c36 (by decide) (by decide) pe, r0_0_36, ?_⟩
  show K 157 [some (.inr (.inr 417))] [.inr (.inr 418)] h36
  refine ia_go hK ck_M_init_157_73 ⟨⟨(by decide), hc_k c36 (by decide) (by decide) (congrArg Prod.fst ks_12_1), hc_in c36 (by decide) (by decide) ks_12_1 (by decide)⟩, ?_⟩
  show K 160 [some (.inr (.inr 417))] [] (ia_wI h36 418 5 (-1))
  rw [← e37]
  exact hret 160 _ dc_M_init_160
def mm_I_init : ia_M := (⟨"IceStreet", "<init>", "()V"⟩, prog_1_method_1_code, 2, none, 0, true)
theorem ok_I_init : ia_mok mm_I_init := ⟨by decide +kernel, by decide +kernel, by decide +kernel, by decide +kernel⟩
theorem mk_I_init : ia_mkn mm_I_init 2 0 := ⟨ia_tb_in (List.mem_of_getElem? (i := 158) (by decide +kernel)) rfl, ia_tb_in (List.mem_of_getElem? (i := 133) (by decide +kernel)) rfl, by decide +kernel, by decide +kernel, ia_tb_in (List.mem_of_getElem? (i := 157) (by decide +kernel)) rfl, rfl, rfl⟩
theorem ck_I_init_0_0 : ia_cks 0 2 true prog_1_method_1_code 0 [(.aload_n 0, 0, 0, 0, 0)] = true := by decide +kernel
theorem dc_I_init_1 : decode prog_1_method_1_code 1 = .ok (.invokespecial 1, 3) := by decide +kernel
theorem ck_I_init_4_2 : ia_cks 0 2 true prog_1_method_1_code 4 [(.aload_n 0, 0, 0, 0, 0)] = true := by decide +kernel
theorem dc_I_init_5 : decode prog_1_method_1_code 5 = .ok (.new 7, 3) := by decide +kernel
theorem ks_0_1 : kd_D 65 = (10, 0) := by decide +kernel
theorem ck_I_init_8_5 : ia_cks 0 2 true prog_1_method_1_code 8 [(.dup, 0, 0, 0, 0)] = true := by decide +kernel
theorem dc_I_init_9 : decode prog_1_method_1_code 9 = .ok (.invokespecial 9, 3) := by decide +kernel
theorem ck_I_init_12_7 : ia_cks 0 2 true prog_1_method_1_code 12 [(.putfield 10, 0, 0, 2, 0)] = true := by decide +kernel
theorem ck_I_init_15_8 : ia_cks 0 2 true prog_1_method_1_code 15 [(.aload_n 0, 0, 0, 0, 0), (.iconst 3, 0, 0, 0, 0)] = true := by decide +kernel
theorem dc_I_init_17 : decode prog_1_method_1_code 17 = .ok (.anewarray 7, 3) := by decide +kernel
theorem ks_0_54 : kd_D 118 = (114, 3) := by decide +kernel
theorem ck_I_init_20_11 : ia_cks 0 2 true prog_1_method_1_code 20 [(.putfield 16, 0, 1, 2, 0)] = true := by decide +kernel
theorem ck_I_init_23_12 : ia_cks 0 2 true prog_1_method_1_code 23 [(.iconst 0, 0, 0, 0, 0), (.istore_n 1, 0, 0, 0, 0), (.iload_n 1, 0, 0, 0, 0), (.iconst 3, 0, 0, 0, 0), (.if_icmp .ge 22, 0, 0, 0, 0)] = true := by decide +kernel
theorem ck_I_init_30_13 : ia_cks 0 2 true prog_1_method_1_code 30 [(.aload_n 0, 0, 0, 0, 0), (.getfield 16, 0, 1, 4, 118)] = true := by decide +kernel
theorem ck_I_init_34_14 : ia_cks 0 2 true prog_1_method_1_code 34 [(.iload_n 1, 0, 0, 0, 0)] = true := by decide +kernel
theorem dc_I_init_35 : decode prog_1_method_1_code 35 = .ok (.new 7, 3) := by decide +kernel
theorem ks_0_55 : kd_D 119 = (10, 0) := by decide +kernel
theorem ck_I_init_38_17 : ia_cks 0 2 true prog_1_method_1_code 38 [(.dup, 0, 0, 0, 0)] = true := by decide +kernel
theorem dc_I_init_39 : decode prog_1_method_1_code 39 = .ok (.invokespecial 9, 3) := by decide +kernel
theorem ck_I_init_42_19 : ia_cks 0 2 true prog_1_method_1_code 42 [(.aastore, 10, 0, 0, 0)] = true := by decide +kernel
theorem ck_I_init_43_20 : ia_cks 0 2 true prog_1_method_1_code 43 [(.iinc 1 1, 0, 0, 0, 0), (.goto (-21), 0, 0, 0, 0)] = true := by decide +kernel
theorem ck_I_init_25_21 : ia_cks 0 2 true prog_1_method_1_code 25 [(.iload_n 1, 0, 0, 0, 0), (.iconst 3, 0, 0, 0, 0), (.if_icmp .ge 22, 0, 0, 0, 0)] = true := by decide +kernel
theorem ck_I_init_30_22 : ia_cks 0 2 true prog_1_method_1_code 30 [(.aload_n 0, 0, 0, 0, 0), (.getfield 16, 0, 1, 4, 118)] = true := by decide +kernel
theorem ck_I_init_34_23 : ia_cks 0 2 true prog_1_method_1_code 34 [(.iload_n 1, 0, 0, 0, 0)] = true := by decide +kernel
theorem ks_0_108 : kd_D 172 = (10, 0) := by decide +kernel
theorem ck_I_init_38_25 : ia_cks 0 2 true prog_1_method_1_code 38 [(.dup, 0, 0, 0, 0)] = true := by decide +kernel
theorem ck_I_init_42_26 : ia_cks 0 2 true prog_1_method_1_code 42 [(.aastore, 10, 0, 0, 0)] = true := by decide +kernel
theorem ck_I_init_43_27 : ia_cks 0 2 true prog_1_method_1_code 43 [(.iinc 1 1, 0, 0, 0, 0), (.goto (-21), 0, 0, 0, 0)] = true := by decide +kernel
theorem ck_I_init_25_28 : ia_cks 0 2 true prog_1_method_1_code 25 [(.iload_n 1, 0, 0, 0, 0), (.iconst 3, 0, 0, 0, 0), (.if_icmp .ge 22, 0, 0, 0, 0)] = true := by decide +kernel
theorem ck_I_init_30_29 : ia_cks 0 2 true prog_1_method_1_code 30 [(.aload_n 0, 0, 0, 0, 0), (.getfield 16, 0, 1, 4, 118)] = true := by decide +kernel
theorem ck_I_init_34_30 : ia_cks 0 2 true prog_1_method_1_code 34 [(.iload_n 1, 0, 0, 0, 0)] = true := by decide +kernel
theorem ks_0_161 : kd_D 225 = (10, 0) := by decide +kernel
theorem ck_I_init_38_32 : ia_cks 0 2 true prog_1_method_1_code 38 [(.dup, 0, 0, 0, 0)] = true := by decide +kernel
theorem ck_I_init_42_33 : ia_cks 0 2 true prog_1_method_1_code 42 [(.aastore, 10, 0, 0, 0)] = true := by decide +kernel
theorem ck_I_init_43_34 : ia_cks 0 2 true prog_1_method_1_code 43 [(.iinc 1 1, 0, 0, 0, 0), (.goto (-21), 0, 0, 0, 0)] = true := by decide +kernel
theorem ck_I_init_25_35 : ia_cks 0 2 true prog_1_method_1_code 25 [(.iload_n 1, 0, 0, 0, 0), (.iconst 3, 0, 0, 0, 0), (.if_icmp .ge 22, 0, 0, 0, 0)] = true := by decide +kernel
theorem ck_I_init_49_36 : ia_cks 0 2 true prog_1_method_1_code 49 [(.aload_n 0, 0, 0, 0, 0), (.iconst 3, 0, 0, 0, 0)] = true := by decide +kernel
theorem dc_I_init_51 : decode prog_1_method_1_code 51 = .ok (.newarray .boolean, 2) := by decide +kernel
theorem ks_0_214 : kd_D 278 = (101, 3) := by decide +kernel
theorem ck_I_init_53_39 : ia_cks 0 2 true prog_1_method_1_code 53 [(.putfield 20, 0, 2, 2, 0)] = true := by decide +kernel
theorem ck_I_init_56_40 : ia_cks 0 2 true prog_1_method_1_code 56 [(.aload_n 0, 0, 0, 0, 0)] = true := by decide +kernel
theorem dc_I_init_57 : decode prog_1_method_1_code 57 = .ok (.new 24, 3) := by decide +kernel
theorem ks_0_215 : kd_D 279 = (7, 0) := by decide +kernel
theorem ck_I_init_60_43 : ia_cks 0 2 true prog_1_method_1_code 60 [(.dup, 0, 0, 0, 0)] = true := by decide +kernel
theorem dc_I_init_61 : decode prog_1_method_1_code 61 = .ok (.invokespecial 26, 3) := by decide +kernel
theorem ck_I_init_64_45 : ia_cks 0 2 true prog_1_method_1_code 64 [(.putfield 27, 0, 3, 2, 0)] = true := by decide +kernel
theorem ck_I_init_67_46 : ia_cks 0 2 true prog_1_method_1_code 67 [(.aload_n 0, 0, 0, 0, 0)] = true := by decide +kernel
theorem dc_I_init_68 : decode prog_1_method_1_code 68 = .ok (.new 31, 3) := by decide +kernel
theorem ks_0_239 : kd_D 303 = (9, 0) := by decide +kernel
theorem ck_I_init_71_49 : ia_cks 0 2 true prog_1_method_1_code 71 [(.dup, 0, 0, 0, 0), (.aload_n 0, 0, 0, 0, 0), (.getfield 10, 0, 0, 4, 65)] = true := by decide +kernel
theorem ck_I_init_76_50 : ia_cks 0 2 true prog_1_method_1_code 76 [(.getfield 33, 10, 5, 4, 68)] = true := by decide +kernel
theorem ks_0_4 : kd_D 68 = (107, 2) := by decide +kernel
theorem ck_I_init_79_52 : ia_cks 0 2 true prog_1_method_1_code 79 [(.iconst 0, 0, 0, 0, 0), (.aaload, 107, 12, 0, 0)] = true := by decide +kernel
theorem ck_I_init_81_53 : ia_cks 0 2 true prog_1_method_1_code 81 [(.aload_n 0, 0, 0, 0, 0), (.getfield 10, 0, 0, 4, 65)] = true := by decide +kernel
theorem ck_I_init_85_54 : ia_cks 0 2 true prog_1_method_1_code 85 [(.getfield 37, 10, 6, 4, 93)] = true := by decide +kernel
theorem ks_0_29 : kd_D 93 = (108, 2) := by decide +kernel
theorem ck_I_init_88_56 : ia_cks 0 2 true prog_1_method_1_code 88 [(.iconst 0, 0, 0, 0, 0), (.aaload, 108, 4, 0, 0)] = true := by decide +kernel
theorem ks_0_5 : kd_D 69 = (3, 0) := by decide +kernel
theorem ks_0_30 : kd_D 94 = (4, 0) := by decide +kernel
theorem dc_I_init_90 : decode prog_1_method_1_code 90 = .ok (.invokespecial 41, 3) := by decide +kernel
theorem ck_I_init_93_60 : ia_cks 0 2 true prog_1_method_1_code 93 [(.putfield 44, 0, 4, 2, 0)] = true := by decide +kernel
theorem ck_I_init_96_61 : ia_cks 0 2 true prog_1_method_1_code 96 [(.aload_n 0, 0, 0, 0, 0)] = true := by decide +kernel
theorem dc_I_init_97 : decode prog_1_method_1_code 97 = .ok (.new 48, 3) := by decide +kernel
theorem ks_0_247 : kd_D 311 = (11, 0) := by decide +kernel
theorem ck_I_init_100_64 : ia_cks 0 2 true prog_1_method_1_code 100 [(.dup, 0, 0, 0, 0), (.aload_n 0, 0, 0, 0, 0), (.getfield 10, 0, 0, 4, 65)] = true := by decide +kernel
theorem ck_I_init_105_65 : ia_cks 0 2 true prog_1_method_1_code 105 [(.getfield 33, 10, 5, 4, 68)] = true := by decide +kernel
theorem ck_I_init_108_66 : ia_cks 0 2 true prog_1_method_1_code 108 [(.iconst 0, 0, 0, 0, 0), (.aaload, 107, 12, 0, 0)] = true := by decide +kernel
theorem ck_I_init_110_67 : ia_cks 0 2 true prog_1_method_1_code 110 [(.aload_n 0, 0, 0, 0, 0), (.getfield 10, 0, 0, 4, 65)] = true := by decide +kernel
theorem ck_I_init_114_68 : ia_cks 0 2 true prog_1_method_1_code 114 [(.getfield 37, 10, 6, 4, 93)] = true := by decide +kernel
theorem ck_I_init_117_69 : ia_cks 0 2 true prog_1_method_1_code 117 [(.iconst 0, 0, 0, 0, 0), (.aaload, 108, 4, 0, 0)] = true := by decide +kernel
theorem dc_I_init_119 : decode prog_1_method_1_code 119 = .ok (.invokespecial 50, 3) := by decide +kernel
theorem ck_I_init_122_71 : ia_cks 0 2 true prog_1_method_1_code 122 [(.putfield 51, 0, 5, 2, 0)] = true := by decide +kernel
theorem ck_I_init_125_72 : ia_cks 0 2 true prog_1_method_1_code 125 [(.aload_n 0, 0, 0, 0, 0)] = true := by decide +kernel
theorem dc_I_init_126 : decode prog_1_method_1_code 126 = .ok (.new 55, 3) := by decide +kernel
theorem ks_0_261 : kd_D 325 = (1, 0) := by decide +kernel
theorem ck_I_init_129_75 : ia_cks 0 2 true prog_1_method_1_code 129 [(.dup, 0, 0, 0, 0), (.aload_n 0, 0, 0, 0, 0), (.getfield 51, 0, 5, 4, 311)] = true := by decide +kernel
theorem dc_I_init_134 : decode prog_1_method_1_code 134 = .ok (.invokespecial 57, 3) := by decide +kernel
theorem ck_I_init_137_77 : ia_cks 0 2 true prog_1_method_1_code 137 [(.putfield 60, 0, 6, 2, 0)] = true := by decide +kernel
theorem ck_I_init_140_78 : ia_cks 0 2 true prog_1_method_1_code 140 [(.aload_n 0, 0, 0, 0, 0)] = true := by decide +kernel
theorem dc_I_init_141 : decode prog_1_method_1_code 141 = .ok (.new 64, 3) := by decide +kernel
theorem ks_0_262 : kd_D 326 = (5, 0) := by decide +kernel
theorem ck_I_init_144_81 : ia_cks 0 2 true prog_1_method_1_code 144 [(.dup, 0, 0, 0, 0), (.aload_n 0, 0, 0, 0, 0), (.getfield 51, 0, 5, 4, 311)] = true := by decide +kernel
theorem ck_I_init_149_82 : ia_cks 0 2 true prog_1_method_1_code 149 [(.aload_n 0, 0, 0, 0, 0), (.getfield 10, 0, 0, 4, 65)] = true := by decide +kernel
theorem ck_I_init_153_83 : ia_cks 0 2 true prog_1_method_1_code 153 [(.getfield 33, 10, 5, 4, 68)] = true := by decide +kernel
theorem ck_I_init_156_84 : ia_cks 0 2 true prog_1_method_1_code 156 [(.iconst 0, 0, 0, 0, 0), (.aaload, 107, 12, 0, 0)] = true := by decide +kernel
theorem ck_I_init_158_85 : ia_cks 0 2 true prog_1_method_1_code 158 [(.aload_n 0, 0, 0, 0, 0), (.getfield 10, 0, 0, 4, 65)] = true := by decide +kernel
theorem ck_I_init_162_86 : ia_cks 0 2 true prog_1_method_1_code 162 [(.getfield 37, 10, 6, 4, 93)] = true := by decide +kernel
theorem ck_I_init_165_87 : ia_cks 0 2 true prog_1_method_1_code 165 [(.iconst 0, 0, 0, 0, 0), (.aaload, 108, 4, 0, 0)] = true := by decide +kernel
theorem dc_I_init_167 : decode prog_1_method_1_code 167 = .ok (.invokespecial 66, 3) := by decide +kernel
theorem ck_I_init_170_89 : ia_cks 0 2 true prog_1_method_1_code 170 [(.putfield 69, 0, 7, 2, 0)] = true := by decide +kernel
theorem ck_I_init_173_90 : ia_cks 0 2 true prog_1_method_1_code 173 [(.aload_n 0, 0, 0, 0, 0)] = true := by decide +kernel
theorem dc_I_init_174 : decode prog_1_method_1_code 174 = .ok (.new 73, 3) := by decide +kernel
theorem ks_0_281 : kd_D 345 = (2, 0) := by decide +kernel
theorem ck_I_init_177_93 : ia_cks 0 2 true prog_1_method_1_code 177 [(.dup, 0, 0, 0, 0), (.aload_n 0, 0, 0, 0, 0), (.getfield 51, 0, 5, 4, 311)] = true := by decide +kernel
theorem ck_I_init_182_94 : ia_cks 0 2 true prog_1_method_1_code 182 [(.aload_n 0, 0, 0, 0, 0), (.getfield 10, 0, 0, 4, 65)] = true := by decide +kernel
theorem ck_I_init_186_95 : ia_cks 0 2 true prog_1_method_1_code 186 [(.getfield 33, 10, 5, 4, 68)] = true := by decide +kernel
theorem ck_I_init_189_96 : ia_cks 0 2 true prog_1_method_1_code 189 [(.iconst 0, 0, 0, 0, 0), (.aaload, 107, 12, 0, 0)] = true := by decide +kernel
theorem ck_I_init_191_97 : ia_cks 0 2 true prog_1_method_1_code 191 [(.aload_n 0, 0, 0, 0, 0), (.getfield 10, 0, 0, 4, 65)] = true := by decide +kernel
theorem ck_I_init_195_98 : ia_cks 0 2 true prog_1_method_1_code 195 [(.getfield 37, 10, 6, 4, 93)] = true := by decide +kernel
theorem ck_I_init_198_99 : ia_cks 0 2 true prog_1_method_1_code 198 [(.iconst 0, 0, 0, 0, 0), (.aaload, 108, 4, 0, 0)] = true := by decide +kernel
theorem dc_I_init_200 : decode prog_1_method_1_code 200 = .ok (.invokespecial 75, 3) := by decide +kernel
theorem ck_I_init_203_101 : ia_cks 0 2 true prog_1_method_1_code 203 [(.putfield 76, 0, 8, 2, 0)] = true := by decide +kernel
theorem ck_I_init_206_102 : ia_cks 0 2 true prog_1_method_1_code 206 [(.aload_n 0, 0, 0, 0, 0)] = true := by decide +kernel
theorem dc_I_init_207 : decode prog_1_method_1_code 207 = .ok (.new 80, 3) := by decide +kernel
theorem ks_0_349 : kd_D 413 = (8, 0) := by decide +kernel
theorem ck_I_init_210_105 : ia_cks 0 2 true prog_1_method_1_code 210 [(.dup, 0, 0, 0, 0)] = true := by decide +kernel
theorem dc_I_init_211 : decode prog_1_method_1_code 211 = .ok (.invokespecial 82, 3) := by decide +kernel
theorem ck_I_init_214_107 : ia_cks 0 2 true prog_1_method_1_code 214 [(.putfield 83, 0, 9, 2, 0)] = true := by decide +kernel
theorem ck_I_init_217_108 : ia_cks 0 2 true prog_1_method_1_code 217 [(.aload_n 0, 0, 0, 0, 0)] = true := by decide +kernel
theorem dc_I_init_218 : decode prog_1_method_1_code 218 = .ok (.new 80, 3) := by decide +kernel
theorem ks_0_351 : kd_D 415 = (8, 0) := by decide +kernel
theorem ck_I_init_221_111 : ia_cks 0 2 true prog_1_method_1_code 221 [(.dup, 0, 0, 0, 0)] = true := by decide +kernel
theorem dc_I_init_222 : decode prog_1_method_1_code 222 = .ok (.invokespecial 82, 3) := by decide +kernel
theorem ck_I_init_225_113 : ia_cks 0 2 true prog_1_method_1_code 225 [(.putfield 87, 0, 10, 2, 0)] = true := by decide +kernel
theorem dc_I_init_228 : decode prog_1_method_1_code 228 = .ok (.return_, 1) := by decide +kernel
theorem rdo_0 (k f : Nat) (q : rd_o 0 k = some f) : (k = 0 ∧ f = 1) ∨ (k = 1 ∧ f = 54) ∨ (k = 2 ∧ f = 214) ∨ (k = 3 ∧ f = 215) ∨ (k = 4 ∧ f = 239) ∨ (k = 5 ∧ f = 247) ∨ (k = 6 ∧ f = 261) ∨ (k = 7 ∧ f = 262) ∨ (k = 8 ∧ f = 281) ∨ (k = 9 ∧ f = 349) ∨ (k = 10 ∧ f = 351) := by
  unfold rd_o at q
  split at q <;> simp_all
theorem rdc_0 (k f : Nat) (q : rd_c 0 k = some f) : False := by
  unfold rd_c at q
  split at q <;> simp_all
set_option maxHeartbeats 8000000 in
theorem mc_I_init (d : Nat) {w : ia_O0} {h : ia_H} (hh : hc_ 65 [64] w h) : ∃ h1, ia_Ev (d + 6) mm_I_init [.inr (.inr 64)] h none h1 ∧ hc_ (417) [] w h1 ∧ hf_ 64 h h1 ∧ ((∀ k, k ≠ 3 → ia_i h1 65 k = 0) ∧ ia_i h1 65 3 = (-1)) ∧ ((∀ k, ia_i h1 67 k = 0)) ∧ ((∀ k, ia_i h1 278 k = 0)) := by
  have pe : (kd_D 64).1 = 0 := by decide +kernel
  have ha : 64 ≤ 64 := by decide
  have hf0 : hf_ 64 h h := fun b hb => ⟨rfl, rfl, rfl⟩
  obtain ⟨h1, e1⟩ : ∃ x, x = ia_nw h 10 0 8 := ⟨_, rfl⟩
  have c1 : hc_ (66) (65 :: 64 :: []) w h1 := by rw [e1]; exact hc_new hh ks_0_1 rfl (by decide) (by decide)
  have f1 : hf_ 64 h h1 := by rw [e1]; exact hf_nw hf0 (hc_le hh (by decide))
  have z1_1 : ∀ k, ia_i h1 65 k = 0 := by rw [e1, ← hc_at hh]; exact fun _ => ia_nw_i0
  obtain ⟨h2, v2, cc2, ff2, zz2_0, zz2_1⟩ := mc_To_init (d + 0) (congrArg Prod.fst ks_0_1) c1 z1_1
  have c2 : hc_ (118) (64 :: []) w h2 := by exact cc2
  have f2 : hf_ 64 h h2 := by exact hf_trans f1 ff2 (by decide)
  obtain ⟨h3, e3⟩ : ∃ x, x = ia_wR h2 64 0 65 := ⟨_, rfl⟩
  have c3 : hc_ (118) (64 :: []) w h3 := by rw [e3]; exact hc_wR c2 List.mem_cons_self
  have f3 : hf_ 64 h h3 := by rw [e3]; exact hf_wR f2 (Nat.le_refl _)
  have z1_3 : (∀ k, k ≠ 3 → ia_i h3 65 k = 0) ∧ ia_i h3 65 3 = (-1) := by rw [e3]; exact zz2_0
  have z3_3 : (∀ k, ia_i h3 67 k = 0) := by rw [e3]; exact zz2_1
  have r0_0_3 : ia_r h3 64 0 = 65 := by rw [e3]; exact wR_s
  obtain ⟨h4, e4⟩ : ∃ x, x = ia_nw h3 114 3 3 := ⟨_, rfl⟩
  have c4 : hc_ (119) (118 :: 64 :: []) w h4 := by rw [e4]; exact hc_new c3 ks_0_54 rfl (by decide) (by decide)
  have f4 : hf_ 64 h h4 := by rw [e4]; exact hf_nw f3 (hc_le c3 (by decide))
  have r0_0_4 : ia_r h4 64 0 = 65 := by rw [e4]; exact hn_r (hc_ne c3 (by decide)) r0_0_3
  have z1_4 : (∀ k, k ≠ 3 → ia_i h4 65 k = 0) ∧ ia_i h4 65 3 = (-1) := by rw [e4]; exact ⟨fun k u0 => (nw_i (hc_ne c3 (by decide)) (z1_3.1 k u0)), (nw_i (hc_ne c3 (by decide)) z1_3.2)⟩
  have z3_4 : (∀ k, ia_i h4 67 k = 0) := by rw [e4]; exact fun k => (nw_i (hc_ne c3 (by decide)) (z3_3 k))
  obtain ⟨h5, e5⟩ : ∃ x, x = ia_wR h4 64 1 118 := ⟨_, rfl⟩
  have c5 : hc_ (119) (118 :: 64 :: []) w h5 := by rw [e5]; exact hc_wR c4 (List.mem_cons_of_mem _ List.mem_cons_self)
  have f5 : hf_ 64 h h5 := by rw [e5]; exact hf_wR f4 (Nat.le_refl _)
  have r0_0_5 : ia_r h5 64 0 = 65 := by rw [e5]; exact hw_r (by decide) r0_0_4
  have z1_5 : (∀ k, k ≠ 3 → ia_i h5 65 k = 0) ∧ ia_i h5 65 3 = (-1) := by rw [e5]; exact z1_4
  have z3_5 : (∀ k, ia_i h5 67 k = 0) := by rw [e5]; exact z3_4
  have r0_1_5 : ia_r h5 64 1 = 118 := by rw [e5]; exact wR_s
  obtain ⟨h6, e6⟩ : ∃ x, x = ia_nw h5 10 0 8 := ⟨_, rfl⟩
  have c6 : hc_ (120) (119 :: 118 :: 64 :: []) w h6 := by rw [e6]; exact hc_new c5 ks_0_55 rfl (by decide) (by decide)
  have f6 : hf_ 64 h h6 := by rw [e6]; exact hf_nw f5 (hc_le c5 (by decide))
  have r0_0_6 : ia_r h6 64 0 = 65 := by rw [e6]; exact hn_r (hc_ne c5 (by decide)) r0_0_5
  have r0_1_6 : ia_r h6 64 1 = 118 := by rw [e6]; exact hn_r (hc_ne c5 (by decide)) r0_1_5
  have z1_6 : (∀ k, k ≠ 3 → ia_i h6 65 k = 0) ∧ ia_i h6 65 3 = (-1) := by rw [e6]; exact ⟨fun k u0 => (nw_i (hc_ne c5 (by decide)) (z1_5.1 k u0)), (nw_i (hc_ne c5 (by decide)) z1_5.2)⟩
  have z3_6 : (∀ k, ia_i h6 67 k = 0) := by rw [e6]; exact fun k => (nw_i (hc_ne c5 (by decide)) (z3_5 k))
  have z55_6 : ∀ k, ia_i h6 119 k = 0 := by rw [e6, ← hc_at c5]; exact fun _ => ia_nw_i0
  obtain ⟨h7, v7, cc7, ff7, zz7_0, zz7_1⟩ := mc_To_init (d + 0) (congrArg Prod.fst ks_0_55) c6 z55_6
  have c7 : hc_ (172) (118 :: 64 :: []) w h7 := by exact cc7
  have f7 : hf_ 64 h h7 := by exact hf_trans f6 ff7 (by decide)
  have r0_0_7 : ia_r h7 64 0 = 65 := by exact hf_r ff7 (by decide) r0_0_6
  have r0_1_7 : ia_r h7 64 1 = 118 := by exact hf_r ff7 (by decide) r0_1_6
  have z1_7 : (∀ k, k ≠ 3 → ia_i h7 65 k = 0) ∧ ia_i h7 65 3 = (-1) := by exact ⟨fun k u0 => (hf_i ff7 (by decide) (z1_6.1 k u0)), (hf_i ff7 (by decide) z1_6.2)⟩
  have z3_7 : (∀ k, ia_i h7 67 k = 0) := by exact fun k => (hf_i ff7 (by decide) (z3_6 k))
  obtain ⟨h8, e8⟩ : ∃ x, x = ia_wR h7 118 0 119 := ⟨_, rfl⟩
  have c8 : hc_ (172) (118 :: 64 :: []) w h8 := by rw [e8]; exact hc_wR c7 List.mem_cons_self
  have f8 : hf_ 64 h h8 := by rw [e8]; exact hf_wR f7 (by decide)
  have r0_0_8 : ia_r h8 64 0 = 65 := by rw [e8]; exact wR_o (by decide) r0_0_7
  have r0_1_8 : ia_r h8 64 1 = 118 := by rw [e8]; exact wR_o (by decide) r0_1_7
  have z1_8 : (∀ k, k ≠ 3 → ia_i h8 65 k = 0) ∧ ia_i h8 65 3 = (-1) := by rw [e8]; exact z1_7
  have z3_8 : (∀ k, ia_i h8 67 k = 0) := by rw [e8]; exact z3_7
  have r54_0_8 : ia_r h8 118 0 = 119 := by rw [e8]; exact wR_s
  obtain ⟨h9, e9⟩ : ∃ x, x = ia_nw h8 10 0 8 := ⟨_, rfl⟩
  have c9 : hc_ (173) (172 :: 118 :: 64 :: []) w h9 := by rw [e9]; exact hc_new c8 ks_0_108 rfl (by decide) (by decide)
  have f9 : hf_ 64 h h9 := by rw [e9]; exact hf_nw f8 (hc_le c8 (by decide))
  have r0_0_9 : ia_r h9 64 0 = 65 := by rw [e9]; exact hn_r (hc_ne c8 (by decide)) r0_0_8
  have r0_1_9 : ia_r h9 64 1 = 118 := by rw [e9]; exact hn_r (hc_ne c8 (by decide)) r0_1_8
  have r54_0_9 : ia_r h9 118 0 = 119 := by rw [e9]; exact hn_r (hc_ne c8 (by decide)) r54_0_8
  have z1_9 : (∀ k, k ≠ 3 → ia_i h9 65 k = 0) ∧ ia_i h9 65 3 = (-1) := by rw [e9]; exact ⟨fun k u0 => (nw_i (hc_ne c8 (by decide)) (z1_8.1 k u0)), (nw_i (hc_ne c8 (by decide)) z1_8.2)⟩
  have z3_9 : (∀ k, ia_i h9 67 k = 0) := by rw [e9]; exact fun k => (nw_i (hc_ne c8 (by decide)) (z3_8 k))
  have z108_9 : ∀ k, ia_i h9 172 k = 0 := by rw [e9, ← hc_at c8]; exact fun _ => ia_nw_i0
  obtain ⟨h10, v10, cc10, ff10, zz10_0, zz10_1⟩ := mc_To_init (d + 0) (congrArg Prod.fst ks_0_108) c9 z108_9
  have c10 : hc_ (225) (118 :: 64 :: []) w h10 := by exact cc10
  have f10 : hf_ 64 h h10 := by exact hf_trans f9 ff10 (by decide)
  have r0_0_10 : ia_r h10 64 0 = 65 := by exact hf_r ff10 (by decide) r0_0_9
  have r0_1_10 : ia_r h10 64 1 = 118 := by exact hf_r ff10 (by decide) r0_1_9
  have r54_0_10 : ia_r h10 118 0 = 119 := by exact hf_r ff10 (by decide) r54_0_9
  have z1_10 : (∀ k, k ≠ 3 → ia_i h10 65 k = 0) ∧ ia_i h10 65 3 = (-1) := by exact ⟨fun k u0 => (hf_i ff10 (by decide) (z1_9.1 k u0)), (hf_i ff10 (by decide) z1_9.2)⟩
  have z3_10 : (∀ k, ia_i h10 67 k = 0) := by exact fun k => (hf_i ff10 (by decide) (z3_9 k))
  obtain ⟨h11, e11⟩ : ∃ x, x = ia_wR h10 118 1 172 := ⟨_, rfl⟩
  have c11 : hc_ (225) (118 :: 64 :: []) w h11 := by rw [e11]; exact hc_wR c10 List.mem_cons_self
  have f11 : hf_ 64 h h11 := by rw [e11]; exact hf_wR f10 (by decide)
  have r0_0_11 : ia_r h11 64 0 = 65 := by rw [e11]; exact wR_o (by decide) r0_0_10
  have r0_1_11 : ia_r h11 64 1 = 118 := by rw [e11]; exact wR_o (by decide) r0_1_10
  have r54_0_11 : ia_r h11 118 0 = 119 := by rw [e11]; exact hw_r (by decide) r54_0_10
  have z1_11 : (∀ k, k ≠ 3 → ia_i h11 65 k = 0) ∧ ia_i h11 65 3 = (-1) := by rw [e11]; exact z1_10
  have z3_11 : (∀ k, ia_i h11 67 k = 0) := by rw [e11]; exact z3_10
  have r54_1_11 : ia_r h11 118 1 = 172 := by rw [e11]; exact wR_s
  obtain ⟨h12, e12⟩ : ∃ x, x = ia_nw h11 10 0 8 := ⟨_, rfl⟩
  have c12 : hc_ (226) (225 :: 118 :: 64 :: []) w h12 := by rw [e12]; exact hc_new c11 ks_0_161 rfl (by decide) (by decide)
  have f12 : hf_ 64 h h12 := by rw [e12]; exact hf_nw f11 (hc_le c11 (by decide))
  have r0_0_12 : ia_r h12 64 0 = 65 := by rw [e12]; exact hn_r (hc_ne c11 (by decide)) r0_0_11
  have r0_1_12 : ia_r h12 64 1 = 118 := by rw [e12]; exact hn_r (hc_ne c11 (by decide)) r0_1_11
  have r54_0_12 : ia_r h12 118 0 = 119 := by rw [e12]; exact hn_r (hc_ne c11 (by decide)) r54_0_11
  have r54_1_12 : ia_r h12 118 1 = 172 := by rw [e12]; exact hn_r (hc_ne c11 (by decide)) r54_1_11
  have z1_12 : (∀ k, k ≠ 3 → ia_i h12 65 k = 0) ∧ ia_i h12 65 3 = (-1) := by rw [e12]; exact ⟨fun k u0 => (nw_i (hc_ne c11 (by decide)) (z1_11.1 k u0)), (nw_i (hc_ne c11 (by decide)) z1_11.2)⟩
  have z3_12 : (∀ k, ia_i h12 67 k = 0) := by rw [e12]; exact fun k => (nw_i (hc_ne c11 (by decide)) (z3_11 k))
  have z161_12 : ∀ k, ia_i h12 225 k = 0 := by rw [e12, ← hc_at c11]; exact fun _ => ia_nw_i0
  obtain ⟨h13, v13, cc13, ff13, zz13_0, zz13_1⟩ := mc_To_init (d + 0) (congrArg Prod.fst ks_0_161) c12 z161_12
  have c13 : hc_ (278) (118 :: 64 :: []) w h13 := by exact cc13
  have f13 : hf_ 64 h h13 := by exact hf_trans f12 ff13 (by decide)
  have r0_0_13 : ia_r h13 64 0 = 65 := by exact hf_r ff13 (by decide) r0_0_12
  have r0_1_13 : ia_r h13 64 1 = 118 := by exact hf_r ff13 (by decide) r0_1_12
  have r54_0_13 : ia_r h13 118 0 = 119 := by exact hf_r ff13 (by decide) r54_0_12
  have r54_1_13 : ia_r h13 118 1 = 172 := by exact hf_r ff13 (by decide) r54_1_12
  have z1_13 : (∀ k, k ≠ 3 → ia_i h13 65 k = 0) ∧ ia_i h13 65 3 = (-1) := by exact ⟨fun k u0 => (hf_i ff13 (by decide) (z1_12.1 k u0)), (hf_i ff13 (by decide) z1_12.2)⟩
  have z3_13 : (∀ k, ia_i h13 67 k = 0) := by exact fun k => (hf_i ff13 (by decide) (z3_12 k))
  obtain ⟨h14, e14⟩ : ∃ x, x = ia_wR h13 118 2 225 := ⟨_, rfl⟩
  have c14 : hc_ (278) (118 :: 64 :: []) w h14 := by rw [e14]; exact hc_wR c13 List.mem_cons_self
  have f14 : hf_ 64 h h14 := by rw [e14]; exact hf_wR f13 (by decide)
  have r0_0_14 : ia_r h14 64 0 = 65 := by rw [e14]; exact wR_o (by decide) r0_0_13
  have r0_1_14 : ia_r h14 64 1 = 118 := by rw [e14]; exact wR_o (by decide) r0_1_13
  have r54_0_14 : ia_r h14 118 0 = 119 := by rw [e14]; exact hw_r (by decide) r54_0_13
  have r54_1_14 : ia_r h14 118 1 = 172 := by rw [e14]; exact hw_r (by decide) r54_1_13
  have z1_14 : (∀ k, k ≠ 3 → ia_i h14 65 k = 0) ∧ ia_i h14 65 3 = (-1) := by rw [e14]; exact z1_13
  have z3_14 : (∀ k, ia_i h14 67 k = 0) := by rw [e14]; exact z3_13
  have r54_2_14 : ia_r h14 118 2 = 225 := by rw [e14]; exact wR_s
  have d14_54 : hc_ (278) (64 :: []) w h14 := by
    refine hc_fin c14 ?_ ?_ ?_ ?_ ?_
    · intro k f q
      rw [ks_0_54] at q
      cases q
    · intro k f q
      rw [ks_0_54] at q
      cases q
    · intro j f q1 q2
      rw [ks_0_54] at q1 q2
      obtain rfl := Option.some.inj (show some 53 = some f from q1)
      rcases (show j = 0 ∨ j = 1 ∨ j = 2 by have q2 : j < 3 := q2; omega) with rfl | rfl | rfl
      · exact r54_0_14
      · exact r54_1_14
      · exact r54_2_14
    · intro q
      rw [ks_0_54] at q
      cases q
    · intro q
      rw [ks_0_54] at q
      cases q
  obtain ⟨h15, e15⟩ : ∃ x, x = ia_nw h14 101 3 3 := ⟨_, rfl⟩
  have c15 : hc_ (279) (64 :: []) w h15 := by rw [e15]; exact hc_arr d14_54 ks_0_214 (by decide) (by decide)
  have f15 : hf_ 64 h h15 := by rw [e15]; exact hf_nw f14 (hc_le d14_54 (by decide))
  have r0_0_15 : ia_r h15 64 0 = 65 := by rw [e15]; exact hn_r (hc_ne d14_54 (by decide)) r0_0_14
  have r0_1_15 : ia_r h15 64 1 = 118 := by rw [e15]; exact hn_r (hc_ne d14_54 (by decide)) r0_1_14
  have z1_15 : (∀ k, k ≠ 3 → ia_i h15 65 k = 0) ∧ ia_i h15 65 3 = (-1) := by rw [e15]; exact ⟨fun k u0 => (nw_i (hc_ne d14_54 (by decide)) (z1_14.1 k u0)), (nw_i (hc_ne d14_54 (by decide)) z1_14.2)⟩
  have z3_15 : (∀ k, ia_i h15 67 k = 0) := by rw [e15]; exact fun k => (nw_i (hc_ne d14_54 (by decide)) (z3_14 k))
  have z214_15 : ∀ k, ia_i h15 278 k = 0 := by rw [e15, ← hc_at d14_54]; exact fun _ => ia_nw_i0
  obtain ⟨h16, e16⟩ : ∃ x, x = ia_wR h15 64 2 278 := ⟨_, rfl⟩
  have c16 : hc_ (279) (64 :: []) w h16 := by rw [e16]; exact hc_wR c15 List.mem_cons_self
  have f16 : hf_ 64 h h16 := by rw [e16]; exact hf_wR f15 (Nat.le_refl _)
  have r0_0_16 : ia_r h16 64 0 = 65 := by rw [e16]; exact hw_r (by decide) r0_0_15
  have r0_1_16 : ia_r h16 64 1 = 118 := by rw [e16]; exact hw_r (by decide) r0_1_15
  have z1_16 : (∀ k, k ≠ 3 → ia_i h16 65 k = 0) ∧ ia_i h16 65 3 = (-1) := by rw [e16]; exact z1_15
  have z3_16 : (∀ k, ia_i h16 67 k = 0) := by rw [e16]; exact z3_15
  have z214_16 : (∀ k, ia_i h16 278 k = 0) := by rw [e16]; exact z214_15
  have r0_2_16 : ia_r h16 64 2 = 278 := by rw [e16]; exact wR_s
  obtain ⟨h17, e17⟩ : ∃ x, x = ia_nw h16 7 0 16 := ⟨_, rfl⟩
  have c17 : hc_ (280) (279 :: 64 :: []) w h17 := by rw [e17]; exact hc_new c16 ks_0_215 rfl (by decide) (by decide)
  have f17 : hf_ 64 h h17 := by rw [e17]; exact hf_nw f16 (hc_le c16 (by decide))
  have r0_0_17 : ia_r h17 64 0 = 65 := by rw [e17]; exact hn_r (hc_ne c16 (by decide)) r0_0_16
  have r0_1_17 : ia_r h17 64 1 = 118 := by rw [e17]; exact hn_r (hc_ne c16 (by decide)) r0_1_16
  have r0_2_17 : ia_r h17 64 2 = 278 := by rw [e17]; exact hn_r (hc_ne c16 (by decide)) r0_2_16
  have z1_17 : (∀ k, k ≠ 3 → ia_i h17 65 k = 0) ∧ ia_i h17 65 3 = (-1) := by rw [e17]; exact ⟨fun k u0 => (nw_i (hc_ne c16 (by decide)) (z1_16.1 k u0)), (nw_i (hc_ne c16 (by decide)) z1_16.2)⟩
  have z3_17 : (∀ k, ia_i h17 67 k = 0) := by rw [e17]; exact fun k => (nw_i (hc_ne c16 (by decide)) (z3_16 k))
  have z214_17 : (∀ k, ia_i h17 278 k = 0) := by rw [e17]; exact fun k => (nw_i (hc_ne c16 (by decide)) (z214_16 k))
  obtain ⟨h18, v18, cc18, ff18⟩ := mc_Re_init (d + 0)  c17
  have c18 : hc_ (303) (64 :: []) w h18 := by exact cc18
  have f18 : hf_ 64 h h18 := by exact hf_trans f17 ff18 (by decide)
  have r0_0_18 : ia_r h18 64 0 = 65 := by exact hf_r ff18 (by decide) r0_0_17
  have r0_1_18 : ia_r h18 64 1 = 118 := by exact hf_r ff18 (by decide) r0_1_17
  have r0_2_18 : ia_r h18 64 2 = 278 := by exact hf_r ff18 (by decide) r0_2_17
  have z1_18 : (∀ k, k ≠ 3 → ia_i h18 65 k = 0) ∧ ia_i h18 65 3 = (-1) := by exact ⟨fun k u0 => (hf_i ff18 (by decide) (z1_17.1 k u0)), (hf_i ff18 (by decide) z1_17.2)⟩
  have z3_18 : (∀ k, ia_i h18 67 k = 0) := by exact fun k => (hf_i ff18 (by decide) (z3_17 k))
  have z214_18 : (∀ k, ia_i h18 278 k = 0) := by exact fun k => (hf_i ff18 (by decide) (z214_17 k))
  obtain ⟨h19, e19⟩ : ∃ x, x = ia_wR h18 64 3 279 := ⟨_, rfl⟩
  have c19 : hc_ (303) (64 :: []) w h19 := by rw [e19]; exact hc_wR c18 List.mem_cons_self
  have f19 : hf_ 64 h h19 := by rw [e19]; exact hf_wR f18 (Nat.le_refl _)
  have r0_0_19 : ia_r h19 64 0 = 65 := by rw [e19]; exact hw_r (by decide) r0_0_18
  have r0_1_19 : ia_r h19 64 1 = 118 := by rw [e19]; exact hw_r (by decide) r0_1_18
  have r0_2_19 : ia_r h19 64 2 = 278 := by rw [e19]; exact hw_r (by decide) r0_2_18
  have z1_19 : (∀ k, k ≠ 3 → ia_i h19 65 k = 0) ∧ ia_i h19 65 3 = (-1) := by rw [e19]; exact z1_18
  have z3_19 : (∀ k, ia_i h19 67 k = 0) := by rw [e19]; exact z3_18
  have z214_19 : (∀ k, ia_i h19 278 k = 0) := by rw [e19]; exact z214_18
  have r0_3_19 : ia_r h19 64 3 = 279 := by rw [e19]; exact wR_s
  obtain ⟨h20, e20⟩ : ∃ x, x = ia_nw h19 9 0 11 := ⟨_, rfl⟩
  have c20 : hc_ (304) (303 :: 64 :: []) w h20 := by rw [e20]; exact hc_new c19 ks_0_239 rfl (by decide) (by decide)
  have f20 : hf_ 64 h h20 := by rw [e20]; exact hf_nw f19 (hc_le c19 (by decide))
  have r0_0_20 : ia_r h20 64 0 = 65 := by rw [e20]; exact hn_r (hc_ne c19 (by decide)) r0_0_19
  have r0_1_20 : ia_r h20 64 1 = 118 := by rw [e20]; exact hn_r (hc_ne c19 (by decide)) r0_1_19
  have r0_2_20 : ia_r h20 64 2 = 278 := by rw [e20]; exact hn_r (hc_ne c19 (by decide)) r0_2_19
  have r0_3_20 : ia_r h20 64 3 = 279 := by rw [e20]; exact hn_r (hc_ne c19 (by decide)) r0_3_19
  have z1_20 : (∀ k, k ≠ 3 → ia_i h20 65 k = 0) ∧ ia_i h20 65 3 = (-1) := by rw [e20]; exact ⟨fun k u0 => (nw_i (hc_ne c19 (by decide)) (z1_19.1 k u0)), (nw_i (hc_ne c19 (by decide)) z1_19.2)⟩
  have z3_20 : (∀ k, ia_i h20 67 k = 0) := by rw [e20]; exact fun k => (nw_i (hc_ne c19 (by decide)) (z3_19 k))
  have z214_20 : (∀ k, ia_i h20 278 k = 0) := by rw [e20]; exact fun k => (nw_i (hc_ne c19 (by decide)) (z214_19 k))
  obtain ⟨h21, v21, cc21, ff21⟩ := mc_Sc_init (d + 5) (congrArg Prod.fst ks_0_239) (congrArg Prod.fst ks_0_5) (congrArg Prod.fst ks_0_30) c20
  have c21 : hc_ (311) (64 :: []) w h21 := by exact cc21
  have f21 : hf_ 64 h h21 := by exact hf_trans f20 ff21 (by decide)
  have r0_0_21 : ia_r h21 64 0 = 65 := by exact hf_r ff21 (by decide) r0_0_20
  have r0_1_21 : ia_r h21 64 1 = 118 := by exact hf_r ff21 (by decide) r0_1_20
  have r0_2_21 : ia_r h21 64 2 = 278 := by exact hf_r ff21 (by decide) r0_2_20
  have r0_3_21 : ia_r h21 64 3 = 279 := by exact hf_r ff21 (by decide) r0_3_20
  have z1_21 : (∀ k, k ≠ 3 → ia_i h21 65 k = 0) ∧ ia_i h21 65 3 = (-1) := by exact ⟨fun k u0 => (hf_i ff21 (by decide) (z1_20.1 k u0)), (hf_i ff21 (by decide) z1_20.2)⟩
  have z3_21 : (∀ k, ia_i h21 67 k = 0) := by exact fun k => (hf_i ff21 (by decide) (z3_20 k))
  have z214_21 : (∀ k, ia_i h21 278 k = 0) := by exact fun k => (hf_i ff21 (by decide) (z214_20 k))
  obtain ⟨h22, e22⟩ : ∃ x, x = ia_wR h21 64 4 303 := ⟨_, rfl⟩
  have c22 : hc_ (311) (64 :: []) w h22 := by rw [e22]; exact hc_wR c21 List.mem_cons_self
  have f22 : hf_ 64 h h22 := by rw [e22]; exact hf_wR f21 (Nat.le_refl _)
  have r0_0_22 : ia_r h22 64 0 = 65 := by rw [e22]; exact hw_r (by decide) r0_0_21
  have r0_1_22 : ia_r h22 64 1 = 118 := by rw [e22]; exact hw_r (by decide) r0_1_21
  have r0_2_22 : ia_r h22 64 2 = 278 := by rw [e22]; exact hw_r (by decide) r0_2_21
  have r0_3_22 : ia_r h22 64 3 = 279 := by rw [e22]; exact hw_r (by decide) r0_3_21
  have z1_22 : (∀ k, k ≠ 3 → ia_i h22 65 k = 0) ∧ ia_i h22 65 3 = (-1) := by rw [e22]; exact z1_21
  have z3_22 : (∀ k, ia_i h22 67 k = 0) := by rw [e22]; exact z3_21
  have z214_22 : (∀ k, ia_i h22 278 k = 0) := by rw [e22]; exact z214_21
  have r0_4_22 : ia_r h22 64 4 = 303 := by rw [e22]; exact wR_s
  obtain ⟨h23, e23⟩ : ∃ x, x = ia_nw h22 11 0 10 := ⟨_, rfl⟩
  have c23 : hc_ (312) (311 :: 64 :: []) w h23 := by rw [e23]; exact hc_new c22 ks_0_247 rfl (by decide) (by decide)
  have f23 : hf_ 64 h h23 := by rw [e23]; exact hf_nw f22 (hc_le c22 (by decide))
  have r0_0_23 : ia_r h23 64 0 = 65 := by rw [e23]; exact hn_r (hc_ne c22 (by decide)) r0_0_22
  have r0_1_23 : ia_r h23 64 1 = 118 := by rw [e23]; exact hn_r (hc_ne c22 (by decide)) r0_1_22
  have r0_2_23 : ia_r h23 64 2 = 278 := by rw [e23]; exact hn_r (hc_ne c22 (by decide)) r0_2_22
  have r0_3_23 : ia_r h23 64 3 = 279 := by rw [e23]; exact hn_r (hc_ne c22 (by decide)) r0_3_22
  have r0_4_23 : ia_r h23 64 4 = 303 := by rw [e23]; exact hn_r (hc_ne c22 (by decide)) r0_4_22
  have z1_23 : (∀ k, k ≠ 3 → ia_i h23 65 k = 0) ∧ ia_i h23 65 3 = (-1) := by rw [e23]; exact ⟨fun k u0 => (nw_i (hc_ne c22 (by decide)) (z1_22.1 k u0)), (nw_i (hc_ne c22 (by decide)) z1_22.2)⟩
  have z3_23 : (∀ k, ia_i h23 67 k = 0) := by rw [e23]; exact fun k => (nw_i (hc_ne c22 (by decide)) (z3_22 k))
  have z214_23 : (∀ k, ia_i h23 278 k = 0) := by rw [e23]; exact fun k => (nw_i (hc_ne c22 (by decide)) (z214_22 k))
  obtain ⟨h24, v24, cc24, ff24⟩ := mc_Wa_init (d + 5)  (congrArg Prod.fst ks_0_5) (congrArg Prod.fst ks_0_30) c23
  have c24 : hc_ (325) (64 :: []) w h24 := by exact cc24
  have f24 : hf_ 64 h h24 := by exact hf_trans f23 ff24 (by decide)
  have r0_0_24 : ia_r h24 64 0 = 65 := by exact hf_r ff24 (by decide) r0_0_23
  have r0_1_24 : ia_r h24 64 1 = 118 := by exact hf_r ff24 (by decide) r0_1_23
  have r0_2_24 : ia_r h24 64 2 = 278 := by exact hf_r ff24 (by decide) r0_2_23
  have r0_3_24 : ia_r h24 64 3 = 279 := by exact hf_r ff24 (by decide) r0_3_23
  have r0_4_24 : ia_r h24 64 4 = 303 := by exact hf_r ff24 (by decide) r0_4_23
  have z1_24 : (∀ k, k ≠ 3 → ia_i h24 65 k = 0) ∧ ia_i h24 65 3 = (-1) := by exact ⟨fun k u0 => (hf_i ff24 (by decide) (z1_23.1 k u0)), (hf_i ff24 (by decide) z1_23.2)⟩
  have z3_24 : (∀ k, ia_i h24 67 k = 0) := by exact fun k => (hf_i ff24 (by decide) (z3_23 k))
  have z214_24 : (∀ k, ia_i h24 278 k = 0) := by exact fun k => (hf_i ff24 (by decide) (z214_23 k))
  obtain ⟨h25, e25⟩ : ∃ x, x = ia_wR h24 64 5 311 := ⟨_, rfl⟩
  have c25 : hc_ (325) (64 :: []) w h25 := by rw [e25]; exact hc_wR c24 List.mem_cons_self
  have f25 : hf_ 64 h h25 := by rw [e25]; exact hf_wR f24 (Nat.le_refl _)
  have r0_0_25 : ia_r h25 64 0 = 65 := by rw [e25]; exact hw_r (by decide) r0_0_24
  have r0_1_25 : ia_r h25 64 1 = 118 := by rw [e25]; exact hw_r (by decide) r0_1_24
  have r0_2_25 : ia_r h25 64 2 = 278 := by rw [e25]; exact hw_r (by decide) r0_2_24
  have r0_3_25 : ia_r h25 64 3 = 279 := by rw [e25]; exact hw_r (by decide) r0_3_24
  have r0_4_25 : ia_r h25 64 4 = 303 := by rw [e25]; exact hw_r (by decide) r0_4_24
  have z1_25 : (∀ k, k ≠ 3 → ia_i h25 65 k = 0) ∧ ia_i h25 65 3 = (-1) := by rw [e25]; exact z1_24
  have z3_25 : (∀ k, ia_i h25 67 k = 0) := by rw [e25]; exact z3_24
  have z214_25 : (∀ k, ia_i h25 278 k = 0) := by rw [e25]; exact z214_24
  have r0_5_25 : ia_r h25 64 5 = 311 := by rw [e25]; exact wR_s
  obtain ⟨h26, e26⟩ : ∃ x, x = ia_nw h25 1 0 1 := ⟨_, rfl⟩
  have c26 : hc_ (326) (325 :: 64 :: []) w h26 := by rw [e26]; exact hc_new c25 ks_0_261 rfl (by decide) (by decide)
  have f26 : hf_ 64 h h26 := by rw [e26]; exact hf_nw f25 (hc_le c25 (by decide))
  have r0_0_26 : ia_r h26 64 0 = 65 := by rw [e26]; exact hn_r (hc_ne c25 (by decide)) r0_0_25
  have r0_1_26 : ia_r h26 64 1 = 118 := by rw [e26]; exact hn_r (hc_ne c25 (by decide)) r0_1_25
  have r0_2_26 : ia_r h26 64 2 = 278 := by rw [e26]; exact hn_r (hc_ne c25 (by decide)) r0_2_25
  have r0_3_26 : ia_r h26 64 3 = 279 := by rw [e26]; exact hn_r (hc_ne c25 (by decide)) r0_3_25
  have r0_4_26 : ia_r h26 64 4 = 303 := by rw [e26]; exact hn_r (hc_ne c25 (by decide)) r0_4_25
  have r0_5_26 : ia_r h26 64 5 = 311 := by rw [e26]; exact hn_r (hc_ne c25 (by decide)) r0_5_25
  have z1_26 : (∀ k, k ≠ 3 → ia_i h26 65 k = 0) ∧ ia_i h26 65 3 = (-1) := by rw [e26]; exact ⟨fun k u0 => (nw_i (hc_ne c25 (by decide)) (z1_25.1 k u0)), (nw_i (hc_ne c25 (by decide)) z1_25.2)⟩
  have z3_26 : (∀ k, ia_i h26 67 k = 0) := by rw [e26]; exact fun k => (nw_i (hc_ne c25 (by decide)) (z3_25 k))
  have z214_26 : (∀ k, ia_i h26 278 k = 0) := by rw [e26]; exact fun k => (nw_i (hc_ne c25 (by decide)) (z214_25 k))
  obtain ⟨h27, v27, cc27, ff27⟩ := mc_De_init (d + 5)  c26
  have c27 : hc_ (326) (64 :: []) w h27 := by exact cc27
  have f27 : hf_ 64 h h27 := by exact hf_trans f26 ff27 (by decide)
  have r0_0_27 : ia_r h27 64 0 = 65 := by exact hf_r ff27 (by decide) r0_0_26
  have r0_1_27 : ia_r h27 64 1 = 118 := by exact hf_r ff27 (by decide) r0_1_26
  have r0_2_27 : ia_r h27 64 2 = 278 := by exact hf_r ff27 (by decide) r0_2_26
  have r0_3_27 : ia_r h27 64 3 = 279 := by exact hf_r ff27 (by decide) r0_3_26
  have r0_4_27 : ia_r h27 64 4 = 303 := by exact hf_r ff27 (by decide) r0_4_26
  have r0_5_27 : ia_r h27 64 5 = 311 := by exact hf_r ff27 (by decide) r0_5_26
  have z1_27 : (∀ k, k ≠ 3 → ia_i h27 65 k = 0) ∧ ia_i h27 65 3 = (-1) := by exact ⟨fun k u0 => (hf_i ff27 (by decide) (z1_26.1 k u0)), (hf_i ff27 (by decide) z1_26.2)⟩
  have z3_27 : (∀ k, ia_i h27 67 k = 0) := by exact fun k => (hf_i ff27 (by decide) (z3_26 k))
  have z214_27 : (∀ k, ia_i h27 278 k = 0) := by exact fun k => (hf_i ff27 (by decide) (z214_26 k))
  obtain ⟨h28, e28⟩ : ∃ x, x = ia_wR h27 64 6 325 := ⟨_, rfl⟩
  have c28 : hc_ (326) (64 :: []) w h28 := by rw [e28]; exact hc_wR c27 List.mem_cons_self
  have f28 : hf_ 64 h h28 := by rw [e28]; exact hf_wR f27 (Nat.le_refl _)
  have r0_0_28 : ia_r h28 64 0 = 65 := by rw [e28]; exact hw_r (by decide) r0_0_27
  have r0_1_28 : ia_r h28 64 1 = 118 := by rw [e28]; exact hw_r (by decide) r0_1_27
  have r0_2_28 : ia_r h28 64 2 = 278 := by rw [e28]; exact hw_r (by decide) r0_2_27
  have r0_3_28 : ia_r h28 64 3 = 279 := by rw [e28]; exact hw_r (by decide) r0_3_27
  have r0_4_28 : ia_r h28 64 4 = 303 := by rw [e28]; exact hw_r (by decide) r0_4_27
  have r0_5_28 : ia_r h28 64 5 = 311 := by rw [e28]; exact hw_r (by decide) r0_5_27
  have z1_28 : (∀ k, k ≠ 3 → ia_i h28 65 k = 0) ∧ ia_i h28 65 3 = (-1) := by rw [e28]; exact z1_27
  have z3_28 : (∀ k, ia_i h28 67 k = 0) := by rw [e28]; exact z3_27
  have z214_28 : (∀ k, ia_i h28 278 k = 0) := by rw [e28]; exact z214_27
  have r0_6_28 : ia_r h28 64 6 = 325 := by rw [e28]; exact wR_s
  obtain ⟨h29, e29⟩ : ∃ x, x = ia_nw h28 5 0 5 := ⟨_, rfl⟩
  have c29 : hc_ (327) (326 :: 64 :: []) w h29 := by rw [e29]; exact hc_new c28 ks_0_262 rfl (by decide) (by decide)
  have f29 : hf_ 64 h h29 := by rw [e29]; exact hf_nw f28 (hc_le c28 (by decide))
  have r0_0_29 : ia_r h29 64 0 = 65 := by rw [e29]; exact hn_r (hc_ne c28 (by decide)) r0_0_28
  have r0_1_29 : ia_r h29 64 1 = 118 := by rw [e29]; exact hn_r (hc_ne c28 (by decide)) r0_1_28
  have r0_2_29 : ia_r h29 64 2 = 278 := by rw [e29]; exact hn_r (hc_ne c28 (by decide)) r0_2_28
  have r0_3_29 : ia_r h29 64 3 = 279 := by rw [e29]; exact hn_r (hc_ne c28 (by decide)) r0_3_28
  have r0_4_29 : ia_r h29 64 4 = 303 := by rw [e29]; exact hn_r (hc_ne c28 (by decide)) r0_4_28
  have r0_5_29 : ia_r h29 64 5 = 311 := by rw [e29]; exact hn_r (hc_ne c28 (by decide)) r0_5_28
  have r0_6_29 : ia_r h29 64 6 = 325 := by rw [e29]; exact hn_r (hc_ne c28 (by decide)) r0_6_28
  have z1_29 : (∀ k, k ≠ 3 → ia_i h29 65 k = 0) ∧ ia_i h29 65 3 = (-1) := by rw [e29]; exact ⟨fun k u0 => (nw_i (hc_ne c28 (by decide)) (z1_28.1 k u0)), (nw_i (hc_ne c28 (by decide)) z1_28.2)⟩
  have z3_29 : (∀ k, ia_i h29 67 k = 0) := by rw [e29]; exact fun k => (nw_i (hc_ne c28 (by decide)) (z3_28 k))
  have z214_29 : (∀ k, ia_i h29 278 k = 0) := by rw [e29]; exact fun k => (nw_i (hc_ne c28 (by decide)) (z214_28 k))
  obtain ⟨h30, v30, cc30, ff30⟩ := mc_Ou_init (d + 4)  (congrArg Prod.fst ks_0_5) (congrArg Prod.fst ks_0_30) c29
  have c30 : hc_ (345) (64 :: []) w h30 := by exact cc30
  have f30 : hf_ 64 h h30 := by exact hf_trans f29 ff30 (by decide)
  have r0_0_30 : ia_r h30 64 0 = 65 := by exact hf_r ff30 (by decide) r0_0_29
  have r0_1_30 : ia_r h30 64 1 = 118 := by exact hf_r ff30 (by decide) r0_1_29
  have r0_2_30 : ia_r h30 64 2 = 278 := by exact hf_r ff30 (by decide) r0_2_29
  have r0_3_30 : ia_r h30 64 3 = 279 := by exact hf_r ff30 (by decide) r0_3_29
  have r0_4_30 : ia_r h30 64 4 = 303 := by exact hf_r ff30 (by decide) r0_4_29
  have r0_5_30 : ia_r h30 64 5 = 311 := by exact hf_r ff30 (by decide) r0_5_29
  have r0_6_30 : ia_r h30 64 6 = 325 := by exact hf_r ff30 (by decide) r0_6_29
  have z1_30 : (∀ k, k ≠ 3 → ia_i h30 65 k = 0) ∧ ia_i h30 65 3 = (-1) := by exact ⟨fun k u0 => (hf_i ff30 (by decide) (z1_29.1 k u0)), (hf_i ff30 (by decide) z1_29.2)⟩
  have z3_30 : (∀ k, ia_i h30 67 k = 0) := by exact fun k => (hf_i ff30 (by decide) (z3_29 k))
  have z214_30 : (∀ k, ia_i h30 278 k = 0) := by exact fun k => (hf_i ff30 (by decide) (z214_29 k))
  obtain ⟨h31, e31⟩ : ∃ x, x = ia_wR h30 64 7 326 := ⟨_, rfl⟩
  have c31 : hc_ (345) (64 :: []) w h31 := by rw [e31]; exact hc_wR c30 List.mem_cons_self
  have f31 : hf_ 64 h h31 := by rw [e31]; exact hf_wR f30 (Nat.le_refl _)
  have r0_0_31 : ia_r h31 64 0 = 65 := by rw [e31]; exact hw_r (by decide) r0_0_30
  have r0_1_31 : ia_r h31 64 1 = 118 := by rw [e31]; exact hw_r (by decide) r0_1_30
  have r0_2_31 : ia_r h31 64 2 = 278 := by rw [e31]; exact hw_r (by decide) r0_2_30
  have r0_3_31 : ia_r h31 64 3 = 279 := by rw [e31]; exact hw_r (by decide) r0_3_30
  have r0_4_31 : ia_r h31 64 4 = 303 := by rw [e31]; exact hw_r (by decide) r0_4_30
  have r0_5_31 : ia_r h31 64 5 = 311 := by rw [e31]; exact hw_r (by decide) r0_5_30
  have r0_6_31 : ia_r h31 64 6 = 325 := by rw [e31]; exact hw_r (by decide) r0_6_30
  have z1_31 : (∀ k, k ≠ 3 → ia_i h31 65 k = 0) ∧ ia_i h31 65 3 = (-1) := by rw [e31]; exact z1_30
  have z3_31 : (∀ k, ia_i h31 67 k = 0) := by rw [e31]; exact z3_30
  have z214_31 : (∀ k, ia_i h31 278 k = 0) := by rw [e31]; exact z214_30
  have r0_7_31 : ia_r h31 64 7 = 326 := by rw [e31]; exact wR_s
  obtain ⟨h32, e32⟩ : ∃ x, x = ia_nw h31 2 0 7 := ⟨_, rfl⟩
  have c32 : hc_ (346) (345 :: 64 :: []) w h32 := by rw [e32]; exact hc_new c31 ks_0_281 rfl (by decide) (by decide)
  have f32 : hf_ 64 h h32 := by rw [e32]; exact hf_nw f31 (hc_le c31 (by decide))
  have r0_0_32 : ia_r h32 64 0 = 65 := by rw [e32]; exact hn_r (hc_ne c31 (by decide)) r0_0_31
  have r0_1_32 : ia_r h32 64 1 = 118 := by rw [e32]; exact hn_r (hc_ne c31 (by decide)) r0_1_31
  have r0_2_32 : ia_r h32 64 2 = 278 := by rw [e32]; exact hn_r (hc_ne c31 (by decide)) r0_2_31
  have r0_3_32 : ia_r h32 64 3 = 279 := by rw [e32]; exact hn_r (hc_ne c31 (by decide)) r0_3_31
  have r0_4_32 : ia_r h32 64 4 = 303 := by rw [e32]; exact hn_r (hc_ne c31 (by decide)) r0_4_31
  have r0_5_32 : ia_r h32 64 5 = 311 := by rw [e32]; exact hn_r (hc_ne c31 (by decide)) r0_5_31
  have r0_6_32 : ia_r h32 64 6 = 325 := by rw [e32]; exact hn_r (hc_ne c31 (by decide)) r0_6_31
  have r0_7_32 : ia_r h32 64 7 = 326 := by rw [e32]; exact hn_r (hc_ne c31 (by decide)) r0_7_31
  have z1_32 : (∀ k, k ≠ 3 → ia_i h32 65 k = 0) ∧ ia_i h32 65 3 = (-1) := by rw [e32]; exact ⟨fun k u0 => (nw_i (hc_ne c31 (by decide)) (z1_31.1 k u0)), (nw_i (hc_ne c31 (by decide)) z1_31.2)⟩
  have z3_32 : (∀ k, ia_i h32 67 k = 0) := by rw [e32]; exact fun k => (nw_i (hc_ne c31 (by decide)) (z3_31 k))
  have z214_32 : (∀ k, ia_i h32 278 k = 0) := by rw [e32]; exact fun k => (nw_i (hc_ne c31 (by decide)) (z214_31 k))
  obtain ⟨h33, v33, cc33, ff33⟩ := mc_Dr_init (d + 4)  (congrArg Prod.fst ks_0_5) (congrArg Prod.fst ks_0_30) c32
  have c33 : hc_ (413) (64 :: []) w h33 := by exact cc33
  have f33 : hf_ 64 h h33 := by exact hf_trans f32 ff33 (by decide)
  have r0_0_33 : ia_r h33 64 0 = 65 := by exact hf_r ff33 (by decide) r0_0_32
  have r0_1_33 : ia_r h33 64 1 = 118 := by exact hf_r ff33 (by decide) r0_1_32
  have r0_2_33 : ia_r h33 64 2 = 278 := by exact hf_r ff33 (by decide) r0_2_32
  have r0_3_33 : ia_r h33 64 3 = 279 := by exact hf_r ff33 (by decide) r0_3_32
  have r0_4_33 : ia_r h33 64 4 = 303 := by exact hf_r ff33 (by decide) r0_4_32
  have r0_5_33 : ia_r h33 64 5 = 311 := by exact hf_r ff33 (by decide) r0_5_32
  have r0_6_33 : ia_r h33 64 6 = 325 := by exact hf_r ff33 (by decide) r0_6_32
  have r0_7_33 : ia_r h33 64 7 = 326 := by exact hf_r ff33 (by decide) r0_7_32
  have z1_33 : (∀ k, k ≠ 3 → ia_i h33 65 k = 0) ∧ ia_i h33 65 3 = (-1) := by exact ⟨fun k u0 => (hf_i ff33 (by decide) (z1_32.1 k u0)), (hf_i ff33 (by decide) z1_32.2)⟩
  have z3_33 : (∀ k, ia_i h33 67 k = 0) := by exact fun k => (hf_i ff33 (by decide) (z3_32 k))
  have z214_33 : (∀ k, ia_i h33 278 k = 0) := by exact fun k => (hf_i ff33 (by decide) (z214_32 k))
  obtain ⟨h34, e34⟩ : ∃ x, x = ia_wR h33 64 8 345 := ⟨_, rfl⟩
  have c34 : hc_ (413) (64 :: []) w h34 := by rw [e34]; exact hc_wR c33 List.mem_cons_self
  have f34 : hf_ 64 h h34 := by rw [e34]; exact hf_wR f33 (Nat.le_refl _)
  have r0_0_34 : ia_r h34 64 0 = 65 := by rw [e34]; exact hw_r (by decide) r0_0_33
  have r0_1_34 : ia_r h34 64 1 = 118 := by rw [e34]; exact hw_r (by decide) r0_1_33
  have r0_2_34 : ia_r h34 64 2 = 278 := by rw [e34]; exact hw_r (by decide) r0_2_33
  have r0_3_34 : ia_r h34 64 3 = 279 := by rw [e34]; exact hw_r (by decide) r0_3_33
  have r0_4_34 : ia_r h34 64 4 = 303 := by rw [e34]; exact hw_r (by decide) r0_4_33
  have r0_5_34 : ia_r h34 64 5 = 311 := by rw [e34]; exact hw_r (by decide) r0_5_33
  have r0_6_34 : ia_r h34 64 6 = 325 := by rw [e34]; exact hw_r (by decide) r0_6_33
  have r0_7_34 : ia_r h34 64 7 = 326 := by rw [e34]; exact hw_r (by decide) r0_7_33
  have z1_34 : (∀ k, k ≠ 3 → ia_i h34 65 k = 0) ∧ ia_i h34 65 3 = (-1) := by rw [e34]; exact z1_33
  have z3_34 : (∀ k, ia_i h34 67 k = 0) := by rw [e34]; exact z3_33
  have z214_34 : (∀ k, ia_i h34 278 k = 0) := by rw [e34]; exact z214_33
  have r0_8_34 : ia_r h34 64 8 = 345 := by rw [e34]; exact wR_s
  obtain ⟨h35, e35⟩ : ∃ x, x = ia_nw h34 8 0 3 := ⟨_, rfl⟩
  have c35 : hc_ (414) (413 :: 64 :: []) w h35 := by rw [e35]; exact hc_new c34 ks_0_349 rfl (by decide) (by decide)
  have f35 : hf_ 64 h h35 := by rw [e35]; exact hf_nw f34 (hc_le c34 (by decide))
  have r0_0_35 : ia_r h35 64 0 = 65 := by rw [e35]; exact hn_r (hc_ne c34 (by decide)) r0_0_34
  have r0_1_35 : ia_r h35 64 1 = 118 := by rw [e35]; exact hn_r (hc_ne c34 (by decide)) r0_1_34
  have r0_2_35 : ia_r h35 64 2 = 278 := by rw [e35]; exact hn_r (hc_ne c34 (by decide)) r0_2_34
  have r0_3_35 : ia_r h35 64 3 = 279 := by rw [e35]; exact hn_r (hc_ne c34 (by decide)) r0_3_34
  have r0_4_35 : ia_r h35 64 4 = 303 := by rw [e35]; exact hn_r (hc_ne c34 (by decide)) r0_4_34
  have r0_5_35 : ia_r h35 64 5 = 311 := by rw [e35]; exact hn_r (hc_ne c34 (by decide)) r0_5_34
  have r0_6_35 : ia_r h35 64 6 = 325 := by rw [e35]; exact hn_r (hc_ne c34 (by decide)) r0_6_34
  have r0_7_35 : ia_r h35 64 7 = 326 := by rw [e35]; exact hn_r (hc_ne c34 (by decide)) r0_7_34
  have r0_8_35 : ia_r h35 64 8 = 345 := by rw [e35]; exact hn_r (hc_ne c34 (by decide)) r0_8_34
  have z1_35 : (∀ k, k ≠ 3 → ia_i h35 65 k = 0) ∧ ia_i h35 65 3 = (-1) := by rw [e35]; exact ⟨fun k u0 => (nw_i (hc_ne c34 (by decide)) (z1_34.1 k u0)), (nw_i (hc_ne c34 (by decide)) z1_34.2)⟩
  have z3_35 : (∀ k, ia_i h35 67 k = 0) := by rw [e35]; exact fun k => (nw_i (hc_ne c34 (by decide)) (z3_34 k))
  have z214_35 : (∀ k, ia_i h35 278 k = 0) := by rw [e35]; exact fun k => (nw_i (hc_ne c34 (by decide)) (z214_34 k))
  obtain ⟨h36, v36, cc36, ff36⟩ := mc_Ro_init (d + 5) (congrArg Prod.fst ks_0_349) c35
  have c36 : hc_ (415) (64 :: []) w h36 := by exact cc36
  have f36 : hf_ 64 h h36 := by exact hf_trans f35 ff36 (by decide)
  have r0_0_36 : ia_r h36 64 0 = 65 := by exact hf_r ff36 (by decide) r0_0_35
  have r0_1_36 : ia_r h36 64 1 = 118 := by exact hf_r ff36 (by decide) r0_1_35
  have r0_2_36 : ia_r h36 64 2 = 278 := by exact hf_r ff36 (by decide) r0_2_35
  have r0_3_36 : ia_r h36 64 3 = 279 := by exact hf_r ff36 (by decide) r0_3_35
  have r0_4_36 : ia_r h36 64 4 = 303 := by exact hf_r ff36 (by decide) r0_4_35
  have r0_5_36 : ia_r h36 64 5 = 311 := by exact hf_r ff36 (by decide) r0_5_35
  have r0_6_36 : ia_r h36 64 6 = 325 := by exact hf_r ff36 (by decide) r0_6_35
  have r0_7_36 : ia_r h36 64 7 = 326 := by exact hf_r ff36 (by decide) r0_7_35
  have r0_8_36 : ia_r h36 64 8 = 345 := by exact hf_r ff36 (by decide) r0_8_35
  have z1_36 : (∀ k, k ≠ 3 → ia_i h36 65 k = 0) ∧ ia_i h36 65 3 = (-1) := by exact ⟨fun k u0 => (hf_i ff36 (by decide) (z1_35.1 k u0)), (hf_i ff36 (by decide) z1_35.2)⟩
  have z3_36 : (∀ k, ia_i h36 67 k = 0) := by exact fun k => (hf_i ff36 (by decide) (z3_35 k))
  have z214_36 : (∀ k, ia_i h36 278 k = 0) := by exact fun k => (hf_i ff36 (by decide) (z214_35 k))
  obtain ⟨h37, e37⟩ : ∃ x, x = ia_wR h36 64 9 413 := ⟨_, rfl⟩
  have c37 : hc_ (415) (64 :: []) w h37 := by rw [e37]; exact hc_wR c36 List.mem_cons_self
  have f37 : hf_ 64 h h37 := by rw [e37]; exact hf_wR f36 (Nat.le_refl _)
  have r0_0_37 : ia_r h37 64 0 = 65 := by rw [e37]; exact hw_r (by decide) r0_0_36
  have r0_1_37 : ia_r h37 64 1 = 118 := by rw [e37]; exact hw_r (by decide) r0_1_36
  have r0_2_37 : ia_r h37 64 2 = 278 := by rw [e37]; exact hw_r (by decide) r0_2_36
  have r0_3_37 : ia_r h37 64 3 = 279 := by rw [e37]; exact hw_r (by decide) r0_3_36
  have r0_4_37 : ia_r h37 64 4 = 303 := by rw [e37]; exact hw_r (by decide) r0_4_36
  have r0_5_37 : ia_r h37 64 5 = 311 := by rw [e37]; exact hw_r (by decide) r0_5_36
  have r0_6_37 : ia_r h37 64 6 = 325 := by rw [e37]; exact hw_r (by decide) r0_6_36
  have r0_7_37 : ia_r h37 64 7 = 326 := by rw [e37]; exact hw_r (by decide) r0_7_36
  have r0_8_37 : ia_r h37 64 8 = 345 := by rw [e37]; exact hw_r (by decide) r0_8_36
  have z1_37 : (∀ k, k ≠ 3 → ia_i h37 65 k = 0) ∧ ia_i h37 65 3 = (-1) := by rw [e37]; exact z1_36
  have z3_37 : (∀ k, ia_i h37 67 k = 0) := by rw [e37]; exact z3_36
  have z214_37 : (∀ k, ia_i h37 278 k = 0) := by rw [e37]; exact z214_36
  have r0_9_37 : ia_r h37 64 9 = 413 := by rw [e37]; exact wR_s
  obtain ⟨h38, e38⟩ : ∃ x, x = ia_nw h37 8 0 3 := ⟨_, rfl⟩
  have c38 : hc_ (416) (415 :: 64 :: []) w h38 := by rw [e38]; exact hc_new c37 ks_0_351 rfl (by decide) (by decide)
  have f38 : hf_ 64 h h38 := by rw [e38]; exact hf_nw f37 (hc_le c37 (by decide))
  have r0_0_38 : ia_r h38 64 0 = 65 := by rw [e38]; exact hn_r (hc_ne c37 (by decide)) r0_0_37
  have r0_1_38 : ia_r h38 64 1 = 118 := by rw [e38]; exact hn_r (hc_ne c37 (by decide)) r0_1_37
  have r0_2_38 : ia_r h38 64 2 = 278 := by rw [e38]; exact hn_r (hc_ne c37 (by decide)) r0_2_37
  have r0_3_38 : ia_r h38 64 3 = 279 := by rw [e38]; exact hn_r (hc_ne c37 (by decide)) r0_3_37
  have r0_4_38 : ia_r h38 64 4 = 303 := by rw [e38]; exact hn_r (hc_ne c37 (by decide)) r0_4_37
  have r0_5_38 : ia_r h38 64 5 = 311 := by rw [e38]; exact hn_r (hc_ne c37 (by decide)) r0_5_37
  have r0_6_38 : ia_r h38 64 6 = 325 := by rw [e38]; exact hn_r (hc_ne c37 (by decide)) r0_6_37
  have r0_7_38 : ia_r h38 64 7 = 326 := by rw [e38]; exact hn_r (hc_ne c37 (by decide)) r0_7_37
  have r0_8_38 : ia_r h38 64 8 = 345 := by rw [e38]; exact hn_r (hc_ne c37 (by decide)) r0_8_37
  have r0_9_38 : ia_r h38 64 9 = 413 := by rw [e38]; exact hn_r (hc_ne c37 (by decide)) r0_9_37
  have z1_38 : (∀ k, k ≠ 3 → ia_i h38 65 k = 0) ∧ ia_i h38 65 3 = (-1) := by rw [e38]; exact ⟨fun k u0 => (nw_i (hc_ne c37 (by decide)) (z1_37.1 k u0)), (nw_i (hc_ne c37 (by decide)) z1_37.2)⟩
  have z3_38 : (∀ k, ia_i h38 67 k = 0) := by rw [e38]; exact fun k => (nw_i (hc_ne c37 (by decide)) (z3_37 k))
  have z214_38 : (∀ k, ia_i h38 278 k = 0) := by rw [e38]; exact fun k => (nw_i (hc_ne c37 (by decide)) (z214_37 k))
  obtain ⟨h39, v39, cc39, ff39⟩ := mc_Ro_init (d + 5) (congrArg Prod.fst ks_0_351) c38
  have c39 : hc_ (417) (64 :: []) w h39 := by exact cc39
  have f39 : hf_ 64 h h39 := by exact hf_trans f38 ff39 (by decide)
  have r0_0_39 : ia_r h39 64 0 = 65 := by exact hf_r ff39 (by decide) r0_0_38
  have r0_1_39 : ia_r h39 64 1 = 118 := by exact hf_r ff39 (by decide) r0_1_38
  have r0_2_39 : ia_r h39 64 2 = 278 := by exact hf_r ff39 (by decide) r0_2_38
  have r0_3_39 : ia_r h39 64 3 = 279 := by exact hf_r ff39 (by decide) r0_3_38
  have r0_4_39 : ia_r h39 64 4 = 303 := by exact hf_r ff39 (by decide) r0_4_38
  have r0_5_39 : ia_r h39 64 5 = 311 := by exact hf_r ff39 (by decide) r0_5_38
  have r0_6_39 : ia_r h39 64 6 = 325 := by exact hf_r ff39 (by decide) r0_6_38
  have r0_7_39 : ia_r h39 64 7 = 326 := by exact hf_r ff39 (by decide) r0_7_38
  have r0_8_39 : ia_r h39 64 8 = 345 := by exact hf_r ff39 (by decide) r0_8_38
  have r0_9_39 : ia_r h39 64 9 = 413 := by exact hf_r ff39 (by decide) r0_9_38
  have z1_39 : (∀ k, k ≠ 3 → ia_i h39 65 k = 0) ∧ ia_i h39 65 3 = (-1) := by exact ⟨fun k u0 => (hf_i ff39 (by decide) (z1_38.1 k u0)), (hf_i ff39 (by decide) z1_38.2)⟩
  have z3_39 : (∀ k, ia_i h39 67 k = 0) := by exact fun k => (hf_i ff39 (by decide) (z3_38 k))
  have z214_39 : (∀ k, ia_i h39 278 k = 0) := by exact fun k => (hf_i ff39 (by decide) (z214_38 k))
  obtain ⟨h40, e40⟩ : ∃ x, x = ia_wR h39 64 10 415 := ⟨_, rfl⟩
  have c40 : hc_ (417) (64 :: []) w h40 := by rw [e40]; exact hc_wR c39 List.mem_cons_self
  have f40 : hf_ 64 h h40 := by rw [e40]; exact hf_wR f39 (Nat.le_refl _)
  have r0_0_40 : ia_r h40 64 0 = 65 := by rw [e40]; exact hw_r (by decide) r0_0_39
  have r0_1_40 : ia_r h40 64 1 = 118 := by rw [e40]; exact hw_r (by decide) r0_1_39
  have r0_2_40 : ia_r h40 64 2 = 278 := by rw [e40]; exact hw_r (by decide) r0_2_39
  have r0_3_40 : ia_r h40 64 3 = 279 := by rw [e40]; exact hw_r (by decide) r0_3_39
  have r0_4_40 : ia_r h40 64 4 = 303 := by rw [e40]; exact hw_r (by decide) r0_4_39
  have r0_5_40 : ia_r h40 64 5 = 311 := by rw [e40]; exact hw_r (by decide) r0_5_39
  have r0_6_40 : ia_r h40 64 6 = 325 := by rw [e40]; exact hw_r (by decide) r0_6_39
  have r0_7_40 : ia_r h40 64 7 = 326 := by rw [e40]; exact hw_r (by decide) r0_7_39
  have r0_8_40 : ia_r h40 64 8 = 345 := by rw [e40]; exact hw_r (by decide) r0_8_39
  have r0_9_40 : ia_r h40 64 9 = 413 := by rw [e40]; exact hw_r (by decide) r0_9_39
  have z1_40 : (∀ k, k ≠ 3 → ia_i h40 65 k = 0) ∧ ia_i h40 65 3 = (-1) := by rw [e40]; exact z1_39
  have z3_40 : (∀ k, ia_i h40 67 k = 0) := by rw [e40]; exact z3_39
  have z214_40 : (∀ k, ia_i h40 278 k = 0) := by rw [e40]; exact z214_39
  have r0_10_40 : ia_r h40 64 10 = 415 := by rw [e40]; exact wR_s
  have d40_0 : hc_ (417) [] w h40 := by
    refine hc_fin c40 ?_ ?_ ?_ ?_ ?_
    · intro k f q
      rw [pe] at q
      rcases rdo_0 k f q with ⟨rfl, rfl⟩ | ⟨rfl, rfl⟩ | ⟨rfl, rfl⟩ | ⟨rfl, rfl⟩ | ⟨rfl, rfl⟩ | ⟨rfl, rfl⟩ | ⟨rfl, rfl⟩ | ⟨rfl, rfl⟩ | ⟨rfl, rfl⟩ | ⟨rfl, rfl⟩ | ⟨rfl, rfl⟩
      · exact r0_0_40
      · exact r0_1_40
      · exact r0_2_40
      · exact r0_3_40
      · exact r0_4_40
      · exact r0_5_40
      · exact r0_6_40
      · exact r0_7_40
      · exact r0_8_40
      · exact r0_9_40
      · exact r0_10_40
    · intro k f q
      rw [pe] at q
      exact (rdc_0 k f q).elim
    · intro j f q
      rw [pe] at q
      cases q
    · intro q
      rw [pe] at q
      cases q
    · intro q
      rw [pe] at q
      cases q
  have cN : hc_ (417) [] w h40 := d40_0
  refine ⟨h40, ia_Ev_intro ok_I_init (hc_cap hh cN (by decide)).1 (hc_cap hh cN (by decide)).2 (Nat.le_of_ble_eq_true rfl) (fun K hK hret => ?_), cN, f40, z1_40, z3_40, z214_40⟩
  show K 0 [some (.inr (.inr 64)), none] [] h
  refine ia_go hK ck_I_init_0_0 ?_
  show K 1 [some (.inr (.inr 64)), none] [.inr (.inr 64)] h
  refine ia_obj hK (ia_tb_in (List.mem_of_getElem? (i := 159) (by decide +kernel)) rfl) dc_I_init_1 (by decide) (Nat.le_of_ble_eq_true rfl) ?_
  show K 4 [some (.inr (.inr 64)), none] [] h
  refine ia_go hK ck_I_init_4_2 ?_
  show K 5 [some (.inr (.inr 64)), none] [.inr (.inr 64)] h
  refine kw_new hK (ci := 10) (by decide) (ia_tb_in (List.mem_of_getElem? (i := 162) (by decide +kernel)) rfl) (ia_tb_in (List.mem_of_getElem? (i := 163) (by decide +kernel)) rfl) (ia_tb_in (List.mem_of_getElem? (i := 134) (by decide +kernel)) rfl) dc_I_init_5 rfl e1 (hc_at hh) (hc_cap c1 cN (by decide)) ?_
  show K 8 [some (.inr (.inr 64)), none] [.inr (.inr 65), .inr (.inr 64)] h1
  refine ia_go hK ck_I_init_8_5 ?_
  show K 9 [some (.inr (.inr 64)), none] [.inr (.inr 65), .inr (.inr 65), .inr (.inr 64)] h1
  refine ia_callI hK mk_To_init lk_0_9 dc_I_init_9 (by decide) [] [.inr (.inr 65), .inr (.inr 64)] rfl rfl (Nat.le_of_ble_eq_true rfl) v2 (hc_cap c2 cN (by decide)) ?_
  show K 12 [some (.inr (.inr 64)), none] [.inr (.inr 65), .inr (.inr 64)] h2
  refine ia_go hK ck_I_init_12_7 ⟨hc_k c2 (by decide) (by decide) pe, ?_⟩
  show K 15 [some (.inr (.inr 64)), none] [] (ia_wR h2 64 0 65)
  rw [← e3]
  refine ia_go hK ck_I_init_15_8 ?_
  show K 17 [some (.inr (.inr 64)), none] [.inl 3, .inr (.inr 64)] h3
  refine kw_newq hK (ci := 10) (k := 114) rfl (ia_tb_in (List.mem_of_getElem? (i := 162) (by decide +kernel)) rfl) dc_I_init_17 rfl ⟨by decide, by decide, by decide⟩ e4 (hc_at c3) (hc_cap c4 cN (by decide)) ?_
  show K 20 [some (.inr (.inr 64)), none] [.inr (.inr 118), .inr (.inr 64)] h4
  refine ia_go hK ck_I_init_20_11 ⟨hc_k c4 (by decide) (by decide) pe, ?_⟩
  show K 23 [some (.inr (.inr 64)), none] [] (ia_wR h4 64 1 118)
  rw [← e5]
  refine ia_go hK ck_I_init_23_12 ⟨fun c => absurd c (by decide), fun _ => ?_⟩
  show K 30 [some (.inr (.inr 64)), some (.inl 0)] [] h5
  refine ia_go hK ck_I_init_30_13 ⟨hc_k c5 (by decide) (by decide) pe, r0_1_5, ?_⟩
  show K 34 [some (.inr (.inr 64)), some (.inl 0)] [.inr (.inr 118)] h5
  refine ia_go hK ck_I_init_34_14 ?_
  show K 35 [some (.inr (.inr 64)), some (.inl 0)] [.inl 0, .inr (.inr 118)] h5
  refine kw_new hK (ci := 10) (by decide) (ia_tb_in (List.mem_of_getElem? (i := 162) (by decide +kernel)) rfl) (ia_tb_in (List.mem_of_getElem? (i := 163) (by decide +kernel)) rfl) (ia_tb_in (List.mem_of_getElem? (i := 134) (by decide +kernel)) rfl) dc_I_init_35 rfl e6 (hc_at c5) (hc_cap c6 cN (by decide)) ?_
  show K 38 [some (.inr (.inr 64)), some (.inl 0)] [.inr (.inr 119), .inl 0, .inr (.inr 118)] h6
  refine ia_go hK ck_I_init_38_17 ?_
  show K 39 [some (.inr (.inr 64)), some (.inl 0)] [.inr (.inr 119), .inr (.inr 119), .inl 0, .inr (.inr 118)] h6
  refine ia_callI hK mk_To_init lk_0_9 dc_I_init_39 (by decide) [] [.inr (.inr 119), .inl 0, .inr (.inr 118)] rfl rfl (Nat.le_of_ble_eq_true rfl) v7 (hc_cap c7 cN (by decide)) ?_
  show K 42 [some (.inr (.inr 64)), some (.inl 0)] [.inr (.inr 119), .inl 0, .inr (.inr 118)] h7
  refine ia_go hK ck_I_init_42_19 ⟨⟨(by decide), hc_k c7 (by decide) (by decide) (congrArg Prod.fst ks_0_54), hc_in c7 (by decide) (by decide) ks_0_54 (by decide), hc_k c7 (by decide) (by decide) (congrArg Prod.fst ks_0_55)⟩, ?_⟩
  show K 43 [some (.inr (.inr 64)), some (.inl 0)] [] (ia_wR h7 118 0 119)
  rw [← e8]
  refine ia_go hK ck_I_init_43_20 ?_
  show K 25 [some (.inr (.inr 64)), some (.inl 1)] [] h8
  refine ia_go hK ck_I_init_25_21 ⟨fun c => absurd c (by decide), fun _ => ?_⟩
  show K 30 [some (.inr (.inr 64)), some (.inl 1)] [] h8
  refine ia_go hK ck_I_init_30_22 ⟨hc_k c8 (by decide) (by decide) pe, r0_1_8, ?_⟩
  show K 34 [some (.inr (.inr 64)), some (.inl 1)] [.inr (.inr 118)] h8
  refine ia_go hK ck_I_init_34_23 ?_
  show K 35 [some (.inr (.inr 64)), some (.inl 1)] [.inl 1, .inr (.inr 118)] h8
  refine kw_new hK (ci := 10) (by decide) (ia_tb_in (List.mem_of_getElem? (i := 162) (by decide +kernel)) rfl) (ia_tb_in (List.mem_of_getElem? (i := 163) (by decide +kernel)) rfl) (ia_tb_in (List.mem_of_getElem? (i := 134) (by decide +kernel)) rfl) dc_I_init_35 rfl e9 (hc_at c8) (hc_cap c9 cN (by decide)) ?_
  show K 38 [some (.inr (.inr 64)), some (.inl 1)] [.inr (.inr 172), .inl 1, .inr (.inr 118)] h9
  refine ia_go hK ck_I_init_38_25 ?_
  show K 39 [some (.inr (.inr 64)), some (.inl 1)] [.inr (.inr 172), .inr (.inr 172), .inl 1, .inr (.inr 118)] h9
  refine ia_callI hK mk_To_init lk_0_9 dc_I_init_39 (by decide) [] [.inr (.inr 172), .inl 1, .inr (.inr 118)] rfl rfl (Nat.le_of_ble_eq_true rfl) v10 (hc_cap c10 cN (by decide)) ?_
  show K 42 [some (.inr (.inr 64)), some (.inl 1)] [.inr (.inr 172), .inl 1, .inr (.inr 118)] h10
  refine ia_go hK ck_I_init_42_26 ⟨⟨(by decide), hc_k c10 (by decide) (by decide) (congrArg Prod.fst ks_0_54), hc_in c10 (by decide) (by decide) ks_0_54 (by decide), hc_k c10 (by decide) (by decide) (congrArg Prod.fst ks_0_108)⟩, ?_⟩
  show K 43 [some (.inr (.inr 64)), some (.inl 1)] [] (ia_wR h10 118 1 172)
  rw [← e11]
  refine ia_go hK ck_I_init_43_27 ?_
  show K 25 [some (.inr (.inr 64)), some (.inl 2)] [] h11
  refine ia_go hK ck_I_init_25_28 ⟨fun c => absurd c (by decide), fun _ => ?_⟩
  show K 30 [some (.inr (.inr 64)), some (.inl 2)] [] h11
  refine ia_go hK ck_I_init_30_29 ⟨hc_k c11 (by decide) (by decide) pe, r0_1_11, ?_⟩
  show K 34 [some (.inr (.inr 64)), some (.inl 2)] [.inr (.inr 118)] h11
  refine ia_go hK ck_I_init_34_30 ?_
  show K 35 [some (.inr (.inr 64)), some (.inl 2)] [.inl 2, .inr (.inr 118)] h11
  refine kw_new hK (ci := 10) (by decide) (ia_tb_in (List.mem_of_getElem? (i := 162) (by decide +kernel)) rfl) (ia_tb_in (List.mem_of_getElem? (i := 163) (by decide +kernel)) rfl) (ia_tb_in (List.mem_of_getElem? (i := 134) (by decide +kernel)) rfl) dc_I_init_35 rfl e12 (hc_at c11) (hc_cap c12 cN (by decide)) ?_
  show K 38 [some (.inr (.inr 64)), some (.inl 2)] [.inr (.inr 225), .inl 2, .inr (.inr 118)] h12
  refine ia_go hK ck_I_init_38_32 ?_
  show K 39 [some (.inr (.inr 64)), some (.inl 2)] [.inr (.inr 225), .inr (.inr 225), .inl 2, .inr (.inr 118)] h12
  refine ia_callI hK mk_To_init lk_0_9 dc_I_init_39 (by decide) [] [.inr (.inr 225), .inl 2, .inr (.inr 118)] rfl rfl (Nat.le_of_ble_eq_true rfl) v13 (hc_cap c13 cN (by decide)) ?_
  show K 42 [some (.inr (.inr 64)), some (.inl 2)] [.inr (.inr 225), .inl 2, .inr (.inr 118)] h13
  refine ia_go hK ck_I_init_42_33 ⟨⟨(by decide), hc_k c13 (by decide) (by decide) (congrArg Prod.fst ks_0_54), hc_in c13 (by decide) (by decide) ks_0_54 (by decide), hc_k c13 (by decide) (by decide) (congrArg Prod.fst ks_0_161)⟩, ?_⟩
  show K 43 [some (.inr (.inr 64)), some (.inl 2)] [] (ia_wR h13 118 2 225)
  rw [← e14]
  refine ia_go hK ck_I_init_43_34 ?_
  show K 25 [some (.inr (.inr 64)), some (.inl 3)] [] h14
  refine ia_go hK ck_I_init_25_35 ⟨fun _ => ?_, fun c => absurd (by decide) c⟩
  show K 49 [some (.inr (.inr 64)), some (.inl 3)] [] h14
  refine ia_go hK ck_I_init_49_36 ?_
  show K 51 [some (.inr (.inr 64)), some (.inl 3)] [.inl 3, .inr (.inr 64)] h14
  refine kw_arr hK (at_ := .boolean) (k := 101) (ty := .boolean) rfl (ia_tb_in (by decide +kernel) rfl) dc_I_init_51 (Or.inr (Or.inl ⟨rfl, rfl⟩)) ⟨by decide, by decide, by decide⟩ e15 (hc_at d14_54) (hc_cap c15 cN (by decide)) ?_
  show K 53 [some (.inr (.inr 64)), some (.inl 3)] [.inr (.inr 278), .inr (.inr 64)] h15
  refine ia_go hK ck_I_init_53_39 ⟨hc_k c15 (by decide) (by decide) pe, ?_⟩
  show K 56 [some (.inr (.inr 64)), some (.inl 3)] [] (ia_wR h15 64 2 278)
  rw [← e16]
  refine ia_go hK ck_I_init_56_40 ?_
  show K 57 [some (.inr (.inr 64)), some (.inl 3)] [.inr (.inr 64)] h16
  refine kw_new hK (ci := 7) (by decide) (ia_tb_in (List.mem_of_getElem? (i := 421) (by decide +kernel)) rfl) (ia_tb_in (List.mem_of_getElem? (i := 422) (by decide +kernel)) rfl) (ia_tb_in (List.mem_of_getElem? (i := 139) (by decide +kernel)) rfl) dc_I_init_57 rfl e17 (hc_at c16) (hc_cap c17 cN (by decide)) ?_
  show K 60 [some (.inr (.inr 64)), some (.inl 3)] [.inr (.inr 279), .inr (.inr 64)] h17
  refine ia_go hK ck_I_init_60_43 ?_
  show K 61 [some (.inr (.inr 64)), some (.inl 3)] [.inr (.inr 279), .inr (.inr 279), .inr (.inr 64)] h17
  refine ia_callI hK mk_Re_init lk_0_26 dc_I_init_61 (by decide) [] [.inr (.inr 279), .inr (.inr 64)] rfl rfl (Nat.le_of_ble_eq_true rfl) v18 (hc_cap c18 cN (by decide)) ?_
  show K 64 [some (.inr (.inr 64)), some (.inl 3)] [.inr (.inr 279), .inr (.inr 64)] h18
  refine ia_go hK ck_I_init_64_45 ⟨hc_k c18 (by decide) (by decide) pe, ?_⟩
  show K 67 [some (.inr (.inr 64)), some (.inl 3)] [] (ia_wR h18 64 3 279)
  rw [← e19]
  refine ia_go hK ck_I_init_67_46 ?_
  show K 68 [some (.inr (.inr 64)), some (.inl 3)] [.inr (.inr 64)] h19
  refine kw_new hK (ci := 9) (by decide) (ia_tb_in (List.mem_of_getElem? (i := 488) (by decide +kernel)) rfl) (ia_tb_in (List.mem_of_getElem? (i := 489) (by decide +kernel)) rfl) (ia_tb_in (List.mem_of_getElem? (i := 140) (by decide +kernel)) rfl) dc_I_init_68 rfl e20 (hc_at c19) (hc_cap c20 cN (by decide)) ?_
  show K 71 [some (.inr (.inr 64)), some (.inl 3)] [.inr (.inr 303), .inr (.inr 64)] h20
  refine ia_go hK ck_I_init_71_49 ⟨hc_k c20 (by decide) (by decide) pe, r0_0_20, ?_⟩
  show K 76 [some (.inr (.inr 64)), some (.inl 3)] [.inr (.inr 65), .inr (.inr 303), .inr (.inr 303), .inr (.inr 64)] h20
  refine ia_go hK ck_I_init_76_50 ⟨hc_k c20 (by decide) (by decide) (congrArg Prod.fst ks_0_1), hc_o (e := 65) (k := 5) (f := 3) c20 (by decide) (by decide) (by decide +kernel), ?_⟩
  show K 79 [some (.inr (.inr 64)), some (.inl 3)] [.inr (.inr 68), .inr (.inr 303), .inr (.inr 303), .inr (.inr 64)] h20
  refine ia_go hK ck_I_init_79_52 ⟨⟨by decide, hc_k c20 (by decide) (by decide) (congrArg Prod.fst ks_0_4), hc_in c20 (by decide) (by decide) ks_0_4 (by decide), hc_s (e := 68) (j := 0) (f := 12) c20 (by decide) (by decide) (by decide +kernel) (by decide +kernel)⟩, ?_⟩
  show K 81 [some (.inr (.inr 64)), some (.inl 3)] [.inr (.inr 69), .inr (.inr 303), .inr (.inr 303), .inr (.inr 64)] h20
  refine ia_go hK ck_I_init_81_53 ⟨hc_k c20 (by decide) (by decide) pe, r0_0_20, ?_⟩
  show K 85 [some (.inr (.inr 64)), some (.inl 3)] [.inr (.inr 65), .inr (.inr 69), .inr (.inr 303), .inr (.inr 303), .inr (.inr 64)] h20
  refine ia_go hK ck_I_init_85_54 ⟨hc_k c20 (by decide) (by decide) (congrArg Prod.fst ks_0_1), hc_o (e := 65) (k := 6) (f := 28) c20 (by decide) (by decide) (by decide +kernel), ?_⟩
  show K 88 [some (.inr (.inr 64)), some (.inl 3)] [.inr (.inr 93), .inr (.inr 69), .inr (.inr 303), .inr (.inr 303), .inr (.inr 64)] h20
  refine ia_go hK ck_I_init_88_56 ⟨⟨by decide, hc_k c20 (by decide) (by decide) (congrArg Prod.fst ks_0_29), hc_in c20 (by decide) (by decide) ks_0_29 (by decide), hc_s (e := 93) (j := 0) (f := 4) c20 (by decide) (by decide) (by decide +kernel) (by decide +kernel)⟩, ?_⟩
  show K 90 [some (.inr (.inr 64)), some (.inl 3)] [.inr (.inr 94), .inr (.inr 69), .inr (.inr 303), .inr (.inr 303), .inr (.inr 64)] h20
  refine ia_callI hK mk_Sc_init lk_0_41 dc_I_init_90 (by decide) [.inr (.inr 69), .inr (.inr 94)] [.inr (.inr 303), .inr (.inr 64)] rfl rfl (Nat.le_of_ble_eq_true rfl) v21 (hc_cap c21 cN (by decide)) ?_
  show K 93 [some (.inr (.inr 64)), some (.inl 3)] [.inr (.inr 303), .inr (.inr 64)] h21
  refine ia_go hK ck_I_init_93_60 ⟨hc_k c21 (by decide) (by decide) pe, ?_⟩
  show K 96 [some (.inr (.inr 64)), some (.inl 3)] [] (ia_wR h21 64 4 303)
  rw [← e22]
  refine ia_go hK ck_I_init_96_61 ?_
  show K 97 [some (.inr (.inr 64)), some (.inl 3)] [.inr (.inr 64)] h22
  refine kw_new hK (ci := 11) (by decide) (ia_tb_in (List.mem_of_getElem? (i := 555) (by decide +kernel)) rfl) (ia_tb_in (List.mem_of_getElem? (i := 556) (by decide +kernel)) rfl) (ia_tb_in (List.mem_of_getElem? (i := 141) (by decide +kernel)) rfl) dc_I_init_97 rfl e23 (hc_at c22) (hc_cap c23 cN (by decide)) ?_
  show K 100 [some (.inr (.inr 64)), some (.inl 3)] [.inr (.inr 311), .inr (.inr 64)] h23
  refine ia_go hK ck_I_init_100_64 ⟨hc_k c23 (by decide) (by decide) pe, r0_0_23, ?_⟩
  show K 105 [some (.inr (.inr 64)), some (.inl 3)] [.inr (.inr 65), .inr (.inr 311), .inr (.inr 311), .inr (.inr 64)] h23
  refine ia_go hK ck_I_init_105_65 ⟨hc_k c23 (by decide) (by decide) (congrArg Prod.fst ks_0_1), hc_o (e := 65) (k := 5) (f := 3) c23 (by decide) (by decide) (by decide +kernel), ?_⟩
  show K 108 [some (.inr (.inr 64)), some (.inl 3)] [.inr (.inr 68), .inr (.inr 311), .inr (.inr 311), .inr (.inr 64)] h23
  refine ia_go hK ck_I_init_108_66 ⟨⟨by decide, hc_k c23 (by decide) (by decide) (congrArg Prod.fst ks_0_4), hc_in c23 (by decide) (by decide) ks_0_4 (by decide), hc_s (e := 68) (j := 0) (f := 12) c23 (by decide) (by decide) (by decide +kernel) (by decide +kernel)⟩, ?_⟩
  show K 110 [some (.inr (.inr 64)), some (.inl 3)] [.inr (.inr 69), .inr (.inr 311), .inr (.inr 311), .inr (.inr 64)] h23
  refine ia_go hK ck_I_init_110_67 ⟨hc_k c23 (by decide) (by decide) pe, r0_0_23, ?_⟩
  show K 114 [some (.inr (.inr 64)), some (.inl 3)] [.inr (.inr 65), .inr (.inr 69), .inr (.inr 311), .inr (.inr 311), .inr (.inr 64)] h23
  refine ia_go hK ck_I_init_114_68 ⟨hc_k c23 (by decide) (by decide) (congrArg Prod.fst ks_0_1), hc_o (e := 65) (k := 6) (f := 28) c23 (by decide) (by decide) (by decide +kernel), ?_⟩
  show K 117 [some (.inr (.inr 64)), some (.inl 3)] [.inr (.inr 93), .inr (.inr 69), .inr (.inr 311), .inr (.inr 311), .inr (.inr 64)] h23
  refine ia_go hK ck_I_init_117_69 ⟨⟨by decide, hc_k c23 (by decide) (by decide) (congrArg Prod.fst ks_0_29), hc_in c23 (by decide) (by decide) ks_0_29 (by decide), hc_s (e := 93) (j := 0) (f := 4) c23 (by decide) (by decide) (by decide +kernel) (by decide +kernel)⟩, ?_⟩
  show K 119 [some (.inr (.inr 64)), some (.inl 3)] [.inr (.inr 94), .inr (.inr 69), .inr (.inr 311), .inr (.inr 311), .inr (.inr 64)] h23
  refine ia_callI hK mk_Wa_init lk_0_50 dc_I_init_119 (by decide) [.inr (.inr 69), .inr (.inr 94)] [.inr (.inr 311), .inr (.inr 64)] rfl rfl (Nat.le_of_ble_eq_true rfl) v24 (hc_cap c24 cN (by decide)) ?_
  show K 122 [some (.inr (.inr 64)), some (.inl 3)] [.inr (.inr 311), .inr (.inr 64)] h24
  refine ia_go hK ck_I_init_122_71 ⟨hc_k c24 (by decide) (by decide) pe, ?_⟩
  show K 125 [some (.inr (.inr 64)), some (.inl 3)] [] (ia_wR h24 64 5 311)
  rw [← e25]
  refine ia_go hK ck_I_init_125_72 ?_
  show K 126 [some (.inr (.inr 64)), some (.inl 3)] [.inr (.inr 64)] h25
  refine kw_new hK (ci := 1) (by decide) (ia_tb_in (List.mem_of_getElem? (i := 602) (by decide +kernel)) rfl) (ia_tb_in (List.mem_of_getElem? (i := 603) (by decide +kernel)) rfl) (ia_tb_in (List.mem_of_getElem? (i := 142) (by decide +kernel)) rfl) dc_I_init_126 rfl e26 (hc_at c25) (hc_cap c26 cN (by decide)) ?_
  show K 129 [some (.inr (.inr 64)), some (.inl 3)] [.inr (.inr 325), .inr (.inr 64)] h26
  refine ia_go hK ck_I_init_129_75 ⟨hc_k c26 (by decide) (by decide) pe, r0_5_26, ?_⟩
  show K 134 [some (.inr (.inr 64)), some (.inl 3)] [.inr (.inr 311), .inr (.inr 325), .inr (.inr 325), .inr (.inr 64)] h26
  refine ia_callI hK mk_De_init lk_0_57 dc_I_init_134 (by decide) [.inr (.inr 311)] [.inr (.inr 325), .inr (.inr 64)] rfl rfl (Nat.le_of_ble_eq_true rfl) v27 (hc_cap c27 cN (by decide)) ?_
  show K 137 [some (.inr (.inr 64)), some (.inl 3)] [.inr (.inr 325), .inr (.inr 64)] h27
  refine ia_go hK ck_I_init_137_77 ⟨hc_k c27 (by decide) (by decide) pe, ?_⟩
  show K 140 [some (.inr (.inr 64)), some (.inl 3)] [] (ia_wR h27 64 6 325)
  rw [← e28]
  refine ia_go hK ck_I_init_140_78 ?_
  show K 141 [some (.inr (.inr 64)), some (.inl 3)] [.inr (.inr 64)] h28
  refine kw_new hK (ci := 5) (by decide) (ia_tb_in (List.mem_of_getElem? (i := 612) (by decide +kernel)) rfl) (ia_tb_in (List.mem_of_getElem? (i := 613) (by decide +kernel)) rfl) (ia_tb_in (List.mem_of_getElem? (i := 143) (by decide +kernel)) rfl) dc_I_init_141 rfl e29 (hc_at c28) (hc_cap c29 cN (by decide)) ?_
  show K 144 [some (.inr (.inr 64)), some (.inl 3)] [.inr (.inr 326), .inr (.inr 64)] h29
  refine ia_go hK ck_I_init_144_81 ⟨hc_k c29 (by decide) (by decide) pe, r0_5_29, ?_⟩
  show K 149 [some (.inr (.inr 64)), some (.inl 3)] [.inr (.inr 311), .inr (.inr 326), .inr (.inr 326), .inr (.inr 64)] h29
  refine ia_go hK ck_I_init_149_82 ⟨hc_k c29 (by decide) (by decide) pe, r0_0_29, ?_⟩
  show K 153 [some (.inr (.inr 64)), some (.inl 3)] [.inr (.inr 65), .inr (.inr 311), .inr (.inr 326), .inr (.inr 326), .inr (.inr 64)] h29
  refine ia_go hK ck_I_init_153_83 ⟨hc_k c29 (by decide) (by decide) (congrArg Prod.fst ks_0_1), hc_o (e := 65) (k := 5) (f := 3) c29 (by decide) (by decide) (by decide +kernel), ?_⟩
  show K 156 [some (.inr (.inr 64)), some (.inl 3)] [.inr (.inr 68), .inr (.inr 311), .inr (.inr 326), .inr (.inr 326), .inr (.inr 64)] h29
  refine ia_go hK ck_I_init_156_84 ⟨⟨by decide, hc_k c29 (by decide) (by decide) (congrArg Prod.fst ks_0_4), hc_in c29 (by decide) (by decide) ks_0_4 (by decide), hc_s (e := 68) (j := 0) (f := 12) c29 (by decide) (by decide) (by decide +kernel) (by decide +kernel)⟩, ?_⟩
  show K 158 [some (.inr (.inr 64)), some (.inl 3)] [.inr (.inr 69), .inr (.inr 311), .inr (.inr 326), .inr (.inr 326), .inr (.inr 64)] h29
  refine ia_go hK ck_I_init_158_85 ⟨hc_k c29 (by decide) (by decide) pe, r0_0_29, ?_⟩
  show K 162 [some (.inr (.inr 64)), some (.inl 3)] [.inr (.inr 65), .inr (.inr 69), .inr (.inr 311), .inr (.inr 326), .inr (.inr 326), .inr (.inr 64)] h29
  refine ia_go hK ck_I_init_162_86 ⟨hc_k c29 (by decide) (by decide) (congrArg Prod.fst ks_0_1), hc_o (e := 65) (k := 6) (f := 28) c29 (by decide) (by decide) (by decide +kernel), ?_⟩
  show K 165 [some (.inr (.inr 64)), some (.inl 3)] [.inr (.inr 93), .inr (.inr 69), .inr (.inr 311), .inr (.inr 326), .inr (.inr 326), .inr (.inr 64)] h29
  refine ia_go hK ck_I_init_165_87 ⟨⟨by decide, hc_k c29 (by decide) (by decide) (congrArg Prod.fst ks_0_29), hc_in c29 (by decide) (by decide) ks_0_29 (by decide), hc_s (e := 93) (j := 0) (f := 4) c29 (by decide) (by decide) (by decide +kernel) (by decide +kernel)⟩, ?_⟩
  show K 167 [some (.inr (.inr 64)), some (.inl 3)] [.inr (.inr 94), .inr (.inr 69), .inr (.inr 311), .inr (.inr 326), .inr (.inr 326), .inr (.inr 64)] h29
  refine ia_callI hK mk_Ou_init lk_0_66 dc_I_init_167 (by decide) [.inr (.inr 311), .inr (.inr 69), .inr (.inr 94)] [.inr (.inr 326), .inr (.inr 64)] rfl rfl (Nat.le_of_ble_eq_true rfl) v30 (hc_cap c30 cN (by decide)) ?_
  show K 170 [some (.inr (.inr 64)), some (.inl 3)] [.inr (.inr 326), .inr (.inr 64)] h30
  refine ia_go hK ck_I_init_170_89 ⟨hc_k c30 (by decide) (by decide) pe, ?_⟩
  show K 173 [some (.inr (.inr 64)), some (.inl 3)] [] (ia_wR h30 64 7 326)
  rw [← e31]
  refine ia_go hK ck_I_init_173_90 ?_
  show K 174 [some (.inr (.inr 64)), some (.inl 3)] [.inr (.inr 64)] h31
  refine kw_new hK (ci := 2) (by decide) (ia_tb_in (List.mem_of_getElem? (i := 636) (by decide +kernel)) rfl) (ia_tb_in (List.mem_of_getElem? (i := 637) (by decide +kernel)) rfl) (ia_tb_in (List.mem_of_getElem? (i := 144) (by decide +kernel)) rfl) dc_I_init_174 rfl e32 (hc_at c31) (hc_cap c32 cN (by decide)) ?_
  show K 177 [some (.inr (.inr 64)), some (.inl 3)] [.inr (.inr 345), .inr (.inr 64)] h32
  refine ia_go hK ck_I_init_177_93 ⟨hc_k c32 (by decide) (by decide) pe, r0_5_32, ?_⟩
  show K 182 [some (.inr (.inr 64)), some (.inl 3)] [.inr (.inr 311), .inr (.inr 345), .inr (.inr 345), .inr (.inr 64)] h32
  refine ia_go hK ck_I_init_182_94 ⟨hc_k c32 (by decide) (by decide) pe, r0_0_32, ?_⟩
  show K 186 [some (.inr (.inr 64)), some (.inl 3)] [.inr (.inr 65), .inr (.inr 311), .inr (.inr 345), .inr (.inr 345), .inr (.inr 64)] h32
  refine ia_go hK ck_I_init_186_95 ⟨hc_k c32 (by decide) (by decide) (congrArg Prod.fst ks_0_1), hc_o (e := 65) (k := 5) (f := 3) c32 (by decide) (by decide) (by decide +kernel), ?_⟩
  show K 189 [some (.inr (.inr 64)), some (.inl 3)] [.inr (.inr 68), .inr (.inr 311), .inr (.inr 345), .inr (.inr 345), .inr (.inr 64)] h32
  refine ia_go hK ck_I_init_189_96 ⟨⟨by decide, hc_k c32 (by decide) (by decide) (congrArg Prod.fst ks_0_4), hc_in c32 (by decide) (by decide) ks_0_4 (by decide), hc_s (e := 68) (j := 0) (f := 12) c32 (by decide) (by decide) (by decide +kernel) (by decide +kernel)⟩, ?_⟩
  show K 191 [some (.inr (.inr 64)), some (.inl 3)] [.inr (.inr 69), .inr (.inr 311), .inr (.inr 345), .inr (.inr 345), .inr (.inr 64)] h32
  refine ia_go hK ck_I_init_191_97 ⟨hc_k c32 (by decide) (by decide) pe, r0_0_32, ?_⟩
  show K 195 [some (.inr (.inr 64)), some (.inl 3)] [.inr (.inr 65), .inr (.inr 69), .inr (.inr 311), .inr (.inr 345), .inr (.inr 345), .inr (.inr 64)] h32
  refine ia_go hK ck_I_init_195_98 ⟨hc_k c32 (by decide) (by decide) (congrArg Prod.fst ks_0_1), hc_o (e := 65) (k := 6) (f := 28) c32 (by decide) (by decide) (by decide +kernel), ?_⟩
  show K 198 [some (.inr (.inr 64)), some (.inl 3)] [.inr (.inr 93), .inr (.inr 69), .inr (.inr 311), .inr (.inr 345), .inr (.inr 345), .inr (.inr 64)] h32
  refine ia_go hK ck_I_init_198_99 ⟨⟨by decide, hc_k c32 (by decide) (by decide) (congrArg Prod.fst ks_0_29), hc_in c32 (by decide) (by decide) ks_0_29 (by decide), hc_s (e := 93) (j := 0) (f := 4) c32 (by decide) (by decide) (by decide +kernel) (by decide +kernel)⟩, ?_⟩
  show K 200 [some (.inr (.inr 64)), some (.inl 3)] [.inr (.inr 94), .inr (.inr 69), .inr (.inr 311), .inr (.inr 345), .inr (.inr 345), .inr (.inr 64)] h32
  refine ia_callI hK mk_Dr_init lk_0_75 dc_I_init_200 (by decide) [.inr (.inr 311), .inr (.inr 69), .inr (.inr 94)] [.inr (.inr 345), .inr (.inr 64)] rfl rfl (Nat.le_of_ble_eq_true rfl) v33 (hc_cap c33 cN (by decide)) ?_
  show K 203 [some (.inr (.inr 64)), some (.inl 3)] [.inr (.inr 345), .inr (.inr 64)] h33
  refine ia_go hK ck_I_init_203_101 ⟨hc_k c33 (by decide) (by decide) pe, ?_⟩
  show K 206 [some (.inr (.inr 64)), some (.inl 3)] [] (ia_wR h33 64 8 345)
  rw [← e34]
  refine ia_go hK ck_I_init_206_102 ?_
  show K 207 [some (.inr (.inr 64)), some (.inl 3)] [.inr (.inr 64)] h34
  refine kw_new hK (ci := 8) (by decide) (ia_tb_in (List.mem_of_getElem? (i := 669) (by decide +kernel)) rfl) (ia_tb_in (List.mem_of_getElem? (i := 670) (by decide +kernel)) rfl) (ia_tb_in (List.mem_of_getElem? (i := 145) (by decide +kernel)) rfl) dc_I_init_207 rfl e35 (hc_at c34) (hc_cap c35 cN (by decide)) ?_
  show K 210 [some (.inr (.inr 64)), some (.inl 3)] [.inr (.inr 413), .inr (.inr 64)] h35
  refine ia_go hK ck_I_init_210_105 ?_
  show K 211 [some (.inr (.inr 64)), some (.inl 3)] [.inr (.inr 413), .inr (.inr 413), .inr (.inr 64)] h35
  refine ia_callI hK mk_Ro_init lk_0_82 dc_I_init_211 (by decide) [] [.inr (.inr 413), .inr (.inr 64)] rfl rfl (Nat.le_of_ble_eq_true rfl) v36 (hc_cap c36 cN (by decide)) ?_
  show K 214 [some (.inr (.inr 64)), some (.inl 3)] [.inr (.inr 413), .inr (.inr 64)] h36
  refine ia_go hK ck_I_init_214_107 ⟨hc_k c36 (by decide) (by decide) pe, ?_⟩
  show K 217 [some (.inr (.inr 64)), some (.inl 3)] [] (ia_wR h36 64 9 413)
  rw [← e37]
  refine ia_go hK ck_I_init_217_108 ?_
  show K 218 [some (.inr (.inr 64)), some (.inl 3)] [.inr (.inr 64)] h37
  refine kw_new hK (ci := 8) (by decide) (ia_tb_in (List.mem_of_getElem? (i := 669) (by decide +kernel)) rfl) (ia_tb_in (List.mem_of_getElem? (i := 670) (by decide +kernel)) rfl) (ia_tb_in (List.mem_of_getElem? (i := 145) (by decide +kernel)) rfl) dc_I_init_218 rfl e38 (hc_at c37) (hc_cap c38 cN (by decide)) ?_
  show K 221 [some (.inr (.inr 64)), some (.inl 3)] [.inr (.inr 415), .inr (.inr 64)] h38
  refine ia_go hK ck_I_init_221_111 ?_
  show K 222 [some (.inr (.inr 64)), some (.inl 3)] [.inr (.inr 415), .inr (.inr 415), .inr (.inr 64)] h38
  refine ia_callI hK mk_Ro_init lk_0_82 dc_I_init_222 (by decide) [] [.inr (.inr 415), .inr (.inr 64)] rfl rfl (Nat.le_of_ble_eq_true rfl) v39 (hc_cap c39 cN (by decide)) ?_
  show K 225 [some (.inr (.inr 64)), some (.inl 3)] [.inr (.inr 415), .inr (.inr 64)] h39
  refine ia_go hK ck_I_init_225_113 ⟨hc_k c39 (by decide) (by decide) pe, ?_⟩
  show K 228 [some (.inr (.inr 64)), some (.inl 3)] [] (ia_wR h39 64 10 415)
  rw [← e40]
  exact hret 228 _ dc_I_init_228
