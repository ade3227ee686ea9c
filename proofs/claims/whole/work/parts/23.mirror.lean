def mm_Lw_become : ia_M := (⟨"IceStreet$Law", "become", "(LIceStreet$Law;)V"⟩, prog_5_method_3_code, 2, none, 4, false)
theorem ok_Lw_become : ia_mok mm_Lw_become := ⟨by decide +kernel, by decide +kernel, by decide +kernel, by decide +kernel⟩
theorem mk_Lw_become : ia_mkn mm_Lw_become 1 1 := ⟨ia_tb_in (List.mem_of_getElem? (i := 983) (by decide +kernel)) rfl, ia_tb_in (List.mem_of_getElem? (i := 137) (by decide +kernel)) rfl, by decide +kernel, by decide +kernel, ⟨ia_tb_in (List.mem_of_getElem? (i := 981) (by decide +kernel)) rfl, ia_tb_in (List.mem_of_getElem? (i := 982) (by decide +kernel)) rfl⟩⟩
theorem ck_Lw_become_0 : ia_cks 4 2 false prog_5_method_3_code 0 [(.aload_n 0, 0, 0, 0, 0), (.aload_n 1, 0, 0, 0, 0), (.getfield 25, 4, 0, 0, 0), (.putfield 25, 4, 0, 0, 0), (.aload_n 0, 0, 0, 0, 0), (.aload_n 1, 0, 0, 0, 0), (.getfield 29, 4, 1, 0, 0), (.putfield 29, 4, 1, 0, 0), (.aload_n 0, 0, 0, 0, 0), (.aload_n 1, 0, 0, 0, 0), (.getfield 32, 4, 2, 0, 0), (.putfield 32, 4, 2, 0, 0), (.aload_n 0, 0, 0, 0, 0), (.aload_n 1, 0, 0, 0, 0), (.getfield 35, 4, 3, 0, 0), (.putfield 35, 4, 3, 0, 0)] = true := by decide +kernel
theorem ck_Lw_become_32 : ia_cks 4 2 false prog_5_method_3_code 32 [(.aload_n 0, 0, 0, 0, 0), (.aload_n 1, 0, 0, 0, 0), (.getfield 38, 4, 4, 0, 0), (.putfield 38, 4, 4, 0, 0), (.aload_n 1, 0, 0, 0, 0), (.getfield 9, 4, 5, 3, 1), (.iconst 0, 0, 0, 0, 0), (.aload_n 0, 0, 0, 0, 0), (.getfield 9, 4, 5, 3, 1), (.iconst 0, 0, 0, 0, 0), (.bipush 12, 0, 0, 0, 0)] = true := by decide +kernel
theorem ck_Lw_become_55 : ia_cks 4 2 false prog_5_method_3_code 55 [(.aload_n 1, 0, 0, 0, 0), (.getfield 15, 4, 6, 3, 2), (.iconst 0, 0, 0, 0, 0), (.aload_n 0, 0, 0, 0, 0), (.getfield 15, 4, 6, 3, 2), (.iconst 0, 0, 0, 0, 0), (.bipush 12, 0, 0, 0, 0)] = true := by decide +kernel
theorem ck_Lw_become_70 : ia_cks 4 2 false prog_5_method_3_code 70 [(.aload_n 0, 0, 0, 0, 0), (.aload_n 1, 0, 0, 0, 0), (.getfield 41, 4, 7, 1, 0), (.putfield 41, 4, 7, 1, 0), (.aload_n 1, 0, 0, 0, 0), (.getfield 18, 4, 8, 3, 3), (.iconst 0, 0, 0, 0, 0), (.aload_n 0, 0, 0, 0, 0), (.getfield 18, 4, 8, 3, 3), (.iconst 0, 0, 0, 0, 0), (.bipush 36, 0, 0, 0, 0)] = true := by decide +kernel
theorem dc_Lw_become_52 : decode prog_5_method_3_code 52 = .ok (.invokestatic 51, 3) := by decide +kernel
theorem dc_Lw_become_67 : decode prog_5_method_3_code 67 = .ok (.invokestatic 51, 3) := by decide +kernel
theorem dc_Lw_become_90 : decode prog_5_method_3_code 90 = .ok (.invokestatic 51, 3) := by decide +kernel
theorem dc_Lw_become_93 : decode prog_5_method_3_code 93 = .ok (.return_, 1) := by decide +kernel
def j_Lw_become_32 (a0 : Nat) (a1 : Nat) (h : ia_H) : Option ia_H := some (ia_cpL (ia_wL (ia_cpI (ia_cpI (ia_wI h a0 4 (ia_i h a1 4)) (a1 + 1) (a0 + 1) 0 0 12) (a1 + 2) (a0 + 2) 0 0 12) a0 7 (ia_l (ia_cpI (ia_cpI (ia_wI h a0 4 (ia_i h a1 4)) (a1 + 1) (a0 + 1) 0 0 12) (a1 + 2) (a0 + 2) 0 0 12) a1 7)) (a1 + 3) (a0 + 3) 0 0 36)
theorem tj_Lw_become_32 {w : ia_O0} {d N1 W1 : Nat} {K : ia_K} (hK : ia_isK (d + 0) mm_Lw_become N1 W1 K) {a0 : Nat} {a1 : Nat} (p0 : (kd_D a0).1 = 4) (p1 : (kd_D a1).1 = 4) {h1 : ia_H} (hret : ∀ (pc : Nat) (lv : ia_L), ia_ret mm_Lw_become pc none → K pc lv (none : Option ia_V).toList h1) : ∀ (h : ia_H), gd_ w h → j_Lw_become_32 a0 a1 h = some h1 → K 32 [some (.inr (.inr a0)), some (.inr (.inr a1))] [] h := by
  intro h hg hm
  unfold j_Lw_become_32 at hm
  refine ia_go hK ck_Lw_become_32 ⟨gk_4 hg p1, gk_4 hg p0, gk_4 (gd_wI hg (ko_4 p0)) p1, gr_4_5 (gd_wI hg (ko_4 p0)) p1, gk_4 (gd_wI hg (ko_4 p0)) p0, gr_4_5 (gd_wI hg (ko_4 p0)) p0, ?_⟩
  show K 52 [some (.inr (.inr a0)), some (.inr (.inr a1))] [.inl 12, .inl 0, .inr (.inr (a0 + 1)), .inl 0, .inr (.inr (a1 + 1))] (ia_wI h a0 4 (ia_i h a1 4))
  refine gd_cI hK (ia_tb_in (List.mem_of_getElem? (i := 984) (by decide +kernel)) rfl) dc_Lw_become_52 (Nat.le_of_ble_eq_true rfl) (Or.inl rfl) (gd_wI hg (ko_4 p0)) (ka_4_5 p1) (ka_4_5 p0) (by decide) rfl ?_
  show K 55 [some (.inr (.inr a0)), some (.inr (.inr a1))] [] (ia_cpI (ia_wI h a0 4 (ia_i h a1 4)) (a1 + 1) (a0 + 1) 0 0 12)
  refine ia_go hK ck_Lw_become_55 ⟨gk_4 (gd_cpI (gd_wI hg (ko_4 p0)) (kx_100 (ka_4_5 p0))) p1, gr_4_6 (gd_cpI (gd_wI hg (ko_4 p0)) (kx_100 (ka_4_5 p0))) p1, gk_4 (gd_cpI (gd_wI hg (ko_4 p0)) (kx_100 (ka_4_5 p0))) p0, gr_4_6 (gd_cpI (gd_wI hg (ko_4 p0)) (kx_100 (ka_4_5 p0))) p0, ?_⟩
  show K 67 [some (.inr (.inr a0)), some (.inr (.inr a1))] [.inl 12, .inl 0, .inr (.inr (a0 + 2)), .inl 0, .inr (.inr (a1 + 2))] (ia_cpI (ia_wI h a0 4 (ia_i h a1 4)) (a1 + 1) (a0 + 1) 0 0 12)
  refine gd_cI hK (ia_tb_in (List.mem_of_getElem? (i := 984) (by decide +kernel)) rfl) dc_Lw_become_67 (Nat.le_of_ble_eq_true rfl) (Or.inl rfl) (gd_cpI (gd_wI hg (ko_4 p0)) (kx_100 (ka_4_5 p0))) (ka_4_6 p1) (ka_4_6 p0) (by decide) rfl ?_
  show K 70 [some (.inr (.inr a0)), some (.inr (.inr a1))] [] (ia_cpI (ia_cpI (ia_wI h a0 4 (ia_i h a1 4)) (a1 + 1) (a0 + 1) 0 0 12) (a1 + 2) (a0 + 2) 0 0 12)
  refine ia_go hK ck_Lw_become_70 ⟨gk_4 (gd_cpI (gd_cpI (gd_wI hg (ko_4 p0)) (kx_100 (ka_4_5 p0))) (kx_100 (ka_4_6 p0))) p1, gk_4 (gd_cpI (gd_cpI (gd_wI hg (ko_4 p0)) (kx_100 (ka_4_5 p0))) (kx_100 (ka_4_6 p0))) p0, gk_4 (gd_wL (gd_cpI (gd_cpI (gd_wI hg (ko_4 p0)) (kx_100 (ka_4_5 p0))) (kx_100 (ka_4_6 p0)))) p1, gr_4_8 (gd_wL (gd_cpI (gd_cpI (gd_wI hg (ko_4 p0)) (kx_100 (ka_4_5 p0))) (kx_100 (ka_4_6 p0)))) p1, gk_4 (gd_wL (gd_cpI (gd_cpI (gd_wI hg (ko_4 p0)) (kx_100 (ka_4_5 p0))) (kx_100 (ka_4_6 p0)))) p0, gr_4_8 (gd_wL (gd_cpI (gd_cpI (gd_wI hg (ko_4 p0)) (kx_100 (ka_4_5 p0))) (kx_100 (ka_4_6 p0)))) p0, ?_⟩
  show K 90 [some (.inr (.inr a0)), some (.inr (.inr a1))] [.inl 36, .inl 0, .inr (.inr (a0 + 3)), .inl 0, .inr (.inr (a1 + 3))] (ia_wL (ia_cpI (ia_cpI (ia_wI h a0 4 (ia_i h a1 4)) (a1 + 1) (a0 + 1) 0 0 12) (a1 + 2) (a0 + 2) 0 0 12) a0 7 (ia_l (ia_cpI (ia_cpI (ia_wI h a0 4 (ia_i h a1 4)) (a1 + 1) (a0 + 1) 0 0 12) (a1 + 2) (a0 + 2) 0 0 12) a1 7))
  refine gd_cL hK (ia_tb_in (List.mem_of_getElem? (i := 984) (by decide +kernel)) rfl) dc_Lw_become_90 (Nat.le_of_ble_eq_true rfl) (gd_wL (gd_cpI (gd_cpI (gd_wI hg (ko_4 p0)) (kx_100 (ka_4_5 p0))) (kx_100 (ka_4_6 p0)))) (ka_4_8 p1) (ka_4_8 p0) (by decide) ?_
  show K 93 [some (.inr (.inr a0)), some (.inr (.inr a1))] [] (ia_cpL (ia_wL (ia_cpI (ia_cpI (ia_wI h a0 4 (ia_i h a1 4)) (a1 + 1) (a0 + 1) 0 0 12) (a1 + 2) (a0 + 2) 0 0 12) a0 7 (ia_l (ia_cpI (ia_cpI (ia_wI h a0 4 (ia_i h a1 4)) (a1 + 1) (a0 + 1) 0 0 12) (a1 + 2) (a0 + 2) 0 0 12) a1 7)) (a1 + 3) (a0 + 3) 0 0 36)
  obtain rfl := Option.some.inj hm
  exact hret 93 _ dc_Lw_become_93
theorem gj_Lw_become_32 {w : ia_O0} {a0 : Nat} {a1 : Nat} (p0 : (kd_D a0).1 = 4) (p1 : (kd_D a1).1 = 4) {h1 : ia_H} : ∀ (h : ia_H), gd_ w h → j_Lw_become_32 a0 a1 h = some h1 → gd_ w h1 := by
  intro h hg hm
  unfold j_Lw_become_32 at hm
  obtain rfl := Option.some.inj hm
  exact (gd_cpL (gd_wL (gd_cpI (gd_cpI (gd_wI hg (ko_4 p0)) (kx_100 (ka_4_5 p0))) (kx_100 (ka_4_6 p0)))))
def f_Lw_become (a0 : Nat) (a1 : Nat) (h : ia_H) : Option ia_H := j_Lw_become_32 a0 a1 (ia_wI (ia_wI (ia_wI (ia_wI h a0 0 (ia_i h a1 0)) a0 1 (ia_i (ia_wI h a0 0 (ia_i h a1 0)) a1 1)) a0 2 (ia_i (ia_wI (ia_wI h a0 0 (ia_i h a1 0)) a0 1 (ia_i (ia_wI h a0 0 (ia_i h a1 0)) a1 1)) a1 2)) a0 3 (ia_i (ia_wI (ia_wI (ia_wI h a0 0 (ia_i h a1 0)) a0 1 (ia_i (ia_wI h a0 0 (ia_i h a1 0)) a1 1)) a0 2 (ia_i (ia_wI (ia_wI h a0 0 (ia_i h a1 0)) a0 1 (ia_i (ia_wI h a0 0 (ia_i h a1 0)) a1 1)) a1 2)) a1 3))
theorem g_Lw_become {w : ia_O0} {a0 : Nat} {a1 : Nat} {h : ia_H} (hg : gd_ w h) (p0 : (kd_D a0).1 = 4) (p1 : (kd_D a1).1 = 4) {q : ia_H} (hm : f_Lw_become a0 a1 h = some q) : gd_ w q := by
  obtain ⟨h1, e1⟩ : ∃ x, x = q := ⟨_, rfl⟩
  subst e1
  unfold f_Lw_become at hm
  exact gj_Lw_become_32 p0 p1 (ia_wI (ia_wI (ia_wI (ia_wI h a0 0 (ia_i h a1 0)) a0 1 (ia_i (ia_wI h a0 0 (ia_i h a1 0)) a1 1)) a0 2 (ia_i (ia_wI (ia_wI h a0 0 (ia_i h a1 0)) a0 1 (ia_i (ia_wI h a0 0 (ia_i h a1 0)) a1 1)) a1 2)) a0 3 (ia_i (ia_wI (ia_wI (ia_wI h a0 0 (ia_i h a1 0)) a0 1 (ia_i (ia_wI h a0 0 (ia_i h a1 0)) a1 1)) a0 2 (ia_i (ia_wI (ia_wI h a0 0 (ia_i h a1 0)) a0 1 (ia_i (ia_wI h a0 0 (ia_i h a1 0)) a1 1)) a1 2)) a1 3)) (gd_wI (gd_wI (gd_wI (gd_wI hg (ko_4 p0)) (ko_4 p0)) (ko_4 p0)) (ko_4 p0)) hm
theorem t_Lw_become {w : ia_O0} (d : Nat) {a0 : Nat} {a1 : Nat} {h : ia_H} (hg : gd_ w h) (p0 : (kd_D a0).1 = 4) (p1 : (kd_D a1).1 = 4) {q : ia_H} (hm : f_Lw_become a0 a1 h = some q) : ia_Ev (d + 0) mm_Lw_become [.inr (.inr a0), .inr (.inr a1)] h none q := by
  have gq := g_Lw_become hg p0 p1 hm
  refine ia_Ev_intro ok_Lw_become (gd_le hg gq).1 (gd_le hg gq).2 (Nat.le_of_ble_eq_true rfl) (fun K hK hret => ?_)
  obtain ⟨h1, e1⟩ : ∃ x, x = q := ⟨_, rfl⟩
  subst e1
  show K 0 [some (.inr (.inr a0)), some (.inr (.inr a1))] [] h
  unfold f_Lw_become at hm
  refine ia_go hK ck_Lw_become_0 ⟨gk_4 hg p1, gk_4 hg p0, gk_4 (gd_wI hg (ko_4 p0)) p1, gk_4 (gd_wI hg (ko_4 p0)) p0, gk_4 (gd_wI (gd_wI hg (ko_4 p0)) (ko_4 p0)) p1, gk_4 (gd_wI (gd_wI hg (ko_4 p0)) (ko_4 p0)) p0, gk_4 (gd_wI (gd_wI (gd_wI hg (ko_4 p0)) (ko_4 p0)) (ko_4 p0)) p1, gk_4 (gd_wI (gd_wI (gd_wI hg (ko_4 p0)) (ko_4 p0)) (ko_4 p0)) p0, ?_⟩
  show K 32 [some (.inr (.inr a0)), some (.inr (.inr a1))] [] (ia_wI (ia_wI (ia_wI (ia_wI h a0 0 (ia_i h a1 0)) a0 1 (ia_i (ia_wI h a0 0 (ia_i h a1 0)) a1 1)) a0 2 (ia_i (ia_wI (ia_wI h a0 0 (ia_i h a1 0)) a0 1 (ia_i (ia_wI h a0 0 (ia_i h a1 0)) a1 1)) a1 2)) a0 3 (ia_i (ia_wI (ia_wI (ia_wI h a0 0 (ia_i h a1 0)) a0 1 (ia_i (ia_wI h a0 0 (ia_i h a1 0)) a1 1)) a0 2 (ia_i (ia_wI (ia_wI h a0 0 (ia_i h a1 0)) a0 1 (ia_i (ia_wI h a0 0 (ia_i h a1 0)) a1 1)) a1 2)) a1 3))
  exact tj_Lw_become_32 hK p0 p1 hret (ia_wI (ia_wI (ia_wI (ia_wI h a0 0 (ia_i h a1 0)) a0 1 (ia_i (ia_wI h a0 0 (ia_i h a1 0)) a1 1)) a0 2 (ia_i (ia_wI (ia_wI h a0 0 (ia_i h a1 0)) a0 1 (ia_i (ia_wI h a0 0 (ia_i h a1 0)) a1 1)) a1 2)) a0 3 (ia_i (ia_wI (ia_wI (ia_wI h a0 0 (ia_i h a1 0)) a0 1 (ia_i (ia_wI h a0 0 (ia_i h a1 0)) a1 1)) a0 2 (ia_i (ia_wI (ia_wI h a0 0 (ia_i h a1 0)) a0 1 (ia_i (ia_wI h a0 0 (ia_i h a1 0)) a1 1)) a1 2)) a1 3)) (gd_wI (gd_wI (gd_wI (gd_wI hg (ko_4 p0)) (ko_4 p0)) (ko_4 p0)) (ko_4 p0)) hm
def mm_Pl_become : ia_M := (⟨"IceStreet$Plan", "become", "(LIceStreet$Plan;)V"⟩, prog_7_method_2_code, 2, none, 6, false)
theorem ok_Pl_become : ia_mok mm_Pl_become := ⟨by decide +kernel, by decide +kernel, by decide +kernel, by decide +kernel⟩
theorem mk_Pl_become : ia_mkn mm_Pl_become 1 1 := ⟨ia_tb_in (List.mem_of_getElem? (i := 988) (by decide +kernel)) rfl, ia_tb_in (List.mem_of_getElem? (i := 138) (by decide +kernel)) rfl, by decide +kernel, by decide +kernel, ⟨ia_tb_in (List.mem_of_getElem? (i := 986) (by decide +kernel)) rfl, ia_tb_in (List.mem_of_getElem? (i := 987) (by decide +kernel)) rfl⟩⟩
theorem ck_Pl_become_0 : ia_cks 6 2 false prog_7_method_2_code 0 [(.aload_n 0, 0, 0, 0, 0), (.aload_n 1, 0, 0, 0, 0), (.getfield 24, 6, 0, 0, 0), (.putfield 24, 6, 0, 0, 0), (.aload_n 1, 0, 0, 0, 0), (.getfield 9, 6, 1, 3, 1), (.iconst 0, 0, 0, 0, 0), (.aload_n 0, 0, 0, 0, 0), (.getfield 9, 6, 1, 3, 1), (.iconst 0, 0, 0, 0, 0), (.bipush 30, 0, 0, 0, 0)] = true := by decide +kernel
theorem ck_Pl_become_23 : ia_cks 6 2 false prog_7_method_2_code 23 [(.aload_n 1, 0, 0, 0, 0), (.getfield 15, 6, 2, 3, 2), (.iconst 0, 0, 0, 0, 0), (.aload_n 0, 0, 0, 0, 0), (.getfield 15, 6, 2, 3, 2), (.iconst 0, 0, 0, 0, 0), (.bipush 30, 0, 0, 0, 0)] = true := by decide +kernel
theorem ck_Pl_become_38 : ia_cks 6 2 false prog_7_method_2_code 38 [(.aload_n 1, 0, 0, 0, 0), (.getfield 18, 6, 3, 3, 3), (.iconst 0, 0, 0, 0, 0), (.aload_n 0, 0, 0, 0, 0), (.getfield 18, 6, 3, 3, 3), (.iconst 0, 0, 0, 0, 0), (.bipush 30, 0, 0, 0, 0)] = true := by decide +kernel
theorem ck_Pl_become_53 : ia_cks 6 2 false prog_7_method_2_code 53 [(.aload_n 1, 0, 0, 0, 0), (.getfield 21, 6, 4, 3, 4), (.iconst 0, 0, 0, 0, 0), (.aload_n 0, 0, 0, 0, 0), (.getfield 21, 6, 4, 3, 4), (.iconst 0, 0, 0, 0, 0), (.bipush 30, 0, 0, 0, 0)] = true := by decide +kernel
theorem dc_Pl_become_20 : decode prog_7_method_2_code 20 = .ok (.invokestatic 28, 3) := by decide +kernel
theorem dc_Pl_become_35 : decode prog_7_method_2_code 35 = .ok (.invokestatic 28, 3) := by decide +kernel
theorem dc_Pl_become_50 : decode prog_7_method_2_code 50 = .ok (.invokestatic 28, 3) := by decide +kernel
theorem dc_Pl_become_65 : decode prog_7_method_2_code 65 = .ok (.invokestatic 28, 3) := by decide +kernel
theorem dc_Pl_become_68 : decode prog_7_method_2_code 68 = .ok (.return_, 1) := by decide +kernel
def f_Pl_become (a0 : Nat) (a1 : Nat) (h : ia_H) : Option ia_H := some (ia_cpI (ia_cpI (ia_cpI (ia_cpI (ia_wI h a0 0 (ia_i h a1 0)) (a1 + 1) (a0 + 1) 0 0 30) (a1 + 2) (a0 + 2) 0 0 30) (a1 + 3) (a0 + 3) 0 0 30) (a1 + 4) (a0 + 4) 0 0 30)
theorem g_Pl_become {w : ia_O0} {a0 : Nat} {a1 : Nat} {h : ia_H} (hg : gd_ w h) (p0 : (kd_D a0).1 = 6) (p1 : (kd_D a1).1 = 6) {q : ia_H} (hm : f_Pl_become a0 a1 h = some q) : gd_ w q := by
  obtain ⟨h1, e1⟩ : ∃ x, x = q := ⟨_, rfl⟩
  subst e1
  unfold f_Pl_become at hm
  obtain rfl := Option.some.inj hm
  exact (gd_cpI (gd_cpI (gd_cpI (gd_cpI (gd_wI hg (ko_6 p0)) (kx_100 (ka_6_1 p0))) (kx_100 (ka_6_2 p0))) (kx_100 (ka_6_3 p0))) (kx_100 (ka_6_4 p0)))
theorem t_Pl_become {w : ia_O0} (d : Nat) {a0 : Nat} {a1 : Nat} {h : ia_H} (hg : gd_ w h) (p0 : (kd_D a0).1 = 6) (p1 : (kd_D a1).1 = 6) {q : ia_H} (hm : f_Pl_become a0 a1 h = some q) : ia_Ev (d + 0) mm_Pl_become [.inr (.inr a0), .inr (.inr a1)] h none q := by
  have gq := g_Pl_become hg p0 p1 hm
  refine ia_Ev_intro ok_Pl_become (gd_le hg gq).1 (gd_le hg gq).2 (Nat.le_of_ble_eq_true rfl) (fun K hK hret => ?_)
  obtain ⟨h1, e1⟩ : ∃ x, x = q := ⟨_, rfl⟩
  subst e1
  show K 0 [some (.inr (.inr a0)), some (.inr (.inr a1))] [] h
  unfold f_Pl_become at hm
  refine ia_go hK ck_Pl_become_0 ⟨gk_6 hg p1, gk_6 hg p0, gk_6 (gd_wI hg (ko_6 p0)) p1, gr_6_1 (gd_wI hg (ko_6 p0)) p1, gk_6 (gd_wI hg (ko_6 p0)) p0, gr_6_1 (gd_wI hg (ko_6 p0)) p0, ?_⟩
  show K 20 [some (.inr (.inr a0)), some (.inr (.inr a1))] [.inl 30, .inl 0, .inr (.inr (a0 + 1)), .inl 0, .inr (.inr (a1 + 1))] (ia_wI h a0 0 (ia_i h a1 0))
  refine gd_cI hK (ia_tb_in (List.mem_of_getElem? (i := 989) (by decide +kernel)) rfl) dc_Pl_become_20 (Nat.le_of_ble_eq_true rfl) (Or.inl rfl) (gd_wI hg (ko_6 p0)) (ka_6_1 p1) (ka_6_1 p0) (by decide) rfl ?_
  show K 23 [some (.inr (.inr a0)), some (.inr (.inr a1))] [] (ia_cpI (ia_wI h a0 0 (ia_i h a1 0)) (a1 + 1) (a0 + 1) 0 0 30)
  refine ia_go hK ck_Pl_become_23 ⟨gk_6 (gd_cpI (gd_wI hg (ko_6 p0)) (kx_100 (ka_6_1 p0))) p1, gr_6_2 (gd_cpI (gd_wI hg (ko_6 p0)) (kx_100 (ka_6_1 p0))) p1, gk_6 (gd_cpI (gd_wI hg (ko_6 p0)) (kx_100 (ka_6_1 p0))) p0, gr_6_2 (gd_cpI (gd_wI hg (ko_6 p0)) (kx_100 (ka_6_1 p0))) p0, ?_⟩
  show K 35 [some (.inr (.inr a0)), some (.inr (.inr a1))] [.inl 30, .inl 0, .inr (.inr (a0 + 2)), .inl 0, .inr (.inr (a1 + 2))] (ia_cpI (ia_wI h a0 0 (ia_i h a1 0)) (a1 + 1) (a0 + 1) 0 0 30)
  refine gd_cI hK (ia_tb_in (List.mem_of_getElem? (i := 989) (by decide +kernel)) rfl) dc_Pl_become_35 (Nat.le_of_ble_eq_true rfl) (Or.inl rfl) (gd_cpI (gd_wI hg (ko_6 p0)) (kx_100 (ka_6_1 p0))) (ka_6_2 p1) (ka_6_2 p0) (by decide) rfl ?_
  show K 38 [some (.inr (.inr a0)), some (.inr (.inr a1))] [] (ia_cpI (ia_cpI (ia_wI h a0 0 (ia_i h a1 0)) (a1 + 1) (a0 + 1) 0 0 30) (a1 + 2) (a0 + 2) 0 0 30)
  refine ia_go hK ck_Pl_become_38 ⟨gk_6 (gd_cpI (gd_cpI (gd_wI hg (ko_6 p0)) (kx_100 (ka_6_1 p0))) (kx_100 (ka_6_2 p0))) p1, gr_6_3 (gd_cpI (gd_cpI (gd_wI hg (ko_6 p0)) (kx_100 (ka_6_1 p0))) (kx_100 (ka_6_2 p0))) p1, gk_6 (gd_cpI (gd_cpI (gd_wI hg (ko_6 p0)) (kx_100 (ka_6_1 p0))) (kx_100 (ka_6_2 p0))) p0, gr_6_3 (gd_cpI (gd_cpI (gd_wI hg (ko_6 p0)) (kx_100 (ka_6_1 p0))) (kx_100 (ka_6_2 p0))) p0, ?_⟩
  show K 50 [some (.inr (.inr a0)), some (.inr (.inr a1))] [.inl 30, .inl 0, .inr (.inr (a0 + 3)), .inl 0, .inr (.inr (a1 + 3))] (ia_cpI (ia_cpI (ia_wI h a0 0 (ia_i h a1 0)) (a1 + 1) (a0 + 1) 0 0 30) (a1 + 2) (a0 + 2) 0 0 30)
  refine gd_cI hK (ia_tb_in (List.mem_of_getElem? (i := 989) (by decide +kernel)) rfl) dc_Pl_become_50 (Nat.le_of_ble_eq_true rfl) (Or.inl rfl) (gd_cpI (gd_cpI (gd_wI hg (ko_6 p0)) (kx_100 (ka_6_1 p0))) (kx_100 (ka_6_2 p0))) (ka_6_3 p1) (ka_6_3 p0) (by decide) rfl ?_
  show K 53 [some (.inr (.inr a0)), some (.inr (.inr a1))] [] (ia_cpI (ia_cpI (ia_cpI (ia_wI h a0 0 (ia_i h a1 0)) (a1 + 1) (a0 + 1) 0 0 30) (a1 + 2) (a0 + 2) 0 0 30) (a1 + 3) (a0 + 3) 0 0 30)
  refine ia_go hK ck_Pl_become_53 ⟨gk_6 (gd_cpI (gd_cpI (gd_cpI (gd_wI hg (ko_6 p0)) (kx_100 (ka_6_1 p0))) (kx_100 (ka_6_2 p0))) (kx_100 (ka_6_3 p0))) p1, gr_6_4 (gd_cpI (gd_cpI (gd_cpI (gd_wI hg (ko_6 p0)) (kx_100 (ka_6_1 p0))) (kx_100 (ka_6_2 p0))) (kx_100 (ka_6_3 p0))) p1, gk_6 (gd_cpI (gd_cpI (gd_cpI (gd_wI hg (ko_6 p0)) (kx_100 (ka_6_1 p0))) (kx_100 (ka_6_2 p0))) (kx_100 (ka_6_3 p0))) p0, gr_6_4 (gd_cpI (gd_cpI (gd_cpI (gd_wI hg (ko_6 p0)) (kx_100 (ka_6_1 p0))) (kx_100 (ka_6_2 p0))) (kx_100 (ka_6_3 p0))) p0, ?_⟩
  show K 65 [some (.inr (.inr a0)), some (.inr (.inr a1))] [.inl 30, .inl 0, .inr (.inr (a0 + 4)), .inl 0, .inr (.inr (a1 + 4))] (ia_cpI (ia_cpI (ia_cpI (ia_wI h a0 0 (ia_i h a1 0)) (a1 + 1) (a0 + 1) 0 0 30) (a1 + 2) (a0 + 2) 0 0 30) (a1 + 3) (a0 + 3) 0 0 30)
  refine gd_cI hK (ia_tb_in (List.mem_of_getElem? (i := 989) (by decide +kernel)) rfl) dc_Pl_become_65 (Nat.le_of_ble_eq_true rfl) (Or.inl rfl) (gd_cpI (gd_cpI (gd_cpI (gd_wI hg (ko_6 p0)) (kx_100 (ka_6_1 p0))) (kx_100 (ka_6_2 p0))) (kx_100 (ka_6_3 p0))) (ka_6_4 p1) (ka_6_4 p0) (by decide) rfl ?_
  show K 68 [some (.inr (.inr a0)), some (.inr (.inr a1))] [] (ia_cpI (ia_cpI (ia_cpI (ia_cpI (ia_wI h a0 0 (ia_i h a1 0)) (a1 + 1) (a0 + 1) 0 0 30) (a1 + 2) (a0 + 2) 0 0 30) (a1 + 3) (a0 + 3) 0 0 30) (a1 + 4) (a0 + 4) 0 0 30)
  obtain rfl := Option.some.inj hm
  exact hret 68 _ dc_Pl_become_68
def mm_I_keepDraft : ia_M := (⟨"IceStreet", "keepDraft", "(II)V"⟩, prog_1_method_6_code, 3, none, 0, false)
theorem ok_I_keepDraft : ia_mok mm_I_keepDraft := ⟨by decide +kernel, by decide +kernel, by decide +kernel, by decide +kernel⟩
theorem mk_I_keepDraft : ia_mkn mm_I_keepDraft 1 2 := ⟨ia_tb_in (List.mem_of_getElem? (i := 972) (by decide +kernel)) rfl, ia_tb_in (List.mem_of_getElem? (i := 133) (by decide +kernel)) rfl, by decide +kernel, by decide +kernel, ⟨ia_tb_in (List.mem_of_getElem? (i := 971) (by decide +kernel)) rfl, ia_tb_in (List.mem_of_getElem? (i := 20) (by decide +kernel)) rfl⟩⟩
theorem ck_I_keepDraft_0 : ia_cks 0 3 false prog_1_method_6_code 0 [(.iload_n 1, 0, 0, 0, 0), (.ifCond .ne 25, 0, 0, 0, 0)] = true := by decide +kernel
theorem ck_I_keepDraft_26 : ia_cks 0 3 false prog_1_method_6_code 26 [(.iload_n 1, 0, 0, 0, 0), (.iconst 1, 0, 0, 0, 0), (.if_icmp .ne 25, 0, 0, 0, 0)] = true := by decide +kernel
theorem ck_I_keepDraft_53 : ia_cks 0 3 false prog_1_method_6_code 53 [(.aload_n 0, 0, 0, 0, 0), (.getfield 10, 0, 0, 3, 1), (.getfield 151, 10, 7, 3, 37), (.iload_n 2, 0, 0, 0, 0), (.aaload, 110, 5, 0, 0), (.aload_n 0, 0, 0, 0, 0), (.getfield 27, 0, 3, 3, 215), (.getfield 155, 7, 2, 3, 17)] = true := by decide +kernel
theorem ck_I_keepDraft_31 : ia_cks 0 3 false prog_1_method_6_code 31 [(.aload_n 0, 0, 0, 0, 0), (.getfield 10, 0, 0, 3, 1), (.getfield 37, 10, 6, 3, 28), (.iload_n 2, 0, 0, 0, 0), (.aaload, 108, 4, 0, 0), (.aload_n 0, 0, 0, 0, 0), (.getfield 27, 0, 3, 3, 215), (.getfield 142, 7, 1, 3, 13)] = true := by decide +kernel
theorem ck_I_keepDraft_50 : ia_cks 0 3 false prog_1_method_6_code 50 [(.goto 22, 0, 0, 0, 0)] = true := by decide +kernel
theorem ck_I_keepDraft_4 : ia_cks 0 3 false prog_1_method_6_code 4 [(.aload_n 0, 0, 0, 0, 0), (.getfield 10, 0, 0, 3, 1), (.getfield 33, 10, 5, 3, 3), (.iload_n 2, 0, 0, 0, 0), (.aaload, 107, 12, 0, 0), (.aload_n 0, 0, 0, 0, 0), (.getfield 27, 0, 3, 3, 215), (.getfield 132, 7, 0, 3, 1)] = true := by decide +kernel
theorem ck_I_keepDraft_23 : ia_cks 0 3 false prog_1_method_6_code 23 [(.goto 49, 0, 0, 0, 0)] = true := by decide +kernel
theorem dc_I_keepDraft_69 : decode prog_1_method_6_code 69 = .ok (.invokevirtual 159, 3) := by decide +kernel
theorem dc_I_keepDraft_72 : decode prog_1_method_6_code 72 = .ok (.return_, 1) := by decide +kernel
theorem dc_I_keepDraft_47 : decode prog_1_method_6_code 47 = .ok (.invokevirtual 146, 3) := by decide +kernel
theorem dc_I_keepDraft_20 : decode prog_1_method_6_code 20 = .ok (.invokevirtual 136, 3) := by decide +kernel
def f_I_keepDraft (x1 : Int32) (x2 : Int32) (h : ia_H) : Option ia_H := if x1 = 0 then (ia_gd (ia_ib x2 2) ((f_La_become (68 + 1 + 12 * (x2).toNatClampNeg) 280 h).bind fun v6 => (some v6))) else (if x1 = 1 then (ia_gd (ia_ib x2 2) ((f_Lw_become (93 + 1 + 4 * (x2).toNatClampNeg) 292 h).bind fun v4 => (some v4))) else (ia_gd (ia_ib x2 3) ((f_Pl_become (102 + 1 + 5 * (x2).toNatClampNeg) 296 h).bind fun v2 => (some v2))))
theorem g_I_keepDraft {w : ia_O0} {x1 : Int32} {x2 : Int32} {h : ia_H} (hg : gd_ w h) {q : ia_H} (hm : f_I_keepDraft x1 x2 h = some q) : gd_ w q := by
  obtain ⟨h1, e1⟩ : ∃ x, x = q := ⟨_, rfl⟩
  subst e1
  unfold f_I_keepDraft at hm
  by_cases c : x1 = 0
  · replace hm := ia_ifp hm c
    obtain ⟨c5, hm⟩ := ia_gd_some hm
    obtain ⟨v6, hv6, hm⟩ := ia_bnd hm
    have gv6 := g_La_become hg (ke_107 (ka_10_5 (ka_0_0 pk_64)) c5) (ka_7_0 (ka_0_3 pk_64)) hv6
    obtain rfl := Option.some.inj hm
    exact gv6
  · replace hm := ia_ifn hm c
    by_cases c : x1 = 1
    · replace hm := ia_ifp hm c
      obtain ⟨c3, hm⟩ := ia_gd_some hm
      obtain ⟨v4, hv4, hm⟩ := ia_bnd hm
      have gv4 := g_Lw_become hg (ke_108 (ka_10_6 (ka_0_0 pk_64)) c3) (ka_7_1 (ka_0_3 pk_64)) hv4
      obtain rfl := Option.some.inj hm
      exact gv4
    · replace hm := ia_ifn hm c
      obtain ⟨c1, hm⟩ := ia_gd_some hm
      obtain ⟨v2, hv2, hm⟩ := ia_bnd hm
      have gv2 := g_Pl_become hg (ke_110 (ka_10_7 (ka_0_0 pk_64)) c1) (ka_7_2 (ka_0_3 pk_64)) hv2
      obtain rfl := Option.some.inj hm
      exact gv2
theorem t_I_keepDraft {w : ia_O0} (d : Nat) {x1 : Int32} {x2 : Int32} {h : ia_H} (hg : gd_ w h) {q : ia_H} (hm : f_I_keepDraft x1 x2 h = some q) : ia_Ev (d + 1) mm_I_keepDraft [.inr (.inr 64), .inl x1, .inl x2] h none q := by
  have gq := g_I_keepDraft hg hm
  refine ia_Ev_intro ok_I_keepDraft (gd_le hg gq).1 (gd_le hg gq).2 (Nat.le_of_ble_eq_true rfl) (fun K hK hret => ?_)
  obtain ⟨h1, e1⟩ : ∃ x, x = q := ⟨_, rfl⟩
  subst e1
  show K 0 [some (.inr (.inr 64)), some (.inl x1), some (.inl x2)] [] h
  unfold f_I_keepDraft at hm
  refine ia_go hK ck_I_keepDraft_0 ⟨fun c => ?_, fun c => ?_⟩
  · replace hm := ia_ifn hm c
    show K 26 [some (.inr (.inr 64)), some (.inl x1), some (.inl x2)] [] h
    refine ia_go hK ck_I_keepDraft_26 ⟨fun c => ?_, fun c => ?_⟩
    · replace hm := ia_ifn hm c
      show K 53 [some (.inr (.inr 64)), some (.inl x1), some (.inl x2)] [] h
      obtain ⟨c1, hm⟩ := ia_gd_some hm
      refine ia_go hK ck_I_keepDraft_53 ⟨gk_0 hg pk_64, gr_0_0 hg pk_64, gk_10 hg (ka_0_0 pk_64), gr_10_7 hg (ka_0_0 pk_64), ga_r110 hg (ka_10_7 (ka_0_0 pk_64)) c1, gk_0 hg pk_64, gr_0_3 hg pk_64, gk_7 hg (ka_0_3 pk_64), gr_7_2 hg (ka_0_3 pk_64), ?_⟩
      show K 69 [some (.inr (.inr 64)), some (.inl x1), some (.inl x2)] [.inr (.inr 296), .inr (.inr (102 + 1 + 5 * (x2).toNatClampNeg))] h
      obtain ⟨v2, hv2, hm⟩ := ia_bnd hm
      have ev2 := t_Pl_become (d + 0) hg (ke_110 (ka_10_7 (ka_0_0 pk_64)) c1) (ka_7_2 (ka_0_3 pk_64)) hv2
      have gv2 := g_Pl_become hg (ke_110 (ka_10_7 (ka_0_0 pk_64)) c1) (ka_7_2 (ka_0_3 pk_64)) hv2
      refine ia_cV hK mk_Pl_become lk_0_159 dc_I_keepDraft_69 (102 + 1 + 5 * (x2).toNatClampNeg) [.inr (.inr 296)] [] rfl rfl (Nat.le_of_ble_eq_true rfl) (by decide) rfl (gk_6 hg (ke_110 (ka_10_7 (ka_0_0 pk_64)) c1)) ev2 (gd_nm hg gv2) ?_
      show K 72 [some (.inr (.inr 64)), some (.inl x1), some (.inl x2)] [] v2
      obtain rfl := Option.some.inj hm
      exact hret 72 _ dc_I_keepDraft_72
    · replace hm := ia_ifp hm c
      show K 31 [some (.inr (.inr 64)), some (.inl x1), some (.inl x2)] [] h
      obtain ⟨c3, hm⟩ := ia_gd_some hm
      refine ia_go hK ck_I_keepDraft_31 ⟨gk_0 hg pk_64, gr_0_0 hg pk_64, gk_10 hg (ka_0_0 pk_64), gr_10_6 hg (ka_0_0 pk_64), ga_r108 hg (ka_10_6 (ka_0_0 pk_64)) c3, gk_0 hg pk_64, gr_0_3 hg pk_64, gk_7 hg (ka_0_3 pk_64), gr_7_1 hg (ka_0_3 pk_64), ?_⟩
      show K 47 [some (.inr (.inr 64)), some (.inl x1), some (.inl x2)] [.inr (.inr 292), .inr (.inr (93 + 1 + 4 * (x2).toNatClampNeg))] h
      obtain ⟨v4, hv4, hm⟩ := ia_bnd hm
      have ev4 := t_Lw_become (d + 0) hg (ke_108 (ka_10_6 (ka_0_0 pk_64)) c3) (ka_7_1 (ka_0_3 pk_64)) hv4
      have gv4 := g_Lw_become hg (ke_108 (ka_10_6 (ka_0_0 pk_64)) c3) (ka_7_1 (ka_0_3 pk_64)) hv4
      refine ia_cV hK mk_Lw_become lk_0_146 dc_I_keepDraft_47 (93 + 1 + 4 * (x2).toNatClampNeg) [.inr (.inr 292)] [] rfl rfl (Nat.le_of_ble_eq_true rfl) (by decide) rfl (gk_4 hg (ke_108 (ka_10_6 (ka_0_0 pk_64)) c3)) ev4 (gd_nm hg gv4) ?_
      show K 50 [some (.inr (.inr 64)), some (.inl x1), some (.inl x2)] [] v4
      refine ia_go hK ck_I_keepDraft_50 ?_
      show K 72 [some (.inr (.inr 64)), some (.inl x1), some (.inl x2)] [] v4
      obtain rfl := Option.some.inj hm
      exact hret 72 _ dc_I_keepDraft_72
  · replace hm := ia_ifp hm c
    show K 4 [some (.inr (.inr 64)), some (.inl x1), some (.inl x2)] [] h
    obtain ⟨c5, hm⟩ := ia_gd_some hm
    refine ia_go hK ck_I_keepDraft_4 ⟨gk_0 hg pk_64, gr_0_0 hg pk_64, gk_10 hg (ka_0_0 pk_64), gr_10_5 hg (ka_0_0 pk_64), ga_r107 hg (ka_10_5 (ka_0_0 pk_64)) c5, gk_0 hg pk_64, gr_0_3 hg pk_64, gk_7 hg (ka_0_3 pk_64), gr_7_0 hg (ka_0_3 pk_64), ?_⟩
    show K 20 [some (.inr (.inr 64)), some (.inl x1), some (.inl x2)] [.inr (.inr 280), .inr (.inr (68 + 1 + 12 * (x2).toNatClampNeg))] h
    obtain ⟨v6, hv6, hm⟩ := ia_bnd hm
    have ev6 := t_La_become (d + 0) hg (ke_107 (ka_10_5 (ka_0_0 pk_64)) c5) (ka_7_0 (ka_0_3 pk_64)) hv6
    have gv6 := g_La_become hg (ke_107 (ka_10_5 (ka_0_0 pk_64)) c5) (ka_7_0 (ka_0_3 pk_64)) hv6
    refine ia_cV hK mk_La_become lk_0_136 dc_I_keepDraft_20 (68 + 1 + 12 * (x2).toNatClampNeg) [.inr (.inr 280)] [] rfl rfl (Nat.le_of_ble_eq_true rfl) (by decide) rfl (gk_3 hg (ke_107 (ka_10_5 (ka_0_0 pk_64)) c5)) ev6 (gd_nm hg gv6) ?_
    show K 23 [some (.inr (.inr 64)), some (.inl x1), some (.inl x2)] [] v6
    refine ia_go hK ck_I_keepDraft_23 ?_
    show K 72 [some (.inr (.inr 64)), some (.inl x1), some (.inl x2)] [] v6
    obtain rfl := Option.some.inj hm
    exact hret 72 _ dc_I_keepDraft_72
def mm_I_text : ia_M := (⟨"IceStreet", "text", "(II)I"⟩, prog_1_method_4_code, 5, (some .int), 0, false)
theorem ok_I_text : ia_mok mm_I_text := ⟨by decide +kernel, by decide +kernel, by decide +kernel, by decide +kernel⟩
theorem mk_I_text : ia_mkn mm_I_text 1 2 := ⟨ia_tb_in (List.mem_of_getElem? (i := 734) (by decide +kernel)) rfl, ia_tb_in (List.mem_of_getElem? (i := 133) (by decide +kernel)) rfl, by decide +kernel, by decide +kernel, ⟨ia_tb_in (List.mem_of_getElem? (i := 732) (by decide +kernel)) rfl, ia_tb_in (List.mem_of_getElem? (i := 733) (by decide +kernel)) rfl⟩⟩
theorem ck_I_text_0 : ia_cks 0 5 false prog_1_method_4_code 0 [(.aload_n 0, 0, 0, 0, 0), (.getfield 10, 0, 0, 3, 1), (.getfield 90, 10, 1, 0, 0), (.istore_n 3, 0, 0, 0, 0), (.aload_n 0, 0, 0, 0, 0), (.getfield 10, 0, 0, 3, 1), (.iconst 0, 0, 0, 0, 0), (.putfield 90, 10, 1, 0, 0), (.aload_n 0, 0, 0, 0, 0), (.getfield 10, 0, 0, 3, 1), (.iconst 0, 0, 0, 0, 0), (.putfield 98, 10, 2, 0, 0), (.aload_n 0, 0, 0, 0, 0), (.getfield 10, 0, 0, 3, 1), (.iconst (-1), 0, 0, 0, 0), (.putfield 101, 10, 3, 0, 0), (.aload_n 0, 0, 0, 0, 0), (.iload_n 1, 0, 0, 0, 0), (.iload_n 2, 0, 0, 0, 0)] = true := by decide +kernel
theorem ck_I_text_38 : ia_cks 0 5 false prog_1_method_4_code 38 [(.ifCond .ne 6, 0, 0, 0, 0)] = true := by decide +kernel
theorem ck_I_text_44 : ia_cks 0 5 false prog_1_method_4_code 44 [(.aload_n 0, 0, 0, 0, 0), (.getfield 27, 0, 3, 3, 215), (.aload_n 0, 0, 0, 0, 0), (.getfield 10, 0, 0, 3, 1), (.getfield 108, 10, 0, 3, 1), (.iload_n 3, 0, 0, 0, 0), (.iload_n 1, 0, 0, 0, 0)] = true := by decide +kernel
theorem ck_I_text_60 : ia_cks 0 5 false prog_1_method_4_code 60 [(.ifCond .ne 33, 0, 0, 0, 0)] = true := by decide +kernel
theorem ck_I_text_93 : ia_cks 0 5 false prog_1_method_4_code 93 [(.iload_n 2, 0, 0, 0, 0), (.iconst (-1), 0, 0, 0, 0), (.if_icmp .ne 20, 0, 0, 0, 0)] = true := by decide +kernel
theorem ck_I_text_115 : ia_cks 0 5 false prog_1_method_4_code 115 [(.iload_n 2, 0, 0, 0, 0)] = true := by decide +kernel
theorem ck_I_text_116 : ia_cks 0 5 false prog_1_method_4_code 116 [(.istore 4, 0, 0, 0, 0), (.aload_n 0, 0, 0, 0, 0), (.iload_n 1, 0, 0, 0, 0), (.iload 4, 0, 0, 0, 0)] = true := by decide +kernel
theorem ck_I_text_125 : ia_cks 0 5 false prog_1_method_4_code 125 [(.iload 4, 0, 0, 0, 0)] = true := by decide +kernel
theorem ck_I_text_98 : ia_cks 0 5 false prog_1_method_4_code 98 [(.aload_n 0, 0, 0, 0, 0), (.getfield 10, 0, 0, 3, 1), (.getfield 118, 10, 4, 3, 2), (.iload_n 1, 0, 0, 0, 0), (.dup2, 0, 0, 0, 0), (.iaload, 0, 0, 0, 0), (.dup_x2, 0, 0, 0, 0), (.iconst 1, 0, 0, 0, 0), (.iadd, 0, 0, 0, 0), (.iastore, 0, 0, 0, 0), (.goto 4, 0, 0, 0, 0)] = true := by decide +kernel
theorem ck_I_text_63 : ia_cks 0 5 false prog_1_method_4_code 63 [(.aload_n 0, 0, 0, 0, 0), (.getfield 10, 0, 0, 3, 1), (.aload_n 0, 0, 0, 0, 0), (.getfield 27, 0, 3, 3, 215), (.getfield 116, 7, 3, 0, 0), (.putfield 98, 10, 2, 0, 0), (.aload_n 0, 0, 0, 0, 0), (.getfield 10, 0, 0, 3, 1), (.aload_n 0, 0, 0, 0, 0), (.getfield 27, 0, 3, 3, 215), (.getfield 117, 7, 4, 0, 0), (.putfield 101, 10, 3, 0, 0), (.iconst (-1), 0, 0, 0, 0)] = true := by decide +kernel
theorem ck_I_text_41 : ia_cks 0 5 false prog_1_method_4_code 41 [(.bipush (-2), 0, 0, 0, 0)] = true := by decide +kernel
theorem dc_I_text_35 : decode prog_1_method_4_code 35 = .ok (.invokevirtual 104, 3) := by decide +kernel
theorem dc_I_text_57 : decode prog_1_method_4_code 57 = .ok (.invokevirtual 112, 3) := by decide +kernel
theorem dc_I_text_122 : decode prog_1_method_4_code 122 = .ok (.invokevirtual 122, 3) := by decide +kernel
theorem dc_I_text_127 : decode prog_1_method_4_code 127 = .ok (.ireturn, 1) := by decide +kernel
theorem dc_I_text_92 : decode prog_1_method_4_code 92 = .ok (.ireturn, 1) := by decide +kernel
theorem dc_I_text_43 : decode prog_1_method_4_code 43 = .ok (.ireturn, 1) := by decide +kernel
def j_I_text_116 (x1 : Int32) (x2 : Int32) (s0 : Int32) (h : ia_H) : Option (Int32 × ia_H) := (f_I_keepDraft x1 s0 h).bind fun v3 => (some (s0, v3))
theorem tj_I_text_116 {w : ia_O0} {d N1 W1 : Nat} {K : ia_K} (hK : ia_isK (d + 8) mm_I_text N1 W1 K) {x1 : Int32} {x2 : Int32} {r : Int32} {h1 : ia_H} (hret : ∀ (pc : Nat) (lv : ia_L), ia_ret mm_I_text pc (some (.inl r)) → K pc lv ((some (.inl r)) : Option ia_V).toList h1) : ∀ (s0 : Int32) (h : ia_H), gd_ w h → j_I_text_116 x1 x2 s0 h = some (r, h1) → K 116 [some (.inr (.inr 64)), some (.inl x1), none, none, none] [.inl s0] h := by
  intro s0 h hg hm
  unfold j_I_text_116 at hm
  refine ia_go hK ck_I_text_116 ?_
  show K 122 [some (.inr (.inr 64)), some (.inl x1), none, none, some (.inl s0)] [.inl s0, .inl x1, .inr (.inr 64)] h
  obtain ⟨v3, hv3, hm⟩ := ia_bnd hm
  have ev3 := t_I_keepDraft (d + 6) hg hv3
  have gv3 := g_I_keepDraft hg hv3
  refine ia_cV hK mk_I_keepDraft lk_0_122 dc_I_text_122 64 [.inl x1, .inl s0] [] rfl rfl (Nat.le_of_ble_eq_true rfl) (by decide) rfl (gk_0 hg pk_64) ev3 (gd_nm hg gv3) ?_
  show K 125 [some (.inr (.inr 64)), some (.inl x1), none, none, some (.inl s0)] [] v3
  refine ia_go hK ck_I_text_125 ?_
  show K 127 [some (.inr (.inr 64)), some (.inl x1), none, none, some (.inl s0)] [.inl s0] v3
  obtain ⟨rfl, rfl⟩ := Prod.mk.inj (Option.some.inj hm)
  exact hret 127 _ dc_I_text_127
theorem gj_I_text_116 {w : ia_O0} {x1 : Int32} {x2 : Int32} {r : Int32} {h1 : ia_H} : ∀ (s0 : Int32) (h : ia_H), gd_ w h → j_I_text_116 x1 x2 s0 h = some (r, h1) → gd_ w h1 := by
  intro s0 h hg hm
  unfold j_I_text_116 at hm
  obtain ⟨v3, hv3, hm⟩ := ia_bnd hm
  have gv3 := g_I_keepDraft hg hv3
  obtain ⟨rfl, rfl⟩ := Prod.mk.inj (Option.some.inj hm)
  exact gv3
def f_I_text (x1 : Int32) (x2 : Int32) (h : ia_H) : Option (Int32 × ia_H) := (f_I_hasPlace x1 x2 (ia_wI (ia_wI (ia_wI h 65 1 0) 65 2 0) 65 3 (-1))).bind fun v1 => (if v1 = 0 then (some ((-2), ia_wI (ia_wI (ia_wI h 65 1 0) 65 2 0) 65 3 (-1))) else ((f_Re_read 66 (ia_i h 65 1) x1 (ia_wI (ia_wI (ia_wI h 65 1 0) 65 2 0) 65 3 (-1))).bind fun v2 => (if v2.1 = 0 then (some ((-1), ia_wI (ia_wI v2.2 65 2 (ia_i v2.2 279 3)) 65 3 (ia_i (ia_wI v2.2 65 2 (ia_i v2.2 279 3)) 279 4))) else (if x2 = (-1) then (ia_gd (ia_ib x1 3) (ia_gd (ia_ib x1 3) (j_I_text_116 x1 x2 (ia_i v2.2 67 ((x1).toNatClampNeg)) (ia_wI v2.2 67 ((x1).toNatClampNeg) ((ia_i v2.2 67 ((x1).toNatClampNeg)) + 1))))) else (j_I_text_116 x1 x2 x2 v2.2)))))
theorem g_I_text {w : ia_O0} {x1 : Int32} {x2 : Int32} {h : ia_H} (hg : gd_ w h) {q : (Int32 × ia_H)} (hm : f_I_text x1 x2 h = some q) : gd_ w q.2 := by
  obtain ⟨r, h1⟩ := q
  unfold f_I_text at hm
  obtain ⟨v1, hv1, hm⟩ := ia_bnd hm
  by_cases c : v1 = 0
  · replace hm := ia_ifp hm c
    obtain ⟨rfl, rfl⟩ := Prod.mk.inj (Option.some.inj hm)
    exact (gd_wI (gd_wI (gd_wI hg (ko_10 (ka_0_0 pk_64))) (ko_10 (ka_0_0 pk_64))) (ko_10 (ka_0_0 pk_64)))
  · replace hm := ia_ifn hm c
    obtain ⟨v2, hv2, hm⟩ := ia_bnd hm
    have gv2 := g_Re_read (gd_wI (gd_wI (gd_wI hg (ko_10 (ka_0_0 pk_64))) (ko_10 (ka_0_0 pk_64))) (ko_10 (ka_0_0 pk_64))) (congrArg Prod.fst (ka_10_0 (ka_0_0 pk_64))) hv2
    by_cases c : v2.1 = 0
    · replace hm := ia_ifp hm c
      obtain ⟨rfl, rfl⟩ := Prod.mk.inj (Option.some.inj hm)
      exact (gd_wI (gd_wI gv2 (ko_10 (ka_0_0 pk_64))) (ko_10 (ka_0_0 pk_64)))
    · replace hm := ia_ifn hm c
      by_cases c : x2 = (-1)
      · replace hm := ia_ifp hm c
        obtain ⟨c4, hm⟩ := ia_gd_some hm
        obtain ⟨c5, hm⟩ := ia_gd_some hm
        exact gj_I_text_116 (ia_i v2.2 67 ((x1).toNatClampNeg)) (ia_wI v2.2 67 ((x1).toNatClampNeg) ((ia_i v2.2 67 ((x1).toNatClampNeg)) + 1)) (gd_wI gv2 (kx_100 (ka_10_4 (ka_0_0 pk_64)))) hm
      · replace hm := ia_ifn hm c
        exact gj_I_text_116 x2 v2.2 gv2 hm
theorem t_I_text {w : ia_O0} (d : Nat) {x1 : Int32} {x2 : Int32} {h : ia_H} (hg : gd_ w h) {q : (Int32 × ia_H)} (hm : f_I_text x1 x2 h = some q) : ia_Ev (d + 8) mm_I_text [.inr (.inr 64), .inl x1, .inl x2] h (some (.inl q.1)) q.2 := by
  have gq := g_I_text hg hm
  refine ia_Ev_intro ok_I_text (gd_le hg gq).1 (gd_le hg gq).2 (Nat.le_of_ble_eq_true rfl) (fun K hK hret => ?_)
  obtain ⟨r, h1⟩ := q
  show K 0 [some (.inr (.inr 64)), some (.inl x1), some (.inl x2), none, none] [] h
  unfold f_I_text at hm
  refine ia_go hK ck_I_text_0 ⟨gk_0 hg pk_64, gr_0_0 hg pk_64, gk_10 hg (ka_0_0 pk_64), gk_0 hg pk_64, gr_0_0 hg pk_64, gk_10 hg (ka_0_0 pk_64), gk_0 (gd_wI hg (ko_10 (ka_0_0 pk_64))) pk_64, gr_0_0 (gd_wI hg (ko_10 (ka_0_0 pk_64))) pk_64, gk_10 (gd_wI hg (ko_10 (ka_0_0 pk_64))) (ka_0_0 pk_64), gk_0 (gd_wI (gd_wI hg (ko_10 (ka_0_0 pk_64))) (ko_10 (ka_0_0 pk_64))) pk_64, gr_0_0 (gd_wI (gd_wI hg (ko_10 (ka_0_0 pk_64))) (ko_10 (ka_0_0 pk_64))) pk_64, gk_10 (gd_wI (gd_wI hg (ko_10 (ka_0_0 pk_64))) (ko_10 (ka_0_0 pk_64))) (ka_0_0 pk_64), ?_⟩
  show K 35 [some (.inr (.inr 64)), some (.inl x1), some (.inl x2), some (.inl (ia_i h 65 1)), none] [.inl x2, .inl x1, .inr (.inr 64)] (ia_wI (ia_wI (ia_wI h 65 1 0) 65 2 0) 65 3 (-1))
  obtain ⟨v1, hv1, hm⟩ := ia_bnd hm
  have ev1 := t_I_hasPlace (d + 6) (gd_wI (gd_wI (gd_wI hg (ko_10 (ka_0_0 pk_64))) (ko_10 (ka_0_0 pk_64))) (ko_10 (ka_0_0 pk_64))) hv1
  refine ia_cV hK mk_I_hasPlace lk_0_104 dc_I_text_35 64 [.inl x1, .inl x2] [] rfl rfl (Nat.le_of_ble_eq_true rfl) (by decide) rfl (gk_0 (gd_wI (gd_wI (gd_wI hg (ko_10 (ka_0_0 pk_64))) (ko_10 (ka_0_0 pk_64))) (ko_10 (ka_0_0 pk_64))) pk_64) ev1 ⟨rfl, rfl⟩ ?_
  show K 38 [some (.inr (.inr 64)), some (.inl x1), some (.inl x2), some (.inl (ia_i h 65 1)), none] [.inl v1] (ia_wI (ia_wI (ia_wI h 65 1 0) 65 2 0) 65 3 (-1))
  refine ia_go hK ck_I_text_38 ⟨fun c => ?_, fun c => ?_⟩
  · replace hm := ia_ifn hm c
    show K 44 [some (.inr (.inr 64)), some (.inl x1), some (.inl x2), some (.inl (ia_i h 65 1)), none] [] (ia_wI (ia_wI (ia_wI h 65 1 0) 65 2 0) 65 3 (-1))
    refine ia_go hK ck_I_text_44 ⟨gk_0 (gd_wI (gd_wI (gd_wI hg (ko_10 (ka_0_0 pk_64))) (ko_10 (ka_0_0 pk_64))) (ko_10 (ka_0_0 pk_64))) pk_64, gr_0_3 (gd_wI (gd_wI (gd_wI hg (ko_10 (ka_0_0 pk_64))) (ko_10 (ka_0_0 pk_64))) (ko_10 (ka_0_0 pk_64))) pk_64, gk_0 (gd_wI (gd_wI (gd_wI hg (ko_10 (ka_0_0 pk_64))) (ko_10 (ka_0_0 pk_64))) (ko_10 (ka_0_0 pk_64))) pk_64, gr_0_0 (gd_wI (gd_wI (gd_wI hg (ko_10 (ka_0_0 pk_64))) (ko_10 (ka_0_0 pk_64))) (ko_10 (ka_0_0 pk_64))) pk_64, gk_10 (gd_wI (gd_wI (gd_wI hg (ko_10 (ka_0_0 pk_64))) (ko_10 (ka_0_0 pk_64))) (ko_10 (ka_0_0 pk_64))) (ka_0_0 pk_64), gr_10_0 (gd_wI (gd_wI (gd_wI hg (ko_10 (ka_0_0 pk_64))) (ko_10 (ka_0_0 pk_64))) (ko_10 (ka_0_0 pk_64))) (ka_0_0 pk_64), ?_⟩
    show K 57 [some (.inr (.inr 64)), some (.inl x1), some (.inl x2), some (.inl (ia_i h 65 1)), none] [.inl x1, .inl (ia_i h 65 1), .inr (.inr 66), .inr (.inr 279)] (ia_wI (ia_wI (ia_wI h 65 1 0) 65 2 0) 65 3 (-1))
    obtain ⟨v2, hv2, hm⟩ := ia_bnd hm
    have ev2 := t_Re_read (d + 0) (gd_wI (gd_wI (gd_wI hg (ko_10 (ka_0_0 pk_64))) (ko_10 (ka_0_0 pk_64))) (ko_10 (ka_0_0 pk_64))) (congrArg Prod.fst (ka_10_0 (ka_0_0 pk_64))) hv2
    have gv2 := g_Re_read (gd_wI (gd_wI (gd_wI hg (ko_10 (ka_0_0 pk_64))) (ko_10 (ka_0_0 pk_64))) (ko_10 (ka_0_0 pk_64))) (congrArg Prod.fst (ka_10_0 (ka_0_0 pk_64))) hv2
    refine ia_cV hK mk_Re_read lk_0_112 dc_I_text_57 279 [.inr (.inr 66), .inl (ia_i h 65 1), .inl x1] [] rfl rfl (Nat.le_of_ble_eq_true rfl) (by decide) rfl (gk_7 (gd_wI (gd_wI (gd_wI hg (ko_10 (ka_0_0 pk_64))) (ko_10 (ka_0_0 pk_64))) (ko_10 (ka_0_0 pk_64))) (ka_0_3 pk_64)) ev2 (gd_nm (gd_wI (gd_wI (gd_wI hg (ko_10 (ka_0_0 pk_64))) (ko_10 (ka_0_0 pk_64))) (ko_10 (ka_0_0 pk_64))) gv2) ?_
    show K 60 [some (.inr (.inr 64)), some (.inl x1), some (.inl x2), some (.inl (ia_i h 65 1)), none] [.inl v2.1] v2.2
    refine ia_go hK ck_I_text_60 ⟨fun c => ?_, fun c => ?_⟩
    · replace hm := ia_ifn hm c
      show K 93 [some (.inr (.inr 64)), some (.inl x1), some (.inl x2), some (.inl (ia_i h 65 1)), none] [] v2.2
      refine ia_go hK ck_I_text_93 ⟨fun c => ?_, fun c => ?_⟩
      · replace hm := ia_ifn hm c
        show K 115 [some (.inr (.inr 64)), some (.inl x1), some (.inl x2), some (.inl (ia_i h 65 1)), none] [] v2.2
        refine ia_go hK ck_I_text_115 ?_
        show K 116 [some (.inr (.inr 64)), some (.inl x1), some (.inl x2), some (.inl (ia_i h 65 1)), none] [.inl x2] v2.2
        refine ia_fg hK (lv' := [some (.inr (.inr 64)), some (.inl x1), none, none, none]) ⟨rfl, rfl, trivial⟩ ?_
        exact tj_I_text_116 hK hret x2 v2.2 gv2 hm
      · replace hm := ia_ifp hm c
        show K 98 [some (.inr (.inr 64)), some (.inl x1), some (.inl x2), some (.inl (ia_i h 65 1)), none] [] v2.2
        obtain ⟨c4, hm⟩ := ia_gd_some hm
        obtain ⟨c5, hm⟩ := ia_gd_some hm
        refine ia_go hK ck_I_text_98 ⟨gk_0 gv2 pk_64, gr_0_0 gv2 pk_64, gk_10 gv2 (ka_0_0 pk_64), gr_10_4 gv2 (ka_0_0 pk_64), ga_i100 gv2 (ka_10_4 (ka_0_0 pk_64)) c4, ga_s100 gv2 (ka_10_4 (ka_0_0 pk_64)) c5, ?_⟩
        show K 116 [some (.inr (.inr 64)), some (.inl x1), some (.inl x2), some (.inl (ia_i h 65 1)), none] [.inl (ia_i v2.2 67 ((x1).toNatClampNeg))] (ia_wI v2.2 67 ((x1).toNatClampNeg) ((ia_i v2.2 67 ((x1).toNatClampNeg)) + 1))
        refine ia_fg hK (lv' := [some (.inr (.inr 64)), some (.inl x1), none, none, none]) ⟨rfl, rfl, trivial⟩ ?_
        exact tj_I_text_116 hK hret (ia_i v2.2 67 ((x1).toNatClampNeg)) (ia_wI v2.2 67 ((x1).toNatClampNeg) ((ia_i v2.2 67 ((x1).toNatClampNeg)) + 1)) (gd_wI gv2 (kx_100 (ka_10_4 (ka_0_0 pk_64)))) hm
    · replace hm := ia_ifp hm c
      show K 63 [some (.inr (.inr 64)), some (.inl x1), some (.inl x2), some (.inl (ia_i h 65 1)), none] [] v2.2
      refine ia_go hK ck_I_text_63 ⟨gk_0 gv2 pk_64, gr_0_0 gv2 pk_64, gk_0 gv2 pk_64, gr_0_3 gv2 pk_64, gk_7 gv2 (ka_0_3 pk_64), gk_10 gv2 (ka_0_0 pk_64), gk_0 (gd_wI gv2 (ko_10 (ka_0_0 pk_64))) pk_64, gr_0_0 (gd_wI gv2 (ko_10 (ka_0_0 pk_64))) pk_64, gk_0 (gd_wI gv2 (ko_10 (ka_0_0 pk_64))) pk_64, gr_0_3 (gd_wI gv2 (ko_10 (ka_0_0 pk_64))) pk_64, gk_7 (gd_wI gv2 (ko_10 (ka_0_0 pk_64))) (ka_0_3 pk_64), gk_10 (gd_wI gv2 (ko_10 (ka_0_0 pk_64))) (ka_0_0 pk_64), ?_⟩
      show K 92 [some (.inr (.inr 64)), some (.inl x1), some (.inl x2), some (.inl (ia_i h 65 1)), none] [.inl (-1)] (ia_wI (ia_wI v2.2 65 2 (ia_i v2.2 279 3)) 65 3 (ia_i (ia_wI v2.2 65 2 (ia_i v2.2 279 3)) 279 4))
      obtain ⟨rfl, rfl⟩ := Prod.mk.inj (Option.some.inj hm)
      exact hret 92 _ dc_I_text_92
  · replace hm := ia_ifp hm c
    show K 41 [some (.inr (.inr 64)), some (.inl x1), some (.inl x2), some (.inl (ia_i h 65 1)), none] [] (ia_wI (ia_wI (ia_wI h 65 1 0) 65 2 0) 65 3 (-1))
    refine ia_go hK ck_I_text_41 ?_
    show K 43 [some (.inr (.inr 64)), some (.inl x1), some (.inl x2), some (.inl (ia_i h 65 1)), none] [.inl (-2)] (ia_wI (ia_wI (ia_wI h 65 1 0) 65 2 0) 65 3 (-1))
    obtain ⟨rfl, rfl⟩ := Prod.mk.inj (Option.some.inj hm)
    exact hret 43 _ dc_I_text_43
def mm_I_fault : ia_M := (⟨"IceStreet", "fault", "(I)I"⟩, prog_1_method_7_code, 2, (some .int), 0, false)
theorem ok_I_fault : ia_mok mm_I_fault := ⟨by decide +kernel, by decide +kernel, by decide +kernel, by decide +kernel⟩
theorem mk_I_fault : ia_mkn mm_I_fault 1 1 := ⟨ia_tb_in (List.mem_of_getElem? (i := 993) (by decide +kernel)) rfl, ia_tb_in (List.mem_of_getElem? (i := 133) (by decide +kernel)) rfl, by decide +kernel, by decide +kernel, ⟨ia_tb_in (List.mem_of_getElem? (i := 991) (by decide +kernel)) rfl, ia_tb_in (List.mem_of_getElem? (i := 992) (by decide +kernel)) rfl⟩⟩
theorem ck_I_fault_0 : ia_cks 0 2 false prog_1_method_7_code 0 [(.iload_n 1, 0, 0, 0, 0), (.ifCond .ne 11, 0, 0, 0, 0)] = true := by decide +kernel
theorem ck_I_fault_12 : ia_cks 0 2 false prog_1_method_7_code 12 [(.iload_n 1, 0, 0, 0, 0), (.iconst 1, 0, 0, 0, 0), (.if_icmp .ne 13, 0, 0, 0, 0)] = true := by decide +kernel
theorem ck_I_fault_27 : ia_cks 0 2 false prog_1_method_7_code 27 [(.iconst (-1), 0, 0, 0, 0)] = true := by decide +kernel
theorem ck_I_fault_17 : ia_cks 0 2 false prog_1_method_7_code 17 [(.aload_n 0, 0, 0, 0, 0), (.getfield 10, 0, 0, 3, 1), (.getfield 101, 10, 3, 0, 0), (.goto 4, 0, 0, 0, 0)] = true := by decide +kernel
theorem ck_I_fault_4 : ia_cks 0 2 false prog_1_method_7_code 4 [(.aload_n 0, 0, 0, 0, 0), (.getfield 10, 0, 0, 3, 1), (.getfield 98, 10, 2, 0, 0)] = true := by decide +kernel
theorem dc_I_fault_28 : decode prog_1_method_7_code 28 = .ok (.ireturn, 1) := by decide +kernel
theorem dc_I_fault_11 : decode prog_1_method_7_code 11 = .ok (.ireturn, 1) := by decide +kernel
def f_I_fault (x1 : Int32) (h : ia_H) : Option Int32 := if x1 = 0 then (some (ia_i h 65 2)) else (if x1 = 1 then (some (ia_i h 65 3)) else (some (-1)))
theorem t_I_fault {w : ia_O0} (d : Nat) {x1 : Int32} {h : ia_H} (hg : gd_ w h) {r : Int32} (hm : f_I_fault x1 h = some r) : ia_Ev (d + 0) mm_I_fault [.inr (.inr 64), .inl x1] h (some (.inl r)) h := by
  refine ia_Ev_intro ok_I_fault (Nat.le_refl _) (Nat.le_refl _) (Nat.le_of_ble_eq_true rfl) (fun K hK hret => ?_)
  show K 0 [some (.inr (.inr 64)), some (.inl x1)] [] h
  unfold f_I_fault at hm
  refine ia_go hK ck_I_fault_0 ⟨fun c => ?_, fun c => ?_⟩
  · replace hm := ia_ifn hm c
    show K 12 [some (.inr (.inr 64)), some (.inl x1)] [] h
    refine ia_go hK ck_I_fault_12 ⟨fun c => ?_, fun c => ?_⟩
    · replace hm := ia_ifn hm c
      show K 27 [some (.inr (.inr 64)), some (.inl x1)] [] h
      refine ia_go hK ck_I_fault_27 ?_
      show K 28 [some (.inr (.inr 64)), some (.inl x1)] [.inl (-1)] h
      obtain rfl := Option.some.inj hm
      exact hret 28 _ dc_I_fault_28
    · replace hm := ia_ifp hm c
      show K 17 [some (.inr (.inr 64)), some (.inl x1)] [] h
      refine ia_go hK ck_I_fault_17 ⟨gk_0 hg pk_64, gr_0_0 hg pk_64, gk_10 hg (ka_0_0 pk_64), ?_⟩
      show K 28 [some (.inr (.inr 64)), some (.inl x1)] [.inl (ia_i h 65 3)] h
      obtain rfl := Option.some.inj hm
      exact hret 28 _ dc_I_fault_28
  · replace hm := ia_ifp hm c
    show K 4 [some (.inr (.inr 64)), some (.inl x1)] [] h
    refine ia_go hK ck_I_fault_4 ⟨gk_0 hg pk_64, gr_0_0 hg pk_64, gk_10 hg (ka_0_0 pk_64), ?_⟩
    show K 11 [some (.inr (.inr 64)), some (.inl x1)] [.inl (ia_i h 65 2)] h
    obtain rfl := Option.some.inj hm
    exact hret 11 _ dc_I_fault_11
def mm_I_lake : ia_M := (⟨"IceStreet", "lake", "(II)I"⟩, prog_1_method_8_code, 4, (some .int), 0, false)
theorem ok_I_lake : ia_mok mm_I_lake := ⟨by decide +kernel, by decide +kernel, by decide +kernel, by decide +kernel⟩
theorem mk_I_lake : ia_mkn mm_I_lake 1 2 := ⟨ia_tb_in (List.mem_of_getElem? (i := 997) (by decide +kernel)) rfl, ia_tb_in (List.mem_of_getElem? (i := 133) (by decide +kernel)) rfl, by decide +kernel, by decide +kernel, ⟨ia_tb_in (List.mem_of_getElem? (i := 995) (by decide +kernel)) rfl, ia_tb_in (List.mem_of_getElem? (i := 996) (by decide +kernel)) rfl⟩⟩
theorem ck_I_lake_0 : ia_cks 0 4 false prog_1_method_8_code 0 [(.aload_n 0, 0, 0, 0, 0), (.getfield 10, 0, 0, 3, 1), (.iconst 0, 0, 0, 0, 0), (.iload_n 1, 0, 0, 0, 0)] = true := by decide +kernel
theorem ck_I_lake_9 : ia_cks 0 4 false prog_1_method_8_code 9 [(.ifCond .ne 6, 0, 0, 0, 0)] = true := by decide +kernel
theorem ck_I_lake_15 : ia_cks 0 4 false prog_1_method_8_code 15 [(.aload_n 0, 0, 0, 0, 0), (.getfield 10, 0, 0, 3, 1), (.getfield 33, 10, 5, 3, 3), (.iload_n 1, 0, 0, 0, 0), (.aaload, 107, 12, 0, 0), (.astore_n 3, 0, 0, 0, 0), (.iload_n 2, 0, 0, 0, 0), (.tableswitch 59 0 4 #[34, 39, 44, 49, 54], 0, 0, 0, 0)] = true := by decide +kernel
theorem ck_I_lake_60 : ia_cks 0 4 false prog_1_method_8_code 60 [(.aload_n 3, 0, 0, 0, 0), (.getfield 164, 3, 0, 0, 0)] = true := by decide +kernel
theorem ck_I_lake_65 : ia_cks 0 4 false prog_1_method_8_code 65 [(.aload_n 3, 0, 0, 0, 0), (.getfield 167, 3, 1, 0, 0)] = true := by decide +kernel
theorem ck_I_lake_70 : ia_cks 0 4 false prog_1_method_8_code 70 [(.aload_n 3, 0, 0, 0, 0), (.getfield 170, 3, 2, 0, 0)] = true := by decide +kernel
theorem ck_I_lake_75 : ia_cks 0 4 false prog_1_method_8_code 75 [(.aload_n 3, 0, 0, 0, 0), (.getfield 173, 3, 10, 0, 0)] = true := by decide +kernel
theorem ck_I_lake_80 : ia_cks 0 4 false prog_1_method_8_code 80 [(.aload_n 3, 0, 0, 0, 0), (.getfield 176, 3, 11, 0, 0)] = true := by decide +kernel
theorem ck_I_lake_85 : ia_cks 0 4 false prog_1_method_8_code 85 [(.iload_n 2, 0, 0, 0, 0), (.bipush 20, 0, 0, 0, 0), (.if_icmp .lt 26, 0, 0, 0, 0)] = true := by decide +kernel
theorem ck_I_lake_114 : ia_cks 0 4 false prog_1_method_8_code 114 [(.bipush (-100), 0, 0, 0, 0)] = true := by decide +kernel
theorem ck_I_lake_91 : ia_cks 0 4 false prog_1_method_8_code 91 [(.iload_n 2, 0, 0, 0, 0), (.bipush 20, 0, 0, 0, 0), (.aload_n 3, 0, 0, 0, 0), (.getfield 173, 3, 10, 0, 0), (.iadd, 0, 0, 0, 0), (.if_icmp .ge 15, 0, 0, 0, 0)] = true := by decide +kernel
theorem ck_I_lake_102 : ia_cks 0 4 false prog_1_method_8_code 102 [(.aload_n 3, 0, 0, 0, 0), (.getfield 179, 3, 9, 3, 5), (.iload_n 2, 0, 0, 0, 0), (.bipush 20, 0, 0, 0, 0), (.isub, 0, 0, 0, 0), (.iaload, 0, 0, 0, 0), (.goto 5, 0, 0, 0, 0)] = true := by decide +kernel
theorem ck_I_lake_12 : ia_cks 0 4 false prog_1_method_8_code 12 [(.bipush (-100), 0, 0, 0, 0)] = true := by decide +kernel
theorem dc_I_lake_6 : decode prog_1_method_8_code 6 = .ok (.invokevirtual 129, 3) := by decide +kernel
theorem dc_I_lake_64 : decode prog_1_method_8_code 64 = .ok (.ireturn, 1) := by decide +kernel
theorem dc_I_lake_69 : decode prog_1_method_8_code 69 = .ok (.ireturn, 1) := by decide +kernel
theorem dc_I_lake_74 : decode prog_1_method_8_code 74 = .ok (.ireturn, 1) := by decide +kernel
theorem dc_I_lake_79 : decode prog_1_method_8_code 79 = .ok (.ireturn, 1) := by decide +kernel
theorem dc_I_lake_84 : decode prog_1_method_8_code 84 = .ok (.ireturn, 1) := by decide +kernel
theorem dc_I_lake_116 : decode prog_1_method_8_code 116 = .ok (.ireturn, 1) := by decide +kernel
theorem dc_I_lake_14 : decode prog_1_method_8_code 14 = .ok (.ireturn, 1) := by decide +kernel
def f_I_lake (x1 : Int32) (x2 : Int32) (h : ia_H) : Option Int32 := (f_To_has 65 0 x1 h).bind fun v1 => (if v1 = 0 then (some (-100)) else (ia_gd (ia_ib x1 2) (if x2 = 0 then (some (ia_i h (68 + 1 + 12 * (x1).toNatClampNeg) 0)) else if x2 = 1 then (some (ia_i h (68 + 1 + 12 * (x1).toNatClampNeg) 1)) else if x2 = 2 then (some (ia_i h (68 + 1 + 12 * (x1).toNatClampNeg) 2)) else if x2 = 3 then (some (ia_i h (68 + 1 + 12 * (x1).toNatClampNeg) 10)) else if x2 = 4 then (some (ia_i h (68 + 1 + 12 * (x1).toNatClampNeg) 11)) else (if x2 < 20 then (some (-100)) else (if (20 + (ia_i h (68 + 1 + 12 * (x1).toNatClampNeg) 10)) ≤ x2 then (some (-100)) else (ia_gd (ia_ib (x2 - 20) 12) (some (ia_i h ((68 + 1 + 12 * (x1).toNatClampNeg) + 5) ((x2 - 20).toNatClampNeg)))))))))
theorem t_I_lake {w : ia_O0} (d : Nat) {x1 : Int32} {x2 : Int32} {h : ia_H} (hg : gd_ w h) {r : Int32} (hm : f_I_lake x1 x2 h = some r) : ia_Ev (d + 1) mm_I_lake [.inr (.inr 64), .inl x1, .inl x2] h (some (.inl r)) h := by
  refine ia_Ev_intro ok_I_lake (Nat.le_refl _) (Nat.le_refl _) (Nat.le_of_ble_eq_true rfl) (fun K hK hret => ?_)
  show K 0 [some (.inr (.inr 64)), some (.inl x1), some (.inl x2), none] [] h
  unfold f_I_lake at hm
  refine ia_go hK ck_I_lake_0 ⟨gk_0 hg pk_64, gr_0_0 hg pk_64, ?_⟩
  show K 6 [some (.inr (.inr 64)), some (.inl x1), some (.inl x2), none] [.inl x1, .inl 0, .inr (.inr 65)] h
  obtain ⟨v1, hv1, hm⟩ := ia_bnd hm
  have ev1 := t_To_has (d + 0) hg (ka_0_0 pk_64) hv1
  refine ia_cV hK mk_To_has lk_0_129 dc_I_lake_6 65 [.inl 0, .inl x1] [] rfl rfl (Nat.le_of_ble_eq_true rfl) (by decide) rfl (gk_10 hg (ka_0_0 pk_64)) ev1 ⟨rfl, rfl⟩ ?_
  show K 9 [some (.inr (.inr 64)), some (.inl x1), some (.inl x2), none] [.inl v1] h
  refine ia_go hK ck_I_lake_9 ⟨fun c => ?_, fun c => ?_⟩
  · replace hm := ia_ifn hm c
    show K 15 [some (.inr (.inr 64)), some (.inl x1), some (.inl x2), none] [] h
    obtain ⟨c2, hm⟩ := ia_gd_some hm
    refine ia_go hK ck_I_lake_15 ⟨gk_0 hg pk_64, gr_0_0 hg pk_64, gk_10 hg (ka_0_0 pk_64), gr_10_5 hg (ka_0_0 pk_64), ga_r107 hg (ka_10_5 (ka_0_0 pk_64)) c2, ?_⟩
    show K (ia_tsw 26 59 0 4 #[34, 39, 44, 49, 54] x2) [some (.inr (.inr 64)), some (.inl x1), some (.inl x2), some (.inr (.inr (68 + 1 + 12 * (x1).toNatClampNeg)))] [] h
    by_cases c3 : x2 = 0
    · replace hm := ia_ifp hm c3
      rw [show ia_tsw 26 59 0 4 #[34, 39, 44, 49, 54] x2 = 60 from by rw [c3]; decide]
      refine ia_go hK ck_I_lake_60 ⟨gk_3 hg (ke_107 (ka_10_5 (ka_0_0 pk_64)) c2), ?_⟩
      show K 64 [some (.inr (.inr 64)), some (.inl x1), some (.inl x2), some (.inr (.inr (68 + 1 + 12 * (x1).toNatClampNeg)))] [.inl (ia_i h (68 + 1 + 12 * (x1).toNatClampNeg) 0)] h
      obtain rfl := Option.some.inj hm
      exact hret 64 _ dc_I_lake_64
    · replace hm := ia_ifn hm c3
      by_cases c4 : x2 = 1
      · replace hm := ia_ifp hm c4
        rw [show ia_tsw 26 59 0 4 #[34, 39, 44, 49, 54] x2 = 65 from by rw [c4]; decide]
        refine ia_go hK ck_I_lake_65 ⟨gk_3 hg (ke_107 (ka_10_5 (ka_0_0 pk_64)) c2), ?_⟩
        show K 69 [some (.inr (.inr 64)), some (.inl x1), some (.inl x2), some (.inr (.inr (68 + 1 + 12 * (x1).toNatClampNeg)))] [.inl (ia_i h (68 + 1 + 12 * (x1).toNatClampNeg) 1)] h
        obtain rfl := Option.some.inj hm
        exact hret 69 _ dc_I_lake_69
      · replace hm := ia_ifn hm c4
        by_cases c5 : x2 = 2
        · replace hm := ia_ifp hm c5
          rw [show ia_tsw 26 59 0 4 #[34, 39, 44, 49, 54] x2 = 70 from by rw [c5]; decide]
          refine ia_go hK ck_I_lake_70 ⟨gk_3 hg (ke_107 (ka_10_5 (ka_0_0 pk_64)) c2), ?_⟩
          show K 74 [some (.inr (.inr 64)), some (.inl x1), some (.inl x2), some (.inr (.inr (68 + 1 + 12 * (x1).toNatClampNeg)))] [.inl (ia_i h (68 + 1 + 12 * (x1).toNatClampNeg) 2)] h
          obtain rfl := Option.some.inj hm
          exact hret 74 _ dc_I_lake_74
        · replace hm := ia_ifn hm c5
          by_cases c6 : x2 = 3
          · replace hm := ia_ifp hm c6
            rw [show ia_tsw 26 59 0 4 #[34, 39, 44, 49, 54] x2 = 75 from by rw [c6]; decide]
            refine ia_go hK ck_I_lake_75 ⟨gk_3 hg (ke_107 (ka_10_5 (ka_0_0 pk_64)) c2), ?_⟩
            show K 79 [some (.inr (.inr 64)), some (.inl x1), some (.inl x2), some (.inr (.inr (68 + 1 + 12 * (x1).toNatClampNeg)))] [.inl (ia_i h (68 + 1 + 12 * (x1).toNatClampNeg) 10)] h
            obtain rfl := Option.some.inj hm
            exact hret 79 _ dc_I_lake_79
          · replace hm := ia_ifn hm c6
            by_cases c7 : x2 = 4
            · replace hm := ia_ifp hm c7
              rw [show ia_tsw 26 59 0 4 #[34, 39, 44, 49, 54] x2 = 80 from by rw [c7]; decide]
              refine ia_go hK ck_I_lake_80 ⟨gk_3 hg (ke_107 (ka_10_5 (ka_0_0 pk_64)) c2), ?_⟩
              show K 84 [some (.inr (.inr 64)), some (.inl x1), some (.inl x2), some (.inr (.inr (68 + 1 + 12 * (x1).toNatClampNeg)))] [.inl (ia_i h (68 + 1 + 12 * (x1).toNatClampNeg) 11)] h
              obtain rfl := Option.some.inj hm
              exact hret 84 _ dc_I_lake_84
            · replace hm := ia_ifn hm c7
              rw [show ia_tsw 26 59 0 4 #[34, 39, 44, 49, 54] x2 = 85 from (ia_tsw_d (fun k h1 h2 => by
                  rcases (show k = 0 ∨ k = 1 ∨ k = 2 ∨ k = 3 ∨ k = 4 by omega) with rfl | rfl | rfl | rfl | rfl
                  · exact c3
                  · exact c4
                  · exact c5
                  · exact c6
                  · exact c7
                  )).trans (by decide)]
              refine ia_go hK ck_I_lake_85 ⟨fun c => ?_, fun c => ?_⟩
              · replace hm := ia_ifp hm c
                show K 114 [some (.inr (.inr 64)), some (.inl x1), some (.inl x2), some (.inr (.inr (68 + 1 + 12 * (x1).toNatClampNeg)))] [] h
                refine ia_go hK ck_I_lake_114 ?_
                show K 116 [some (.inr (.inr 64)), some (.inl x1), some (.inl x2), some (.inr (.inr (68 + 1 + 12 * (x1).toNatClampNeg)))] [.inl (-100)] h
                obtain rfl := Option.some.inj hm
                exact hret 116 _ dc_I_lake_116
              · replace hm := ia_ifn hm c
                show K 91 [some (.inr (.inr 64)), some (.inl x1), some (.inl x2), some (.inr (.inr (68 + 1 + 12 * (x1).toNatClampNeg)))] [] h
                refine ia_go hK ck_I_lake_91 ⟨gk_3 hg (ke_107 (ka_10_5 (ka_0_0 pk_64)) c2), fun c => ?_, fun c => ?_⟩
                · replace hm := ia_ifp hm c
                  show K 114 [some (.inr (.inr 64)), some (.inl x1), some (.inl x2), some (.inr (.inr (68 + 1 + 12 * (x1).toNatClampNeg)))] [] h
                  refine ia_go hK ck_I_lake_114 ?_
                  show K 116 [some (.inr (.inr 64)), some (.inl x1), some (.inl x2), some (.inr (.inr (68 + 1 + 12 * (x1).toNatClampNeg)))] [.inl (-100)] h
                  obtain rfl := Option.some.inj hm
                  exact hret 116 _ dc_I_lake_116
                · replace hm := ia_ifn hm c
                  show K 102 [some (.inr (.inr 64)), some (.inl x1), some (.inl x2), some (.inr (.inr (68 + 1 + 12 * (x1).toNatClampNeg)))] [] h
                  obtain ⟨c8, hm⟩ := ia_gd_some hm
                  refine ia_go hK ck_I_lake_102 ⟨gk_3 hg (ke_107 (ka_10_5 (ka_0_0 pk_64)) c2), gr_3_9 hg (ke_107 (ka_10_5 (ka_0_0 pk_64)) c2), ga_i100 hg (ka_3_9 (ke_107 (ka_10_5 (ka_0_0 pk_64)) c2)) c8, ?_⟩
                  show K 116 [some (.inr (.inr 64)), some (.inl x1), some (.inl x2), some (.inr (.inr (68 + 1 + 12 * (x1).toNatClampNeg)))] [.inl (ia_i h ((68 + 1 + 12 * (x1).toNatClampNeg) + 5) ((x2 - 20).toNatClampNeg))] h
                  obtain rfl := Option.some.inj hm
                  exact hret 116 _ dc_I_lake_116
  · replace hm := ia_ifp hm c
    show K 12 [some (.inr (.inr 64)), some (.inl x1), some (.inl x2), none] [] h
    refine ia_go hK ck_I_lake_12 ?_
    show K 14 [some (.inr (.inr 64)), some (.inl x1), some (.inl x2), none] [.inl (-100)] h
    obtain rfl := Option.some.inj hm
    exact hret 14 _ dc_I_lake_14
def mm_La_isCell : ia_M := (⟨"IceStreet$Lake", "isCell", "(I)Z"⟩, prog_4_method_5_code, 2, (some .boolean), 3, false)
theorem ok_La_isCell : ia_mok mm_La_isCell := ⟨by decide +kernel, by decide +kernel, by decide +kernel, by decide +kernel⟩
theorem mk_La_isCell : ia_mkn mm_La_isCell 1 1 := ⟨ia_tb_in (List.mem_of_getElem? (i := 1005) (by decide +kernel)) rfl, ia_tb_in (List.mem_of_getElem? (i := 135) (by decide +kernel)) rfl, by decide +kernel, by decide +kernel, ⟨ia_tb_in (List.mem_of_getElem? (i := 1003) (by decide +kernel)) rfl, ia_tb_in (List.mem_of_getElem? (i := 1004) (by decide +kernel)) rfl⟩⟩
theorem ck_La_isCell_0 : ia_cks 3 2 false prog_4_method_5_code 0 [(.iload_n 1, 0, 0, 0, 0), (.ifCond .lt 20, 0, 0, 0, 0)] = true := by decide +kernel
theorem ck_La_isCell_21 : ia_cks 3 2 false prog_4_method_5_code 21 [(.iconst 0, 0, 0, 0, 0)] = true := by decide +kernel
theorem ck_La_isCell_4 : ia_cks 3 2 false prog_4_method_5_code 4 [(.iload_n 1, 0, 0, 0, 0), (.aload_n 0, 0, 0, 0, 0), (.getfield 49, 3, 0, 0, 0), (.aload_n 0, 0, 0, 0, 0), (.getfield 53, 3, 1, 0, 0), (.imul, 0, 0, 0, 0), (.if_icmp .ge 7, 0, 0, 0, 0)] = true := by decide +kernel
theorem ck_La_isCell_17 : ia_cks 3 2 false prog_4_method_5_code 17 [(.iconst 1, 0, 0, 0, 0), (.goto 4, 0, 0, 0, 0)] = true := by decide +kernel
theorem dc_La_isCell_22 : decode prog_4_method_5_code 22 = .ok (.ireturn, 1) := by decide +kernel
def f_La_isCell (a0 : Nat) (x1 : Int32) (h : ia_H) : Option Int32 := if x1 < 0 then (some 0) else (if ((ia_i h a0 0) * (ia_i h a0 1)) ≤ x1 then (some 0) else (some 1))
theorem t_La_isCell {w : ia_O0} (d : Nat) {a0 : Nat} {x1 : Int32} {h : ia_H} (hg : gd_ w h) (p0 : (kd_D a0).1 = 3) {r : Int32} (hm : f_La_isCell a0 x1 h = some r) : ia_Ev (d + 0) mm_La_isCell [.inr (.inr a0), .inl x1] h (some (.inl r)) h := by
  refine ia_Ev_intro ok_La_isCell (Nat.le_refl _) (Nat.le_refl _) (Nat.le_of_ble_eq_true rfl) (fun K hK hret => ?_)
  show K 0 [some (.inr (.inr a0)), some (.inl x1)] [] h
  unfold f_La_isCell at hm
  refine ia_go hK ck_La_isCell_0 ⟨fun c => ?_, fun c => ?_⟩
  · replace hm := ia_ifp hm c
    show K 21 [some (.inr (.inr a0)), some (.inl x1)] [] h
    refine ia_go hK ck_La_isCell_21 ?_
    show K 22 [some (.inr (.inr a0)), some (.inl x1)] [.inl 0] h
    obtain rfl := Option.some.inj hm
    exact hret 22 _ ⟨Or.inl rfl, dc_La_isCell_22⟩
  · replace hm := ia_ifn hm c
    show K 4 [some (.inr (.inr a0)), some (.inl x1)] [] h
    refine ia_go hK ck_La_isCell_4 ⟨gk_3 hg p0, gk_3 hg p0, fun c => ?_, fun c => ?_⟩
    · replace hm := ia_ifp hm c
      show K 21 [some (.inr (.inr a0)), some (.inl x1)] [] h
      refine ia_go hK ck_La_isCell_21 ?_
      show K 22 [some (.inr (.inr a0)), some (.inl x1)] [.inl 0] h
      obtain rfl := Option.some.inj hm
      exact hret 22 _ ⟨Or.inl rfl, dc_La_isCell_22⟩
    · replace hm := ia_ifn hm c
      show K 17 [some (.inr (.inr a0)), some (.inl x1)] [] h
      refine ia_go hK ck_La_isCell_17 ?_
      show K 22 [some (.inr (.inr a0)), some (.inl x1)] [.inl 1] h
      obtain rfl := Option.some.inj hm
      exact hret 22 _ ⟨Or.inr rfl, dc_La_isCell_22⟩
def mm_Lo_bitCount : ia_M := (⟨"java/lang/Long", "bitCount", "(J)I"⟩, prog_15_method_50_code, 2, (some .int), 14, false)
theorem ok_Lo_bitCount : ia_mok mm_Lo_bitCount := ⟨by decide +kernel, by decide +kernel, by decide +kernel, by decide +kernel⟩
theorem mk_Lo_bitCount : ia_mkn mm_Lo_bitCount 0 1 := ⟨ia_tb_in (List.mem_of_getElem? (i := 1009) (by decide +kernel)) rfl, ia_tb_in (List.mem_of_getElem? (i := 153) (by decide +kernel)) rfl, by decide +kernel, by decide +kernel, ia_tb_in (List.mem_of_getElem? (i := 1008) (by decide +kernel)) rfl⟩
theorem ck_Lo_bitCount_0 : ia_cks 14 2 false prog_15_method_50_code 0 [(.lload_n 0, 0, 0, 0, 0), (.lload_n 0, 0, 0, 0, 0), (.iconst 1, 0, 0, 0, 0), (.lushr, 0, 0, 0, 0)] = true := by decide +kernel
theorem ck_Lo_bitCount_7 : ia_cks 14 2 false prog_15_method_50_code 7 [(.land, 0, 0, 0, 0), (.lsub, 0, 0, 0, 0), (.lstore_n 0, 0, 0, 0, 0), (.lload_n 0, 0, 0, 0, 0)] = true := by decide +kernel
theorem ck_Lo_bitCount_14 : ia_cks 14 2 false prog_15_method_50_code 14 [(.land, 0, 0, 0, 0), (.lload_n 0, 0, 0, 0, 0), (.iconst 2, 0, 0, 0, 0), (.lushr, 0, 0, 0, 0)] = true := by decide +kernel
theorem ck_Lo_bitCount_21 : ia_cks 14 2 false prog_15_method_50_code 21 [(.land, 0, 0, 0, 0), (.ladd, 0, 0, 0, 0), (.lstore_n 0, 0, 0, 0, 0), (.lload_n 0, 0, 0, 0, 0), (.lload_n 0, 0, 0, 0, 0), (.iconst 4, 0, 0, 0, 0), (.lushr, 0, 0, 0, 0), (.ladd, 0, 0, 0, 0)] = true := by decide +kernel
theorem ck_Lo_bitCount_32 : ia_cks 14 2 false prog_15_method_50_code 32 [(.land, 0, 0, 0, 0), (.lstore_n 0, 0, 0, 0, 0), (.lload_n 0, 0, 0, 0, 0), (.lload_n 0, 0, 0, 0, 0), (.bipush 8, 0, 0, 0, 0), (.lushr, 0, 0, 0, 0), (.ladd, 0, 0, 0, 0), (.lstore_n 0, 0, 0, 0, 0), (.lload_n 0, 0, 0, 0, 0), (.lload_n 0, 0, 0, 0, 0), (.bipush 16, 0, 0, 0, 0), (.lushr, 0, 0, 0, 0), (.ladd, 0, 0, 0, 0), (.lstore_n 0, 0, 0, 0, 0), (.lload_n 0, 0, 0, 0, 0), (.lload_n 0, 0, 0, 0, 0), (.bipush 32, 0, 0, 0, 0), (.lushr, 0, 0, 0, 0), (.ladd, 0, 0, 0, 0), (.lstore_n 0, 0, 0, 0, 0), (.lload_n 0, 0, 0, 0, 0), (.l2i, 0, 0, 0, 0), (.bipush 127, 0, 0, 0, 0), (.iand, 0, 0, 0, 0)] = true := by decide +kernel
theorem dc_Lo_bitCount_4 : decode prog_15_method_50_code 4 = .ok (.ldc2_w 314, 3) := by decide +kernel
theorem dc_Lo_bitCount_11 : decode prog_15_method_50_code 11 = .ok (.ldc2_w 316, 3) := by decide +kernel
theorem dc_Lo_bitCount_18 : decode prog_15_method_50_code 18 = .ok (.ldc2_w 316, 3) := by decide +kernel
theorem dc_Lo_bitCount_29 : decode prog_15_method_50_code 29 = .ok (.ldc2_w 318, 3) := by decide +kernel
theorem dc_Lo_bitCount_60 : decode prog_15_method_50_code 60 = .ok (.ireturn, 1) := by decide +kernel
def f_Lo_bitCount (y0 : Int64) (h : ia_H) : Option Int32 := some ((((((((((y0 - (((y0.toUInt64 >>> ((1 : Int32).toInt64.toUInt64 &&& Int64.toUInt64 63)).toInt64) &&& 6148914691236517205)) &&& 3689348814741910323) + ((((y0 - (((y0.toUInt64 >>> ((1 : Int32).toInt64.toUInt64 &&& Int64.toUInt64 63)).toInt64) &&& 6148914691236517205)).toUInt64 >>> ((2 : Int32).toInt64.toUInt64 &&& Int64.toUInt64 63)).toInt64) &&& 3689348814741910323)) + (((((y0 - (((y0.toUInt64 >>> ((1 : Int32).toInt64.toUInt64 &&& Int64.toUInt64 63)).toInt64) &&& 6148914691236517205)) &&& 3689348814741910323) + ((((y0 - (((y0.toUInt64 >>> ((1 : Int32).toInt64.toUInt64 &&& Int64.toUInt64 63)).toInt64) &&& 6148914691236517205)).toUInt64 >>> ((2 : Int32).toInt64.toUInt64 &&& Int64.toUInt64 63)).toInt64) &&& 3689348814741910323)).toUInt64 >>> ((4 : Int32).toInt64.toUInt64 &&& Int64.toUInt64 63)).toInt64)) &&& 1085102592571150095) + (((((((y0 - (((y0.toUInt64 >>> ((1 : Int32).toInt64.toUInt64 &&& Int64.toUInt64 63)).toInt64) &&& 6148914691236517205)) &&& 3689348814741910323) + ((((y0 - (((y0.toUInt64 >>> ((1 : Int32).toInt64.toUInt64 &&& Int64.toUInt64 63)).toInt64) &&& 6148914691236517205)).toUInt64 >>> ((2 : Int32).toInt64.toUInt64 &&& Int64.toUInt64 63)).toInt64) &&& 3689348814741910323)) + (((((y0 - (((y0.toUInt64 >>> ((1 : Int32).toInt64.toUInt64 &&& Int64.toUInt64 63)).toInt64) &&& 6148914691236517205)) &&& 3689348814741910323) + ((((y0 - (((y0.toUInt64 >>> ((1 : Int32).toInt64.toUInt64 &&& Int64.toUInt64 63)).toInt64) &&& 6148914691236517205)).toUInt64 >>> ((2 : Int32).toInt64.toUInt64 &&& Int64.toUInt64 63)).toInt64) &&& 3689348814741910323)).toUInt64 >>> ((4 : Int32).toInt64.toUInt64 &&& Int64.toUInt64 63)).toInt64)) &&& 1085102592571150095).toUInt64 >>> ((8 : Int32).toInt64.toUInt64 &&& Int64.toUInt64 63)).toInt64)) + ((((((((y0 - (((y0.toUInt64 >>> ((1 : Int32).toInt64.toUInt64 &&& Int64.toUInt64 63)).toInt64) &&& 6148914691236517205)) &&& 3689348814741910323) + ((((y0 - (((y0.toUInt64 >>> ((1 : Int32).toInt64.toUInt64 &&& Int64.toUInt64 63)).toInt64) &&& 6148914691236517205)).toUInt64 >>> ((2 : Int32).toInt64.toUInt64 &&& Int64.toUInt64 63)).toInt64) &&& 3689348814741910323)) + (((((y0 - (((y0.toUInt64 >>> ((1 : Int32).toInt64.toUInt64 &&& Int64.toUInt64 63)).toInt64) &&& 6148914691236517205)) &&& 3689348814741910323) + ((((y0 - (((y0.toUInt64 >>> ((1 : Int32).toInt64.toUInt64 &&& Int64.toUInt64 63)).toInt64) &&& 6148914691236517205)).toUInt64 >>> ((2 : Int32).toInt64.toUInt64 &&& Int64.toUInt64 63)).toInt64) &&& 3689348814741910323)).toUInt64 >>> ((4 : Int32).toInt64.toUInt64 &&& Int64.toUInt64 63)).toInt64)) &&& 1085102592571150095) + (((((((y0 - (((y0.toUInt64 >>> ((1 : Int32).toInt64.toUInt64 &&& Int64.toUInt64 63)).toInt64) &&& 6148914691236517205)) &&& 3689348814741910323) + ((((y0 - (((y0.toUInt64 >>> ((1 : Int32).toInt64.toUInt64 &&& Int64.toUInt64 63)).toInt64) &&& 6148914691236517205)).toUInt64 >>> ((2 : Int32).toInt64.toUInt64 &&& Int64.toUInt64 63)).toInt64) &&& 3689348814741910323)) + (((((y0 - (((y0.toUInt64 >>> ((1 : Int32).toInt64.toUInt64 &&& Int64.toUInt64 63)).toInt64) &&& 6148914691236517205)) &&& 3689348814741910323) + ((((y0 - (((y0.toUInt64 >>> ((1 : Int32).toInt64.toUInt64 &&& Int64.toUInt64 63)).toInt64) &&& 6148914691236517205)).toUInt64 >>> ((2 : Int32).toInt64.toUInt64 &&& Int64.toUInt64 63)).toInt64) &&& 3689348814741910323)).toUInt64 >>> ((4 : Int32).toInt64.toUInt64 &&& Int64.toUInt64 63)).toInt64)) &&& 1085102592571150095).toUInt64 >>> ((8 : Int32).toInt64.toUInt64 &&& Int64.toUInt64 63)).toInt64)).toUInt64 >>> ((16 : Int32).toInt64.toUInt64 &&& Int64.toUInt64 63)).toInt64)) + (((((((((y0 - (((y0.toUInt64 >>> ((1 : Int32).toInt64.toUInt64 &&& Int64.toUInt64 63)).toInt64) &&& 6148914691236517205)) &&& 3689348814741910323) + ((((y0 - (((y0.toUInt64 >>> ((1 : Int32).toInt64.toUInt64 &&& Int64.toUInt64 63)).toInt64) &&& 6148914691236517205)).toUInt64 >>> ((2 : Int32).toInt64.toUInt64 &&& Int64.toUInt64 63)).toInt64) &&& 3689348814741910323)) + (((((y0 - (((y0.toUInt64 >>> ((1 : Int32).toInt64.toUInt64 &&& Int64.toUInt64 63)).toInt64) &&& 6148914691236517205)) &&& 3689348814741910323) + ((((y0 - (((y0.toUInt64 >>> ((1 : Int32).toInt64.toUInt64 &&& Int64.toUInt64 63)).toInt64) &&& 6148914691236517205)).toUInt64 >>> ((2 : Int32).toInt64.toUInt64 &&& Int64.toUInt64 63)).toInt64) &&& 3689348814741910323)).toUInt64 >>> ((4 : Int32).toInt64.toUInt64 &&& Int64.toUInt64 63)).toInt64)) &&& 1085102592571150095) + (((((((y0 - (((y0.toUInt64 >>> ((1 : Int32).toInt64.toUInt64 &&& Int64.toUInt64 63)).toInt64) &&& 6148914691236517205)) &&& 3689348814741910323) + ((((y0 - (((y0.toUInt64 >>> ((1 : Int32).toInt64.toUInt64 &&& Int64.toUInt64 63)).toInt64) &&& 6148914691236517205)).toUInt64 >>> ((2 : Int32).toInt64.toUInt64 &&& Int64.toUInt64 63)).toInt64) &&& 3689348814741910323)) + (((((y0 - (((y0.toUInt64 >>> ((1 : Int32).toInt64.toUInt64 &&& Int64.toUInt64 63)).toInt64) &&& 6148914691236517205)) &&& 3689348814741910323) + ((((y0 - (((y0.toUInt64 >>> ((1 : Int32).toInt64.toUInt64 &&& Int64.toUInt64 63)).toInt64) &&& 6148914691236517205)).toUInt64 >>> ((2 : Int32).toInt64.toUInt64 &&& Int64.toUInt64 63)).toInt64) &&& 3689348814741910323)).toUInt64 >>> ((4 : Int32).toInt64.toUInt64 &&& Int64.toUInt64 63)).toInt64)) &&& 1085102592571150095).toUInt64 >>> ((8 : Int32).toInt64.toUInt64 &&& Int64.toUInt64 63)).toInt64)) + ((((((((y0 - (((y0.toUInt64 >>> ((1 : Int32).toInt64.toUInt64 &&& Int64.toUInt64 63)).toInt64) &&& 6148914691236517205)) &&& 3689348814741910323) + ((((y0 - (((y0.toUInt64 >>> ((1 : Int32).toInt64.toUInt64 &&& Int64.toUInt64 63)).toInt64) &&& 6148914691236517205)).toUInt64 >>> ((2 : Int32).toInt64.toUInt64 &&& Int64.toUInt64 63)).toInt64) &&& 3689348814741910323)) + (((((y0 - (((y0.toUInt64 >>> ((1 : Int32).toInt64.toUInt64 &&& Int64.toUInt64 63)).toInt64) &&& 6148914691236517205)) &&& 3689348814741910323) + ((((y0 - (((y0.toUInt64 >>> ((1 : Int32).toInt64.toUInt64 &&& Int64.toUInt64 63)).toInt64) &&& 6148914691236517205)).toUInt64 >>> ((2 : Int32).toInt64.toUInt64 &&& Int64.toUInt64 63)).toInt64) &&& 3689348814741910323)).toUInt64 >>> ((4 : Int32).toInt64.toUInt64 &&& Int64.toUInt64 63)).toInt64)) &&& 1085102592571150095) + (((((((y0 - (((y0.toUInt64 >>> ((1 : Int32).toInt64.toUInt64 &&& Int64.toUInt64 63)).toInt64) &&& 6148914691236517205)) &&& 3689348814741910323) + ((((y0 - (((y0.toUInt64 >>> ((1 : Int32).toInt64.toUInt64 &&& Int64.toUInt64 63)).toInt64) &&& 6148914691236517205)).toUInt64 >>> ((2 : Int32).toInt64.toUInt64 &&& Int64.toUInt64 63)).toInt64) &&& 3689348814741910323)) + (((((y0 - (((y0.toUInt64 >>> ((1 : Int32).toInt64.toUInt64 &&& Int64.toUInt64 63)).toInt64) &&& 6148914691236517205)) &&& 3689348814741910323) + ((((y0 - (((y0.toUInt64 >>> ((1 : Int32).toInt64.toUInt64 &&& Int64.toUInt64 63)).toInt64) &&& 6148914691236517205)).toUInt64 >>> ((2 : Int32).toInt64.toUInt64 &&& Int64.toUInt64 63)).toInt64) &&& 3689348814741910323)).toUInt64 >>> ((4 : Int32).toInt64.toUInt64 &&& Int64.toUInt64 63)).toInt64)) &&& 1085102592571150095).toUInt64 >>> ((8 : Int32).toInt64.toUInt64 &&& Int64.toUInt64 63)).toInt64)).toUInt64 >>> ((16 : Int32).toInt64.toUInt64 &&& Int64.toUInt64 63)).toInt64)).toUInt64 >>> ((32 : Int32).toInt64.toUInt64 &&& Int64.toUInt64 63)).toInt64)).toInt32) &&& 127)
theorem t_Lo_bitCount {w : ia_O0} (d : Nat) {y0 : Int64} {h : ia_H} (hg : gd_ w h) {r : Int32} (hm : f_Lo_bitCount y0 h = some r) : ia_Ev (d + 0) mm_Lo_bitCount [.inr (.inl y0)] h (some (.inl r)) h := by
  refine ia_Ev_intro ok_Lo_bitCount (Nat.le_refl _) (Nat.le_refl _) (Nat.le_of_ble_eq_true rfl) (fun K hK hret => ?_)
  show K 0 [some (.inr (.inl y0)), none] [] h
  unfold f_Lo_bitCount at hm
  refine ia_go hK ck_Lo_bitCount_0 ?_
  show K 4 [some (.inr (.inl y0)), none] [.inr (.inl ((y0.toUInt64 >>> ((1 : Int32).toInt64.toUInt64 &&& Int64.toUInt64 63)).toInt64)), .inr (.inl y0)] h
  refine ia_ldc2 hK (v := 6148914691236517205) (ia_tb_in (List.mem_of_getElem? (i := 1010) (by decide +kernel)) rfl) dc_Lo_bitCount_4 ?_
  show K 7 [some (.inr (.inl y0)), none] [.inr (.inl 6148914691236517205), .inr (.inl ((y0.toUInt64 >>> ((1 : Int32).toInt64.toUInt64 &&& Int64.toUInt64 63)).toInt64)), .inr (.inl y0)] h
  refine ia_go hK ck_Lo_bitCount_7 ?_
  show K 11 [some (.inr (.inl (y0 - (((y0.toUInt64 >>> ((1 : Int32).toInt64.toUInt64 &&& Int64.toUInt64 63)).toInt64) &&& 6148914691236517205)))), none] [.inr (.inl (y0 - (((y0.toUInt64 >>> ((1 : Int32).toInt64.toUInt64 &&& Int64.toUInt64 63)).toInt64) &&& 6148914691236517205)))] h
  refine ia_ldc2 hK (v := 3689348814741910323) (ia_tb_in (List.mem_of_getElem? (i := 1011) (by decide +kernel)) rfl) dc_Lo_bitCount_11 ?_
  show K 14 [some (.inr (.inl (y0 - (((y0.toUInt64 >>> ((1 : Int32).toInt64.toUInt64 &&& Int64.toUInt64 63)).toInt64) &&& 6148914691236517205)))), none] [.inr (.inl 3689348814741910323), .inr (.inl (y0 - (((y0.toUInt64 >>> ((1 : Int32).toInt64.toUInt64 &&& Int64.toUInt64 63)).toInt64) &&& 6148914691236517205)))] h
  refine ia_go hK ck_Lo_bitCount_14 ?_
  show K 18 [some (.inr (.inl (y0 - (((y0.toUInt64 >>> ((1 : Int32).toInt64.toUInt64 &&& Int64.toUInt64 63)).toInt64) &&& 6148914691236517205)))), none] [.inr (.inl (((y0 - (((y0.toUInt64 >>> ((1 : Int32).toInt64.toUInt64 &&& Int64.toUInt64 63)).toInt64) &&& 6148914691236517205)).toUInt64 >>> ((2 : Int32).toInt64.toUInt64 &&& Int64.toUInt64 63)).toInt64)), .inr (.inl ((y0 - (((y0.toUInt64 >>> ((1 : Int32).toInt64.toUInt64 &&& Int64.toUInt64 63)).toInt64) &&& 6148914691236517205)) &&& 3689348814741910323))] h
  refine ia_ldc2 hK (v := 3689348814741910323) (ia_tb_in (List.mem_of_getElem? (i := 1011) (by decide +kernel)) rfl) dc_Lo_bitCount_18 ?_
  show K 21 [some (.inr (.inl (y0 - (((y0.toUInt64 >>> ((1 : Int32).toInt64.toUInt64 &&& Int64.toUInt64 63)).toInt64) &&& 6148914691236517205)))), none] [.inr (.inl 3689348814741910323), .inr (.inl (((y0 - (((y0.toUInt64 >>> ((1 : Int32).toInt64.toUInt64 &&& Int64.toUInt64 63)).toInt64) &&& 6148914691236517205)).toUInt64 >>> ((2 : Int32).toInt64.toUInt64 &&& Int64.toUInt64 63)).toInt64)), .inr (.inl ((y0 - (((y0.toUInt64 >>> ((1 : Int32).toInt64.toUInt64 &&& Int64.toUInt64 63)).toInt64) &&& 6148914691236517205)) &&& 3689348814741910323))] h
  refine ia_go hK ck_Lo_bitCount_21 ?_
  show K 29 [some (.inr (.inl (((y0 - (((y0.toUInt64 >>> ((1 : Int32).toInt64.toUInt64 &&& Int64.toUInt64 63)).toInt64) &&& 6148914691236517205)) &&& 3689348814741910323) + ((((y0 - (((y0.toUInt64 >>> ((1 : Int32).toInt64.toUInt64 &&& Int64.toUInt64 63)).toInt64) &&& 6148914691236517205)).toUInt64 >>> ((2 : Int32).toInt64.toUInt64 &&& Int64.toUInt64 63)).toInt64) &&& 3689348814741910323)))), none] [.inr (.inl ((((y0 - (((y0.toUInt64 >>> ((1 : Int32).toInt64.toUInt64 &&& Int64.toUInt64 63)).toInt64) &&& 6148914691236517205)) &&& 3689348814741910323) + ((((y0 - (((y0.toUInt64 >>> ((1 : Int32).toInt64.toUInt64 &&& Int64.toUInt64 63)).toInt64) &&& 6148914691236517205)).toUInt64 >>> ((2 : Int32).toInt64.toUInt64 &&& Int64.toUInt64 63)).toInt64) &&& 3689348814741910323)) + (((((y0 - (((y0.toUInt64 >>> ((1 : Int32).toInt64.toUInt64 &&& Int64.toUInt64 63)).toInt64) &&& 6148914691236517205)) &&& 3689348814741910323) + ((((y0 - (((y0.toUInt64 >>> ((1 : Int32).toInt64.toUInt64 &&& Int64.toUInt64 63)).toInt64) &&& 6148914691236517205)).toUInt64 >>> ((2 : Int32).toInt64.toUInt64 &&& Int64.toUInt64 63)).toInt64) &&& 3689348814741910323)).toUInt64 >>> ((4 : Int32).toInt64.toUInt64 &&& Int64.toUInt64 63)).toInt64)))] h
  refine ia_ldc2 hK (v := 1085102592571150095) (ia_tb_in (List.mem_of_getElem? (i := 1012) (by decide +kernel)) rfl) dc_Lo_bitCount_29 ?_
  show K 32 [some (.inr (.inl (((y0 - (((y0.toUInt64 >>> ((1 : Int32).toInt64.toUInt64 &&& Int64.toUInt64 63)).toInt64) &&& 6148914691236517205)) &&& 3689348814741910323) + ((((y0 - (((y0.toUInt64 >>> ((1 : Int32).toInt64.toUInt64 &&& Int64.toUInt64 63)).toInt64) &&& 6148914691236517205)).toUInt64 >>> ((2 : Int32).toInt64.toUInt64 &&& Int64.toUInt64 63)).toInt64) &&& 3689348814741910323)))), none] [.inr (.inl 1085102592571150095), .inr (.inl ((((y0 - (((y0.toUInt64 >>> ((1 : Int32).toInt64.toUInt64 &&& Int64.toUInt64 63)).toInt64) &&& 6148914691236517205)) &&& 3689348814741910323) + ((((y0 - (((y0.toUInt64 >>> ((1 : Int32).toInt64.toUInt64 &&& Int64.toUInt64 63)).toInt64) &&& 6148914691236517205)).toUInt64 >>> ((2 : Int32).toInt64.toUInt64 &&& Int64.toUInt64 63)).toInt64) &&& 3689348814741910323)) + (((((y0 - (((y0.toUInt64 >>> ((1 : Int32).toInt64.toUInt64 &&& Int64.toUInt64 63)).toInt64) &&& 6148914691236517205)) &&& 3689348814741910323) + ((((y0 - (((y0.toUInt64 >>> ((1 : Int32).toInt64.toUInt64 &&& Int64.toUInt64 63)).toInt64) &&& 6148914691236517205)).toUInt64 >>> ((2 : Int32).toInt64.toUInt64 &&& Int64.toUInt64 63)).toInt64) &&& 3689348814741910323)).toUInt64 >>> ((4 : Int32).toInt64.toUInt64 &&& Int64.toUInt64 63)).toInt64)))] h
  refine ia_go hK ck_Lo_bitCount_32 ?_
  show K 60 [some (.inr (.inl ((((((((y0 - (((y0.toUInt64 >>> ((1 : Int32).toInt64.toUInt64 &&& Int64.toUInt64 63)).toInt64) &&& 6148914691236517205)) &&& 3689348814741910323) + ((((y0 - (((y0.toUInt64 >>> ((1 : Int32).toInt64.toUInt64 &&& Int64.toUInt64 63)).toInt64) &&& 6148914691236517205)).toUInt64 >>> ((2 : Int32).toInt64.toUInt64 &&& Int64.toUInt64 63)).toInt64) &&& 3689348814741910323)) + (((((y0 - (((y0.toUInt64 >>> ((1 : Int32).toInt64.toUInt64 &&& Int64.toUInt64 63)).toInt64) &&& 6148914691236517205)) &&& 3689348814741910323) + ((((y0 - (((y0.toUInt64 >>> ((1 : Int32).toInt64.toUInt64 &&& Int64.toUInt64 63)).toInt64) &&& 6148914691236517205)).toUInt64 >>> ((2 : Int32).toInt64.toUInt64 &&& Int64.toUInt64 63)).toInt64) &&& 3689348814741910323)).toUInt64 >>> ((4 : Int32).toInt64.toUInt64 &&& Int64.toUInt64 63)).toInt64)) &&& 1085102592571150095) + (((((((y0 - (((y0.toUInt64 >>> ((1 : Int32).toInt64.toUInt64 &&& Int64.toUInt64 63)).toInt64) &&& 6148914691236517205)) &&& 3689348814741910323) + ((((y0 - (((y0.toUInt64 >>> ((1 : Int32).toInt64.toUInt64 &&& Int64.toUInt64 63)).toInt64) &&& 6148914691236517205)).toUInt64 >>> ((2 : Int32).toInt64.toUInt64 &&& Int64.toUInt64 63)).toInt64) &&& 3689348814741910323)) + (((((y0 - (((y0.toUInt64 >>> ((1 : Int32).toInt64.toUInt64 &&& Int64.toUInt64 63)).toInt64) &&& 6148914691236517205)) &&& 3689348814741910323) + ((((y0 - (((y0.toUInt64 >>> ((1 : Int32).toInt64.toUInt64 &&& Int64.toUInt64 63)).toInt64) &&& 6148914691236517205)).toUInt64 >>> ((2 : Int32).toInt64.toUInt64 &&& Int64.toUInt64 63)).toInt64) &&& 3689348814741910323)).toUInt64 >>> ((4 : Int32).toInt64.toUInt64 &&& Int64.toUInt64 63)).toInt64)) &&& 1085102592571150095).toUInt64 >>> ((8 : Int32).toInt64.toUInt64 &&& Int64.toUInt64 63)).toInt64)) + ((((((((y0 - (((y0.toUInt64 >>> ((1 : Int32).toInt64.toUInt64 &&& Int64.toUInt64 63)).toInt64) &&& 6148914691236517205)) &&& 3689348814741910323) + ((((y0 - (((y0.toUInt64 >>> ((1 : Int32).toInt64.toUInt64 &&& Int64.toUInt64 63)).toInt64) &&& 6148914691236517205)).toUInt64 >>> ((2 : Int32).toInt64.toUInt64 &&& Int64.toUInt64 63)).toInt64) &&& 3689348814741910323)) + (((((y0 - (((y0.toUInt64 >>> ((1 : Int32).toInt64.toUInt64 &&& Int64.toUInt64 63)).toInt64) &&& 6148914691236517205)) &&& 3689348814741910323) + ((((y0 - (((y0.toUInt64 >>> ((1 : Int32).toInt64.toUInt64 &&& Int64.toUInt64 63)).toInt64) &&& 6148914691236517205)).toUInt64 >>> ((2 : Int32).toInt64.toUInt64 &&& Int64.toUInt64 63)).toInt64) &&& 3689348814741910323)).toUInt64 >>> ((4 : Int32).toInt64.toUInt64 &&& Int64.toUInt64 63)).toInt64)) &&& 1085102592571150095) + (((((((y0 - (((y0.toUInt64 >>> ((1 : Int32).toInt64.toUInt64 &&& Int64.toUInt64 63)).toInt64) &&& 6148914691236517205)) &&& 3689348814741910323) + ((((y0 - (((y0.toUInt64 >>> ((1 : Int32).toInt64.toUInt64 &&& Int64.toUInt64 63)).toInt64) &&& 6148914691236517205)).toUInt64 >>> ((2 : Int32).toInt64.toUInt64 &&& Int64.toUInt64 63)).toInt64) &&& 3689348814741910323)) + (((((y0 - (((y0.toUInt64 >>> ((1 : Int32).toInt64.toUInt64 &&& Int64.toUInt64 63)).toInt64) &&& 6148914691236517205)) &&& 3689348814741910323) + ((((y0 - (((y0.toUInt64 >>> ((1 : Int32).toInt64.toUInt64 &&& Int64.toUInt64 63)).toInt64) &&& 6148914691236517205)).toUInt64 >>> ((2 : Int32).toInt64.toUInt64 &&& Int64.toUInt64 63)).toInt64) &&& 3689348814741910323)).toUInt64 >>> ((4 : Int32).toInt64.toUInt64 &&& Int64.toUInt64 63)).toInt64)) &&& 1085102592571150095).toUInt64 >>> ((8 : Int32).toInt64.toUInt64 &&& Int64.toUInt64 63)).toInt64)).toUInt64 >>> ((16 : Int32).toInt64.toUInt64 &&& Int64.toUInt64 63)).toInt64)) + (((((((((y0 - (((y0.toUInt64 >>> ((1 : Int32).toInt64.toUInt64 &&& Int64.toUInt64 63)).toInt64) &&& 6148914691236517205)) &&& 3689348814741910323) + ((((y0 - (((y0.toUInt64 >>> ((1 : Int32).toInt64.toUInt64 &&& Int64.toUInt64 63)).toInt64) &&& 6148914691236517205)).toUInt64 >>> ((2 : Int32).toInt64.toUInt64 &&& Int64.toUInt64 63)).toInt64) &&& 3689348814741910323)) + (((((y0 - (((y0.toUInt64 >>> ((1 : Int32).toInt64.toUInt64 &&& Int64.toUInt64 63)).toInt64) &&& 6148914691236517205)) &&& 3689348814741910323) + ((((y0 - (((y0.toUInt64 >>> ((1 : Int32).toInt64.toUInt64 &&& Int64.toUInt64 63)).toInt64) &&& 6148914691236517205)).toUInt64 >>> ((2 : Int32).toInt64.toUInt64 &&& Int64.toUInt64 63)).toInt64) &&& 3689348814741910323)).toUInt64 >>> ((4 : Int32).toInt64.toUInt64 &&& Int64.toUInt64 63)).toInt64)) &&& 1085102592571150095) + (((((((y0 - (((y0.toUInt64 >>> ((1 : Int32).toInt64.toUInt64 &&& Int64.toUInt64 63)).toInt64) &&& 6148914691236517205)) &&& 3689348814741910323) + ((((y0 - (((y0.toUInt64 >>> ((1 : Int32).toInt64.toUInt64 &&& Int64.toUInt64 63)).toInt64) &&& 6148914691236517205)).toUInt64 >>> ((2 : Int32).toInt64.toUInt64 &&& Int64.toUInt64 63)).toInt64) &&& 3689348814741910323)) + (((((y0 - (((y0.toUInt64 >>> ((1 : Int32).toInt64.toUInt64 &&& Int64.toUInt64 63)).toInt64) &&& 6148914691236517205)) &&& 3689348814741910323) + ((((y0 - (((y0.toUInt64 >>> ((1 : Int32).toInt64.toUInt64 &&& Int64.toUInt64 63)).toInt64) &&& 6148914691236517205)).toUInt64 >>> ((2 : Int32).toInt64.toUInt64 &&& Int64.toUInt64 63)).toInt64) &&& 3689348814741910323)).toUInt64 >>> ((4 : Int32).toInt64.toUInt64 &&& Int64.toUInt64 63)).toInt64)) &&& 1085102592571150095).toUInt64 >>> ((8 : Int32).toInt64.toUInt64 &&& Int64.toUInt64 63)).toInt64)) + ((((((((y0 - (((y0.toUInt64 >>> ((1 : Int32).toInt64.toUInt64 &&& Int64.toUInt64 63)).toInt64) &&& 6148914691236517205)) &&& 3689348814741910323) + ((((y0 - (((y0.toUInt64 >>> ((1 : Int32).toInt64.toUInt64 &&& Int64.toUInt64 63)).toInt64) &&& 6148914691236517205)).toUInt64 >>> ((2 : Int32).toInt64.toUInt64 &&& Int64.toUInt64 63)).toInt64) &&& 3689348814741910323)) + (((((y0 - (((y0.toUInt64 >>> ((1 : Int32).toInt64.toUInt64 &&& Int64.toUInt64 63)).toInt64) &&& 6148914691236517205)) &&& 3689348814741910323) + ((((y0 - (((y0.toUInt64 >>> ((1 : Int32).toInt64.toUInt64 &&& Int64.toUInt64 63)).toInt64) &&& 6148914691236517205)).toUInt64 >>> ((2 : Int32).toInt64.toUInt64 &&& Int64.toUInt64 63)).toInt64) &&& 3689348814741910323)).toUInt64 >>> ((4 : Int32).toInt64.toUInt64 &&& Int64.toUInt64 63)).toInt64)) &&& 1085102592571150095) + (((((((y0 - (((y0.toUInt64 >>> ((1 : Int32).toInt64.toUInt64 &&& Int64.toUInt64 63)).toInt64) &&& 6148914691236517205)) &&& 3689348814741910323) + ((((y0 - (((y0.toUInt64 >>> ((1 : Int32).toInt64.toUInt64 &&& Int64.toUInt64 63)).toInt64) &&& 6148914691236517205)).toUInt64 >>> ((2 : Int32).toInt64.toUInt64 &&& Int64.toUInt64 63)).toInt64) &&& 3689348814741910323)) + (((((y0 - (((y0.toUInt64 >>> ((1 : Int32).toInt64.toUInt64 &&& Int64.toUInt64 63)).toInt64) &&& 6148914691236517205)) &&& 3689348814741910323) + ((((y0 - (((y0.toUInt64 >>> ((1 : Int32).toInt64.toUInt64 &&& Int64.toUInt64 63)).toInt64) &&& 6148914691236517205)).toUInt64 >>> ((2 : Int32).toInt64.toUInt64 &&& Int64.toUInt64 63)).toInt64) &&& 3689348814741910323)).toUInt64 >>> ((4 : Int32).toInt64.toUInt64 &&& Int64.toUInt64 63)).toInt64)) &&& 1085102592571150095).toUInt64 >>> ((8 : Int32).toInt64.toUInt64 &&& Int64.toUInt64 63)).toInt64)).toUInt64 >>> ((16 : Int32).toInt64.toUInt64 &&& Int64.toUInt64 63)).toInt64)).toUInt64 >>> ((32 : Int32).toInt64.toUInt64 &&& Int64.toUInt64 63)).toInt64)))), none] [.inl ((((((((((y0 - (((y0.toUInt64 >>> ((1 : Int32).toInt64.toUInt64 &&& Int64.toUInt64 63)).toInt64) &&& 6148914691236517205)) &&& 3689348814741910323) + ((((y0 - (((y0.toUInt64 >>> ((1 : Int32).toInt64.toUInt64 &&& Int64.toUInt64 63)).toInt64) &&& 6148914691236517205)).toUInt64 >>> ((2 : Int32).toInt64.toUInt64 &&& Int64.toUInt64 63)).toInt64) &&& 3689348814741910323)) + (((((y0 - (((y0.toUInt64 >>> ((1 : Int32).toInt64.toUInt64 &&& Int64.toUInt64 63)).toInt64) &&& 6148914691236517205)) &&& 3689348814741910323) + ((((y0 - (((y0.toUInt64 >>> ((1 : Int32).toInt64.toUInt64 &&& Int64.toUInt64 63)).toInt64) &&& 6148914691236517205)).toUInt64 >>> ((2 : Int32).toInt64.toUInt64 &&& Int64.toUInt64 63)).toInt64) &&& 3689348814741910323)).toUInt64 >>> ((4 : Int32).toInt64.toUInt64 &&& Int64.toUInt64 63)).toInt64)) &&& 1085102592571150095) + (((((((y0 - (((y0.toUInt64 >>> ((1 : Int32).toInt64.toUInt64 &&& Int64.toUInt64 63)).toInt64) &&& 6148914691236517205)) &&& 3689348814741910323) + ((((y0 - (((y0.toUInt64 >>> ((1 : Int32).toInt64.toUInt64 &&& Int64.toUInt64 63)).toInt64) &&& 6148914691236517205)).toUInt64 >>> ((2 : Int32).toInt64.toUInt64 &&& Int64.toUInt64 63)).toInt64) &&& 3689348814741910323)) + (((((y0 - (((y0.toUInt64 >>> ((1 : Int32).toInt64.toUInt64 &&& Int64.toUInt64 63)).toInt64) &&& 6148914691236517205)) &&& 3689348814741910323) + ((((y0 - (((y0.toUInt64 >>> ((1 : Int32).toInt64.toUInt64 &&& Int64.toUInt64 63)).toInt64) &&& 6148914691236517205)).toUInt64 >>> ((2 : Int32).toInt64.toUInt64 &&& Int64.toUInt64 63)).toInt64) &&& 3689348814741910323)).toUInt64 >>> ((4 : Int32).toInt64.toUInt64 &&& Int64.toUInt64 63)).toInt64)) &&& 1085102592571150095).toUInt64 >>> ((8 : Int32).toInt64.toUInt64 &&& Int64.toUInt64 63)).toInt64)) + ((((((((y0 - (((y0.toUInt64 >>> ((1 : Int32).toInt64.toUInt64 &&& Int64.toUInt64 63)).toInt64) &&& 6148914691236517205)) &&& 3689348814741910323) + ((((y0 - (((y0.toUInt64 >>> ((1 : Int32).toInt64.toUInt64 &&& Int64.toUInt64 63)).toInt64) &&& 6148914691236517205)).toUInt64 >>> ((2 : Int32).toInt64.toUInt64 &&& Int64.toUInt64 63)).toInt64) &&& 3689348814741910323)) + (((((y0 - (((y0.toUInt64 >>> ((1 : Int32).toInt64.toUInt64 &&& Int64.toUInt64 63)).toInt64) &&& 6148914691236517205)) &&& 3689348814741910323) + ((((y0 - (((y0.toUInt64 >>> ((1 : Int32).toInt64.toUInt64 &&& Int64.toUInt64 63)).toInt64) &&& 6148914691236517205)).toUInt64 >>> ((2 : Int32).toInt64.toUInt64 &&& Int64.toUInt64 63)).toInt64) &&& 3689348814741910323)).toUInt64 >>> ((4 : Int32).toInt64.toUInt64 &&& Int64.toUInt64 63)).toInt64)) &&& 1085102592571150095) + (((((((y0 - (((y0.toUInt64 >>> ((1 : Int32).toInt64.toUInt64 &&& Int64.toUInt64 63)).toInt64) &&& 6148914691236517205)) &&& 3689348814741910323) + ((((y0 - (((y0.toUInt64 >>> ((1 : Int32).toInt64.toUInt64 &&& Int64.toUInt64 63)).toInt64) &&& 6148914691236517205)).toUInt64 >>> ((2 : Int32).toInt64.toUInt64 &&& Int64.toUInt64 63)).toInt64) &&& 3689348814741910323)) + (((((y0 - (((y0.toUInt64 >>> ((1 : Int32).toInt64.toUInt64 &&& Int64.toUInt64 63)).toInt64) &&& 6148914691236517205)) &&& 3689348814741910323) + ((((y0 - (((y0.toUInt64 >>> ((1 : Int32).toInt64.toUInt64 &&& Int64.toUInt64 63)).toInt64) &&& 6148914691236517205)).toUInt64 >>> ((2 : Int32).toInt64.toUInt64 &&& Int64.toUInt64 63)).toInt64) &&& 3689348814741910323)).toUInt64 >>> ((4 : Int32).toInt64.toUInt64 &&& Int64.toUInt64 63)).toInt64)) &&& 1085102592571150095).toUInt64 >>> ((8 : Int32).toInt64.toUInt64 &&& Int64.toUInt64 63)).toInt64)).toUInt64 >>> ((16 : Int32).toInt64.toUInt64 &&& Int64.toUInt64 63)).toInt64)) + (((((((((y0 - (((y0.toUInt64 >>> ((1 : Int32).toInt64.toUInt64 &&& Int64.toUInt64 63)).toInt64) &&& 6148914691236517205)) &&& 3689348814741910323) + ((((y0 - (((y0.toUInt64 >>> ((1 : Int32).toInt64.toUInt64 &&& Int64.toUInt64 63)).toInt64) &&& 6148914691236517205)).toUInt64 >>> ((2 : Int32).toInt64.toUInt64 &&& Int64.toUInt64 63)).toInt64) &&& 3689348814741910323)) + (((((y0 - (((y0.toUInt64 >>> ((1 : Int32).toInt64.toUInt64 &&& Int64.toUInt64 63)).toInt64) &&& 6148914691236517205)) &&& 3689348814741910323) + ((((y0 - (((y0.toUInt64 >>> ((1 : Int32).toInt64.toUInt64 &&& Int64.toUInt64 63)).toInt64) &&& 6148914691236517205)).toUInt64 >>> ((2 : Int32).toInt64.toUInt64 &&& Int64.toUInt64 63)).toInt64) &&& 3689348814741910323)).toUInt64 >>> ((4 : Int32).toInt64.toUInt64 &&& Int64.toUInt64 63)).toInt64)) &&& 1085102592571150095) + (((((((y0 - (((y0.toUInt64 >>> ((1 : Int32).toInt64.toUInt64 &&& Int64.toUInt64 63)).toInt64) &&& 6148914691236517205)) &&& 3689348814741910323) + ((((y0 - (((y0.toUInt64 >>> ((1 : Int32).toInt64.toUInt64 &&& Int64.toUInt64 63)).toInt64) &&& 6148914691236517205)).toUInt64 >>> ((2 : Int32).toInt64.toUInt64 &&& Int64.toUInt64 63)).toInt64) &&& 3689348814741910323)) + (((((y0 - (((y0.toUInt64 >>> ((1 : Int32).toInt64.toUInt64 &&& Int64.toUInt64 63)).toInt64) &&& 6148914691236517205)) &&& 3689348814741910323) + ((((y0 - (((y0.toUInt64 >>> ((1 : Int32).toInt64.toUInt64 &&& Int64.toUInt64 63)).toInt64) &&& 6148914691236517205)).toUInt64 >>> ((2 : Int32).toInt64.toUInt64 &&& Int64.toUInt64 63)).toInt64) &&& 3689348814741910323)).toUInt64 >>> ((4 : Int32).toInt64.toUInt64 &&& Int64.toUInt64 63)).toInt64)) &&& 1085102592571150095).toUInt64 >>> ((8 : Int32).toInt64.toUInt64 &&& Int64.toUInt64 63)).toInt64)) + ((((((((y0 - (((y0.toUInt64 >>> ((1 : Int32).toInt64.toUInt64 &&& Int64.toUInt64 63)).toInt64) &&& 6148914691236517205)) &&& 3689348814741910323) + ((((y0 - (((y0.toUInt64 >>> ((1 : Int32).toInt64.toUInt64 &&& Int64.toUInt64 63)).toInt64) &&& 6148914691236517205)).toUInt64 >>> ((2 : Int32).toInt64.toUInt64 &&& Int64.toUInt64 63)).toInt64) &&& 3689348814741910323)) + (((((y0 - (((y0.toUInt64 >>> ((1 : Int32).toInt64.toUInt64 &&& Int64.toUInt64 63)).toInt64) &&& 6148914691236517205)) &&& 3689348814741910323) + ((((y0 - (((y0.toUInt64 >>> ((1 : Int32).toInt64.toUInt64 &&& Int64.toUInt64 63)).toInt64) &&& 6148914691236517205)).toUInt64 >>> ((2 : Int32).toInt64.toUInt64 &&& Int64.toUInt64 63)).toInt64) &&& 3689348814741910323)).toUInt64 >>> ((4 : Int32).toInt64.toUInt64 &&& Int64.toUInt64 63)).toInt64)) &&& 1085102592571150095) + (((((((y0 - (((y0.toUInt64 >>> ((1 : Int32).toInt64.toUInt64 &&& Int64.toUInt64 63)).toInt64) &&& 6148914691236517205)) &&& 3689348814741910323) + ((((y0 - (((y0.toUInt64 >>> ((1 : Int32).toInt64.toUInt64 &&& Int64.toUInt64 63)).toInt64) &&& 6148914691236517205)).toUInt64 >>> ((2 : Int32).toInt64.toUInt64 &&& Int64.toUInt64 63)).toInt64) &&& 3689348814741910323)) + (((((y0 - (((y0.toUInt64 >>> ((1 : Int32).toInt64.toUInt64 &&& Int64.toUInt64 63)).toInt64) &&& 6148914691236517205)) &&& 3689348814741910323) + ((((y0 - (((y0.toUInt64 >>> ((1 : Int32).toInt64.toUInt64 &&& Int64.toUInt64 63)).toInt64) &&& 6148914691236517205)).toUInt64 >>> ((2 : Int32).toInt64.toUInt64 &&& Int64.toUInt64 63)).toInt64) &&& 3689348814741910323)).toUInt64 >>> ((4 : Int32).toInt64.toUInt64 &&& Int64.toUInt64 63)).toInt64)) &&& 1085102592571150095).toUInt64 >>> ((8 : Int32).toInt64.toUInt64 &&& Int64.toUInt64 63)).toInt64)).toUInt64 >>> ((16 : Int32).toInt64.toUInt64 &&& Int64.toUInt64 63)).toInt64)).toUInt64 >>> ((32 : Int32).toInt64.toUInt64 &&& Int64.toUInt64 63)).toInt64)).toInt32) &&& 127)] h
  obtain rfl := Option.some.inj hm
  exact hret 60 _ dc_Lo_bitCount_60
def mm_I_cell : ia_M := (⟨"IceStreet", "cell", "(III)I"⟩, prog_1_method_9_code, 5, (some .int), 0, false)
theorem ok_I_cell : ia_mok mm_I_cell := ⟨by decide +kernel, by decide +kernel, by decide +kernel, by decide +kernel⟩
theorem mk_I_cell : ia_mkn mm_I_cell 1 3 := ⟨ia_tb_in (List.mem_of_getElem? (i := 1001) (by decide +kernel)) rfl, ia_tb_in (List.mem_of_getElem? (i := 133) (by decide +kernel)) rfl, by decide +kernel, by decide +kernel, ⟨ia_tb_in (List.mem_of_getElem? (i := 999) (by decide +kernel)) rfl, ia_tb_in (List.mem_of_getElem? (i := 1000) (by decide +kernel)) rfl⟩⟩
theorem ck_I_cell_0 : ia_cks 0 5 false prog_1_method_9_code 0 [(.aload_n 0, 0, 0, 0, 0), (.getfield 10, 0, 0, 3, 1), (.iconst 0, 0, 0, 0, 0), (.iload_n 1, 0, 0, 0, 0)] = true := by decide +kernel
theorem ck_I_cell_9 : ia_cks 0 5 false prog_1_method_9_code 9 [(.ifCond .eq 19, 0, 0, 0, 0)] = true := by decide +kernel
theorem ck_I_cell_28 : ia_cks 0 5 false prog_1_method_9_code 28 [(.iconst (-1), 0, 0, 0, 0)] = true := by decide +kernel
theorem ck_I_cell_12 : ia_cks 0 5 false prog_1_method_9_code 12 [(.aload_n 0, 0, 0, 0, 0), (.getfield 10, 0, 0, 3, 1), (.getfield 33, 10, 5, 3, 3), (.iload_n 1, 0, 0, 0, 0), (.aaload, 107, 12, 0, 0), (.iload_n 2, 0, 0, 0, 0)] = true := by decide +kernel
theorem ck_I_cell_25 : ia_cks 0 5 false prog_1_method_9_code 25 [(.ifCond .ne 5, 0, 0, 0, 0)] = true := by decide +kernel
theorem ck_I_cell_30 : ia_cks 0 5 false prog_1_method_9_code 30 [(.aload_n 0, 0, 0, 0, 0), (.getfield 10, 0, 0, 3, 1), (.getfield 33, 10, 5, 3, 3), (.iload_n 1, 0, 0, 0, 0), (.aaload, 107, 12, 0, 0), (.astore 4, 0, 0, 0, 0), (.iload_n 3, 0, 0, 0, 0), (.tableswitch 87 0 4 #[34, 42, 50, 58, 76], 0, 0, 0, 0)] = true := by decide +kernel
theorem ck_I_cell_76 : ia_cks 0 5 false prog_1_method_9_code 76 [(.aload 4, 0, 0, 0, 0), (.getfield 186, 3, 3, 3, 1), (.iload_n 2, 0, 0, 0, 0), (.iaload, 0, 0, 0, 0)] = true := by decide +kernel
theorem ck_I_cell_84 : ia_cks 0 5 false prog_1_method_9_code 84 [(.aload 4, 0, 0, 0, 0), (.getfield 189, 3, 4, 3, 2), (.iload_n 2, 0, 0, 0, 0), (.iaload, 0, 0, 0, 0)] = true := by decide +kernel
theorem ck_I_cell_92 : ia_cks 0 5 false prog_1_method_9_code 92 [(.aload 4, 0, 0, 0, 0), (.getfield 192, 3, 5, 3, 3), (.iload_n 2, 0, 0, 0, 0), (.iaload, 0, 0, 0, 0)] = true := by decide +kernel
theorem ck_I_cell_100 : ia_cks 0 5 false prog_1_method_9_code 100 [(.aload 4, 0, 0, 0, 0), (.getfield 195, 3, 7, 1, 0), (.iload_n 2, 0, 0, 0, 0)] = true := by decide +kernel
theorem ck_I_cell_109 : ia_cks 0 5 false prog_1_method_9_code 109 [(.ifCond .eq 7, 0, 0, 0, 0)] = true := by decide +kernel
theorem ck_I_cell_116 : ia_cks 0 5 false prog_1_method_9_code 116 [(.iconst 0, 0, 0, 0, 0)] = true := by decide +kernel
theorem ck_I_cell_112 : ia_cks 0 5 false prog_1_method_9_code 112 [(.iconst 1, 0, 0, 0, 0), (.goto 4, 0, 0, 0, 0)] = true := by decide +kernel
theorem ck_I_cell_118 : ia_cks 0 5 false prog_1_method_9_code 118 [(.aload 4, 0, 0, 0, 0), (.getfield 203, 3, 6, 3, 4), (.iload_n 2, 0, 0, 0, 0), (.laload, 0, 0, 0, 0)] = true := by decide +kernel
theorem ck_I_cell_129 : ia_cks 0 5 false prog_1_method_9_code 129 [(.iconst (-1), 0, 0, 0, 0)] = true := by decide +kernel
theorem dc_I_cell_6 : decode prog_1_method_9_code 6 = .ok (.invokevirtual 129, 3) := by decide +kernel
theorem dc_I_cell_29 : decode prog_1_method_9_code 29 = .ok (.ireturn, 1) := by decide +kernel
theorem dc_I_cell_22 : decode prog_1_method_9_code 22 = .ok (.invokevirtual 182, 3) := by decide +kernel
theorem dc_I_cell_83 : decode prog_1_method_9_code 83 = .ok (.ireturn, 1) := by decide +kernel
theorem dc_I_cell_91 : decode prog_1_method_9_code 91 = .ok (.ireturn, 1) := by decide +kernel
theorem dc_I_cell_99 : decode prog_1_method_9_code 99 = .ok (.ireturn, 1) := by decide +kernel
theorem dc_I_cell_106 : decode prog_1_method_9_code 106 = .ok (.invokestatic 199, 3) := by decide +kernel
theorem dc_I_cell_117 : decode prog_1_method_9_code 117 = .ok (.ireturn, 1) := by decide +kernel
theorem dc_I_cell_125 : decode prog_1_method_9_code 125 = .ok (.invokestatic 207, 3) := by decide +kernel
theorem dc_I_cell_128 : decode prog_1_method_9_code 128 = .ok (.ireturn, 1) := by decide +kernel
theorem dc_I_cell_130 : decode prog_1_method_9_code 130 = .ok (.ireturn, 1) := by decide +kernel
def f_I_cell (x1 : Int32) (x2 : Int32) (x3 : Int32) (h : ia_H) : Option Int32 := (f_To_has 65 0 x1 h).bind fun v1 => (if v1 = 0 then (some (-1)) else (ia_gd (ia_ib x1 2) ((f_La_isCell (68 + 1 + 12 * (x1).toNatClampNeg) x2 h).bind fun v3 => (if v3 = 0 then (some (-1)) else (ia_gd (ia_ib x1 2) (if x3 = 0 then (ia_gd (ia_ib x2 36) (some (ia_i h ((68 + 1 + 12 * (x1).toNatClampNeg) + 1) ((x2).toNatClampNeg)))) else if x3 = 1 then (ia_gd (ia_ib x2 36) (some (ia_i h ((68 + 1 + 12 * (x1).toNatClampNeg) + 2) ((x2).toNatClampNeg)))) else if x3 = 2 then (ia_gd (ia_ib x2 36) (some (ia_i h ((68 + 1 + 12 * (x1).toNatClampNeg) + 3) ((x2).toNatClampNeg)))) else if x3 = 3 then ((f_I_hasBit (ia_l h (68 + 1 + 12 * (x1).toNatClampNeg) 7) x2 h).bind fun v11 => (if v11 = 0 then (some 0) else (some 1))) else if x3 = 4 then (ia_gd (ia_ib x2 36) ((f_Lo_bitCount (ia_l h ((68 + 1 + 12 * (x1).toNatClampNeg) + 4) ((x2).toNatClampNeg)) h).bind fun v14 => (some v14))) else (some (-1))))))))
theorem t_I_cell {w : ia_O0} (d : Nat) {x1 : Int32} {x2 : Int32} {x3 : Int32} {h : ia_H} (hg : gd_ w h) {r : Int32} (hm : f_I_cell x1 x2 x3 h = some r) : ia_Ev (d + 1) mm_I_cell [.inr (.inr 64), .inl x1, .inl x2, .inl x3] h (some (.inl r)) h := by
  refine ia_Ev_intro ok_I_cell (Nat.le_refl _) (Nat.le_refl _) (Nat.le_of_ble_eq_true rfl) (fun K hK hret => ?_)
  show K 0 [some (.inr (.inr 64)), some (.inl x1), some (.inl x2), some (.inl x3), none] [] h
  unfold f_I_cell at hm
  refine ia_go hK ck_I_cell_0 ⟨gk_0 hg pk_64, gr_0_0 hg pk_64, ?_⟩
  show K 6 [some (.inr (.inr 64)), some (.inl x1), some (.inl x2), some (.inl x3), none] [.inl x1, .inl 0, .inr (.inr 65)] h
  obtain ⟨v1, hv1, hm⟩ := ia_bnd hm
  have ev1 := t_To_has (d + 0) hg (ka_0_0 pk_64) hv1
  refine ia_cV hK mk_To_has lk_0_129 dc_I_cell_6 65 [.inl 0, .inl x1] [] rfl rfl (Nat.le_of_ble_eq_true rfl) (by decide) rfl (gk_10 hg (ka_0_0 pk_64)) ev1 ⟨rfl, rfl⟩ ?_
  show K 9 [some (.inr (.inr 64)), some (.inl x1), some (.inl x2), some (.inl x3), none] [.inl v1] h
  refine ia_go hK ck_I_cell_9 ⟨fun c => ?_, fun c => ?_⟩
  · replace hm := ia_ifp hm c
    show K 28 [some (.inr (.inr 64)), some (.inl x1), some (.inl x2), some (.inl x3), none] [] h
    refine ia_go hK ck_I_cell_28 ?_
    show K 29 [some (.inr (.inr 64)), some (.inl x1), some (.inl x2), some (.inl x3), none] [.inl (-1)] h
    obtain rfl := Option.some.inj hm
    exact hret 29 _ dc_I_cell_29
  · replace hm := ia_ifn hm c
    show K 12 [some (.inr (.inr 64)), some (.inl x1), some (.inl x2), some (.inl x3), none] [] h
    obtain ⟨c2, hm⟩ := ia_gd_some hm
    refine ia_go hK ck_I_cell_12 ⟨gk_0 hg pk_64, gr_0_0 hg pk_64, gk_10 hg (ka_0_0 pk_64), gr_10_5 hg (ka_0_0 pk_64), ga_r107 hg (ka_10_5 (ka_0_0 pk_64)) c2, ?_⟩
    show K 22 [some (.inr (.inr 64)), some (.inl x1), some (.inl x2), some (.inl x3), none] [.inl x2, .inr (.inr (68 + 1 + 12 * (x1).toNatClampNeg))] h
    obtain ⟨v3, hv3, hm⟩ := ia_bnd hm
    have ev3 := t_La_isCell (d + 0) hg (ke_107 (ka_10_5 (ka_0_0 pk_64)) c2) hv3
    refine ia_cV hK mk_La_isCell lk_0_182 dc_I_cell_22 (68 + 1 + 12 * (x1).toNatClampNeg) [.inl x2] [] rfl rfl (Nat.le_of_ble_eq_true rfl) (by decide) rfl (gk_3 hg (ke_107 (ka_10_5 (ka_0_0 pk_64)) c2)) ev3 ⟨rfl, rfl⟩ ?_
    show K 25 [some (.inr (.inr 64)), some (.inl x1), some (.inl x2), some (.inl x3), none] [.inl v3] h
    refine ia_go hK ck_I_cell_25 ⟨fun c => ?_, fun c => ?_⟩
    · replace hm := ia_ifn hm c
      show K 30 [some (.inr (.inr 64)), some (.inl x1), some (.inl x2), some (.inl x3), none] [] h
      obtain ⟨c4, hm⟩ := ia_gd_some hm
      refine ia_go hK ck_I_cell_30 ⟨gk_0 hg pk_64, gr_0_0 hg pk_64, gk_10 hg (ka_0_0 pk_64), gr_10_5 hg (ka_0_0 pk_64), ga_r107 hg (ka_10_5 (ka_0_0 pk_64)) c4, ?_⟩
      show K (ia_tsw 42 87 0 4 #[34, 42, 50, 58, 76] x3) [some (.inr (.inr 64)), some (.inl x1), some (.inl x2), some (.inl x3), some (.inr (.inr (68 + 1 + 12 * (x1).toNatClampNeg)))] [] h
      by_cases c6 : x3 = 0
      · replace hm := ia_ifp hm c6
        rw [show ia_tsw 42 87 0 4 #[34, 42, 50, 58, 76] x3 = 76 from by rw [c6]; decide]
        obtain ⟨c5, hm⟩ := ia_gd_some hm
        refine ia_go hK ck_I_cell_76 ⟨gk_3 hg (ke_107 (ka_10_5 (ka_0_0 pk_64)) c4), gr_3_3 hg (ke_107 (ka_10_5 (ka_0_0 pk_64)) c4), ga_i100 hg (ka_3_3 (ke_107 (ka_10_5 (ka_0_0 pk_64)) c4)) c5, ?_⟩
        show K 83 [some (.inr (.inr 64)), some (.inl x1), some (.inl x2), some (.inl x3), some (.inr (.inr (68 + 1 + 12 * (x1).toNatClampNeg)))] [.inl (ia_i h ((68 + 1 + 12 * (x1).toNatClampNeg) + 1) ((x2).toNatClampNeg))] h
        obtain rfl := Option.some.inj hm
        exact hret 83 _ dc_I_cell_83
      · replace hm := ia_ifn hm c6
        by_cases c8 : x3 = 1
        · replace hm := ia_ifp hm c8
          rw [show ia_tsw 42 87 0 4 #[34, 42, 50, 58, 76] x3 = 84 from by rw [c8]; decide]
          obtain ⟨c7, hm⟩ := ia_gd_some hm
          refine ia_go hK ck_I_cell_84 ⟨gk_3 hg (ke_107 (ka_10_5 (ka_0_0 pk_64)) c4), gr_3_4 hg (ke_107 (ka_10_5 (ka_0_0 pk_64)) c4), ga_i100 hg (ka_3_4 (ke_107 (ka_10_5 (ka_0_0 pk_64)) c4)) c7, ?_⟩
          show K 91 [some (.inr (.inr 64)), some (.inl x1), some (.inl x2), some (.inl x3), some (.inr (.inr (68 + 1 + 12 * (x1).toNatClampNeg)))] [.inl (ia_i h ((68 + 1 + 12 * (x1).toNatClampNeg) + 2) ((x2).toNatClampNeg))] h
          obtain rfl := Option.some.inj hm
          exact hret 91 _ dc_I_cell_91
        · replace hm := ia_ifn hm c8
          by_cases c10 : x3 = 2
          · replace hm := ia_ifp hm c10
            rw [show ia_tsw 42 87 0 4 #[34, 42, 50, 58, 76] x3 = 92 from by rw [c10]; decide]
            obtain ⟨c9, hm⟩ := ia_gd_some hm
            refine ia_go hK ck_I_cell_92 ⟨gk_3 hg (ke_107 (ka_10_5 (ka_0_0 pk_64)) c4), gr_3_5 hg (ke_107 (ka_10_5 (ka_0_0 pk_64)) c4), ga_i100 hg (ka_3_5 (ke_107 (ka_10_5 (ka_0_0 pk_64)) c4)) c9, ?_⟩
            show K 99 [some (.inr (.inr 64)), some (.inl x1), some (.inl x2), some (.inl x3), some (.inr (.inr (68 + 1 + 12 * (x1).toNatClampNeg)))] [.inl (ia_i h ((68 + 1 + 12 * (x1).toNatClampNeg) + 3) ((x2).toNatClampNeg))] h
            obtain rfl := Option.some.inj hm
            exact hret 99 _ dc_I_cell_99
          · replace hm := ia_ifn hm c10
            by_cases c12 : x3 = 3
            · replace hm := ia_ifp hm c12
              rw [show ia_tsw 42 87 0 4 #[34, 42, 50, 58, 76] x3 = 100 from by rw [c12]; decide]
              refine ia_go hK ck_I_cell_100 ⟨gk_3 hg (ke_107 (ka_10_5 (ka_0_0 pk_64)) c4), ?_⟩
              show K 106 [some (.inr (.inr 64)), some (.inl x1), some (.inl x2), some (.inl x3), some (.inr (.inr (68 + 1 + 12 * (x1).toNatClampNeg)))] [.inl x2, .inr (.inl (ia_l h (68 + 1 + 12 * (x1).toNatClampNeg) 7))] h
              obtain ⟨v11, hv11, hm⟩ := ia_bnd hm
              have ev11 := t_I_hasBit (d + 0) hg hv11
              refine ia_cS hK mk_I_hasBit lk_0_199 dc_I_cell_106 [.inr (.inl (ia_l h (68 + 1 + 12 * (x1).toNatClampNeg) 7)), .inl x2] [] rfl rfl (Nat.le_of_ble_eq_true rfl) ev11 ⟨rfl, rfl⟩ ?_
              show K 109 [some (.inr (.inr 64)), some (.inl x1), some (.inl x2), some (.inl x3), some (.inr (.inr (68 + 1 + 12 * (x1).toNatClampNeg)))] [.inl v11] h
              refine ia_go hK ck_I_cell_109 ⟨fun c => ?_, fun c => ?_⟩
              · replace hm := ia_ifp hm c
                show K 116 [some (.inr (.inr 64)), some (.inl x1), some (.inl x2), some (.inl x3), some (.inr (.inr (68 + 1 + 12 * (x1).toNatClampNeg)))] [] h
                refine ia_go hK ck_I_cell_116 ?_
                show K 117 [some (.inr (.inr 64)), some (.inl x1), some (.inl x2), some (.inl x3), some (.inr (.inr (68 + 1 + 12 * (x1).toNatClampNeg)))] [.inl 0] h
                obtain rfl := Option.some.inj hm
                exact hret 117 _ dc_I_cell_117
              · replace hm := ia_ifn hm c
                show K 112 [some (.inr (.inr 64)), some (.inl x1), some (.inl x2), some (.inl x3), some (.inr (.inr (68 + 1 + 12 * (x1).toNatClampNeg)))] [] h
                refine ia_go hK ck_I_cell_112 ?_
                show K 117 [some (.inr (.inr 64)), some (.inl x1), some (.inl x2), some (.inl x3), some (.inr (.inr (68 + 1 + 12 * (x1).toNatClampNeg)))] [.inl 1] h
                obtain rfl := Option.some.inj hm
                exact hret 117 _ dc_I_cell_117
            · replace hm := ia_ifn hm c12
              by_cases c15 : x3 = 4
              · replace hm := ia_ifp hm c15
                rw [show ia_tsw 42 87 0 4 #[34, 42, 50, 58, 76] x3 = 118 from by rw [c15]; decide]
                obtain ⟨c13, hm⟩ := ia_gd_some hm
                refine ia_go hK ck_I_cell_118 ⟨gk_3 hg (ke_107 (ka_10_5 (ka_0_0 pk_64)) c4), gr_3_6 hg (ke_107 (ka_10_5 (ka_0_0 pk_64)) c4), ga_s103 hg (ka_3_6 (ke_107 (ka_10_5 (ka_0_0 pk_64)) c4)) c13, ?_⟩
                show K 125 [some (.inr (.inr 64)), some (.inl x1), some (.inl x2), some (.inl x3), some (.inr (.inr (68 + 1 + 12 * (x1).toNatClampNeg)))] [.inr (.inl (ia_l h ((68 + 1 + 12 * (x1).toNatClampNeg) + 4) ((x2).toNatClampNeg)))] h
                obtain ⟨v14, hv14, hm⟩ := ia_bnd hm
                have ev14 := t_Lo_bitCount (d + 0) hg hv14
                refine ia_cS hK mk_Lo_bitCount lk_0_207 dc_I_cell_125 [.inr (.inl (ia_l h ((68 + 1 + 12 * (x1).toNatClampNeg) + 4) ((x2).toNatClampNeg)))] [] rfl rfl (Nat.le_of_ble_eq_true rfl) ev14 ⟨rfl, rfl⟩ ?_
                show K 128 [some (.inr (.inr 64)), some (.inl x1), some (.inl x2), some (.inl x3), some (.inr (.inr (68 + 1 + 12 * (x1).toNatClampNeg)))] [.inl v14] h
                obtain rfl := Option.some.inj hm
                exact hret 128 _ dc_I_cell_128
              · replace hm := ia_ifn hm c15
                rw [show ia_tsw 42 87 0 4 #[34, 42, 50, 58, 76] x3 = 129 from (ia_tsw_d (fun k h1 h2 => by
                    rcases (show k = 0 ∨ k = 1 ∨ k = 2 ∨ k = 3 ∨ k = 4 by omega) with rfl | rfl | rfl | rfl | rfl
                    · exact c6
                    · exact c8
                    · exact c10
                    · exact c12
                    · exact c15
                    )).trans (by decide)]
                refine ia_go hK ck_I_cell_129 ?_
                show K 130 [some (.inr (.inr 64)), some (.inl x1), some (.inl x2), some (.inl x3), some (.inr (.inr (68 + 1 + 12 * (x1).toNatClampNeg)))] [.inl (-1)] h
                obtain rfl := Option.some.inj hm
                exact hret 130 _ dc_I_cell_130
    · replace hm := ia_ifp hm c
      show K 28 [some (.inr (.inr 64)), some (.inl x1), some (.inl x2), some (.inl x3), none] [] h
      refine ia_go hK ck_I_cell_28 ?_
      show K 29 [some (.inr (.inr 64)), some (.inl x1), some (.inl x2), some (.inl x3), none] [.inl (-1)] h
      obtain rfl := Option.some.inj hm
      exact hret 29 _ dc_I_cell_29
def mm_I_shop : ia_M := (⟨"IceStreet", "shop", "(III)I"⟩, prog_1_method_10_code, 5, (some .int), 0, false)
theorem ok_I_shop : ia_mok mm_I_shop := ⟨by decide +kernel, by decide +kernel, by decide +kernel, by decide +kernel⟩
theorem mk_I_shop : ia_mkn mm_I_shop 1 3 := ⟨ia_tb_in (List.mem_of_getElem? (i := 1016) (by decide +kernel)) rfl, ia_tb_in (List.mem_of_getElem? (i := 133) (by decide +kernel)) rfl, by decide +kernel, by decide +kernel, ⟨ia_tb_in (List.mem_of_getElem? (i := 1014) (by decide +kernel)) rfl, ia_tb_in (List.mem_of_getElem? (i := 1015) (by decide +kernel)) rfl⟩⟩
theorem ck_I_shop_0 : ia_cks 0 5 false prog_1_method_10_code 0 [(.aload_n 0, 0, 0, 0, 0), (.getfield 10, 0, 0, 3, 1), (.iconst 0, 0, 0, 0, 0), (.iload_n 1, 0, 0, 0, 0)] = true := by decide +kernel
theorem ck_I_shop_9 : ia_cks 0 5 false prog_1_method_10_code 9 [(.ifCond .eq 23, 0, 0, 0, 0)] = true := by decide +kernel
theorem ck_I_shop_32 : ia_cks 0 5 false prog_1_method_10_code 32 [(.iconst (-1), 0, 0, 0, 0)] = true := by decide +kernel
theorem ck_I_shop_12 : ia_cks 0 5 false prog_1_method_10_code 12 [(.iload_n 2, 0, 0, 0, 0), (.ifCond .lt 19, 0, 0, 0, 0)] = true := by decide +kernel
theorem ck_I_shop_16 : ia_cks 0 5 false prog_1_method_10_code 16 [(.iload_n 2, 0, 0, 0, 0), (.aload_n 0, 0, 0, 0, 0), (.getfield 10, 0, 0, 3, 1), (.getfield 33, 10, 5, 3, 3), (.iload_n 1, 0, 0, 0, 0), (.aaload, 107, 12, 0, 0), (.getfield 176, 3, 11, 0, 0), (.if_icmp .lt 5, 0, 0, 0, 0)] = true := by decide +kernel
theorem ck_I_shop_34 : ia_cks 0 5 false prog_1_method_10_code 34 [(.aload_n 0, 0, 0, 0, 0), (.getfield 10, 0, 0, 3, 1), (.getfield 33, 10, 5, 3, 3), (.iload_n 1, 0, 0, 0, 0), (.aaload, 107, 12, 0, 0), (.astore 4, 0, 0, 0, 0), (.iload_n 3, 0, 0, 0, 0), (.tableswitch 62 0 3 #[30, 38, 46, 54], 0, 0, 0, 0)] = true := by decide +kernel
theorem ck_I_shop_76 : ia_cks 0 5 false prog_1_method_10_code 76 [(.aload 4, 0, 0, 0, 0), (.getfield 213, 3, 12, 3, 6), (.iload_n 2, 0, 0, 0, 0), (.iaload, 0, 0, 0, 0)] = true := by decide +kernel
theorem ck_I_shop_84 : ia_cks 0 5 false prog_1_method_10_code 84 [(.aload 4, 0, 0, 0, 0), (.getfield 216, 3, 13, 3, 7), (.iload_n 2, 0, 0, 0, 0), (.iaload, 0, 0, 0, 0)] = true := by decide +kernel
theorem ck_I_shop_92 : ia_cks 0 5 false prog_1_method_10_code 92 [(.aload 4, 0, 0, 0, 0), (.getfield 219, 3, 14, 3, 8), (.iload_n 2, 0, 0, 0, 0), (.iaload, 0, 0, 0, 0)] = true := by decide +kernel
theorem ck_I_shop_100 : ia_cks 0 5 false prog_1_method_10_code 100 [(.aload 4, 0, 0, 0, 0), (.getfield 222, 3, 15, 3, 9), (.iload_n 2, 0, 0, 0, 0), (.iaload, 0, 0, 0, 0)] = true := by decide +kernel
theorem ck_I_shop_108 : ia_cks 0 5 false prog_1_method_10_code 108 [(.iconst (-1), 0, 0, 0, 0)] = true := by decide +kernel
theorem dc_I_shop_6 : decode prog_1_method_10_code 6 = .ok (.invokevirtual 129, 3) := by decide +kernel
theorem dc_I_shop_33 : decode prog_1_method_10_code 33 = .ok (.ireturn, 1) := by decide +kernel
theorem dc_I_shop_83 : decode prog_1_method_10_code 83 = .ok (.ireturn, 1) := by decide +kernel
theorem dc_I_shop_91 : decode prog_1_method_10_code 91 = .ok (.ireturn, 1) := by decide +kernel
theorem dc_I_shop_99 : decode prog_1_method_10_code 99 = .ok (.ireturn, 1) := by decide +kernel
theorem dc_I_shop_107 : decode prog_1_method_10_code 107 = .ok (.ireturn, 1) := by decide +kernel
theorem dc_I_shop_109 : decode prog_1_method_10_code 109 = .ok (.ireturn, 1) := by decide +kernel
def f_I_shop (x1 : Int32) (x2 : Int32) (x3 : Int32) (h : ia_H) : Option Int32 := (f_To_has 65 0 x1 h).bind fun v1 => (if v1 = 0 then (some (-1)) else (if x2 < 0 then (some (-1)) else (ia_gd (ia_ib x1 2) (if x2 < (ia_i h (68 + 1 + 12 * (x1).toNatClampNeg) 11) then (ia_gd (ia_ib x1 2) (if x3 = 0 then (ia_gd (ia_ib x2 6) (some (ia_i h ((68 + 1 + 12 * (x1).toNatClampNeg) + 6) ((x2).toNatClampNeg)))) else if x3 = 1 then (ia_gd (ia_ib x2 6) (some (ia_i h ((68 + 1 + 12 * (x1).toNatClampNeg) + 7) ((x2).toNatClampNeg)))) else if x3 = 2 then (ia_gd (ia_ib x2 6) (some (ia_i h ((68 + 1 + 12 * (x1).toNatClampNeg) + 8) ((x2).toNatClampNeg)))) else if x3 = 3 then (ia_gd (ia_ib x2 6) (some (ia_i h ((68 + 1 + 12 * (x1).toNatClampNeg) + 9) ((x2).toNatClampNeg)))) else (some (-1)))) else (some (-1))))))
theorem t_I_shop {w : ia_O0} (d : Nat) {x1 : Int32} {x2 : Int32} {x3 : Int32} {h : ia_H} (hg : gd_ w h) {r : Int32} (hm : f_I_shop x1 x2 x3 h = some r) : ia_Ev (d + 1) mm_I_shop [.inr (.inr 64), .inl x1, .inl x2, .inl x3] h (some (.inl r)) h := by
  refine ia_Ev_intro ok_I_shop (Nat.le_refl _) (Nat.le_refl _) (Nat.le_of_ble_eq_true rfl) (fun K hK hret => ?_)
  show K 0 [some (.inr (.inr 64)), some (.inl x1), some (.inl x2), some (.inl x3), none] [] h
  unfold f_I_shop at hm
  refine ia_go hK ck_I_shop_0 ⟨gk_0 hg pk_64, gr_0_0 hg pk_64, ?_⟩
  show K 6 [some (.inr (.inr 64)), some (.inl x1), some (.inl x2), some (.inl x3), none] [.inl x1, .inl 0, .inr (.inr 65)] h
  obtain ⟨v1, hv1, hm⟩ := ia_bnd hm
  have ev1 := t_To_has (d + 0) hg (ka_0_0 pk_64) hv1
  refine ia_cV hK mk_To_has lk_0_129 dc_I_shop_6 65 [.inl 0, .inl x1] [] rfl rfl (Nat.le_of_ble_eq_true rfl) (by decide) rfl (gk_10 hg (ka_0_0 pk_64)) ev1 ⟨rfl, rfl⟩ ?_
  show K 9 [some (.inr (.inr 64)), some (.inl x1), some (.inl x2), some (.inl x3), none] [.inl v1] h
  refine ia_go hK ck_I_shop_9 ⟨fun c => ?_, fun c => ?_⟩
  · replace hm := ia_ifp hm c
    show K 32 [some (.inr (.inr 64)), some (.inl x1), some (.inl x2), some (.inl x3), none] [] h
    refine ia_go hK ck_I_shop_32 ?_
    show K 33 [some (.inr (.inr 64)), some (.inl x1), some (.inl x2), some (.inl x3), none] [.inl (-1)] h
    obtain rfl := Option.some.inj hm
    exact hret 33 _ dc_I_shop_33
  · replace hm := ia_ifn hm c
    show K 12 [some (.inr (.inr 64)), some (.inl x1), some (.inl x2), some (.inl x3), none] [] h
    refine ia_go hK ck_I_shop_12 ⟨fun c => ?_, fun c => ?_⟩
    · replace hm := ia_ifp hm c
      show K 32 [some (.inr (.inr 64)), some (.inl x1), some (.inl x2), some (.inl x3), none] [] h
      refine ia_go hK ck_I_shop_32 ?_
      show K 33 [some (.inr (.inr 64)), some (.inl x1), some (.inl x2), some (.inl x3), none] [.inl (-1)] h
      obtain rfl := Option.some.inj hm
      exact hret 33 _ dc_I_shop_33
    · replace hm := ia_ifn hm c
      show K 16 [some (.inr (.inr 64)), some (.inl x1), some (.inl x2), some (.inl x3), none] [] h
      obtain ⟨c2, hm⟩ := ia_gd_some hm
      refine ia_go hK ck_I_shop_16 ⟨gk_0 hg pk_64, gr_0_0 hg pk_64, gk_10 hg (ka_0_0 pk_64), gr_10_5 hg (ka_0_0 pk_64), ga_r107 hg (ka_10_5 (ka_0_0 pk_64)) c2, gk_3 hg (ke_107 (ka_10_5 (ka_0_0 pk_64)) c2), fun c => ?_, fun c => ?_⟩
      · replace hm := ia_ifp hm c
        show K 34 [some (.inr (.inr 64)), some (.inl x1), some (.inl x2), some (.inl x3), none] [] h
        obtain ⟨c3, hm⟩ := ia_gd_some hm
        refine ia_go hK ck_I_shop_34 ⟨gk_0 hg pk_64, gr_0_0 hg pk_64, gk_10 hg (ka_0_0 pk_64), gr_10_5 hg (ka_0_0 pk_64), ga_r107 hg (ka_10_5 (ka_0_0 pk_64)) c3, ?_⟩
        show K (ia_tsw 46 62 0 3 #[30, 38, 46, 54] x3) [some (.inr (.inr 64)), some (.inl x1), some (.inl x2), some (.inl x3), some (.inr (.inr (68 + 1 + 12 * (x1).toNatClampNeg)))] [] h
        by_cases c5 : x3 = 0
        · replace hm := ia_ifp hm c5
          rw [show ia_tsw 46 62 0 3 #[30, 38, 46, 54] x3 = 76 from by rw [c5]; decide]
          obtain ⟨c4, hm⟩ := ia_gd_some hm
          refine ia_go hK ck_I_shop_76 ⟨gk_3 hg (ke_107 (ka_10_5 (ka_0_0 pk_64)) c3), gr_3_12 hg (ke_107 (ka_10_5 (ka_0_0 pk_64)) c3), ga_i100 hg (ka_3_12 (ke_107 (ka_10_5 (ka_0_0 pk_64)) c3)) c4, ?_⟩
          show K 83 [some (.inr (.inr 64)), some (.inl x1), some (.inl x2), some (.inl x3), some (.inr (.inr (68 + 1 + 12 * (x1).toNatClampNeg)))] [.inl (ia_i h ((68 + 1 + 12 * (x1).toNatClampNeg) + 6) ((x2).toNatClampNeg))] h
          obtain rfl := Option.some.inj hm
          exact hret 83 _ dc_I_shop_83
        · replace hm := ia_ifn hm c5
          by_cases c7 : x3 = 1
          · replace hm := ia_ifp hm c7
            rw [show ia_tsw 46 62 0 3 #[30, 38, 46, 54] x3 = 84 from by rw [c7]; decide]
            obtain ⟨c6, hm⟩ := ia_gd_some hm
            refine ia_go hK ck_I_shop_84 ⟨gk_3 hg (ke_107 (ka_10_5 (ka_0_0 pk_64)) c3), gr_3_13 hg (ke_107 (ka_10_5 (ka_0_0 pk_64)) c3), ga_i100 hg (ka_3_13 (ke_107 (ka_10_5 (ka_0_0 pk_64)) c3)) c6, ?_⟩
            show K 91 [some (.inr (.inr 64)), some (.inl x1), some (.inl x2), some (.inl x3), some (.inr (.inr (68 + 1 + 12 * (x1).toNatClampNeg)))] [.inl (ia_i h ((68 + 1 + 12 * (x1).toNatClampNeg) + 7) ((x2).toNatClampNeg))] h
            obtain rfl := Option.some.inj hm
            exact hret 91 _ dc_I_shop_91
          · replace hm := ia_ifn hm c7
            by_cases c9 : x3 = 2
            · replace hm := ia_ifp hm c9
              rw [show ia_tsw 46 62 0 3 #[30, 38, 46, 54] x3 = 92 from by rw [c9]; decide]
              obtain ⟨c8, hm⟩ := ia_gd_some hm
              refine ia_go hK ck_I_shop_92 ⟨gk_3 hg (ke_107 (ka_10_5 (ka_0_0 pk_64)) c3), gr_3_14 hg (ke_107 (ka_10_5 (ka_0_0 pk_64)) c3), ga_i100 hg (ka_3_14 (ke_107 (ka_10_5 (ka_0_0 pk_64)) c3)) c8, ?_⟩
              show K 99 [some (.inr (.inr 64)), some (.inl x1), some (.inl x2), some (.inl x3), some (.inr (.inr (68 + 1 + 12 * (x1).toNatClampNeg)))] [.inl (ia_i h ((68 + 1 + 12 * (x1).toNatClampNeg) + 8) ((x2).toNatClampNeg))] h
              obtain rfl := Option.some.inj hm
              exact hret 99 _ dc_I_shop_99
            · replace hm := ia_ifn hm c9
              by_cases c11 : x3 = 3
              · replace hm := ia_ifp hm c11
                rw [show ia_tsw 46 62 0 3 #[30, 38, 46, 54] x3 = 100 from by rw [c11]; decide]
                obtain ⟨c10, hm⟩ := ia_gd_some hm
                refine ia_go hK ck_I_shop_100 ⟨gk_3 hg (ke_107 (ka_10_5 (ka_0_0 pk_64)) c3), gr_3_15 hg (ke_107 (ka_10_5 (ka_0_0 pk_64)) c3), ga_i100 hg (ka_3_15 (ke_107 (ka_10_5 (ka_0_0 pk_64)) c3)) c10, ?_⟩
                show K 107 [some (.inr (.inr 64)), some (.inl x1), some (.inl x2), some (.inl x3), some (.inr (.inr (68 + 1 + 12 * (x1).toNatClampNeg)))] [.inl (ia_i h ((68 + 1 + 12 * (x1).toNatClampNeg) + 9) ((x2).toNatClampNeg))] h
                obtain rfl := Option.some.inj hm
                exact hret 107 _ dc_I_shop_107
              · replace hm := ia_ifn hm c11
                rw [show ia_tsw 46 62 0 3 #[30, 38, 46, 54] x3 = 108 from (ia_tsw_d (fun k h1 h2 => by
                    rcases (show k = 0 ∨ k = 1 ∨ k = 2 ∨ k = 3 by omega) with rfl | rfl | rfl | rfl
                    · exact c5
                    · exact c7
                    · exact c9
                    · exact c11
                    )).trans (by decide)]
                refine ia_go hK ck_I_shop_108 ?_
                show K 109 [some (.inr (.inr 64)), some (.inl x1), some (.inl x2), some (.inl x3), some (.inr (.inr (68 + 1 + 12 * (x1).toNatClampNeg)))] [.inl (-1)] h
                obtain rfl := Option.some.inj hm
                exact hret 109 _ dc_I_shop_109
      · replace hm := ia_ifn hm c
        show K 32 [some (.inr (.inr 64)), some (.inl x1), some (.inl x2), some (.inl x3), none] [] h
        refine ia_go hK ck_I_shop_32 ?_
        show K 33 [some (.inr (.inr 64)), some (.inl x1), some (.inl x2), some (.inl x3), none] [.inl (-1)] h
        obtain rfl := Option.some.inj hm
        exact hret 33 _ dc_I_shop_33
def mm_Lw_tellRow : ia_M := (⟨"IceStreet$Law", "tellRow", "(I)I"⟩, prog_5_method_5_code, 2, (some .int), 4, false)
theorem ok_Lw_tellRow : ia_mok mm_Lw_tellRow := ⟨by decide +kernel, by decide +kernel, by decide +kernel, by decide +kernel⟩
theorem mk_Lw_tellRow : ia_mkn mm_Lw_tellRow 1 1 := ⟨ia_tb_in (List.mem_of_getElem? (i := 1024) (by decide +kernel)) rfl, ia_tb_in (List.mem_of_getElem? (i := 137) (by decide +kernel)) rfl, by decide +kernel, by decide +kernel, ⟨ia_tb_in (List.mem_of_getElem? (i := 1022) (by decide +kernel)) rfl, ia_tb_in (List.mem_of_getElem? (i := 1023) (by decide +kernel)) rfl⟩⟩
theorem ck_Lw_tellRow_0 : ia_cks 4 2 false prog_5_method_5_code 0 [(.iload_n 1, 0, 0, 0, 0), (.bipush 20, 0, 0, 0, 0), (.if_icmp .lt 24, 0, 0, 0, 0)] = true := by decide +kernel
theorem ck_Lw_tellRow_27 : ia_cks 4 2 false prog_5_method_5_code 27 [(.iload_n 1, 0, 0, 0, 0), (.bipush 40, 0, 0, 0, 0), (.if_icmp .lt 24, 0, 0, 0, 0)] = true := by decide +kernel
theorem ck_Lw_tellRow_54 : ia_cks 4 2 false prog_5_method_5_code 54 [(.iload_n 1, 0, 0, 0, 0), (.bipush 60, 0, 0, 0, 0), (.if_icmp .lt 29, 0, 0, 0, 0)] = true := by decide +kernel
theorem ck_Lw_tellRow_86 : ia_cks 4 2 false prog_5_method_5_code 86 [(.iconst (-1), 0, 0, 0, 0)] = true := by decide +kernel
theorem ck_Lw_tellRow_60 : ia_cks 4 2 false prog_5_method_5_code 60 [(.iload_n 1, 0, 0, 0, 0), (.bipush 96, 0, 0, 0, 0), (.if_icmp .ge 23, 0, 0, 0, 0)] = true := by decide +kernel
theorem ck_Lw_tellRow_66 : ia_cks 4 2 false prog_5_method_5_code 66 [(.aload_n 0, 0, 0, 0, 0), (.getfield 41, 4, 7, 1, 0), (.iload_n 1, 0, 0, 0, 0), (.bipush 60, 0, 0, 0, 0), (.isub, 0, 0, 0, 0)] = true := by decide +kernel
theorem ck_Lw_tellRow_77 : ia_cks 4 2 false prog_5_method_5_code 77 [(.ifCond .eq 7, 0, 0, 0, 0)] = true := by decide +kernel
theorem ck_Lw_tellRow_84 : ia_cks 4 2 false prog_5_method_5_code 84 [(.iconst 0, 0, 0, 0, 0)] = true := by decide +kernel
theorem ck_Lw_tellRow_80 : ia_cks 4 2 false prog_5_method_5_code 80 [(.iconst 1, 0, 0, 0, 0), (.goto 4, 0, 0, 0, 0)] = true := by decide +kernel
theorem ck_Lw_tellRow_33 : ia_cks 4 2 false prog_5_method_5_code 33 [(.iload_n 1, 0, 0, 0, 0), (.bipush 40, 0, 0, 0, 0), (.aload_n 0, 0, 0, 0, 0), (.getfield 38, 4, 4, 0, 0), (.iadd, 0, 0, 0, 0), (.if_icmp .ge 13, 0, 0, 0, 0)] = true := by decide +kernel
theorem ck_Lw_tellRow_44 : ia_cks 4 2 false prog_5_method_5_code 44 [(.aload_n 0, 0, 0, 0, 0), (.getfield 15, 4, 6, 3, 2), (.iload_n 1, 0, 0, 0, 0), (.bipush 40, 0, 0, 0, 0), (.isub, 0, 0, 0, 0), (.iaload, 0, 0, 0, 0)] = true := by decide +kernel
theorem ck_Lw_tellRow_6 : ia_cks 4 2 false prog_5_method_5_code 6 [(.iload_n 1, 0, 0, 0, 0), (.bipush 20, 0, 0, 0, 0), (.aload_n 0, 0, 0, 0, 0), (.getfield 38, 4, 4, 0, 0), (.iadd, 0, 0, 0, 0), (.if_icmp .ge 13, 0, 0, 0, 0)] = true := by decide +kernel
theorem ck_Lw_tellRow_17 : ia_cks 4 2 false prog_5_method_5_code 17 [(.aload_n 0, 0, 0, 0, 0), (.getfield 9, 4, 5, 3, 1), (.iload_n 1, 0, 0, 0, 0), (.bipush 20, 0, 0, 0, 0), (.isub, 0, 0, 0, 0), (.iaload, 0, 0, 0, 0)] = true := by decide +kernel
theorem dc_Lw_tellRow_87 : decode prog_5_method_5_code 87 = .ok (.ireturn, 1) := by decide +kernel
theorem dc_Lw_tellRow_74 : decode prog_5_method_5_code 74 = .ok (.invokestatic 61, 3) := by decide +kernel
theorem dc_Lw_tellRow_85 : decode prog_5_method_5_code 85 = .ok (.ireturn, 1) := by decide +kernel
theorem dc_Lw_tellRow_53 : decode prog_5_method_5_code 53 = .ok (.ireturn, 1) := by decide +kernel
theorem dc_Lw_tellRow_26 : decode prog_5_method_5_code 26 = .ok (.ireturn, 1) := by decide +kernel
def j_Lw_tellRow_54 (a0 : Nat) (x1 : Int32) (h : ia_H) : Option Int32 := if x1 < 60 then (some (-1)) else (if 96 ≤ x1 then (some (-1)) else ((f_I_hasBit (ia_l h a0 7) (x1 - 60) h).bind fun v1 => (if v1 = 0 then (some 0) else (some 1))))
theorem tj_Lw_tellRow_54 {w : ia_O0} {d N1 W1 : Nat} {K : ia_K} (hK : ia_isK (d + 1) mm_Lw_tellRow N1 W1 K) {a0 : Nat} {x1 : Int32} {h : ia_H} (hg : gd_ w h) (p0 : (kd_D a0).1 = 4) {r : Int32} (hret : ∀ (pc : Nat) (lv : ia_L), ia_ret mm_Lw_tellRow pc (some (.inl r)) → K pc lv ((some (.inl r)) : Option ia_V).toList h) : j_Lw_tellRow_54 a0 x1 h = some r → K 54 [some (.inr (.inr a0)), some (.inl x1)] [] h := by
  intro hm
  unfold j_Lw_tellRow_54 at hm
  refine ia_go hK ck_Lw_tellRow_54 ⟨fun c => ?_, fun c => ?_⟩
  · replace hm := ia_ifp hm c
    show K 86 [some (.inr (.inr a0)), some (.inl x1)] [] h
    refine ia_go hK ck_Lw_tellRow_86 ?_
    show K 87 [some (.inr (.inr a0)), some (.inl x1)] [.inl (-1)] h
    obtain rfl := Option.some.inj hm
    exact hret 87 _ dc_Lw_tellRow_87
  · replace hm := ia_ifn hm c
    show K 60 [some (.inr (.inr a0)), some (.inl x1)] [] h
    refine ia_go hK ck_Lw_tellRow_60 ⟨fun c => ?_, fun c => ?_⟩
    · replace hm := ia_ifp hm c
      show K 86 [some (.inr (.inr a0)), some (.inl x1)] [] h
      refine ia_go hK ck_Lw_tellRow_86 ?_
      show K 87 [some (.inr (.inr a0)), some (.inl x1)] [.inl (-1)] h
      obtain rfl := Option.some.inj hm
      exact hret 87 _ dc_Lw_tellRow_87
    · replace hm := ia_ifn hm c
      show K 66 [some (.inr (.inr a0)), some (.inl x1)] [] h
      refine ia_go hK ck_Lw_tellRow_66 ⟨gk_4 hg p0, ?_⟩
      show K 74 [some (.inr (.inr a0)), some (.inl x1)] [.inl (x1 - 60), .inr (.inl (ia_l h a0 7))] h
      obtain ⟨v1, hv1, hm⟩ := ia_bnd hm
      have ev1 := t_I_hasBit (d + 0) hg hv1
      refine ia_cS hK mk_I_hasBit lk_4_61 dc_Lw_tellRow_74 [.inr (.inl (ia_l h a0 7)), .inl (x1 - 60)] [] rfl rfl (Nat.le_of_ble_eq_true rfl) ev1 ⟨rfl, rfl⟩ ?_
      show K 77 [some (.inr (.inr a0)), some (.inl x1)] [.inl v1] h
      refine ia_go hK ck_Lw_tellRow_77 ⟨fun c => ?_, fun c => ?_⟩
      · replace hm := ia_ifp hm c
        show K 84 [some (.inr (.inr a0)), some (.inl x1)] [] h
        refine ia_go hK ck_Lw_tellRow_84 ?_
        show K 85 [some (.inr (.inr a0)), some (.inl x1)] [.inl 0] h
        obtain rfl := Option.some.inj hm
        exact hret 85 _ dc_Lw_tellRow_85
      · replace hm := ia_ifn hm c
        show K 80 [some (.inr (.inr a0)), some (.inl x1)] [] h
        refine ia_go hK ck_Lw_tellRow_80 ?_
        show K 85 [some (.inr (.inr a0)), some (.inl x1)] [.inl 1] h
        obtain rfl := Option.some.inj hm
        exact hret 85 _ dc_Lw_tellRow_85
def j_Lw_tellRow_27 (a0 : Nat) (x1 : Int32) (h : ia_H) : Option Int32 := if x1 < 40 then (j_Lw_tellRow_54 a0 x1 h) else (if (40 + (ia_i h a0 4)) ≤ x1 then (j_Lw_tellRow_54 a0 x1 h) else (ia_gd (ia_ib (x1 - 40) 12) (some (ia_i h (a0 + 2) ((x1 - 40).toNatClampNeg)))))
theorem tj_Lw_tellRow_27 {w : ia_O0} {d N1 W1 : Nat} {K : ia_K} (hK : ia_isK (d + 1) mm_Lw_tellRow N1 W1 K) {a0 : Nat} {x1 : Int32} {h : ia_H} (hg : gd_ w h) (p0 : (kd_D a0).1 = 4) {r : Int32} (hret : ∀ (pc : Nat) (lv : ia_L), ia_ret mm_Lw_tellRow pc (some (.inl r)) → K pc lv ((some (.inl r)) : Option ia_V).toList h) : j_Lw_tellRow_27 a0 x1 h = some r → K 27 [some (.inr (.inr a0)), some (.inl x1)] [] h := by
  intro hm
  unfold j_Lw_tellRow_27 at hm
  refine ia_go hK ck_Lw_tellRow_27 ⟨fun c => ?_, fun c => ?_⟩
  · replace hm := ia_ifp hm c
    show K 54 [some (.inr (.inr a0)), some (.inl x1)] [] h
    exact tj_Lw_tellRow_54 hK hg p0 hret hm
  · replace hm := ia_ifn hm c
    show K 33 [some (.inr (.inr a0)), some (.inl x1)] [] h
    refine ia_go hK ck_Lw_tellRow_33 ⟨gk_4 hg p0, fun c => ?_, fun c => ?_⟩
    · replace hm := ia_ifp hm c
      show K 54 [some (.inr (.inr a0)), some (.inl x1)] [] h
      exact tj_Lw_tellRow_54 hK hg p0 hret hm
    · replace hm := ia_ifn hm c
      show K 44 [some (.inr (.inr a0)), some (.inl x1)] [] h
      obtain ⟨c2, hm⟩ := ia_gd_some hm
      refine ia_go hK ck_Lw_tellRow_44 ⟨gk_4 hg p0, gr_4_6 hg p0, ga_i100 hg (ka_4_6 p0) c2, ?_⟩
      show K 53 [some (.inr (.inr a0)), some (.inl x1)] [.inl (ia_i h (a0 + 2) ((x1 - 40).toNatClampNeg))] h
      obtain rfl := Option.some.inj hm
      exact hret 53 _ dc_Lw_tellRow_53
def f_Lw_tellRow (a0 : Nat) (x1 : Int32) (h : ia_H) : Option Int32 := if x1 < 20 then (j_Lw_tellRow_27 a0 x1 h) else (if (20 + (ia_i h a0 4)) ≤ x1 then (j_Lw_tellRow_27 a0 x1 h) else (ia_gd (ia_ib (x1 - 20) 12) (some (ia_i h (a0 + 1) ((x1 - 20).toNatClampNeg)))))
theorem t_Lw_tellRow {w : ia_O0} (d : Nat) {a0 : Nat} {x1 : Int32} {h : ia_H} (hg : gd_ w h) (p0 : (kd_D a0).1 = 4) {r : Int32} (hm : f_Lw_tellRow a0 x1 h = some r) : ia_Ev (d + 1) mm_Lw_tellRow [.inr (.inr a0), .inl x1] h (some (.inl r)) h := by
  refine ia_Ev_intro ok_Lw_tellRow (Nat.le_refl _) (Nat.le_refl _) (Nat.le_of_ble_eq_true rfl) (fun K hK hret => ?_)
  show K 0 [some (.inr (.inr a0)), some (.inl x1)] [] h
  unfold f_Lw_tellRow at hm
  refine ia_go hK ck_Lw_tellRow_0 ⟨fun c => ?_, fun c => ?_⟩
  · replace hm := ia_ifp hm c
    show K 27 [some (.inr (.inr a0)), some (.inl x1)] [] h
    exact tj_Lw_tellRow_27 hK hg p0 hret hm
  · replace hm := ia_ifn hm c
    show K 6 [some (.inr (.inr a0)), some (.inl x1)] [] h
    refine ia_go hK ck_Lw_tellRow_6 ⟨gk_4 hg p0, fun c => ?_, fun c => ?_⟩
    · replace hm := ia_ifp hm c
      show K 27 [some (.inr (.inr a0)), some (.inl x1)] [] h
      exact tj_Lw_tellRow_27 hK hg p0 hret hm
    · replace hm := ia_ifn hm c
      show K 17 [some (.inr (.inr a0)), some (.inl x1)] [] h
      obtain ⟨c3, hm⟩ := ia_gd_some hm
      refine ia_go hK ck_Lw_tellRow_17 ⟨gk_4 hg p0, gr_4_5 hg p0, ga_i100 hg (ka_4_5 p0) c3, ?_⟩
      show K 26 [some (.inr (.inr a0)), some (.inl x1)] [.inl (ia_i h (a0 + 1) ((x1 - 20).toNatClampNeg))] h
      obtain rfl := Option.some.inj hm
      exact hret 26 _ dc_Lw_tellRow_26
def mm_I_law : ia_M := (⟨"IceStreet", "law", "(II)I"⟩, prog_1_method_11_code, 4, (some .int), 0, false)
theorem ok_I_law : ia_mok mm_I_law := ⟨by decide +kernel, by decide +kernel, by decide +kernel, by decide +kernel⟩
theorem mk_I_law : ia_mkn mm_I_law 1 2 := ⟨ia_tb_in (List.mem_of_getElem? (i := 1020) (by decide +kernel)) rfl, ia_tb_in (List.mem_of_getElem? (i := 133) (by decide +kernel)) rfl, by decide +kernel, by decide +kernel, ⟨ia_tb_in (List.mem_of_getElem? (i := 1018) (by decide +kernel)) rfl, ia_tb_in (List.mem_of_getElem? (i := 1019) (by decide +kernel)) rfl⟩⟩
theorem ck_I_law_0 : ia_cks 0 4 false prog_1_method_11_code 0 [(.aload_n 0, 0, 0, 0, 0), (.getfield 10, 0, 0, 3, 1), (.iconst 1, 0, 0, 0, 0), (.iload_n 1, 0, 0, 0, 0)] = true := by decide +kernel
theorem ck_I_law_9 : ia_cks 0 4 false prog_1_method_11_code 9 [(.ifCond .ne 5, 0, 0, 0, 0)] = true := by decide +kernel
theorem ck_I_law_14 : ia_cks 0 4 false prog_1_method_11_code 14 [(.aload_n 0, 0, 0, 0, 0), (.getfield 10, 0, 0, 3, 1), (.getfield 37, 10, 6, 3, 28), (.iload_n 1, 0, 0, 0, 0), (.aaload, 108, 4, 0, 0), (.astore_n 3, 0, 0, 0, 0), (.iload_n 2, 0, 0, 0, 0), (.tableswitch 60 0 4 #[35, 40, 45, 50, 55], 0, 0, 0, 0)] = true := by decide +kernel
theorem ck_I_law_60 : ia_cks 0 4 false prog_1_method_11_code 60 [(.aload_n 3, 0, 0, 0, 0), (.getfield 225, 4, 0, 0, 0)] = true := by decide +kernel
theorem ck_I_law_65 : ia_cks 0 4 false prog_1_method_11_code 65 [(.aload_n 3, 0, 0, 0, 0), (.getfield 228, 4, 1, 0, 0)] = true := by decide +kernel
theorem ck_I_law_70 : ia_cks 0 4 false prog_1_method_11_code 70 [(.aload_n 3, 0, 0, 0, 0), (.getfield 231, 4, 2, 0, 0)] = true := by decide +kernel
theorem ck_I_law_75 : ia_cks 0 4 false prog_1_method_11_code 75 [(.aload_n 3, 0, 0, 0, 0), (.getfield 234, 4, 3, 0, 0)] = true := by decide +kernel
theorem ck_I_law_80 : ia_cks 0 4 false prog_1_method_11_code 80 [(.aload_n 3, 0, 0, 0, 0), (.getfield 237, 4, 4, 0, 0)] = true := by decide +kernel
theorem ck_I_law_85 : ia_cks 0 4 false prog_1_method_11_code 85 [(.aload_n 3, 0, 0, 0, 0), (.iload_n 2, 0, 0, 0, 0)] = true := by decide +kernel
theorem ck_I_law_12 : ia_cks 0 4 false prog_1_method_11_code 12 [(.iconst (-1), 0, 0, 0, 0)] = true := by decide +kernel
theorem dc_I_law_6 : decode prog_1_method_11_code 6 = .ok (.invokevirtual 129, 3) := by decide +kernel
theorem dc_I_law_64 : decode prog_1_method_11_code 64 = .ok (.ireturn, 1) := by decide +kernel
theorem dc_I_law_69 : decode prog_1_method_11_code 69 = .ok (.ireturn, 1) := by decide +kernel
theorem dc_I_law_74 : decode prog_1_method_11_code 74 = .ok (.ireturn, 1) := by decide +kernel
theorem dc_I_law_79 : decode prog_1_method_11_code 79 = .ok (.ireturn, 1) := by decide +kernel
theorem dc_I_law_84 : decode prog_1_method_11_code 84 = .ok (.ireturn, 1) := by decide +kernel
theorem dc_I_law_87 : decode prog_1_method_11_code 87 = .ok (.invokevirtual 240, 3) := by decide +kernel
theorem dc_I_law_90 : decode prog_1_method_11_code 90 = .ok (.ireturn, 1) := by decide +kernel
theorem dc_I_law_13 : decode prog_1_method_11_code 13 = .ok (.ireturn, 1) := by decide +kernel
def f_I_law (x1 : Int32) (x2 : Int32) (h : ia_H) : Option Int32 := (f_To_has 65 1 x1 h).bind fun v1 => (if v1 = 0 then (some (-1)) else (ia_gd (ia_ib x1 2) (if x2 = 0 then (some (ia_i h (93 + 1 + 4 * (x1).toNatClampNeg) 0)) else if x2 = 1 then (some (ia_i h (93 + 1 + 4 * (x1).toNatClampNeg) 1)) else if x2 = 2 then (some (ia_i h (93 + 1 + 4 * (x1).toNatClampNeg) 2)) else if x2 = 3 then (some (ia_i h (93 + 1 + 4 * (x1).toNatClampNeg) 3)) else if x2 = 4 then (some (ia_i h (93 + 1 + 4 * (x1).toNatClampNeg) 4)) else ((f_Lw_tellRow (93 + 1 + 4 * (x1).toNatClampNeg) x2 h).bind fun v8 => (some v8)))))
theorem t_I_law {w : ia_O0} (d : Nat) {x1 : Int32} {x2 : Int32} {h : ia_H} (hg : gd_ w h) {r : Int32} (hm : f_I_law x1 x2 h = some r) : ia_Ev (d + 2) mm_I_law [.inr (.inr 64), .inl x1, .inl x2] h (some (.inl r)) h := by
  refine ia_Ev_intro ok_I_law (Nat.le_refl _) (Nat.le_refl _) (Nat.le_of_ble_eq_true rfl) (fun K hK hret => ?_)
  show K 0 [some (.inr (.inr 64)), some (.inl x1), some (.inl x2), none] [] h
  unfold f_I_law at hm
  refine ia_go hK ck_I_law_0 ⟨gk_0 hg pk_64, gr_0_0 hg pk_64, ?_⟩
  show K 6 [some (.inr (.inr 64)), some (.inl x1), some (.inl x2), none] [.inl x1, .inl 1, .inr (.inr 65)] h
  obtain ⟨v1, hv1, hm⟩ := ia_bnd hm
  have ev1 := t_To_has (d + 1) hg (ka_0_0 pk_64) hv1
  refine ia_cV hK mk_To_has lk_0_129 dc_I_law_6 65 [.inl 1, .inl x1] [] rfl rfl (Nat.le_of_ble_eq_true rfl) (by decide) rfl (gk_10 hg (ka_0_0 pk_64)) ev1 ⟨rfl, rfl⟩ ?_
  show K 9 [some (.inr (.inr 64)), some (.inl x1), some (.inl x2), none] [.inl v1] h
  refine ia_go hK ck_I_law_9 ⟨fun c => ?_, fun c => ?_⟩
  · replace hm := ia_ifn hm c
    show K 14 [some (.inr (.inr 64)), some (.inl x1), some (.inl x2), none] [] h
    obtain ⟨c2, hm⟩ := ia_gd_some hm
    refine ia_go hK ck_I_law_14 ⟨gk_0 hg pk_64, gr_0_0 hg pk_64, gk_10 hg (ka_0_0 pk_64), gr_10_6 hg (ka_0_0 pk_64), ga_r108 hg (ka_10_6 (ka_0_0 pk_64)) c2, ?_⟩
    show K (ia_tsw 25 60 0 4 #[35, 40, 45, 50, 55] x2) [some (.inr (.inr 64)), some (.inl x1), some (.inl x2), some (.inr (.inr (93 + 1 + 4 * (x1).toNatClampNeg)))] [] h
    by_cases c3 : x2 = 0
    · replace hm := ia_ifp hm c3
      rw [show ia_tsw 25 60 0 4 #[35, 40, 45, 50, 55] x2 = 60 from by rw [c3]; decide]
      refine ia_go hK ck_I_law_60 ⟨gk_4 hg (ke_108 (ka_10_6 (ka_0_0 pk_64)) c2), ?_⟩
      show K 64 [some (.inr (.inr 64)), some (.inl x1), some (.inl x2), some (.inr (.inr (93 + 1 + 4 * (x1).toNatClampNeg)))] [.inl (ia_i h (93 + 1 + 4 * (x1).toNatClampNeg) 0)] h
      obtain rfl := Option.some.inj hm
      exact hret 64 _ dc_I_law_64
    · replace hm := ia_ifn hm c3
      by_cases c4 : x2 = 1
      · replace hm := ia_ifp hm c4
        rw [show ia_tsw 25 60 0 4 #[35, 40, 45, 50, 55] x2 = 65 from by rw [c4]; decide]
        refine ia_go hK ck_I_law_65 ⟨gk_4 hg (ke_108 (ka_10_6 (ka_0_0 pk_64)) c2), ?_⟩
        show K 69 [some (.inr (.inr 64)), some (.inl x1), some (.inl x2), some (.inr (.inr (93 + 1 + 4 * (x1).toNatClampNeg)))] [.inl (ia_i h (93 + 1 + 4 * (x1).toNatClampNeg) 1)] h
        obtain rfl := Option.some.inj hm
        exact hret 69 _ dc_I_law_69
      · replace hm := ia_ifn hm c4
        by_cases c5 : x2 = 2
        · replace hm := ia_ifp hm c5
          rw [show ia_tsw 25 60 0 4 #[35, 40, 45, 50, 55] x2 = 70 from by rw [c5]; decide]
          refine ia_go hK ck_I_law_70 ⟨gk_4 hg (ke_108 (ka_10_6 (ka_0_0 pk_64)) c2), ?_⟩
          show K 74 [some (.inr (.inr 64)), some (.inl x1), some (.inl x2), some (.inr (.inr (93 + 1 + 4 * (x1).toNatClampNeg)))] [.inl (ia_i h (93 + 1 + 4 * (x1).toNatClampNeg) 2)] h
          obtain rfl := Option.some.inj hm
          exact hret 74 _ dc_I_law_74
        · replace hm := ia_ifn hm c5
          by_cases c6 : x2 = 3
          · replace hm := ia_ifp hm c6
            rw [show ia_tsw 25 60 0 4 #[35, 40, 45, 50, 55] x2 = 75 from by rw [c6]; decide]
            refine ia_go hK ck_I_law_75 ⟨gk_4 hg (ke_108 (ka_10_6 (ka_0_0 pk_64)) c2), ?_⟩
            show K 79 [some (.inr (.inr 64)), some (.inl x1), some (.inl x2), some (.inr (.inr (93 + 1 + 4 * (x1).toNatClampNeg)))] [.inl (ia_i h (93 + 1 + 4 * (x1).toNatClampNeg) 3)] h
            obtain rfl := Option.some.inj hm
            exact hret 79 _ dc_I_law_79
          · replace hm := ia_ifn hm c6
            by_cases c7 : x2 = 4
            · replace hm := ia_ifp hm c7
              rw [show ia_tsw 25 60 0 4 #[35, 40, 45, 50, 55] x2 = 80 from by rw [c7]; decide]
              refine ia_go hK ck_I_law_80 ⟨gk_4 hg (ke_108 (ka_10_6 (ka_0_0 pk_64)) c2), ?_⟩
              show K 84 [some (.inr (.inr 64)), some (.inl x1), some (.inl x2), some (.inr (.inr (93 + 1 + 4 * (x1).toNatClampNeg)))] [.inl (ia_i h (93 + 1 + 4 * (x1).toNatClampNeg) 4)] h
              obtain rfl := Option.some.inj hm
              exact hret 84 _ dc_I_law_84
            · replace hm := ia_ifn hm c7
              rw [show ia_tsw 25 60 0 4 #[35, 40, 45, 50, 55] x2 = 85 from (ia_tsw_d (fun k h1 h2 => by
                  rcases (show k = 0 ∨ k = 1 ∨ k = 2 ∨ k = 3 ∨ k = 4 by omega) with rfl | rfl | rfl | rfl | rfl
                  · exact c3
                  · exact c4
                  · exact c5
                  · exact c6
                  · exact c7
                  )).trans (by decide)]
              refine ia_go hK ck_I_law_85 ?_
              show K 87 [some (.inr (.inr 64)), some (.inl x1), some (.inl x2), some (.inr (.inr (93 + 1 + 4 * (x1).toNatClampNeg)))] [.inl x2, .inr (.inr (93 + 1 + 4 * (x1).toNatClampNeg))] h
              obtain ⟨v8, hv8, hm⟩ := ia_bnd hm
              have ev8 := t_Lw_tellRow (d + 0) hg (ke_108 (ka_10_6 (ka_0_0 pk_64)) c2) hv8
              refine ia_cV hK mk_Lw_tellRow lk_0_240 dc_I_law_87 (93 + 1 + 4 * (x1).toNatClampNeg) [.inl x2] [] rfl rfl (Nat.le_of_ble_eq_true rfl) (by decide) rfl (gk_4 hg (ke_108 (ka_10_6 (ka_0_0 pk_64)) c2)) ev8 ⟨rfl, rfl⟩ ?_
              show K 90 [some (.inr (.inr 64)), some (.inl x1), some (.inl x2), some (.inr (.inr (93 + 1 + 4 * (x1).toNatClampNeg)))] [.inl v8] h
              obtain rfl := Option.some.inj hm
              exact hret 90 _ dc_I_law_90
  · replace hm := ia_ifp hm c
    show K 12 [some (.inr (.inr 64)), some (.inl x1), some (.inl x2), none] [] h
    refine ia_go hK ck_I_law_12 ?_
    show K 13 [some (.inr (.inr 64)), some (.inl x1), some (.inl x2), none] [.inl (-1)] h
    obtain rfl := Option.some.inj hm
    exact hret 13 _ dc_I_law_13
def mm_I_act : ia_M := (⟨"IceStreet", "act", "(III)I"⟩, prog_1_method_12_code, 5, (some .int), 0, false)
theorem ok_I_act : ia_mok mm_I_act := ⟨by decide +kernel, by decide +kernel, by decide +kernel, by decide +kernel⟩
theorem mk_I_act : ia_mkn mm_I_act 1 3 := ⟨ia_tb_in (List.mem_of_getElem? (i := 1029) (by decide +kernel)) rfl, ia_tb_in (List.mem_of_getElem? (i := 133) (by decide +kernel)) rfl, by decide +kernel, by decide +kernel, ⟨ia_tb_in (List.mem_of_getElem? (i := 1027) (by decide +kernel)) rfl, ia_tb_in (List.mem_of_getElem? (i := 1028) (by decide +kernel)) rfl⟩⟩
theorem ck_I_act_0 : ia_cks 0 5 false prog_1_method_12_code 0 [(.aload_n 0, 0, 0, 0, 0), (.getfield 10, 0, 0, 3, 1), (.iconst 2, 0, 0, 0, 0), (.iload_n 1, 0, 0, 0, 0)] = true := by decide +kernel
theorem ck_I_act_9 : ia_cks 0 5 false prog_1_method_12_code 9 [(.ifCond .ne 6, 0, 0, 0, 0)] = true := by decide +kernel
theorem ck_I_act_15 : ia_cks 0 5 false prog_1_method_12_code 15 [(.aload_n 0, 0, 0, 0, 0), (.getfield 10, 0, 0, 3, 1), (.getfield 151, 10, 7, 3, 37), (.iload_n 1, 0, 0, 0, 0), (.aaload, 110, 5, 0, 0), (.astore 4, 0, 0, 0, 0), (.iload_n 2, 0, 0, 0, 0), (.iconst (-1), 0, 0, 0, 0), (.if_icmp .ne 18, 0, 0, 0, 0)] = true := by decide +kernel
theorem ck_I_act_46 : ia_cks 0 5 false prog_1_method_12_code 46 [(.iload_n 2, 0, 0, 0, 0), (.ifCond .lt 12, 0, 0, 0, 0)] = true := by decide +kernel
theorem ck_I_act_59 : ia_cks 0 5 false prog_1_method_12_code 59 [(.bipush (-2), 0, 0, 0, 0)] = true := by decide +kernel
theorem ck_I_act_50 : ia_cks 0 5 false prog_1_method_12_code 50 [(.iload_n 2, 0, 0, 0, 0), (.aload 4, 0, 0, 0, 0), (.getfield 244, 6, 0, 0, 0), (.if_icmp .lt 6, 0, 0, 0, 0)] = true := by decide +kernel
theorem ck_I_act_62 : ia_cks 0 5 false prog_1_method_12_code 62 [(.iload_n 3, 0, 0, 0, 0), (.tableswitch 61 0 3 #[29, 37, 45, 53], 0, 0, 0, 0)] = true := by decide +kernel
theorem ck_I_act_92 : ia_cks 0 5 false prog_1_method_12_code 92 [(.aload 4, 0, 0, 0, 0), (.getfield 247, 6, 1, 3, 1), (.iload_n 2, 0, 0, 0, 0), (.iaload, 0, 0, 0, 0)] = true := by decide +kernel
theorem ck_I_act_100 : ia_cks 0 5 false prog_1_method_12_code 100 [(.aload 4, 0, 0, 0, 0), (.getfield 250, 6, 2, 3, 2), (.iload_n 2, 0, 0, 0, 0), (.iaload, 0, 0, 0, 0)] = true := by decide +kernel
theorem ck_I_act_108 : ia_cks 0 5 false prog_1_method_12_code 108 [(.aload 4, 0, 0, 0, 0), (.getfield 253, 6, 3, 3, 3), (.iload_n 2, 0, 0, 0, 0), (.iaload, 0, 0, 0, 0)] = true := by decide +kernel
theorem ck_I_act_116 : ia_cks 0 5 false prog_1_method_12_code 116 [(.aload 4, 0, 0, 0, 0), (.getfield 256, 6, 4, 3, 4), (.iload_n 2, 0, 0, 0, 0), (.iaload, 0, 0, 0, 0)] = true := by decide +kernel
theorem ck_I_act_124 : ia_cks 0 5 false prog_1_method_12_code 124 [(.bipush (-2), 0, 0, 0, 0)] = true := by decide +kernel
theorem ck_I_act_31 : ia_cks 0 5 false prog_1_method_12_code 31 [(.iload_n 3, 0, 0, 0, 0), (.ifCond .ne 11, 0, 0, 0, 0)] = true := by decide +kernel
theorem ck_I_act_43 : ia_cks 0 5 false prog_1_method_12_code 43 [(.bipush (-2), 0, 0, 0, 0)] = true := by decide +kernel
theorem ck_I_act_35 : ia_cks 0 5 false prog_1_method_12_code 35 [(.aload 4, 0, 0, 0, 0), (.getfield 244, 6, 0, 0, 0), (.goto 5, 0, 0, 0, 0)] = true := by decide +kernel
theorem ck_I_act_12 : ia_cks 0 5 false prog_1_method_12_code 12 [(.bipush (-2), 0, 0, 0, 0)] = true := by decide +kernel
theorem dc_I_act_6 : decode prog_1_method_12_code 6 = .ok (.invokevirtual 129, 3) := by decide +kernel
theorem dc_I_act_61 : decode prog_1_method_12_code 61 = .ok (.ireturn, 1) := by decide +kernel
theorem dc_I_act_99 : decode prog_1_method_12_code 99 = .ok (.ireturn, 1) := by decide +kernel
theorem dc_I_act_107 : decode prog_1_method_12_code 107 = .ok (.ireturn, 1) := by decide +kernel
theorem dc_I_act_115 : decode prog_1_method_12_code 115 = .ok (.ireturn, 1) := by decide +kernel
theorem dc_I_act_123 : decode prog_1_method_12_code 123 = .ok (.ireturn, 1) := by decide +kernel
theorem dc_I_act_126 : decode prog_1_method_12_code 126 = .ok (.ireturn, 1) := by decide +kernel
theorem dc_I_act_45 : decode prog_1_method_12_code 45 = .ok (.ireturn, 1) := by decide +kernel
theorem dc_I_act_14 : decode prog_1_method_12_code 14 = .ok (.ireturn, 1) := by decide +kernel
def f_I_act (x1 : Int32) (x2 : Int32) (x3 : Int32) (h : ia_H) : Option Int32 := (f_To_has 65 2 x1 h).bind fun v1 => (if v1 = 0 then (some (-2)) else (ia_gd (ia_ib x1 3) (if x2 = (-1) then (if x3 = 0 then (some (ia_i h (102 + 1 + 5 * (x1).toNatClampNeg) 0)) else (some (-2))) else (if x2 < 0 then (some (-2)) else (if x2 < (ia_i h (102 + 1 + 5 * (x1).toNatClampNeg) 0) then (if x3 = 0 then (ia_gd (ia_ib x2 30) (some (ia_i h ((102 + 1 + 5 * (x1).toNatClampNeg) + 1) ((x2).toNatClampNeg)))) else if x3 = 1 then (ia_gd (ia_ib x2 30) (some (ia_i h ((102 + 1 + 5 * (x1).toNatClampNeg) + 2) ((x2).toNatClampNeg)))) else if x3 = 2 then (ia_gd (ia_ib x2 30) (some (ia_i h ((102 + 1 + 5 * (x1).toNatClampNeg) + 3) ((x2).toNatClampNeg)))) else if x3 = 3 then (ia_gd (ia_ib x2 30) (some (ia_i h ((102 + 1 + 5 * (x1).toNatClampNeg) + 4) ((x2).toNatClampNeg)))) else (some (-2))) else (some (-2)))))))
theorem t_I_act {w : ia_O0} (d : Nat) {x1 : Int32} {x2 : Int32} {x3 : Int32} {h : ia_H} (hg : gd_ w h) {r : Int32} (hm : f_I_act x1 x2 x3 h = some r) : ia_Ev (d + 1) mm_I_act [.inr (.inr 64), .inl x1, .inl x2, .inl x3] h (some (.inl r)) h := by
  refine ia_Ev_intro ok_I_act (Nat.le_refl _) (Nat.le_refl _) (Nat.le_of_ble_eq_true rfl) (fun K hK hret => ?_)
  show K 0 [some (.inr (.inr 64)), some (.inl x1), some (.inl x2), some (.inl x3), none] [] h
  unfold f_I_act at hm
  refine ia_go hK ck_I_act_0 ⟨gk_0 hg pk_64, gr_0_0 hg pk_64, ?_⟩
  show K 6 [some (.inr (.inr 64)), some (.inl x1), some (.inl x2), some (.inl x3), none] [.inl x1, .inl 2, .inr (.inr 65)] h
  obtain ⟨v1, hv1, hm⟩ := ia_bnd hm
  have ev1 := t_To_has (d + 0) hg (ka_0_0 pk_64) hv1
  refine ia_cV hK mk_To_has lk_0_129 dc_I_act_6 65 [.inl 2, .inl x1] [] rfl rfl (Nat.le_of_ble_eq_true rfl) (by decide) rfl (gk_10 hg (ka_0_0 pk_64)) ev1 ⟨rfl, rfl⟩ ?_
  show K 9 [some (.inr (.inr 64)), some (.inl x1), some (.inl x2), some (.inl x3), none] [.inl v1] h
  refine ia_go hK ck_I_act_9 ⟨fun c => ?_, fun c => ?_⟩
  · replace hm := ia_ifn hm c
    show K 15 [some (.inr (.inr 64)), some (.inl x1), some (.inl x2), some (.inl x3), none] [] h
    obtain ⟨c2, hm⟩ := ia_gd_some hm
    refine ia_go hK ck_I_act_15 ⟨gk_0 hg pk_64, gr_0_0 hg pk_64, gk_10 hg (ka_0_0 pk_64), gr_10_7 hg (ka_0_0 pk_64), ga_r110 hg (ka_10_7 (ka_0_0 pk_64)) c2, fun c => ?_, fun c => ?_⟩
    · replace hm := ia_ifn hm c
      show K 46 [some (.inr (.inr 64)), some (.inl x1), some (.inl x2), some (.inl x3), some (.inr (.inr (102 + 1 + 5 * (x1).toNatClampNeg)))] [] h
      refine ia_go hK ck_I_act_46 ⟨fun c => ?_, fun c => ?_⟩
      · replace hm := ia_ifp hm c
        show K 59 [some (.inr (.inr 64)), some (.inl x1), some (.inl x2), some (.inl x3), some (.inr (.inr (102 + 1 + 5 * (x1).toNatClampNeg)))] [] h
        refine ia_go hK ck_I_act_59 ?_
        show K 61 [some (.inr (.inr 64)), some (.inl x1), some (.inl x2), some (.inl x3), some (.inr (.inr (102 + 1 + 5 * (x1).toNatClampNeg)))] [.inl (-2)] h
        obtain rfl := Option.some.inj hm
        exact hret 61 _ dc_I_act_61
      · replace hm := ia_ifn hm c
        show K 50 [some (.inr (.inr 64)), some (.inl x1), some (.inl x2), some (.inl x3), some (.inr (.inr (102 + 1 + 5 * (x1).toNatClampNeg)))] [] h
        refine ia_go hK ck_I_act_50 ⟨gk_6 hg (ke_110 (ka_10_7 (ka_0_0 pk_64)) c2), fun c => ?_, fun c => ?_⟩
        · replace hm := ia_ifp hm c
          show K 62 [some (.inr (.inr 64)), some (.inl x1), some (.inl x2), some (.inl x3), some (.inr (.inr (102 + 1 + 5 * (x1).toNatClampNeg)))] [] h
          refine ia_go hK ck_I_act_62 ?_
          show K (ia_tsw 63 61 0 3 #[29, 37, 45, 53] x3) [some (.inr (.inr 64)), some (.inl x1), some (.inl x2), some (.inl x3), some (.inr (.inr (102 + 1 + 5 * (x1).toNatClampNeg)))] [] h
          by_cases c4 : x3 = 0
          · replace hm := ia_ifp hm c4
            rw [show ia_tsw 63 61 0 3 #[29, 37, 45, 53] x3 = 92 from by rw [c4]; decide]
            obtain ⟨c3, hm⟩ := ia_gd_some hm
            refine ia_go hK ck_I_act_92 ⟨gk_6 hg (ke_110 (ka_10_7 (ka_0_0 pk_64)) c2), gr_6_1 hg (ke_110 (ka_10_7 (ka_0_0 pk_64)) c2), ga_i100 hg (ka_6_1 (ke_110 (ka_10_7 (ka_0_0 pk_64)) c2)) c3, ?_⟩
            show K 99 [some (.inr (.inr 64)), some (.inl x1), some (.inl x2), some (.inl x3), some (.inr (.inr (102 + 1 + 5 * (x1).toNatClampNeg)))] [.inl (ia_i h ((102 + 1 + 5 * (x1).toNatClampNeg) + 1) ((x2).toNatClampNeg))] h
            obtain rfl := Option.some.inj hm
            exact hret 99 _ dc_I_act_99
          · replace hm := ia_ifn hm c4
            by_cases c6 : x3 = 1
            · replace hm := ia_ifp hm c6
              rw [show ia_tsw 63 61 0 3 #[29, 37, 45, 53] x3 = 100 from by rw [c6]; decide]
              obtain ⟨c5, hm⟩ := ia_gd_some hm
              refine ia_go hK ck_I_act_100 ⟨gk_6 hg (ke_110 (ka_10_7 (ka_0_0 pk_64)) c2), gr_6_2 hg (ke_110 (ka_10_7 (ka_0_0 pk_64)) c2), ga_i100 hg (ka_6_2 (ke_110 (ka_10_7 (ka_0_0 pk_64)) c2)) c5, ?_⟩
              show K 107 [some (.inr (.inr 64)), some (.inl x1), some (.inl x2), some (.inl x3), some (.inr (.inr (102 + 1 + 5 * (x1).toNatClampNeg)))] [.inl (ia_i h ((102 + 1 + 5 * (x1).toNatClampNeg) + 2) ((x2).toNatClampNeg))] h
              obtain rfl := Option.some.inj hm
              exact hret 107 _ dc_I_act_107
            · replace hm := ia_ifn hm c6
              by_cases c8 : x3 = 2
              · replace hm := ia_ifp hm c8
                rw [show ia_tsw 63 61 0 3 #[29, 37, 45, 53] x3 = 108 from by rw [c8]; decide]
                obtain ⟨c7, hm⟩ := ia_gd_some hm
                refine ia_go hK ck_I_act_108 ⟨gk_6 hg (ke_110 (ka_10_7 (ka_0_0 pk_64)) c2), gr_6_3 hg (ke_110 (ka_10_7 (ka_0_0 pk_64)) c2), ga_i100 hg (ka_6_3 (ke_110 (ka_10_7 (ka_0_0 pk_64)) c2)) c7, ?_⟩
                show K 115 [some (.inr (.inr 64)), some (.inl x1), some (.inl x2), some (.inl x3), some (.inr (.inr (102 + 1 + 5 * (x1).toNatClampNeg)))] [.inl (ia_i h ((102 + 1 + 5 * (x1).toNatClampNeg) + 3) ((x2).toNatClampNeg))] h
                obtain rfl := Option.some.inj hm
                exact hret 115 _ dc_I_act_115
              · replace hm := ia_ifn hm c8
                by_cases c10 : x3 = 3
                · replace hm := ia_ifp hm c10
                  rw [show ia_tsw 63 61 0 3 #[29, 37, 45, 53] x3 = 116 from by rw [c10]; decide]
                  obtain ⟨c9, hm⟩ := ia_gd_some hm
                  refine ia_go hK ck_I_act_116 ⟨gk_6 hg (ke_110 (ka_10_7 (ka_0_0 pk_64)) c2), gr_6_4 hg (ke_110 (ka_10_7 (ka_0_0 pk_64)) c2), ga_i100 hg (ka_6_4 (ke_110 (ka_10_7 (ka_0_0 pk_64)) c2)) c9, ?_⟩
                  show K 123 [some (.inr (.inr 64)), some (.inl x1), some (.inl x2), some (.inl x3), some (.inr (.inr (102 + 1 + 5 * (x1).toNatClampNeg)))] [.inl (ia_i h ((102 + 1 + 5 * (x1).toNatClampNeg) + 4) ((x2).toNatClampNeg))] h
                  obtain rfl := Option.some.inj hm
                  exact hret 123 _ dc_I_act_123
                · replace hm := ia_ifn hm c10
                  rw [show ia_tsw 63 61 0 3 #[29, 37, 45, 53] x3 = 124 from (ia_tsw_d (fun k h1 h2 => by
                      rcases (show k = 0 ∨ k = 1 ∨ k = 2 ∨ k = 3 by omega) with rfl | rfl | rfl | rfl
                      · exact c4
                      · exact c6
                      · exact c8
                      · exact c10
                      )).trans (by decide)]
                  refine ia_go hK ck_I_act_124 ?_
                  show K 126 [some (.inr (.inr 64)), some (.inl x1), some (.inl x2), some (.inl x3), some (.inr (.inr (102 + 1 + 5 * (x1).toNatClampNeg)))] [.inl (-2)] h
                  obtain rfl := Option.some.inj hm
                  exact hret 126 _ dc_I_act_126
        · replace hm := ia_ifn hm c
          show K 59 [some (.inr (.inr 64)), some (.inl x1), some (.inl x2), some (.inl x3), some (.inr (.inr (102 + 1 + 5 * (x1).toNatClampNeg)))] [] h
          refine ia_go hK ck_I_act_59 ?_
          show K 61 [some (.inr (.inr 64)), some (.inl x1), some (.inl x2), some (.inl x3), some (.inr (.inr (102 + 1 + 5 * (x1).toNatClampNeg)))] [.inl (-2)] h
          obtain rfl := Option.some.inj hm
          exact hret 61 _ dc_I_act_61
    · replace hm := ia_ifp hm c
      show K 31 [some (.inr (.inr 64)), some (.inl x1), some (.inl x2), some (.inl x3), some (.inr (.inr (102 + 1 + 5 * (x1).toNatClampNeg)))] [] h
      refine ia_go hK ck_I_act_31 ⟨fun c => ?_, fun c => ?_⟩
      · replace hm := ia_ifn hm c
        show K 43 [some (.inr (.inr 64)), some (.inl x1), some (.inl x2), some (.inl x3), some (.inr (.inr (102 + 1 + 5 * (x1).toNatClampNeg)))] [] h
        refine ia_go hK ck_I_act_43 ?_
        show K 45 [some (.inr (.inr 64)), some (.inl x1), some (.inl x2), some (.inl x3), some (.inr (.inr (102 + 1 + 5 * (x1).toNatClampNeg)))] [.inl (-2)] h
        obtain rfl := Option.some.inj hm
        exact hret 45 _ dc_I_act_45
      · replace hm := ia_ifp hm c
        show K 35 [some (.inr (.inr 64)), some (.inl x1), some (.inl x2), some (.inl x3), some (.inr (.inr (102 + 1 + 5 * (x1).toNatClampNeg)))] [] h
        refine ia_go hK ck_I_act_35 ⟨gk_6 hg (ke_110 (ka_10_7 (ka_0_0 pk_64)) c2), ?_⟩
        show K 45 [some (.inr (.inr 64)), some (.inl x1), some (.inl x2), some (.inl x3), some (.inr (.inr (102 + 1 + 5 * (x1).toNatClampNeg)))] [.inl (ia_i h (102 + 1 + 5 * (x1).toNatClampNeg) 0)] h
        obtain rfl := Option.some.inj hm
        exact hret 45 _ dc_I_act_45
  · replace hm := ia_ifp hm c
    show K 12 [some (.inr (.inr 64)), some (.inl x1), some (.inl x2), some (.inl x3), none] [] h
    refine ia_go hK ck_I_act_12 ?_
    show K 14 [some (.inr (.inr 64)), some (.inl x1), some (.inl x2), some (.inl x3), none] [.inl (-2)] h
    obtain rfl := Option.some.inj hm
    exact hret 14 _ dc_I_act_14
def mm_Lw_shareOf : ia_M := (⟨"IceStreet$Law", "shareOf", "(I)I"⟩, prog_5_method_6_code, 2, (some .int), 4, false)
theorem ok_Lw_shareOf : ia_mok mm_Lw_shareOf := ⟨by decide +kernel, by decide +kernel, by decide +kernel, by decide +kernel⟩
theorem mk_Lw_shareOf : ia_mkn mm_Lw_shareOf 1 1 := ⟨ia_tb_in (List.mem_of_getElem? (i := 1047) (by decide +kernel)) rfl, ia_tb_in (List.mem_of_getElem? (i := 137) (by decide +kernel)) rfl, by decide +kernel, by decide +kernel, ⟨ia_tb_in (List.mem_of_getElem? (i := 1045) (by decide +kernel)) rfl, ia_tb_in (List.mem_of_getElem? (i := 1046) (by decide +kernel)) rfl⟩⟩
theorem ck_Lw_shareOf_0 : ia_cks 4 2 false prog_5_method_6_code 0 [(.iload_n 1, 0, 0, 0, 0), (.aload_n 0, 0, 0, 0, 0), (.getfield 32, 4, 2, 0, 0), (.imul, 0, 0, 0, 0), (.bipush 10, 0, 0, 0, 0), (.idiv, 0, 0, 0, 0)] = true := by decide +kernel
theorem dc_Lw_shareOf_9 : decode prog_5_method_6_code 9 = .ok (.ireturn, 1) := by decide +kernel
def f_Lw_shareOf (a0 : Nat) (x1 : Int32) (h : ia_H) : Option Int32 := some ((x1 * (ia_i h a0 2)) / 10)
theorem t_Lw_shareOf {w : ia_O0} (d : Nat) {a0 : Nat} {x1 : Int32} {h : ia_H} (hg : gd_ w h) (p0 : (kd_D a0).1 = 4) {r : Int32} (hm : f_Lw_shareOf a0 x1 h = some r) : ia_Ev (d + 0) mm_Lw_shareOf [.inr (.inr a0), .inl x1] h (some (.inl r)) h := by
  refine ia_Ev_intro ok_Lw_shareOf (Nat.le_refl _) (Nat.le_refl _) (Nat.le_of_ble_eq_true rfl) (fun K hK hret => ?_)
  show K 0 [some (.inr (.inr a0)), some (.inl x1)] [] h
  unfold f_Lw_shareOf at hm
  refine ia_go hK ck_Lw_shareOf_0 ⟨gk_4 hg p0, (by decide), ?_⟩
  show K 9 [some (.inr (.inr a0)), some (.inl x1)] [.inl ((x1 * (ia_i h a0 2)) / 10)] h
  obtain rfl := Option.some.inj hm
  exact hret 9 _ dc_Lw_shareOf_9
def mm_Sc_burden : ia_M := (⟨"IceStreet$Scene", "burden", "(IIIII)V"⟩, prog_10_method_8_code, 8, none, 9, false)
theorem ok_Sc_burden : ia_mok mm_Sc_burden := ⟨by decide +kernel, by decide +kernel, by decide +kernel, by decide +kernel⟩
theorem mk_Sc_burden : ia_mkn mm_Sc_burden 1 5 := ⟨ia_tb_in (List.mem_of_getElem? (i := 1051) (by decide +kernel)) rfl, ia_tb_in (List.mem_of_getElem? (i := 140) (by decide +kernel)) rfl, by decide +kernel, by decide +kernel, ⟨ia_tb_in (List.mem_of_getElem? (i := 1050) (by decide +kernel)) rfl, ia_tb_in (List.mem_of_getElem? (i := 21) (by decide +kernel)) rfl⟩⟩
theorem ck_Sc_burden_0 : ia_cks 9 8 false prog_10_method_8_code 0 [(.aload_n 0, 0, 0, 0, 0), (.getfield 18, 9, 4, 3, 3), (.iload_n 1, 0, 0, 0, 0), (.dup2, 0, 0, 0, 0), (.iaload, 0, 0, 0, 0), (.iload_n 2, 0, 0, 0, 0), (.iadd, 0, 0, 0, 0), (.iastore, 0, 0, 0, 0), (.aload_n 0, 0, 0, 0, 0), (.getfield 21, 9, 5, 3, 4), (.iload_n 1, 0, 0, 0, 0), (.dup2, 0, 0, 0, 0), (.iaload, 0, 0, 0, 0), (.iload 4, 0, 0, 0, 0), (.iadd, 0, 0, 0, 0), (.iastore, 0, 0, 0, 0), (.iconst 0, 0, 0, 0, 0), (.istore 6, 0, 0, 0, 0)] = true := by decide +kernel
theorem ck_Sc_burden_24 : ia_cks 9 8 false prog_10_method_8_code 24 [(.iload 6, 0, 0, 0, 0), (.iconst 4, 0, 0, 0, 0), (.if_icmp .ge 54, 0, 0, 0, 0)] = true := by decide +kernel
theorem ck_Sc_burden_30 : ia_cks 9 8 false prog_10_method_8_code 30 [(.aload_n 0, 0, 0, 0, 0), (.getfield 33, 9, 0, 2, 0), (.getfield 92, 3, 17, 3, 11), (.iload_n 1, 0, 0, 0, 0), (.iconst 4, 0, 0, 0, 0), (.imul, 0, 0, 0, 0), (.iload 6, 0, 0, 0, 0), (.iadd, 0, 0, 0, 0), (.iaload, 0, 0, 0, 0), (.istore 7, 0, 0, 0, 0), (.iload 7, 0, 0, 0, 0), (.iconst (-1), 0, 0, 0, 0), (.if_icmp .eq 26, 0, 0, 0, 0)] = true := by decide +kernel
theorem ck_Sc_burden_75 : ia_cks 9 8 false prog_10_method_8_code 75 [(.iinc 6 1, 0, 0, 0, 0), (.goto (-54), 0, 0, 0, 0)] = true := by decide +kernel
theorem ck_Sc_burden_52 : ia_cks 9 8 false prog_10_method_8_code 52 [(.aload_n 0, 0, 0, 0, 0), (.getfield 18, 9, 4, 3, 3), (.iload 7, 0, 0, 0, 0), (.dup2, 0, 0, 0, 0), (.iaload, 0, 0, 0, 0), (.iload_n 3, 0, 0, 0, 0), (.iadd, 0, 0, 0, 0), (.iastore, 0, 0, 0, 0), (.aload_n 0, 0, 0, 0, 0), (.getfield 21, 9, 5, 3, 4), (.iload 7, 0, 0, 0, 0), (.dup2, 0, 0, 0, 0), (.iaload, 0, 0, 0, 0), (.iload 5, 0, 0, 0, 0), (.iadd, 0, 0, 0, 0), (.iastore, 0, 0, 0, 0)] = true := by decide +kernel
theorem dc_Sc_burden_81 : decode prog_10_method_8_code 81 = .ok (.return_, 1) := by decide +kernel
def j_Sc_burden_75 (a0 : Nat) (x1 : Int32) (x2 : Int32) (x3 : Int32) (x4 : Int32) (x5 : Int32) (kr : Int32 → ia_H → Option ia_H) (k81 : ia_H → Option ia_H) (x6 : Int32) (h : ia_H) : Option ia_H := kr (x6 + 1) h
theorem tj_Sc_burden_75 {w : ia_O0} {d N1 W1 : Nat} {K : ia_K} (hK : ia_isK (d + 0) mm_Sc_burden N1 W1 K) {a0 : Nat} {x1 : Int32} {x2 : Int32} {x3 : Int32} {x4 : Int32} {x5 : Int32} (p0 : (kd_D a0).1 = 9) {h1 : ia_H} (hret : ∀ (pc : Nat) (lv : ia_L), ia_ret mm_Sc_burden pc none → K pc lv (none : Option ia_V).toList h1) {kr : Int32 → ia_H → Option ia_H} {k81 : ia_H → Option ia_H} (hkr : ∀ (x6 : Int32) (h : ia_H), gd_ w h → kr x6 h = some h1 → K 24 [some (.inr (.inr a0)), some (.inl x1), none, some (.inl x3), none, some (.inl x5), some (.inl x6), none] [] h) (hk81 : ∀ (h : ia_H), gd_ w h → k81 h = some h1 → K 81 [none, none, none, none, none, none, none, none] [] h) : ∀ (x6 : Int32) (h : ia_H), gd_ w h → j_Sc_burden_75 a0 x1 x2 x3 x4 x5 kr k81 x6 h = some h1 → K 75 [some (.inr (.inr a0)), some (.inl x1), none, some (.inl x3), none, some (.inl x5), some (.inl x6), none] [] h := by
  intro x6 h hg hm
  unfold j_Sc_burden_75 at hm
  refine ia_go hK ck_Sc_burden_75 ?_
  show K 24 [some (.inr (.inr a0)), some (.inl x1), none, some (.inl x3), none, some (.inl x5), some (.inl (x6 + 1)), none] [] h
  exact hkr (x6 + 1) h hg hm
theorem gj_Sc_burden_75 {w : ia_O0} {a0 : Nat} {x1 : Int32} {x2 : Int32} {x3 : Int32} {x4 : Int32} {x5 : Int32} (p0 : (kd_D a0).1 = 9) {h1 : ia_H} {kr : Int32 → ia_H → Option ia_H} {k81 : ia_H → Option ia_H} (hkr : ∀ (x6 : Int32) (h : ia_H), gd_ w h → kr x6 h = some h1 → gd_ w h1) (hk81 : ∀ (h : ia_H), gd_ w h → k81 h = some h1 → gd_ w h1) : ∀ (x6 : Int32) (h : ia_H), gd_ w h → j_Sc_burden_75 a0 x1 x2 x3 x4 x5 kr k81 x6 h = some h1 → gd_ w h1 := by
  intro x6 h hg hm
  unfold j_Sc_burden_75 at hm
  exact hkr (x6 + 1) h hg hm
def l_Sc_burden_24 (a0 : Nat) (x1 : Int32) (x2 : Int32) (x3 : Int32) (x4 : Int32) (x5 : Int32) (k81 : ia_H → Option ia_H) (n : Nat) (x6 : Int32) (h : ia_H) : Option ia_H := match n with
  | 0 => none
  | n + 1 => if 4 ≤ x6 then (k81 h) else (ia_gd (ia_ib ((x1 * 4) + x6) 144) (if (ia_i h ((ia_r h a0 0) + 11) (((x1 * 4) + x6).toNatClampNeg)) = (-1) then (l_Sc_burden_24 a0 x1 x2 x3 x4 x5 k81 n (x6 + 1) h) else (ia_gd (ia_ib (ia_i h ((ia_r h a0 0) + 11) (((x1 * 4) + x6).toNatClampNeg)) 36) (ia_gd (ia_ib (ia_i h ((ia_r h a0 0) + 11) (((x1 * 4) + x6).toNatClampNeg)) 36) (ia_gd (ia_ib (ia_i h ((ia_r h a0 0) + 11) (((x1 * 4) + x6).toNatClampNeg)) 36) (ia_gd (ia_ib (ia_i h ((ia_r h a0 0) + 11) (((x1 * 4) + x6).toNatClampNeg)) 36) (j_Sc_burden_75 a0 x1 x2 x3 x4 x5 (l_Sc_burden_24 a0 x1 x2 x3 x4 x5 k81 n) k81 x6 (ia_wI (ia_wI h (a0 + 3) ((ia_i h ((ia_r h a0 0) + 11) (((x1 * 4) + x6).toNatClampNeg)).toNatClampNeg) ((ia_i h (a0 + 3) ((ia_i h ((ia_r h a0 0) + 11) (((x1 * 4) + x6).toNatClampNeg)).toNatClampNeg)) + x3)) (a0 + 4) ((ia_i h ((ia_r h a0 0) + 11) (((x1 * 4) + x6).toNatClampNeg)).toNatClampNeg) ((ia_i (ia_wI h (a0 + 3) ((ia_i h ((ia_r h a0 0) + 11) (((x1 * 4) + x6).toNatClampNeg)).toNatClampNeg) ((ia_i h (a0 + 3) ((ia_i h ((ia_r h a0 0) + 11) (((x1 * 4) + x6).toNatClampNeg)).toNatClampNeg)) + x3)) (a0 + 4) ((ia_i h ((ia_r h a0 0) + 11) (((x1 * 4) + x6).toNatClampNeg)).toNatClampNeg)) + x5)))))))))
theorem tl_Sc_burden_24 {w : ia_O0} {d N1 W1 : Nat} {K : ia_K} (hK : ia_isK (d + 0) mm_Sc_burden N1 W1 K) {a0 : Nat} {x1 : Int32} {x2 : Int32} {x3 : Int32} {x4 : Int32} {x5 : Int32} (p0 : (kd_D a0).1 = 9) {h1 : ia_H} (hret : ∀ (pc : Nat) (lv : ia_L), ia_ret mm_Sc_burden pc none → K pc lv (none : Option ia_V).toList h1) {k81 : ia_H → Option ia_H} (hk81 : ∀ (h : ia_H), gd_ w h → k81 h = some h1 → K 81 [none, none, none, none, none, none, none, none] [] h) : ∀ (n : Nat) (x6 : Int32) (h : ia_H), gd_ w h → l_Sc_burden_24 a0 x1 x2 x3 x4 x5 k81 n x6 h = some h1 → K 24 [some (.inr (.inr a0)), some (.inl x1), none, some (.inl x3), none, some (.inl x5), some (.inl x6), none] [] h := by
  intro n
  induction n with
  | zero =>
    intro x6 h hg hm
    cases (show (none : Option ia_H) = some _ from hm)
  | succ n ih =>
    intro x6 h hg hm
    rw [l_Sc_burden_24] at hm
    refine ia_go hK ck_Sc_burden_24 ⟨fun c => ?_, fun c => ?_⟩
    · replace hm := ia_ifp hm c
      show K 81 [some (.inr (.inr a0)), some (.inl x1), none, some (.inl x3), none, some (.inl x5), some (.inl x6), none] [] h
      refine ia_fg hK (lv' := [none, none, none, none, none, none, none, none]) trivial ?_
      exact hk81 h hg hm
    · replace hm := ia_ifn hm c
      show K 30 [some (.inr (.inr a0)), some (.inl x1), none, some (.inl x3), none, some (.inl x5), some (.inl x6), none] [] h
      obtain ⟨c5, hm⟩ := ia_gd_some hm
      refine ia_go hK ck_Sc_burden_30 ⟨gk_9 hg p0, gk_3 hg (gm_9_0 hg p0), gr_3_17 hg (gm_9_0 hg p0), ga_i100 hg (ka_3_17 (gm_9_0 hg p0)) c5, fun c => ?_, fun c => ?_⟩
      · replace hm := ia_ifp hm c
        show K 75 [some (.inr (.inr a0)), some (.inl x1), none, some (.inl x3), none, some (.inl x5), some (.inl x6), some (.inl (ia_i h ((ia_r h a0 0) + 11) (((x1 * 4) + x6).toNatClampNeg)))] [] h
        refine ia_go hK ck_Sc_burden_75 ?_
        show K 24 [some (.inr (.inr a0)), some (.inl x1), none, some (.inl x3), none, some (.inl x5), some (.inl (x6 + 1)), some (.inl (ia_i h ((ia_r h a0 0) + 11) (((x1 * 4) + x6).toNatClampNeg)))] [] h
        refine ia_fg hK (lv' := [some (.inr (.inr a0)), some (.inl x1), none, some (.inl x3), none, some (.inl x5), some (.inl (x6 + 1)), none]) ⟨rfl, rfl, rfl, rfl, rfl, trivial⟩ ?_
        exact ih (x6 + 1) h hg hm
      · replace hm := ia_ifn hm c
        show K 52 [some (.inr (.inr a0)), some (.inl x1), none, some (.inl x3), none, some (.inl x5), some (.inl x6), some (.inl (ia_i h ((ia_r h a0 0) + 11) (((x1 * 4) + x6).toNatClampNeg)))] [] h
        obtain ⟨c6, hm⟩ := ia_gd_some hm
        obtain ⟨c7, hm⟩ := ia_gd_some hm
        obtain ⟨c8, hm⟩ := ia_gd_some hm
        obtain ⟨c9, hm⟩ := ia_gd_some hm
        refine ia_go hK ck_Sc_burden_52 ⟨gk_9 hg p0, gr_9_4 hg p0, ga_i100 hg (ka_9_4 p0) c6, ga_s100 hg (ka_9_4 p0) c7, gk_9 (gd_wI hg (kx_100 (ka_9_4 p0))) p0, gr_9_5 (gd_wI hg (kx_100 (ka_9_4 p0))) p0, ga_i100 (gd_wI hg (kx_100 (ka_9_4 p0))) (ka_9_5 p0) c8, ga_s100 (gd_wI hg (kx_100 (ka_9_4 p0))) (ka_9_5 p0) c9, ?_⟩
        show K 75 [some (.inr (.inr a0)), some (.inl x1), none, some (.inl x3), none, some (.inl x5), some (.inl x6), some (.inl (ia_i h ((ia_r h a0 0) + 11) (((x1 * 4) + x6).toNatClampNeg)))] [] (ia_wI (ia_wI h (a0 + 3) ((ia_i h ((ia_r h a0 0) + 11) (((x1 * 4) + x6).toNatClampNeg)).toNatClampNeg) ((ia_i h (a0 + 3) ((ia_i h ((ia_r h a0 0) + 11) (((x1 * 4) + x6).toNatClampNeg)).toNatClampNeg)) + x3)) (a0 + 4) ((ia_i h ((ia_r h a0 0) + 11) (((x1 * 4) + x6).toNatClampNeg)).toNatClampNeg) ((ia_i (ia_wI h (a0 + 3) ((ia_i h ((ia_r h a0 0) + 11) (((x1 * 4) + x6).toNatClampNeg)).toNatClampNeg) ((ia_i h (a0 + 3) ((ia_i h ((ia_r h a0 0) + 11) (((x1 * 4) + x6).toNatClampNeg)).toNatClampNeg)) + x3)) (a0 + 4) ((ia_i h ((ia_r h a0 0) + 11) (((x1 * 4) + x6).toNatClampNeg)).toNatClampNeg)) + x5))
        refine ia_fg hK (lv' := [some (.inr (.inr a0)), some (.inl x1), none, some (.inl x3), none, some (.inl x5), some (.inl x6), none]) ⟨rfl, rfl, rfl, rfl, rfl, trivial⟩ ?_
        exact tj_Sc_burden_75 hK p0 hret ih hk81 x6 (ia_wI (ia_wI h (a0 + 3) ((ia_i h ((ia_r h a0 0) + 11) (((x1 * 4) + x6).toNatClampNeg)).toNatClampNeg) ((ia_i h (a0 + 3) ((ia_i h ((ia_r h a0 0) + 11) (((x1 * 4) + x6).toNatClampNeg)).toNatClampNeg)) + x3)) (a0 + 4) ((ia_i h ((ia_r h a0 0) + 11) (((x1 * 4) + x6).toNatClampNeg)).toNatClampNeg) ((ia_i (ia_wI h (a0 + 3) ((ia_i h ((ia_r h a0 0) + 11) (((x1 * 4) + x6).toNatClampNeg)).toNatClampNeg) ((ia_i h (a0 + 3) ((ia_i h ((ia_r h a0 0) + 11) (((x1 * 4) + x6).toNatClampNeg)).toNatClampNeg)) + x3)) (a0 + 4) ((ia_i h ((ia_r h a0 0) + 11) (((x1 * 4) + x6).toNatClampNeg)).toNatClampNeg)) + x5)) (gd_wI (gd_wI hg (kx_100 (ka_9_4 p0))) (kx_100 (ka_9_5 p0))) hm
theorem gl_Sc_burden_24 {w : ia_O0} {a0 : Nat} {x1 : Int32} {x2 : Int32} {x3 : Int32} {x4 : Int32} {x5 : Int32} (p0 : (kd_D a0).1 = 9) {h1 : ia_H} {k81 : ia_H → Option ia_H} (hk81 : ∀ (h : ia_H), gd_ w h → k81 h = some h1 → gd_ w h1) : ∀ (n : Nat) (x6 : Int32) (h : ia_H), gd_ w h → l_Sc_burden_24 a0 x1 x2 x3 x4 x5 k81 n x6 h = some h1 → gd_ w h1 := by
  intro n
  induction n with
  | zero =>
    intro x6 h hg hm
    cases (show (none : Option ia_H) = some _ from hm)
  | succ n ih =>
    intro x6 h hg hm
    rw [l_Sc_burden_24] at hm
    by_cases c : 4 ≤ x6
    · replace hm := ia_ifp hm c
      exact hk81 h hg hm
    · replace hm := ia_ifn hm c
      obtain ⟨c5, hm⟩ := ia_gd_some hm
      by_cases c : (ia_i h ((ia_r h a0 0) + 11) (((x1 * 4) + x6).toNatClampNeg)) = (-1)
      · replace hm := ia_ifp hm c
        exact ih (x6 + 1) h hg hm
      · replace hm := ia_ifn hm c
        obtain ⟨c6, hm⟩ := ia_gd_some hm
        obtain ⟨c7, hm⟩ := ia_gd_some hm
        obtain ⟨c8, hm⟩ := ia_gd_some hm
        obtain ⟨c9, hm⟩ := ia_gd_some hm
        exact gj_Sc_burden_75 p0 ih hk81 x6 (ia_wI (ia_wI h (a0 + 3) ((ia_i h ((ia_r h a0 0) + 11) (((x1 * 4) + x6).toNatClampNeg)).toNatClampNeg) ((ia_i h (a0 + 3) ((ia_i h ((ia_r h a0 0) + 11) (((x1 * 4) + x6).toNatClampNeg)).toNatClampNeg)) + x3)) (a0 + 4) ((ia_i h ((ia_r h a0 0) + 11) (((x1 * 4) + x6).toNatClampNeg)).toNatClampNeg) ((ia_i (ia_wI h (a0 + 3) ((ia_i h ((ia_r h a0 0) + 11) (((x1 * 4) + x6).toNatClampNeg)).toNatClampNeg) ((ia_i h (a0 + 3) ((ia_i h ((ia_r h a0 0) + 11) (((x1 * 4) + x6).toNatClampNeg)).toNatClampNeg)) + x3)) (a0 + 4) ((ia_i h ((ia_r h a0 0) + 11) (((x1 * 4) + x6).toNatClampNeg)).toNatClampNeg)) + x5)) (gd_wI (gd_wI hg (kx_100 (ka_9_4 p0))) (kx_100 (ka_9_5 p0))) hm
def f_Sc_burden (a0 : Nat) (x1 : Int32) (x2 : Int32) (x3 : Int32) (x4 : Int32) (x5 : Int32) (h : ia_H) : Option ia_H := ia_gd (ia_ib x1 36) (ia_gd (ia_ib x1 36) (ia_gd (ia_ib x1 36) (ia_gd (ia_ib x1 36) (l_Sc_burden_24 a0 x1 x2 x3 x4 x5 (fun h => some h) fu_ 0 (ia_wI (ia_wI h (a0 + 3) ((x1).toNatClampNeg) ((ia_i h (a0 + 3) ((x1).toNatClampNeg)) + x2)) (a0 + 4) ((x1).toNatClampNeg) ((ia_i (ia_wI h (a0 + 3) ((x1).toNatClampNeg) ((ia_i h (a0 + 3) ((x1).toNatClampNeg)) + x2)) (a0 + 4) ((x1).toNatClampNeg)) + x4))))))
theorem g_Sc_burden {w : ia_O0} {a0 : Nat} {x1 : Int32} {x2 : Int32} {x3 : Int32} {x4 : Int32} {x5 : Int32} {h : ia_H} (hg : gd_ w h) (p0 : (kd_D a0).1 = 9) {q : ia_H} (hm : f_Sc_burden a0 x1 x2 x3 x4 x5 h = some q) : gd_ w q := by
  obtain ⟨h1, e1⟩ : ∃ x, x = q := ⟨_, rfl⟩
  subst e1
  unfold f_Sc_burden at hm
  obtain ⟨c1, hm⟩ := ia_gd_some hm
  obtain ⟨c2, hm⟩ := ia_gd_some hm
  obtain ⟨c3, hm⟩ := ia_gd_some hm
  obtain ⟨c4, hm⟩ := ia_gd_some hm
  refine gl_Sc_burden_24 p0 ?_ fu_ 0 (ia_wI (ia_wI h (a0 + 3) ((x1).toNatClampNeg) ((ia_i h (a0 + 3) ((x1).toNatClampNeg)) + x2)) (a0 + 4) ((x1).toNatClampNeg) ((ia_i (ia_wI h (a0 + 3) ((x1).toNatClampNeg) ((ia_i h (a0 + 3) ((x1).toNatClampNeg)) + x2)) (a0 + 4) ((x1).toNatClampNeg)) + x4)) (gd_wI (gd_wI hg (kx_100 (ka_9_4 p0))) (kx_100 (ka_9_5 p0))) hm
  · intro h hg hm
    obtain rfl := Option.some.inj hm
    exact hg
theorem t_Sc_burden {w : ia_O0} (d : Nat) {a0 : Nat} {x1 : Int32} {x2 : Int32} {x3 : Int32} {x4 : Int32} {x5 : Int32} {h : ia_H} (hg : gd_ w h) (p0 : (kd_D a0).1 = 9) {q : ia_H} (hm : f_Sc_burden a0 x1 x2 x3 x4 x5 h = some q) : ia_Ev (d + 0) mm_Sc_burden [.inr (.inr a0), .inl x1, .inl x2, .inl x3, .inl x4, .inl x5] h none q := by
  have gq := g_Sc_burden hg p0 hm
  refine ia_Ev_intro ok_Sc_burden (gd_le hg gq).1 (gd_le hg gq).2 (Nat.le_of_ble_eq_true rfl) (fun K hK hret => ?_)
  obtain ⟨h1, e1⟩ : ∃ x, x = q := ⟨_, rfl⟩
  subst e1
  show K 0 [some (.inr (.inr a0)), some (.inl x1), some (.inl x2), some (.inl x3), some (.inl x4), some (.inl x5), none, none] [] h
  unfold f_Sc_burden at hm
  obtain ⟨c1, hm⟩ := ia_gd_some hm
  obtain ⟨c2, hm⟩ := ia_gd_some hm
  obtain ⟨c3, hm⟩ := ia_gd_some hm
  obtain ⟨c4, hm⟩ := ia_gd_some hm
  refine ia_go hK ck_Sc_burden_0 ⟨gk_9 hg p0, gr_9_4 hg p0, ga_i100 hg (ka_9_4 p0) c1, ga_s100 hg (ka_9_4 p0) c2, gk_9 (gd_wI hg (kx_100 (ka_9_4 p0))) p0, gr_9_5 (gd_wI hg (kx_100 (ka_9_4 p0))) p0, ga_i100 (gd_wI hg (kx_100 (ka_9_4 p0))) (ka_9_5 p0) c3, ga_s100 (gd_wI hg (kx_100 (ka_9_4 p0))) (ka_9_5 p0) c4, ?_⟩
  show K 24 [some (.inr (.inr a0)), some (.inl x1), some (.inl x2), some (.inl x3), some (.inl x4), some (.inl x5), some (.inl 0), none] [] (ia_wI (ia_wI h (a0 + 3) ((x1).toNatClampNeg) ((ia_i h (a0 + 3) ((x1).toNatClampNeg)) + x2)) (a0 + 4) ((x1).toNatClampNeg) ((ia_i (ia_wI h (a0 + 3) ((x1).toNatClampNeg) ((ia_i h (a0 + 3) ((x1).toNatClampNeg)) + x2)) (a0 + 4) ((x1).toNatClampNeg)) + x4))
  refine ia_fg hK (lv' := [some (.inr (.inr a0)), some (.inl x1), none, some (.inl x3), none, some (.inl x5), some (.inl 0), none]) ⟨rfl, rfl, rfl, rfl, rfl, trivial⟩ ?_
  refine tl_Sc_burden_24 hK p0 hret ?_ fu_ 0 (ia_wI (ia_wI h (a0 + 3) ((x1).toNatClampNeg) ((ia_i h (a0 + 3) ((x1).toNatClampNeg)) + x2)) (a0 + 4) ((x1).toNatClampNeg) ((ia_i (ia_wI h (a0 + 3) ((x1).toNatClampNeg) ((ia_i h (a0 + 3) ((x1).toNatClampNeg)) + x2)) (a0 + 4) ((x1).toNatClampNeg)) + x4)) (gd_wI (gd_wI hg (kx_100 (ka_9_4 p0))) (kx_100 (ka_9_5 p0))) hm
  · intro h hg hm
    obtain rfl := Option.some.inj hm
    exact hret 81 _ dc_Sc_burden_81
