def mm_Sc_lower : ia_M := (⟨"IceStreet$Scene", "lower", "(II)V"⟩, prog_10_method_6_code, 3, none, 9, false)
theorem ok_Sc_lower : ia_mok mm_Sc_lower := ⟨by decide +kernel, by decide +kernel, by decide +kernel, by decide +kernel⟩
theorem mk_Sc_lower : ia_mkn mm_Sc_lower 1 2 := ⟨ia_tb_in (List.mem_of_getElem? (i := 1043) (by decide +kernel)) rfl, ia_tb_in (List.mem_of_getElem? (i := 140) (by decide +kernel)) rfl, by decide +kernel, by decide +kernel, ⟨ia_tb_in (List.mem_of_getElem? (i := 1041) (by decide +kernel)) rfl, ia_tb_in (List.mem_of_getElem? (i := 1042) (by decide +kernel)) rfl⟩⟩
theorem ck_Sc_lower_0 : ia_cks 9 3 false prog_10_method_6_code 0 [(.aload_n 0, 0, 0, 0, 0), (.getfield 24, 9, 6, 3, 5), (.iload_n 1, 0, 0, 0, 0), (.iload_n 2, 0, 0, 0, 0), (.iastore, 0, 0, 0, 0), (.aload_n 0, 0, 0, 0, 0), (.iload_n 2, 0, 0, 0, 0), (.aload_n 0, 0, 0, 0, 0), (.getfield 27, 9, 7, 3, 6), (.iload_n 1, 0, 0, 0, 0), (.iaload, 0, 0, 0, 0), (.aload_n 0, 0, 0, 0, 0), (.getfield 37, 9, 1, 2, 0), (.aload_n 0, 0, 0, 0, 0), (.getfield 27, 9, 7, 3, 6), (.iload_n 1, 0, 0, 0, 0), (.iaload, 0, 0, 0, 0)] = true := by decide +kernel
theorem ck_Sc_lower_28 : ia_cks 9 3 false prog_10_method_6_code 28 [(.aload_n 0, 0, 0, 0, 0), (.getfield 30, 9, 8, 3, 7), (.iload_n 1, 0, 0, 0, 0), (.iaload, 0, 0, 0, 0), (.aload_n 0, 0, 0, 0, 0), (.getfield 30, 9, 8, 3, 7), (.iload_n 1, 0, 0, 0, 0), (.iaload, 0, 0, 0, 0), (.iconst 2, 0, 0, 0, 0), (.idiv, 0, 0, 0, 0)] = true := by decide +kernel
theorem dc_Sc_lower_25 : decode prog_10_method_6_code 25 = .ok (.invokevirtual 83, 3) := by decide +kernel
theorem dc_Sc_lower_42 : decode prog_10_method_6_code 42 = .ok (.invokevirtual 88, 3) := by decide +kernel
theorem dc_Sc_lower_45 : decode prog_10_method_6_code 45 = .ok (.return_, 1) := by decide +kernel
def f_Sc_lower (a0 : Nat) (x1 : Int32) (x2 : Int32) (h : ia_H) : Option ia_H := ia_gd (ia_ib x1 6) (ia_gd (ia_ib x1 6) (ia_gd (ia_ib x1 6) ((f_Lw_shareOf (ia_r (ia_wI h (a0 + 5) ((x1).toNatClampNeg) x2) a0 1) (ia_i (ia_wI h (a0 + 5) ((x1).toNatClampNeg) x2) (a0 + 6) ((x1).toNatClampNeg)) (ia_wI h (a0 + 5) ((x1).toNatClampNeg) x2)).bind fun v4 => (ia_gd (ia_ib x1 6) (ia_gd (ia_ib x1 6) ((f_Sc_burden a0 x2 (ia_i (ia_wI h (a0 + 5) ((x1).toNatClampNeg) x2) (a0 + 6) ((x1).toNatClampNeg)) v4 (ia_i (ia_wI h (a0 + 5) ((x1).toNatClampNeg) x2) (a0 + 7) ((x1).toNatClampNeg)) ((ia_i (ia_wI h (a0 + 5) ((x1).toNatClampNeg) x2) (a0 + 7) ((x1).toNatClampNeg)) / 2) (ia_wI h (a0 + 5) ((x1).toNatClampNeg) x2)).bind fun v7 => (some v7)))))))
theorem g_Sc_lower {w : ia_O0} {a0 : Nat} {x1 : Int32} {x2 : Int32} {h : ia_H} (hg : gd_ w h) (p0 : (kd_D a0).1 = 9) {q : ia_H} (hm : f_Sc_lower a0 x1 x2 h = some q) : gd_ w q := by
  obtain ⟨h1, e1⟩ : ∃ x, x = q := ⟨_, rfl⟩
  subst e1
  unfold f_Sc_lower at hm
  obtain ⟨c1, hm⟩ := ia_gd_some hm
  obtain ⟨c2, hm⟩ := ia_gd_some hm
  obtain ⟨c3, hm⟩ := ia_gd_some hm
  obtain ⟨v4, hv4, hm⟩ := ia_bnd hm
  obtain ⟨c5, hm⟩ := ia_gd_some hm
  obtain ⟨c6, hm⟩ := ia_gd_some hm
  obtain ⟨v7, hv7, hm⟩ := ia_bnd hm
  have gv7 := g_Sc_burden (gd_wI hg (kx_100 (ka_9_6 p0))) p0 hv7
  obtain rfl := Option.some.inj hm
  exact gv7
theorem t_Sc_lower {w : ia_O0} (d : Nat) {a0 : Nat} {x1 : Int32} {x2 : Int32} {h : ia_H} (hg : gd_ w h) (p0 : (kd_D a0).1 = 9) {q : ia_H} (hm : f_Sc_lower a0 x1 x2 h = some q) : ia_Ev (d + 1) mm_Sc_lower [.inr (.inr a0), .inl x1, .inl x2] h none q := by
  have gq := g_Sc_lower hg p0 hm
  refine ia_Ev_intro ok_Sc_lower (gd_le hg gq).1 (gd_le hg gq).2 (Nat.le_of_ble_eq_true rfl) (fun K hK hret => ?_)
  obtain ⟨h1, e1⟩ : ∃ x, x = q := ⟨_, rfl⟩
  subst e1
  show K 0 [some (.inr (.inr a0)), some (.inl x1), some (.inl x2)] [] h
  unfold f_Sc_lower at hm
  obtain ⟨c1, hm⟩ := ia_gd_some hm
  obtain ⟨c2, hm⟩ := ia_gd_some hm
  obtain ⟨c3, hm⟩ := ia_gd_some hm
  refine ia_go hK ck_Sc_lower_0 ⟨gk_9 hg p0, gr_9_6 hg p0, ga_s100 hg (ka_9_6 p0) c1, gk_9 (gd_wI hg (kx_100 (ka_9_6 p0))) p0, gr_9_7 (gd_wI hg (kx_100 (ka_9_6 p0))) p0, ga_i100 (gd_wI hg (kx_100 (ka_9_6 p0))) (ka_9_7 p0) c2, gk_9 (gd_wI hg (kx_100 (ka_9_6 p0))) p0, gk_9 (gd_wI hg (kx_100 (ka_9_6 p0))) p0, gr_9_7 (gd_wI hg (kx_100 (ka_9_6 p0))) p0, ga_i100 (gd_wI hg (kx_100 (ka_9_6 p0))) (ka_9_7 p0) c3, ?_⟩
  show K 25 [some (.inr (.inr a0)), some (.inl x1), some (.inl x2)] [.inl (ia_i (ia_wI h (a0 + 5) ((x1).toNatClampNeg) x2) (a0 + 6) ((x1).toNatClampNeg)), .inr (.inr (ia_r (ia_wI h (a0 + 5) ((x1).toNatClampNeg) x2) a0 1)), .inl (ia_i (ia_wI h (a0 + 5) ((x1).toNatClampNeg) x2) (a0 + 6) ((x1).toNatClampNeg)), .inl x2, .inr (.inr a0)] (ia_wI h (a0 + 5) ((x1).toNatClampNeg) x2)
  obtain ⟨v4, hv4, hm⟩ := ia_bnd hm
  have ev4 := t_Lw_shareOf (d + 0) (gd_wI hg (kx_100 (ka_9_6 p0))) (gm_9_1 (gd_wI hg (kx_100 (ka_9_6 p0))) p0) hv4
  refine ia_cV hK mk_Lw_shareOf lk_9_83 dc_Sc_lower_25 (ia_r (ia_wI h (a0 + 5) ((x1).toNatClampNeg) x2) a0 1) [.inl (ia_i (ia_wI h (a0 + 5) ((x1).toNatClampNeg) x2) (a0 + 6) ((x1).toNatClampNeg))] [.inl (ia_i (ia_wI h (a0 + 5) ((x1).toNatClampNeg) x2) (a0 + 6) ((x1).toNatClampNeg)), .inl x2, .inr (.inr a0)] rfl rfl (Nat.le_of_ble_eq_true rfl) (by decide) rfl (gk_4 (gd_wI hg (kx_100 (ka_9_6 p0))) (gm_9_1 (gd_wI hg (kx_100 (ka_9_6 p0))) p0)) ev4 ⟨rfl, rfl⟩ ?_
  show K 28 [some (.inr (.inr a0)), some (.inl x1), some (.inl x2)] [.inl v4, .inl (ia_i (ia_wI h (a0 + 5) ((x1).toNatClampNeg) x2) (a0 + 6) ((x1).toNatClampNeg)), .inl x2, .inr (.inr a0)] (ia_wI h (a0 + 5) ((x1).toNatClampNeg) x2)
  obtain ⟨c5, hm⟩ := ia_gd_some hm
  obtain ⟨c6, hm⟩ := ia_gd_some hm
  refine ia_go hK ck_Sc_lower_28 ⟨gk_9 (gd_wI hg (kx_100 (ka_9_6 p0))) p0, gr_9_8 (gd_wI hg (kx_100 (ka_9_6 p0))) p0, ga_i100 (gd_wI hg (kx_100 (ka_9_6 p0))) (ka_9_8 p0) c5, gk_9 (gd_wI hg (kx_100 (ka_9_6 p0))) p0, gr_9_8 (gd_wI hg (kx_100 (ka_9_6 p0))) p0, ga_i100 (gd_wI hg (kx_100 (ka_9_6 p0))) (ka_9_8 p0) c6, (by decide), ?_⟩
  show K 42 [some (.inr (.inr a0)), some (.inl x1), some (.inl x2)] [.inl ((ia_i (ia_wI h (a0 + 5) ((x1).toNatClampNeg) x2) (a0 + 7) ((x1).toNatClampNeg)) / 2), .inl (ia_i (ia_wI h (a0 + 5) ((x1).toNatClampNeg) x2) (a0 + 7) ((x1).toNatClampNeg)), .inl v4, .inl (ia_i (ia_wI h (a0 + 5) ((x1).toNatClampNeg) x2) (a0 + 6) ((x1).toNatClampNeg)), .inl x2, .inr (.inr a0)] (ia_wI h (a0 + 5) ((x1).toNatClampNeg) x2)
  obtain ⟨v7, hv7, hm⟩ := ia_bnd hm
  have ev7 := t_Sc_burden (d + 0) (gd_wI hg (kx_100 (ka_9_6 p0))) p0 hv7
  have gv7 := g_Sc_burden (gd_wI hg (kx_100 (ka_9_6 p0))) p0 hv7
  refine ia_cV hK mk_Sc_burden lk_9_88 dc_Sc_lower_42 a0 [.inl x2, .inl (ia_i (ia_wI h (a0 + 5) ((x1).toNatClampNeg) x2) (a0 + 6) ((x1).toNatClampNeg)), .inl v4, .inl (ia_i (ia_wI h (a0 + 5) ((x1).toNatClampNeg) x2) (a0 + 7) ((x1).toNatClampNeg)), .inl ((ia_i (ia_wI h (a0 + 5) ((x1).toNatClampNeg) x2) (a0 + 7) ((x1).toNatClampNeg)) / 2)] [] rfl rfl (Nat.le_of_ble_eq_true rfl) (by decide) rfl (gk_9 (gd_wI hg (kx_100 (ka_9_6 p0))) p0) ev7 (gd_nm (gd_wI hg (kx_100 (ka_9_6 p0))) gv7) ?_
  show K 45 [some (.inr (.inr a0)), some (.inl x1), some (.inl x2)] [] v7
  obtain rfl := Option.some.inj hm
  exact hret 45 _ dc_Sc_lower_45
def mm_La_bearing : ia_M := (⟨"IceStreet$Lake", "bearing", "(I)I"⟩, prog_4_method_10_code, 2, (some .int), 3, false)
theorem ok_La_bearing : ia_mok mm_La_bearing := ⟨by decide +kernel, by decide +kernel, by decide +kernel, by decide +kernel⟩
theorem mk_La_bearing : ia_mkn mm_La_bearing 1 1 := ⟨ia_tb_in (List.mem_of_getElem? (i := 1063) (by decide +kernel)) rfl, ia_tb_in (List.mem_of_getElem? (i := 135) (by decide +kernel)) rfl, by decide +kernel, by decide +kernel, ⟨ia_tb_in (List.mem_of_getElem? (i := 1061) (by decide +kernel)) rfl, ia_tb_in (List.mem_of_getElem? (i := 1062) (by decide +kernel)) rfl⟩⟩
theorem ck_La_bearing_0 : ia_cks 3 2 false prog_4_method_10_code 0 [(.aload_n 0, 0, 0, 0, 0), (.getfield 56, 3, 2, 0, 0), (.iconst 1, 0, 0, 0, 0), (.if_icmp .ge 7, 0, 0, 0, 0)] = true := by decide +kernel
theorem ck_La_bearing_12 : ia_cks 3 2 false prog_4_method_10_code 12 [(.iload_n 1, 0, 0, 0, 0), (.iload_n 1, 0, 0, 0, 0), (.imul, 0, 0, 0, 0), (.aload_n 0, 0, 0, 0, 0), (.getfield 56, 3, 2, 0, 0), (.idiv, 0, 0, 0, 0)] = true := by decide +kernel
theorem ck_La_bearing_8 : ia_cks 3 2 false prog_4_method_10_code 8 [(.iconst 0, 0, 0, 0, 0), (.goto 11, 0, 0, 0, 0)] = true := by decide +kernel
theorem dc_La_bearing_20 : decode prog_4_method_10_code 20 = .ok (.ireturn, 1) := by decide +kernel
def f_La_bearing (a0 : Nat) (x1 : Int32) (h : ia_H) : Option Int32 := if 1 ≤ (ia_i h a0 2) then (ia_gd (ia_nz (ia_i h a0 2)) (some ((x1 * x1) / (ia_i h a0 2)))) else (some 0)
theorem t_La_bearing {w : ia_O0} (d : Nat) {a0 : Nat} {x1 : Int32} {h : ia_H} (hg : gd_ w h) (p0 : (kd_D a0).1 = 3) {r : Int32} (hm : f_La_bearing a0 x1 h = some r) : ia_Ev (d + 0) mm_La_bearing [.inr (.inr a0), .inl x1] h (some (.inl r)) h := by
  refine ia_Ev_intro ok_La_bearing (Nat.le_refl _) (Nat.le_refl _) (Nat.le_of_ble_eq_true rfl) (fun K hK hret => ?_)
  show K 0 [some (.inr (.inr a0)), some (.inl x1)] [] h
  unfold f_La_bearing at hm
  refine ia_go hK ck_La_bearing_0 ⟨gk_3 hg p0, fun c => ?_, fun c => ?_⟩
  · replace hm := ia_ifp hm c
    show K 12 [some (.inr (.inr a0)), some (.inl x1)] [] h
    obtain ⟨c1, hm⟩ := ia_gd_some hm
    refine ia_go hK ck_La_bearing_12 ⟨gk_3 hg p0, ia_nz_spec c1, ?_⟩
    show K 20 [some (.inr (.inr a0)), some (.inl x1)] [.inl ((x1 * x1) / (ia_i h a0 2))] h
    obtain rfl := Option.some.inj hm
    exact hret 20 _ dc_La_bearing_20
  · replace hm := ia_ifn hm c
    show K 8 [some (.inr (.inr a0)), some (.inl x1)] [] h
    refine ia_go hK ck_La_bearing_8 ?_
    show K 20 [some (.inr (.inr a0)), some (.inl x1)] [.inl 0] h
    obtain rfl := Option.some.inj hm
    exact hret 20 _ dc_La_bearing_20
def mm_Sc_nextToFall : ia_M := (⟨"IceStreet$Scene", "nextToFall", "()I"⟩, prog_10_method_13_code, 2, (some .int), 9, false)
theorem ok_Sc_nextToFall : ia_mok mm_Sc_nextToFall := ⟨by decide +kernel, by decide +kernel, by decide +kernel, by decide +kernel⟩
theorem mk_Sc_nextToFall : ia_mkn mm_Sc_nextToFall 1 0 := ⟨ia_tb_in (List.mem_of_getElem? (i := 1059) (by decide +kernel)) rfl, ia_tb_in (List.mem_of_getElem? (i := 140) (by decide +kernel)) rfl, by decide +kernel, by decide +kernel, ⟨ia_tb_in (List.mem_of_getElem? (i := 1057) (by decide +kernel)) rfl, ia_tb_in (List.mem_of_getElem? (i := 1058) (by decide +kernel)) rfl⟩⟩
theorem ck_Sc_nextToFall_0 : ia_cks 9 2 false prog_10_method_13_code 0 [(.iconst 0, 0, 0, 0, 0), (.istore_n 1, 0, 0, 0, 0)] = true := by decide +kernel
theorem ck_Sc_nextToFall_2 : ia_cks 9 2 false prog_10_method_13_code 2 [(.iload_n 1, 0, 0, 0, 0), (.aload_n 0, 0, 0, 0, 0), (.getfield 33, 9, 0, 2, 0), (.getfield 66, 3, 11, 0, 0), (.if_icmp .ge 52, 0, 0, 0, 0)] = true := by decide +kernel
theorem ck_Sc_nextToFall_13 : ia_cks 9 2 false prog_10_method_13_code 13 [(.aload_n 0, 0, 0, 0, 0), (.getfield 24, 9, 6, 3, 5), (.iload_n 1, 0, 0, 0, 0), (.iaload, 0, 0, 0, 0), (.ifCond .lt 37, 0, 0, 0, 0)] = true := by decide +kernel
theorem ck_Sc_nextToFall_56 : ia_cks 9 2 false prog_10_method_13_code 56 [(.iinc 1 1, 0, 0, 0, 0), (.goto (-57), 0, 0, 0, 0)] = true := by decide +kernel
theorem ck_Sc_nextToFall_22 : ia_cks 9 2 false prog_10_method_13_code 22 [(.aload_n 0, 0, 0, 0, 0), (.getfield 18, 9, 4, 3, 3), (.aload_n 0, 0, 0, 0, 0), (.getfield 24, 9, 6, 3, 5), (.iload_n 1, 0, 0, 0, 0), (.iaload, 0, 0, 0, 0), (.iaload, 0, 0, 0, 0), (.aload_n 0, 0, 0, 0, 0), (.getfield 33, 9, 0, 2, 0), (.aload_n 0, 0, 0, 0, 0), (.getfield 9, 9, 2, 3, 1), (.aload_n 0, 0, 0, 0, 0), (.getfield 24, 9, 6, 3, 5), (.iload_n 1, 0, 0, 0, 0), (.iaload, 0, 0, 0, 0), (.iaload, 0, 0, 0, 0)] = true := by decide +kernel
theorem ck_Sc_nextToFall_51 : ia_cks 9 2 false prog_10_method_13_code 51 [(.if_icmp .le 5, 0, 0, 0, 0)] = true := by decide +kernel
theorem ck_Sc_nextToFall_54 : ia_cks 9 2 false prog_10_method_13_code 54 [(.iload_n 1, 0, 0, 0, 0)] = true := by decide +kernel
theorem ck_Sc_nextToFall_62 : ia_cks 9 2 false prog_10_method_13_code 62 [(.iconst (-1), 0, 0, 0, 0)] = true := by decide +kernel
theorem dc_Sc_nextToFall_48 : decode prog_10_method_13_code 48 = .ok (.invokevirtual 79, 3) := by decide +kernel
theorem dc_Sc_nextToFall_55 : decode prog_10_method_13_code 55 = .ok (.ireturn, 1) := by decide +kernel
theorem dc_Sc_nextToFall_63 : decode prog_10_method_13_code 63 = .ok (.ireturn, 1) := by decide +kernel
def l_Sc_nextToFall_2 (a0 : Nat) (h : ia_H) (k54 : Int32 → Option Int32) (k62 : Option Int32) (n : Nat) (x1 : Int32) : Option Int32 := match n with
  | 0 => none
  | n + 1 => if (ia_i h (ia_r h a0 0) 11) ≤ x1 then k62 else (ia_gd (ia_ib x1 6) (if (ia_i h (a0 + 5) ((x1).toNatClampNeg)) < 0 then (l_Sc_nextToFall_2 a0 h k54 k62 n (x1 + 1)) else (ia_gd (ia_ib x1 6) (ia_gd (ia_ib (ia_i h (a0 + 5) ((x1).toNatClampNeg)) 36) (ia_gd (ia_ib x1 6) (ia_gd (ia_ib (ia_i h (a0 + 5) ((x1).toNatClampNeg)) 36) ((f_La_bearing (ia_r h a0 0) (ia_i h (a0 + 1) ((ia_i h (a0 + 5) ((x1).toNatClampNeg)).toNatClampNeg)) h).bind fun v6 => (if (ia_i h (a0 + 3) ((ia_i h (a0 + 5) ((x1).toNatClampNeg)).toNatClampNeg)) ≤ v6 then (l_Sc_nextToFall_2 a0 h k54 k62 n (x1 + 1)) else (k54 x1)))))))))
theorem tl_Sc_nextToFall_2 {w : ia_O0} {d N1 W1 : Nat} {K : ia_K} (hK : ia_isK (d + 1) mm_Sc_nextToFall N1 W1 K) {a0 : Nat} {h : ia_H} (hg : gd_ w h) (p0 : (kd_D a0).1 = 9) {r : Int32} (hret : ∀ (pc : Nat) (lv : ia_L), ia_ret mm_Sc_nextToFall pc (some (.inl r)) → K pc lv ((some (.inl r)) : Option ia_V).toList h) {k54 : Int32 → Option Int32} {k62 : Option Int32} (hk54 : ∀ (x1 : Int32), k54 x1 = some r → K 54 [none, some (.inl x1)] [] h) (hk62 : k62 = some r → K 62 [none, none] [] h) : ∀ (n : Nat) (x1 : Int32), l_Sc_nextToFall_2 a0 h k54 k62 n x1 = some r → K 2 [some (.inr (.inr a0)), some (.inl x1)] [] h := by
  intro n
  induction n with
  | zero =>
    intro x1 hm
    cases (show (none : Option Int32) = some _ from hm)
  | succ n ih =>
    intro x1 hm
    rw [l_Sc_nextToFall_2] at hm
    refine ia_go hK ck_Sc_nextToFall_2 ⟨gk_9 hg p0, gk_3 hg (gm_9_0 hg p0), fun c => ?_, fun c => ?_⟩
    · replace hm := ia_ifp hm c
      show K 62 [some (.inr (.inr a0)), some (.inl x1)] [] h
      refine ia_fg hK (lv' := [none, none]) trivial ?_
      exact hk62 hm
    · replace hm := ia_ifn hm c
      show K 13 [some (.inr (.inr a0)), some (.inl x1)] [] h
      obtain ⟨c1, hm⟩ := ia_gd_some hm
      refine ia_go hK ck_Sc_nextToFall_13 ⟨gk_9 hg p0, gr_9_6 hg p0, ga_i100 hg (ka_9_6 p0) c1, fun c => ?_, fun c => ?_⟩
      · replace hm := ia_ifp hm c
        show K 56 [some (.inr (.inr a0)), some (.inl x1)] [] h
        refine ia_go hK ck_Sc_nextToFall_56 ?_
        show K 2 [some (.inr (.inr a0)), some (.inl (x1 + 1))] [] h
        exact ih (x1 + 1) hm
      · replace hm := ia_ifn hm c
        show K 22 [some (.inr (.inr a0)), some (.inl x1)] [] h
        obtain ⟨c2, hm⟩ := ia_gd_some hm
        obtain ⟨c3, hm⟩ := ia_gd_some hm
        obtain ⟨c4, hm⟩ := ia_gd_some hm
        obtain ⟨c5, hm⟩ := ia_gd_some hm
        refine ia_go hK ck_Sc_nextToFall_22 ⟨gk_9 hg p0, gr_9_4 hg p0, gk_9 hg p0, gr_9_6 hg p0, ga_i100 hg (ka_9_6 p0) c2, ga_i100 hg (ka_9_4 p0) c3, gk_9 hg p0, gk_9 hg p0, gr_9_2 hg p0, gk_9 hg p0, gr_9_6 hg p0, ga_i100 hg (ka_9_6 p0) c4, ga_i100 hg (ka_9_2 p0) c5, ?_⟩
        show K 48 [some (.inr (.inr a0)), some (.inl x1)] [.inl (ia_i h (a0 + 1) ((ia_i h (a0 + 5) ((x1).toNatClampNeg)).toNatClampNeg)), .inr (.inr (ia_r h a0 0)), .inl (ia_i h (a0 + 3) ((ia_i h (a0 + 5) ((x1).toNatClampNeg)).toNatClampNeg))] h
        obtain ⟨v6, hv6, hm⟩ := ia_bnd hm
        have ev6 := t_La_bearing (d + 0) hg (gm_9_0 hg p0) hv6
        refine ia_cV hK mk_La_bearing lk_9_79 dc_Sc_nextToFall_48 (ia_r h a0 0) [.inl (ia_i h (a0 + 1) ((ia_i h (a0 + 5) ((x1).toNatClampNeg)).toNatClampNeg))] [.inl (ia_i h (a0 + 3) ((ia_i h (a0 + 5) ((x1).toNatClampNeg)).toNatClampNeg))] rfl rfl (Nat.le_of_ble_eq_true rfl) (by decide) rfl (gk_3 hg (gm_9_0 hg p0)) ev6 ⟨rfl, rfl⟩ ?_
        show K 51 [some (.inr (.inr a0)), some (.inl x1)] [.inl v6, .inl (ia_i h (a0 + 3) ((ia_i h (a0 + 5) ((x1).toNatClampNeg)).toNatClampNeg))] h
        refine ia_go hK ck_Sc_nextToFall_51 ⟨fun c => ?_, fun c => ?_⟩
        · replace hm := ia_ifp hm c
          show K 56 [some (.inr (.inr a0)), some (.inl x1)] [] h
          refine ia_go hK ck_Sc_nextToFall_56 ?_
          show K 2 [some (.inr (.inr a0)), some (.inl (x1 + 1))] [] h
          exact ih (x1 + 1) hm
        · replace hm := ia_ifn hm c
          show K 54 [some (.inr (.inr a0)), some (.inl x1)] [] h
          refine ia_fg hK (lv' := [none, some (.inl x1)]) ⟨rfl, trivial⟩ ?_
          exact hk54 x1 hm
def f_Sc_nextToFall (a0 : Nat) (h : ia_H) : Option Int32 := l_Sc_nextToFall_2 a0 h (fun x1 => some x1) (some (-1)) fu_ 0
theorem t_Sc_nextToFall {w : ia_O0} (d : Nat) {a0 : Nat} {h : ia_H} (hg : gd_ w h) (p0 : (kd_D a0).1 = 9) {r : Int32} (hm : f_Sc_nextToFall a0 h = some r) : ia_Ev (d + 1) mm_Sc_nextToFall [.inr (.inr a0)] h (some (.inl r)) h := by
  refine ia_Ev_intro ok_Sc_nextToFall (Nat.le_refl _) (Nat.le_refl _) (Nat.le_of_ble_eq_true rfl) (fun K hK hret => ?_)
  show K 0 [some (.inr (.inr a0)), none] [] h
  unfold f_Sc_nextToFall at hm
  refine ia_go hK ck_Sc_nextToFall_0 ?_
  show K 2 [some (.inr (.inr a0)), some (.inl 0)] [] h
  refine tl_Sc_nextToFall_2 hK hg p0 hret ?_ ?_ fu_ 0 hm
  · intro x1 hm
    refine ia_go hK ck_Sc_nextToFall_54 ?_
    show K 55 [none, some (.inl x1)] [.inl x1] h
    obtain rfl := Option.some.inj hm
    exact hret 55 _ dc_Sc_nextToFall_55
  · intro hm
    refine ia_go hK ck_Sc_nextToFall_62 ?_
    show K 63 [none, none] [.inl (-1)] h
    obtain rfl := Option.some.inj hm
    exact hret 63 _ dc_Sc_nextToFall_63
def mm_Sc_lift : ia_M := (⟨"IceStreet$Scene", "lift", "(II)V"⟩, prog_10_method_7_code, 3, none, 9, false)
theorem ok_Sc_lift : ia_mok mm_Sc_lift := ⟨by decide +kernel, by decide +kernel, by decide +kernel, by decide +kernel⟩
theorem mk_Sc_lift : ia_mkn mm_Sc_lift 1 2 := ⟨ia_tb_in (List.mem_of_getElem? (i := 1067) (by decide +kernel)) rfl, ia_tb_in (List.mem_of_getElem? (i := 140) (by decide +kernel)) rfl, by decide +kernel, by decide +kernel, ⟨ia_tb_in (List.mem_of_getElem? (i := 1065) (by decide +kernel)) rfl, ia_tb_in (List.mem_of_getElem? (i := 1066) (by decide +kernel)) rfl⟩⟩
theorem ck_Sc_lift_0 : ia_cks 9 3 false prog_10_method_7_code 0 [(.aload_n 0, 0, 0, 0, 0), (.aload_n 0, 0, 0, 0, 0), (.getfield 24, 9, 6, 3, 5), (.iload_n 1, 0, 0, 0, 0), (.iaload, 0, 0, 0, 0), (.aload_n 0, 0, 0, 0, 0), (.getfield 27, 9, 7, 3, 6), (.iload_n 1, 0, 0, 0, 0), (.iaload, 0, 0, 0, 0), (.ineg, 0, 0, 0, 0), (.aload_n 0, 0, 0, 0, 0), (.getfield 37, 9, 1, 2, 0), (.aload_n 0, 0, 0, 0, 0), (.getfield 27, 9, 7, 3, 6), (.iload_n 1, 0, 0, 0, 0), (.iaload, 0, 0, 0, 0)] = true := by decide +kernel
theorem ck_Sc_lift_27 : ia_cks 9 3 false prog_10_method_7_code 27 [(.ineg, 0, 0, 0, 0), (.aload_n 0, 0, 0, 0, 0), (.getfield 30, 9, 8, 3, 7), (.iload_n 1, 0, 0, 0, 0), (.iaload, 0, 0, 0, 0), (.ineg, 0, 0, 0, 0), (.aload_n 0, 0, 0, 0, 0), (.getfield 30, 9, 8, 3, 7), (.iload_n 1, 0, 0, 0, 0), (.iaload, 0, 0, 0, 0), (.iconst 2, 0, 0, 0, 0), (.idiv, 0, 0, 0, 0), (.ineg, 0, 0, 0, 0)] = true := by decide +kernel
theorem ck_Sc_lift_47 : ia_cks 9 3 false prog_10_method_7_code 47 [(.aload_n 0, 0, 0, 0, 0), (.getfield 24, 9, 6, 3, 5), (.iload_n 1, 0, 0, 0, 0), (.iload_n 2, 0, 0, 0, 0), (.iastore, 0, 0, 0, 0)] = true := by decide +kernel
theorem dc_Sc_lift_24 : decode prog_10_method_7_code 24 = .ok (.invokevirtual 83, 3) := by decide +kernel
theorem dc_Sc_lift_44 : decode prog_10_method_7_code 44 = .ok (.invokevirtual 88, 3) := by decide +kernel
theorem dc_Sc_lift_54 : decode prog_10_method_7_code 54 = .ok (.return_, 1) := by decide +kernel
def f_Sc_lift (a0 : Nat) (x1 : Int32) (x2 : Int32) (h : ia_H) : Option ia_H := ia_gd (ia_ib x1 6) (ia_gd (ia_ib x1 6) (ia_gd (ia_ib x1 6) ((f_Lw_shareOf (ia_r h a0 1) (ia_i h (a0 + 6) ((x1).toNatClampNeg)) h).bind fun v4 => (ia_gd (ia_ib x1 6) (ia_gd (ia_ib x1 6) ((f_Sc_burden a0 (ia_i h (a0 + 5) ((x1).toNatClampNeg)) (-(ia_i h (a0 + 6) ((x1).toNatClampNeg))) (-v4) (-(ia_i h (a0 + 7) ((x1).toNatClampNeg))) (-((ia_i h (a0 + 7) ((x1).toNatClampNeg)) / 2)) h).bind fun v7 => (ia_gd (ia_ib x1 6) (some (ia_wI v7 (a0 + 5) ((x1).toNatClampNeg) x2)))))))))
theorem g_Sc_lift {w : ia_O0} {a0 : Nat} {x1 : Int32} {x2 : Int32} {h : ia_H} (hg : gd_ w h) (p0 : (kd_D a0).1 = 9) {q : ia_H} (hm : f_Sc_lift a0 x1 x2 h = some q) : gd_ w q := by
  obtain ⟨h1, e1⟩ : ∃ x, x = q := ⟨_, rfl⟩
  subst e1
  unfold f_Sc_lift at hm
  obtain ⟨c1, hm⟩ := ia_gd_some hm
  obtain ⟨c2, hm⟩ := ia_gd_some hm
  obtain ⟨c3, hm⟩ := ia_gd_some hm
  obtain ⟨v4, hv4, hm⟩ := ia_bnd hm
  obtain ⟨c5, hm⟩ := ia_gd_some hm
  obtain ⟨c6, hm⟩ := ia_gd_some hm
  obtain ⟨v7, hv7, hm⟩ := ia_bnd hm
  have gv7 := g_Sc_burden hg p0 hv7
  obtain ⟨c8, hm⟩ := ia_gd_some hm
  obtain rfl := Option.some.inj hm
  exact (gd_wI gv7 (kx_100 (ka_9_6 p0)))
theorem t_Sc_lift {w : ia_O0} (d : Nat) {a0 : Nat} {x1 : Int32} {x2 : Int32} {h : ia_H} (hg : gd_ w h) (p0 : (kd_D a0).1 = 9) {q : ia_H} (hm : f_Sc_lift a0 x1 x2 h = some q) : ia_Ev (d + 1) mm_Sc_lift [.inr (.inr a0), .inl x1, .inl x2] h none q := by
  have gq := g_Sc_lift hg p0 hm
  refine ia_Ev_intro ok_Sc_lift (gd_le hg gq).1 (gd_le hg gq).2 (Nat.le_of_ble_eq_true rfl) (fun K hK hret => ?_)
  obtain ⟨h1, e1⟩ : ∃ x, x = q := ⟨_, rfl⟩
  subst e1
  show K 0 [some (.inr (.inr a0)), some (.inl x1), some (.inl x2)] [] h
  unfold f_Sc_lift at hm
  obtain ⟨c1, hm⟩ := ia_gd_some hm
  obtain ⟨c2, hm⟩ := ia_gd_some hm
  obtain ⟨c3, hm⟩ := ia_gd_some hm
  refine ia_go hK ck_Sc_lift_0 ⟨gk_9 hg p0, gr_9_6 hg p0, ga_i100 hg (ka_9_6 p0) c1, gk_9 hg p0, gr_9_7 hg p0, ga_i100 hg (ka_9_7 p0) c2, gk_9 hg p0, gk_9 hg p0, gr_9_7 hg p0, ga_i100 hg (ka_9_7 p0) c3, ?_⟩
  show K 24 [some (.inr (.inr a0)), some (.inl x1), some (.inl x2)] [.inl (ia_i h (a0 + 6) ((x1).toNatClampNeg)), .inr (.inr (ia_r h a0 1)), .inl (-(ia_i h (a0 + 6) ((x1).toNatClampNeg))), .inl (ia_i h (a0 + 5) ((x1).toNatClampNeg)), .inr (.inr a0)] h
  obtain ⟨v4, hv4, hm⟩ := ia_bnd hm
  have ev4 := t_Lw_shareOf (d + 0) hg (gm_9_1 hg p0) hv4
  refine ia_cV hK mk_Lw_shareOf lk_9_83 dc_Sc_lift_24 (ia_r h a0 1) [.inl (ia_i h (a0 + 6) ((x1).toNatClampNeg))] [.inl (-(ia_i h (a0 + 6) ((x1).toNatClampNeg))), .inl (ia_i h (a0 + 5) ((x1).toNatClampNeg)), .inr (.inr a0)] rfl rfl (Nat.le_of_ble_eq_true rfl) (by decide) rfl (gk_4 hg (gm_9_1 hg p0)) ev4 ⟨rfl, rfl⟩ ?_
  show K 27 [some (.inr (.inr a0)), some (.inl x1), some (.inl x2)] [.inl v4, .inl (-(ia_i h (a0 + 6) ((x1).toNatClampNeg))), .inl (ia_i h (a0 + 5) ((x1).toNatClampNeg)), .inr (.inr a0)] h
  obtain ⟨c5, hm⟩ := ia_gd_some hm
  obtain ⟨c6, hm⟩ := ia_gd_some hm
  refine ia_go hK ck_Sc_lift_27 ⟨gk_9 hg p0, gr_9_8 hg p0, ga_i100 hg (ka_9_8 p0) c5, gk_9 hg p0, gr_9_8 hg p0, ga_i100 hg (ka_9_8 p0) c6, (by decide), ?_⟩
  show K 44 [some (.inr (.inr a0)), some (.inl x1), some (.inl x2)] [.inl (-((ia_i h (a0 + 7) ((x1).toNatClampNeg)) / 2)), .inl (-(ia_i h (a0 + 7) ((x1).toNatClampNeg))), .inl (-v4), .inl (-(ia_i h (a0 + 6) ((x1).toNatClampNeg))), .inl (ia_i h (a0 + 5) ((x1).toNatClampNeg)), .inr (.inr a0)] h
  obtain ⟨v7, hv7, hm⟩ := ia_bnd hm
  have ev7 := t_Sc_burden (d + 0) hg p0 hv7
  have gv7 := g_Sc_burden hg p0 hv7
  refine ia_cV hK mk_Sc_burden lk_9_88 dc_Sc_lift_44 a0 [.inl (ia_i h (a0 + 5) ((x1).toNatClampNeg)), .inl (-(ia_i h (a0 + 6) ((x1).toNatClampNeg))), .inl (-v4), .inl (-(ia_i h (a0 + 7) ((x1).toNatClampNeg))), .inl (-((ia_i h (a0 + 7) ((x1).toNatClampNeg)) / 2))] [] rfl rfl (Nat.le_of_ble_eq_true rfl) (by decide) rfl (gk_9 hg p0) ev7 (gd_nm hg gv7) ?_
  show K 47 [some (.inr (.inr a0)), some (.inl x1), some (.inl x2)] [] v7
  obtain ⟨c8, hm⟩ := ia_gd_some hm
  refine ia_go hK ck_Sc_lift_47 ⟨gk_9 gv7 p0, gr_9_6 gv7 p0, ga_s100 gv7 (ka_9_6 p0) c8, ?_⟩
  show K 54 [some (.inr (.inr a0)), some (.inl x1), some (.inl x2)] [] (ia_wI v7 (a0 + 5) ((x1).toNatClampNeg) x2)
  obtain rfl := Option.some.inj hm
  exact hret 54 _ dc_Sc_lift_54
def mm_Sc_settle : ia_M := (⟨"IceStreet$Scene", "settle", "()V"⟩, prog_10_method_14_code, 3, none, 9, false)
theorem ok_Sc_settle : ia_mok mm_Sc_settle := ⟨by decide +kernel, by decide +kernel, by decide +kernel, by decide +kernel⟩
theorem mk_Sc_settle : ia_mkn mm_Sc_settle 1 0 := ⟨ia_tb_in (List.mem_of_getElem? (i := 1055) (by decide +kernel)) rfl, ia_tb_in (List.mem_of_getElem? (i := 140) (by decide +kernel)) rfl, by decide +kernel, by decide +kernel, ⟨ia_tb_in (List.mem_of_getElem? (i := 1054) (by decide +kernel)) rfl, ia_tb_in (List.mem_of_getElem? (i := 22) (by decide +kernel)) rfl⟩⟩
theorem ck_Sc_settle_0 : ia_cks 9 3 false prog_10_method_14_code 0 [(.iconst 0, 0, 0, 0, 0), (.istore_n 1, 0, 0, 0, 0)] = true := by decide +kernel
theorem ck_Sc_settle_2 : ia_cks 9 3 false prog_10_method_14_code 2 [(.iload_n 1, 0, 0, 0, 0), (.bipush 6, 0, 0, 0, 0), (.if_icmp .ge 39, 0, 0, 0, 0)] = true := by decide +kernel
theorem ck_Sc_settle_8 : ia_cks 9 3 false prog_10_method_14_code 8 [(.aload_n 0, 0, 0, 0, 0)] = true := by decide +kernel
theorem ck_Sc_settle_12 : ia_cks 9 3 false prog_10_method_14_code 12 [(.istore_n 2, 0, 0, 0, 0), (.iload_n 2, 0, 0, 0, 0), (.iconst (-1), 0, 0, 0, 0), (.if_icmp .ne 4, 0, 0, 0, 0)] = true := by decide +kernel
theorem ck_Sc_settle_19 : ia_cks 9 3 false prog_10_method_14_code 19 [(.aload_n 0, 0, 0, 0, 0), (.getfield 9, 9, 2, 3, 1), (.aload_n 0, 0, 0, 0, 0), (.getfield 24, 9, 6, 3, 5), (.iload_n 2, 0, 0, 0, 0), (.iaload, 0, 0, 0, 0), (.iconst 0, 0, 0, 0, 0), (.iastore, 0, 0, 0, 0), (.aload_n 0, 0, 0, 0, 0), (.iload_n 2, 0, 0, 0, 0), (.bipush (-2), 0, 0, 0, 0)] = true := by decide +kernel
theorem ck_Sc_settle_38 : ia_cks 9 3 false prog_10_method_14_code 38 [(.iinc 1 1, 0, 0, 0, 0), (.goto (-39), 0, 0, 0, 0)] = true := by decide +kernel
theorem dc_Sc_settle_9 : decode prog_10_method_14_code 9 = .ok (.invokevirtual 98, 3) := by decide +kernel
theorem dc_Sc_settle_35 : decode prog_10_method_14_code 35 = .ok (.invokevirtual 95, 3) := by decide +kernel
theorem dc_Sc_settle_18 : decode prog_10_method_14_code 18 = .ok (.return_, 1) := by decide +kernel
theorem dc_Sc_settle_44 : decode prog_10_method_14_code 44 = .ok (.return_, 1) := by decide +kernel
def l_Sc_settle_2 (a0 : Nat) (k18 : ia_H → Option ia_H) (k44 : ia_H → Option ia_H) (n : Nat) (x1 : Int32) (h : ia_H) : Option ia_H := match n with
  | 0 => none
  | n + 1 => if 6 ≤ x1 then (k44 h) else ((f_Sc_nextToFall a0 h).bind fun v1 => (if v1 = (-1) then (k18 h) else (ia_gd (ia_ib v1 6) (ia_gd (ia_ib (ia_i h (a0 + 5) ((v1).toNatClampNeg)) 36) ((f_Sc_lift a0 v1 (-2) (ia_wI h (a0 + 1) ((ia_i h (a0 + 5) ((v1).toNatClampNeg)).toNatClampNeg) 0)).bind fun v4 => (l_Sc_settle_2 a0 k18 k44 n (x1 + 1) v4))))))
theorem tl_Sc_settle_2 {w : ia_O0} {d N1 W1 : Nat} {K : ia_K} (hK : ia_isK (d + 2) mm_Sc_settle N1 W1 K) {a0 : Nat} (p0 : (kd_D a0).1 = 9) {h1 : ia_H} (hret : ∀ (pc : Nat) (lv : ia_L), ia_ret mm_Sc_settle pc none → K pc lv (none : Option ia_V).toList h1) {k18 : ia_H → Option ia_H} {k44 : ia_H → Option ia_H} (hk18 : ∀ (h : ia_H), gd_ w h → k18 h = some h1 → K 18 [none, none, none] [] h) (hk44 : ∀ (h : ia_H), gd_ w h → k44 h = some h1 → K 44 [none, none, none] [] h) : ∀ (n : Nat) (x1 : Int32) (h : ia_H), gd_ w h → l_Sc_settle_2 a0 k18 k44 n x1 h = some h1 → K 2 [some (.inr (.inr a0)), some (.inl x1), none] [] h := by
  intro n
  induction n with
  | zero =>
    intro x1 h hg hm
    cases (show (none : Option ia_H) = some _ from hm)
  | succ n ih =>
    intro x1 h hg hm
    rw [l_Sc_settle_2] at hm
    refine ia_go hK ck_Sc_settle_2 ⟨fun c => ?_, fun c => ?_⟩
    · replace hm := ia_ifp hm c
      show K 44 [some (.inr (.inr a0)), some (.inl x1), none] [] h
      refine ia_fg hK (lv' := [none, none, none]) trivial ?_
      exact hk44 h hg hm
    · replace hm := ia_ifn hm c
      show K 8 [some (.inr (.inr a0)), some (.inl x1), none] [] h
      refine ia_go hK ck_Sc_settle_8 ?_
      show K 9 [some (.inr (.inr a0)), some (.inl x1), none] [.inr (.inr a0)] h
      obtain ⟨v1, hv1, hm⟩ := ia_bnd hm
      have ev1 := t_Sc_nextToFall (d + 0) hg p0 hv1
      refine ia_cV hK mk_Sc_nextToFall lk_9_98 dc_Sc_settle_9 a0 [] [] rfl rfl (Nat.le_of_ble_eq_true rfl) (by decide) rfl (gk_9 hg p0) ev1 ⟨rfl, rfl⟩ ?_
      show K 12 [some (.inr (.inr a0)), some (.inl x1), none] [.inl v1] h
      refine ia_go hK ck_Sc_settle_12 ⟨fun c => ?_, fun c => ?_⟩
      · replace hm := ia_ifn hm c
        show K 19 [some (.inr (.inr a0)), some (.inl x1), some (.inl v1)] [] h
        obtain ⟨c2, hm⟩ := ia_gd_some hm
        obtain ⟨c3, hm⟩ := ia_gd_some hm
        refine ia_go hK ck_Sc_settle_19 ⟨gk_9 hg p0, gr_9_2 hg p0, gk_9 hg p0, gr_9_6 hg p0, ga_i100 hg (ka_9_6 p0) c2, ga_s100 hg (ka_9_2 p0) c3, ?_⟩
        show K 35 [some (.inr (.inr a0)), some (.inl x1), some (.inl v1)] [.inl (-2), .inl v1, .inr (.inr a0)] (ia_wI h (a0 + 1) ((ia_i h (a0 + 5) ((v1).toNatClampNeg)).toNatClampNeg) 0)
        obtain ⟨v4, hv4, hm⟩ := ia_bnd hm
        have ev4 := t_Sc_lift (d + 0) (gd_wI hg (kx_100 (ka_9_2 p0))) p0 hv4
        have gv4 := g_Sc_lift (gd_wI hg (kx_100 (ka_9_2 p0))) p0 hv4
        refine ia_cV hK mk_Sc_lift lk_9_95 dc_Sc_settle_35 a0 [.inl v1, .inl (-2)] [] rfl rfl (Nat.le_of_ble_eq_true rfl) (by decide) rfl (gk_9 (gd_wI hg (kx_100 (ka_9_2 p0))) p0) ev4 (gd_nm (gd_wI hg (kx_100 (ka_9_2 p0))) gv4) ?_
        show K 38 [some (.inr (.inr a0)), some (.inl x1), some (.inl v1)] [] v4
        refine ia_go hK ck_Sc_settle_38 ?_
        show K 2 [some (.inr (.inr a0)), some (.inl (x1 + 1)), some (.inl v1)] [] v4
        refine ia_fg hK (lv' := [some (.inr (.inr a0)), some (.inl (x1 + 1)), none]) ⟨rfl, rfl, trivial⟩ ?_
        exact ih (x1 + 1) v4 gv4 hm
      · replace hm := ia_ifp hm c
        show K 18 [some (.inr (.inr a0)), some (.inl x1), some (.inl v1)] [] h
        refine ia_fg hK (lv' := [none, none, none]) trivial ?_
        exact hk18 h hg hm
theorem gl_Sc_settle_2 {w : ia_O0} {a0 : Nat} (p0 : (kd_D a0).1 = 9) {h1 : ia_H} {k18 : ia_H → Option ia_H} {k44 : ia_H → Option ia_H} (hk18 : ∀ (h : ia_H), gd_ w h → k18 h = some h1 → gd_ w h1) (hk44 : ∀ (h : ia_H), gd_ w h → k44 h = some h1 → gd_ w h1) : ∀ (n : Nat) (x1 : Int32) (h : ia_H), gd_ w h → l_Sc_settle_2 a0 k18 k44 n x1 h = some h1 → gd_ w h1 := by
  intro n
  induction n with
  | zero =>
    intro x1 h hg hm
    cases (show (none : Option ia_H) = some _ from hm)
  | succ n ih =>
    intro x1 h hg hm
    rw [l_Sc_settle_2] at hm
    by_cases c : 6 ≤ x1
    · replace hm := ia_ifp hm c
      exact hk44 h hg hm
    · replace hm := ia_ifn hm c
      obtain ⟨v1, hv1, hm⟩ := ia_bnd hm
      by_cases c : v1 = (-1)
      · replace hm := ia_ifp hm c
        exact hk18 h hg hm
      · replace hm := ia_ifn hm c
        obtain ⟨c2, hm⟩ := ia_gd_some hm
        obtain ⟨c3, hm⟩ := ia_gd_some hm
        obtain ⟨v4, hv4, hm⟩ := ia_bnd hm
        have gv4 := g_Sc_lift (gd_wI hg (kx_100 (ka_9_2 p0))) p0 hv4
        exact ih (x1 + 1) v4 gv4 hm
def f_Sc_settle (a0 : Nat) (h : ia_H) : Option ia_H := l_Sc_settle_2 a0 (fun h => some h) (fun h => some h) fu_ 0 h
theorem g_Sc_settle {w : ia_O0} {a0 : Nat} {h : ia_H} (hg : gd_ w h) (p0 : (kd_D a0).1 = 9) {q : ia_H} (hm : f_Sc_settle a0 h = some q) : gd_ w q := by
  obtain ⟨h1, e1⟩ : ∃ x, x = q := ⟨_, rfl⟩
  subst e1
  unfold f_Sc_settle at hm
  refine gl_Sc_settle_2 p0 ?_ ?_ fu_ 0 h hg hm
  · intro h hg hm
    obtain rfl := Option.some.inj hm
    exact hg
  · intro h hg hm
    obtain rfl := Option.some.inj hm
    exact hg
theorem t_Sc_settle {w : ia_O0} (d : Nat) {a0 : Nat} {h : ia_H} (hg : gd_ w h) (p0 : (kd_D a0).1 = 9) {q : ia_H} (hm : f_Sc_settle a0 h = some q) : ia_Ev (d + 2) mm_Sc_settle [.inr (.inr a0)] h none q := by
  have gq := g_Sc_settle hg p0 hm
  refine ia_Ev_intro ok_Sc_settle (gd_le hg gq).1 (gd_le hg gq).2 (Nat.le_of_ble_eq_true rfl) (fun K hK hret => ?_)
  obtain ⟨h1, e1⟩ : ∃ x, x = q := ⟨_, rfl⟩
  subst e1
  show K 0 [some (.inr (.inr a0)), none, none] [] h
  unfold f_Sc_settle at hm
  refine ia_go hK ck_Sc_settle_0 ?_
  show K 2 [some (.inr (.inr a0)), some (.inl 0), none] [] h
  refine tl_Sc_settle_2 hK p0 hret ?_ ?_ fu_ 0 h hg hm
  · intro h hg hm
    obtain rfl := Option.some.inj hm
    exact hret 18 _ dc_Sc_settle_18
  · intro h hg hm
    obtain rfl := Option.some.inj hm
    exact hret 44 _ dc_Sc_settle_44
def mm_Sc_begin : ia_M := (⟨"IceStreet$Scene", "begin", "(LIceStreet$Lake;LIceStreet$Law;)V"⟩, prog_10_method_2_code, 4, none, 9, false)
theorem ok_Sc_begin : ia_mok mm_Sc_begin := ⟨by decide +kernel, by decide +kernel, by decide +kernel, by decide +kernel⟩
theorem mk_Sc_begin : ia_mkn mm_Sc_begin 1 2 := ⟨ia_tb_in (List.mem_of_getElem? (i := 1037) (by decide +kernel)) rfl, ia_tb_in (List.mem_of_getElem? (i := 140) (by decide +kernel)) rfl, by decide +kernel, by decide +kernel, ⟨ia_tb_in (List.mem_of_getElem? (i := 1035) (by decide +kernel)) rfl, ia_tb_in (List.mem_of_getElem? (i := 1036) (by decide +kernel)) rfl⟩⟩
theorem ck_Sc_begin_0 : ia_cks 9 4 false prog_10_method_2_code 0 [(.aload_n 0, 0, 0, 0, 0), (.aload_n 1, 0, 0, 0, 0), (.putfield 33, 9, 0, 2, 0), (.aload_n 0, 0, 0, 0, 0), (.aload_n 2, 0, 0, 0, 0), (.putfield 37, 9, 1, 2, 0), (.aload_n 0, 0, 0, 0, 0), (.getfield 33, 9, 0, 2, 0), (.getfield 41, 3, 3, 3, 1), (.iconst 0, 0, 0, 0, 0), (.aload_n 0, 0, 0, 0, 0), (.getfield 9, 9, 2, 3, 1), (.iconst 0, 0, 0, 0, 0), (.bipush 36, 0, 0, 0, 0)] = true := by decide +kernel
theorem ck_Sc_begin_28 : ia_cks 9 4 false prog_10_method_2_code 28 [(.aload_n 0, 0, 0, 0, 0), (.getfield 33, 9, 0, 2, 0), (.getfield 50, 3, 4, 3, 2), (.iconst 0, 0, 0, 0, 0), (.aload_n 0, 0, 0, 0, 0), (.getfield 15, 9, 3, 3, 2), (.iconst 0, 0, 0, 0, 0), (.bipush 36, 0, 0, 0, 0)] = true := by decide +kernel
theorem ck_Sc_begin_46 : ia_cks 9 4 false prog_10_method_2_code 46 [(.aload_n 0, 0, 0, 0, 0), (.getfield 33, 9, 0, 2, 0), (.getfield 51, 3, 13, 3, 7), (.iconst 0, 0, 0, 0, 0), (.aload_n 0, 0, 0, 0, 0), (.getfield 27, 9, 7, 3, 6), (.iconst 0, 0, 0, 0, 0), (.bipush 6, 0, 0, 0, 0)] = true := by decide +kernel
theorem ck_Sc_begin_64 : ia_cks 9 4 false prog_10_method_2_code 64 [(.aload_n 0, 0, 0, 0, 0), (.getfield 33, 9, 0, 2, 0), (.getfield 52, 3, 14, 3, 8), (.iconst 0, 0, 0, 0, 0), (.aload_n 0, 0, 0, 0, 0), (.getfield 30, 9, 8, 3, 7), (.iconst 0, 0, 0, 0, 0), (.bipush 6, 0, 0, 0, 0)] = true := by decide +kernel
theorem ck_Sc_begin_82 : ia_cks 9 4 false prog_10_method_2_code 82 [(.aload_n 0, 0, 0, 0, 0), (.getfield 18, 9, 4, 3, 3), (.iconst 0, 0, 0, 0, 0)] = true := by decide +kernel
theorem ck_Sc_begin_90 : ia_cks 9 4 false prog_10_method_2_code 90 [(.aload_n 0, 0, 0, 0, 0), (.getfield 21, 9, 5, 3, 4), (.iconst 0, 0, 0, 0, 0)] = true := by decide +kernel
theorem ck_Sc_begin_98 : ia_cks 9 4 false prog_10_method_2_code 98 [(.aload_n 0, 0, 0, 0, 0), (.getfield 24, 9, 6, 3, 5), (.iconst (-1), 0, 0, 0, 0)] = true := by decide +kernel
theorem ck_Sc_begin_106 : ia_cks 9 4 false prog_10_method_2_code 106 [(.aload_n 0, 0, 0, 0, 0), (.iconst 0, 0, 0, 0, 0), (.putfield 59, 9, 9, 0, 0), (.aload_n 0, 0, 0, 0, 0), (.iconst 0, 0, 0, 0, 0), (.putfield 63, 9, 10, 0, 0), (.iconst 0, 0, 0, 0, 0), (.istore_n 3, 0, 0, 0, 0)] = true := by decide +kernel
theorem ck_Sc_begin_118 : ia_cks 9 4 false prog_10_method_2_code 118 [(.iload_n 3, 0, 0, 0, 0), (.aload_n 0, 0, 0, 0, 0), (.getfield 33, 9, 0, 2, 0), (.getfield 66, 3, 11, 0, 0), (.if_icmp .ge 23, 0, 0, 0, 0)] = true := by decide +kernel
theorem ck_Sc_begin_129 : ia_cks 9 4 false prog_10_method_2_code 129 [(.aload_n 0, 0, 0, 0, 0), (.iload_n 3, 0, 0, 0, 0), (.aload_n 0, 0, 0, 0, 0), (.getfield 33, 9, 0, 2, 0), (.getfield 69, 3, 12, 3, 6), (.iload_n 3, 0, 0, 0, 0), (.iaload, 0, 0, 0, 0)] = true := by decide +kernel
theorem ck_Sc_begin_143 : ia_cks 9 4 false prog_10_method_2_code 143 [(.iinc 3 1, 0, 0, 0, 0), (.goto (-28), 0, 0, 0, 0)] = true := by decide +kernel
theorem ck_Sc_begin_149 : ia_cks 9 4 false prog_10_method_2_code 149 [(.aload_n 0, 0, 0, 0, 0)] = true := by decide +kernel
theorem dc_Sc_begin_25 : decode prog_10_method_2_code 25 = .ok (.invokestatic 44, 3) := by decide +kernel
theorem dc_Sc_begin_43 : decode prog_10_method_2_code 43 = .ok (.invokestatic 44, 3) := by decide +kernel
theorem dc_Sc_begin_61 : decode prog_10_method_2_code 61 = .ok (.invokestatic 44, 3) := by decide +kernel
theorem dc_Sc_begin_79 : decode prog_10_method_2_code 79 = .ok (.invokestatic 44, 3) := by decide +kernel
theorem dc_Sc_begin_87 : decode prog_10_method_2_code 87 = .ok (.invokestatic 53, 3) := by decide +kernel
theorem dc_Sc_begin_95 : decode prog_10_method_2_code 95 = .ok (.invokestatic 53, 3) := by decide +kernel
theorem dc_Sc_begin_103 : decode prog_10_method_2_code 103 = .ok (.invokestatic 53, 3) := by decide +kernel
theorem dc_Sc_begin_140 : decode prog_10_method_2_code 140 = .ok (.invokevirtual 72, 3) := by decide +kernel
theorem dc_Sc_begin_150 : decode prog_10_method_2_code 150 = .ok (.invokevirtual 76, 3) := by decide +kernel
theorem dc_Sc_begin_153 : decode prog_10_method_2_code 153 = .ok (.return_, 1) := by decide +kernel
def l_Sc_begin_118 (a0 : Nat) (a1 : Nat) (a2 : Nat) (k149 : ia_H → Option ia_H) (n : Nat) (x3 : Int32) (h : ia_H) : Option ia_H := match n with
  | 0 => none
  | n + 1 => if (ia_i h (ia_r h a0 0) 11) ≤ x3 then (k149 h) else (ia_gd (ia_ib x3 6) ((f_Sc_lower a0 x3 (ia_i h ((ia_r h a0 0) + 6) ((x3).toNatClampNeg)) h).bind fun v5 => (l_Sc_begin_118 a0 a1 a2 k149 n (x3 + 1) v5)))
theorem tl_Sc_begin_118 {w : ia_O0} {d N1 W1 : Nat} {K : ia_K} (hK : ia_isK (d + 3) mm_Sc_begin N1 W1 K) {a0 : Nat} {a1 : Nat} {a2 : Nat} (p0 : (kd_D a0).1 = 9) (p1 : (kd_D a1).1 = 3) (p2 : (kd_D a2).1 = 4) {h1 : ia_H} (hret : ∀ (pc : Nat) (lv : ia_L), ia_ret mm_Sc_begin pc none → K pc lv (none : Option ia_V).toList h1) {k149 : ia_H → Option ia_H} (hk149 : ∀ (h : ia_H), gd_ w h → k149 h = some h1 → K 149 [some (.inr (.inr a0)), none, none, none] [] h) : ∀ (n : Nat) (x3 : Int32) (h : ia_H), gd_ w h → l_Sc_begin_118 a0 a1 a2 k149 n x3 h = some h1 → K 118 [some (.inr (.inr a0)), none, none, some (.inl x3)] [] h := by
  intro n
  induction n with
  | zero =>
    intro x3 h hg hm
    cases (show (none : Option ia_H) = some _ from hm)
  | succ n ih =>
    intro x3 h hg hm
    rw [l_Sc_begin_118] at hm
    refine ia_go hK ck_Sc_begin_118 ⟨gk_9 hg p0, gk_3 hg (gm_9_0 hg p0), fun c => ?_, fun c => ?_⟩
    · replace hm := ia_ifp hm c
      show K 149 [some (.inr (.inr a0)), none, none, some (.inl x3)] [] h
      refine ia_fg hK (lv' := [some (.inr (.inr a0)), none, none, none]) ⟨rfl, trivial⟩ ?_
      exact hk149 h hg hm
    · replace hm := ia_ifn hm c
      show K 129 [some (.inr (.inr a0)), none, none, some (.inl x3)] [] h
      obtain ⟨c4, hm⟩ := ia_gd_some hm
      refine ia_go hK ck_Sc_begin_129 ⟨gk_9 hg p0, gk_3 hg (gm_9_0 hg p0), gr_3_12 hg (gm_9_0 hg p0), ga_i100 hg (ka_3_12 (gm_9_0 hg p0)) c4, ?_⟩
      show K 140 [some (.inr (.inr a0)), none, none, some (.inl x3)] [.inl (ia_i h ((ia_r h a0 0) + 6) ((x3).toNatClampNeg)), .inl x3, .inr (.inr a0)] h
      obtain ⟨v5, hv5, hm⟩ := ia_bnd hm
      have ev5 := t_Sc_lower (d + 1) hg p0 hv5
      have gv5 := g_Sc_lower hg p0 hv5
      refine ia_cV hK mk_Sc_lower lk_9_72 dc_Sc_begin_140 a0 [.inl x3, .inl (ia_i h ((ia_r h a0 0) + 6) ((x3).toNatClampNeg))] [] rfl rfl (Nat.le_of_ble_eq_true rfl) (by decide) rfl (gk_9 hg p0) ev5 (gd_nm hg gv5) ?_
      show K 143 [some (.inr (.inr a0)), none, none, some (.inl x3)] [] v5
      refine ia_go hK ck_Sc_begin_143 ?_
      show K 118 [some (.inr (.inr a0)), none, none, some (.inl (x3 + 1))] [] v5
      exact ih (x3 + 1) v5 gv5 hm
theorem gl_Sc_begin_118 {w : ia_O0} {a0 : Nat} {a1 : Nat} {a2 : Nat} (p0 : (kd_D a0).1 = 9) (p1 : (kd_D a1).1 = 3) (p2 : (kd_D a2).1 = 4) {h1 : ia_H} {k149 : ia_H → Option ia_H} (hk149 : ∀ (h : ia_H), gd_ w h → k149 h = some h1 → gd_ w h1) : ∀ (n : Nat) (x3 : Int32) (h : ia_H), gd_ w h → l_Sc_begin_118 a0 a1 a2 k149 n x3 h = some h1 → gd_ w h1 := by
  intro n
  induction n with
  | zero =>
    intro x3 h hg hm
    cases (show (none : Option ia_H) = some _ from hm)
  | succ n ih =>
    intro x3 h hg hm
    rw [l_Sc_begin_118] at hm
    by_cases c : (ia_i h (ia_r h a0 0) 11) ≤ x3
    · replace hm := ia_ifp hm c
      exact hk149 h hg hm
    · replace hm := ia_ifn hm c
      obtain ⟨c4, hm⟩ := ia_gd_some hm
      obtain ⟨v5, hv5, hm⟩ := ia_bnd hm
      have gv5 := g_Sc_lower hg p0 hv5
      exact ih (x3 + 1) v5 gv5 hm
def j_Sc_begin_64 (a0 : Nat) (a1 : Nat) (a2 : Nat) (h : ia_H) : Option ia_H := (f_Ar_fill (a0 + 3) 0 (ia_cpI h ((ia_r h a0 0) + 8) (a0 + 7) 0 0 6)).bind fun v1 => ((f_Ar_fill (a0 + 4) 0 v1).bind fun v2 => ((f_Ar_fill (a0 + 5) (-1) v2).bind fun v3 => (l_Sc_begin_118 a0 a1 a2 (fun h => (f_Sc_settle a0 h).bind fun v6 => (some v6)) fu_ 0 (ia_wI (ia_wI v3 a0 9 0) a0 10 0))))
theorem tj_Sc_begin_64 {w : ia_O0} {d N1 W1 : Nat} {K : ia_K} (hK : ia_isK (d + 3) mm_Sc_begin N1 W1 K) {a0 : Nat} {a1 : Nat} {a2 : Nat} (p0 : (kd_D a0).1 = 9) (p1 : (kd_D a1).1 = 3) (p2 : (kd_D a2).1 = 4) {h1 : ia_H} (hret : ∀ (pc : Nat) (lv : ia_L), ia_ret mm_Sc_begin pc none → K pc lv (none : Option ia_V).toList h1) : ∀ (h : ia_H), gd_ w h → j_Sc_begin_64 a0 a1 a2 h = some h1 → K 64 [some (.inr (.inr a0)), none, none, none] [] h := by
  intro h hg hm
  unfold j_Sc_begin_64 at hm
  refine ia_go hK ck_Sc_begin_64 ⟨gk_9 hg p0, gk_3 hg (gm_9_0 hg p0), gr_3_14 hg (gm_9_0 hg p0), gk_9 hg p0, gr_9_8 hg p0, ?_⟩
  show K 79 [some (.inr (.inr a0)), none, none, none] [.inl 6, .inl 0, .inr (.inr (a0 + 7)), .inl 0, .inr (.inr ((ia_r h a0 0) + 8))] h
  refine gd_cI hK (ia_tb_in (List.mem_of_getElem? (i := 1038) (by decide +kernel)) rfl) dc_Sc_begin_79 (Nat.le_of_ble_eq_true rfl) (Or.inl rfl) hg (ka_3_14 (gm_9_0 hg p0)) (ka_9_8 p0) (by decide) rfl ?_
  show K 82 [some (.inr (.inr a0)), none, none, none] [] (ia_cpI h ((ia_r h a0 0) + 8) (a0 + 7) 0 0 6)
  refine ia_go hK ck_Sc_begin_82 ⟨gk_9 (gd_cpI hg (kx_100 (ka_9_8 p0))) p0, gr_9_4 (gd_cpI hg (kx_100 (ka_9_8 p0))) p0, ?_⟩
  show K 87 [some (.inr (.inr a0)), none, none, none] [.inl 0, .inr (.inr (a0 + 3))] (ia_cpI h ((ia_r h a0 0) + 8) (a0 + 7) 0 0 6)
  obtain ⟨v1, hv1, hm⟩ := ia_bnd hm
  have ev1 := t_Ar_fill (d + 2) (gd_cpI hg (kx_100 (ka_9_8 p0))) (congrArg Prod.fst (ka_9_4 p0)) hv1
  have gv1 := g_Ar_fill (gd_cpI hg (kx_100 (ka_9_8 p0))) (congrArg Prod.fst (ka_9_4 p0)) hv1
  refine ia_cS hK mk_Ar_fill lk_9_53 dc_Sc_begin_87 [.inr (.inr (a0 + 3)), .inl 0] [] rfl rfl (Nat.le_of_ble_eq_true rfl) ev1 (gd_nm (gd_cpI hg (kx_100 (ka_9_8 p0))) gv1) ?_
  show K 90 [some (.inr (.inr a0)), none, none, none] [] v1
  refine ia_go hK ck_Sc_begin_90 ⟨gk_9 gv1 p0, gr_9_5 gv1 p0, ?_⟩
  show K 95 [some (.inr (.inr a0)), none, none, none] [.inl 0, .inr (.inr (a0 + 4))] v1
  obtain ⟨v2, hv2, hm⟩ := ia_bnd hm
  have ev2 := t_Ar_fill (d + 2) gv1 (congrArg Prod.fst (ka_9_5 p0)) hv2
  have gv2 := g_Ar_fill gv1 (congrArg Prod.fst (ka_9_5 p0)) hv2
  refine ia_cS hK mk_Ar_fill lk_9_53 dc_Sc_begin_95 [.inr (.inr (a0 + 4)), .inl 0] [] rfl rfl (Nat.le_of_ble_eq_true rfl) ev2 (gd_nm gv1 gv2) ?_
  show K 98 [some (.inr (.inr a0)), none, none, none] [] v2
  refine ia_go hK ck_Sc_begin_98 ⟨gk_9 gv2 p0, gr_9_6 gv2 p0, ?_⟩
  show K 103 [some (.inr (.inr a0)), none, none, none] [.inl (-1), .inr (.inr (a0 + 5))] v2
  obtain ⟨v3, hv3, hm⟩ := ia_bnd hm
  have ev3 := t_Ar_fill (d + 2) gv2 (congrArg Prod.fst (ka_9_6 p0)) hv3
  have gv3 := g_Ar_fill gv2 (congrArg Prod.fst (ka_9_6 p0)) hv3
  refine ia_cS hK mk_Ar_fill lk_9_53 dc_Sc_begin_103 [.inr (.inr (a0 + 5)), .inl (-1)] [] rfl rfl (Nat.le_of_ble_eq_true rfl) ev3 (gd_nm gv2 gv3) ?_
  show K 106 [some (.inr (.inr a0)), none, none, none] [] v3
  refine ia_go hK ck_Sc_begin_106 ⟨gk_9 gv3 p0, gk_9 (gd_wI gv3 (ko_9 p0)) p0, ?_⟩
  show K 118 [some (.inr (.inr a0)), none, none, some (.inl 0)] [] (ia_wI (ia_wI v3 a0 9 0) a0 10 0)
  refine tl_Sc_begin_118 hK p0 p1 p2 hret ?_ fu_ 0 (ia_wI (ia_wI v3 a0 9 0) a0 10 0) (gd_wI (gd_wI gv3 (ko_9 p0)) (ko_9 p0)) hm
  · intro h hg hm
    refine ia_go hK ck_Sc_begin_149 ?_
    show K 150 [some (.inr (.inr a0)), none, none, none] [.inr (.inr a0)] h
    obtain ⟨v6, hv6, hm⟩ := ia_bnd hm
    have ev6 := t_Sc_settle (d + 0) hg p0 hv6
    have gv6 := g_Sc_settle hg p0 hv6
    refine ia_cV hK mk_Sc_settle lk_9_76 dc_Sc_begin_150 a0 [] [] rfl rfl (Nat.le_of_ble_eq_true rfl) (by decide) rfl (gk_9 hg p0) ev6 (gd_nm hg gv6) ?_
    show K 153 [some (.inr (.inr a0)), none, none, none] [] v6
    obtain rfl := Option.some.inj hm
    exact hret 153 _ dc_Sc_begin_153
theorem gj_Sc_begin_64 {w : ia_O0} {a0 : Nat} {a1 : Nat} {a2 : Nat} (p0 : (kd_D a0).1 = 9) (p1 : (kd_D a1).1 = 3) (p2 : (kd_D a2).1 = 4) {h1 : ia_H} : ∀ (h : ia_H), gd_ w h → j_Sc_begin_64 a0 a1 a2 h = some h1 → gd_ w h1 := by
  intro h hg hm
  unfold j_Sc_begin_64 at hm
  obtain ⟨v1, hv1, hm⟩ := ia_bnd hm
  have gv1 := g_Ar_fill (gd_cpI hg (kx_100 (ka_9_8 p0))) (congrArg Prod.fst (ka_9_4 p0)) hv1
  obtain ⟨v2, hv2, hm⟩ := ia_bnd hm
  have gv2 := g_Ar_fill gv1 (congrArg Prod.fst (ka_9_5 p0)) hv2
  obtain ⟨v3, hv3, hm⟩ := ia_bnd hm
  have gv3 := g_Ar_fill gv2 (congrArg Prod.fst (ka_9_6 p0)) hv3
  refine gl_Sc_begin_118 p0 p1 p2 ?_ fu_ 0 (ia_wI (ia_wI v3 a0 9 0) a0 10 0) (gd_wI (gd_wI gv3 (ko_9 p0)) (ko_9 p0)) hm
  · intro h hg hm
    obtain ⟨v6, hv6, hm⟩ := ia_bnd hm
    have gv6 := g_Sc_settle hg p0 hv6
    obtain rfl := Option.some.inj hm
    exact gv6
def f_Sc_begin (a0 : Nat) (a1 : Nat) (a2 : Nat) (h : ia_H) : Option ia_H := j_Sc_begin_64 a0 a1 a2 (ia_cpI (ia_cpI (ia_cpI (ia_wR (ia_wR h a0 0 a1) a0 1 a2) ((ia_r (ia_wR (ia_wR h a0 0 a1) a0 1 a2) a0 0) + 1) (a0 + 1) 0 0 36) ((ia_r (ia_cpI (ia_wR (ia_wR h a0 0 a1) a0 1 a2) ((ia_r (ia_wR (ia_wR h a0 0 a1) a0 1 a2) a0 0) + 1) (a0 + 1) 0 0 36) a0 0) + 2) (a0 + 2) 0 0 36) ((ia_r (ia_cpI (ia_cpI (ia_wR (ia_wR h a0 0 a1) a0 1 a2) ((ia_r (ia_wR (ia_wR h a0 0 a1) a0 1 a2) a0 0) + 1) (a0 + 1) 0 0 36) ((ia_r (ia_cpI (ia_wR (ia_wR h a0 0 a1) a0 1 a2) ((ia_r (ia_wR (ia_wR h a0 0 a1) a0 1 a2) a0 0) + 1) (a0 + 1) 0 0 36) a0 0) + 2) (a0 + 2) 0 0 36) a0 0) + 7) (a0 + 6) 0 0 6)
theorem g_Sc_begin {w : ia_O0} {a0 : Nat} {a1 : Nat} {a2 : Nat} {h : ia_H} (hg : gd_ w h) (p0 : (kd_D a0).1 = 9) (p1 : (kd_D a1).1 = 3) (p2 : (kd_D a2).1 = 4) {q : ia_H} (hm : f_Sc_begin a0 a1 a2 h = some q) : gd_ w q := by
  obtain ⟨h1, e1⟩ : ∃ x, x = q := ⟨_, rfl⟩
  subst e1
  unfold f_Sc_begin at hm
  exact gj_Sc_begin_64 p0 p1 p2 (ia_cpI (ia_cpI (ia_cpI (ia_wR (ia_wR h a0 0 a1) a0 1 a2) ((ia_r (ia_wR (ia_wR h a0 0 a1) a0 1 a2) a0 0) + 1) (a0 + 1) 0 0 36) ((ia_r (ia_cpI (ia_wR (ia_wR h a0 0 a1) a0 1 a2) ((ia_r (ia_wR (ia_wR h a0 0 a1) a0 1 a2) a0 0) + 1) (a0 + 1) 0 0 36) a0 0) + 2) (a0 + 2) 0 0 36) ((ia_r (ia_cpI (ia_cpI (ia_wR (ia_wR h a0 0 a1) a0 1 a2) ((ia_r (ia_wR (ia_wR h a0 0 a1) a0 1 a2) a0 0) + 1) (a0 + 1) 0 0 36) ((ia_r (ia_cpI (ia_wR (ia_wR h a0 0 a1) a0 1 a2) ((ia_r (ia_wR (ia_wR h a0 0 a1) a0 1 a2) a0 0) + 1) (a0 + 1) 0 0 36) a0 0) + 2) (a0 + 2) 0 0 36) a0 0) + 7) (a0 + 6) 0 0 6) (gd_cpI (gd_cpI (gd_cpI (gw_9_1 (gw_9_0 hg p0 p1) p0 p2) (kx_100 (ka_9_2 p0))) (kx_100 (ka_9_3 p0))) (kx_100 (ka_9_7 p0))) hm
theorem t_Sc_begin {w : ia_O0} (d : Nat) {a0 : Nat} {a1 : Nat} {a2 : Nat} {h : ia_H} (hg : gd_ w h) (p0 : (kd_D a0).1 = 9) (p1 : (kd_D a1).1 = 3) (p2 : (kd_D a2).1 = 4) {q : ia_H} (hm : f_Sc_begin a0 a1 a2 h = some q) : ia_Ev (d + 3) mm_Sc_begin [.inr (.inr a0), .inr (.inr a1), .inr (.inr a2)] h none q := by
  have gq := g_Sc_begin hg p0 p1 p2 hm
  refine ia_Ev_intro ok_Sc_begin (gd_le hg gq).1 (gd_le hg gq).2 (Nat.le_of_ble_eq_true rfl) (fun K hK hret => ?_)
  obtain ⟨h1, e1⟩ : ∃ x, x = q := ⟨_, rfl⟩
  subst e1
  show K 0 [some (.inr (.inr a0)), some (.inr (.inr a1)), some (.inr (.inr a2)), none] [] h
  unfold f_Sc_begin at hm
  refine ia_go hK ck_Sc_begin_0 ⟨gk_9 hg p0, gk_9 (gw_9_0 hg p0 p1) p0, gk_9 (gw_9_1 (gw_9_0 hg p0 p1) p0 p2) p0, gk_3 (gw_9_1 (gw_9_0 hg p0 p1) p0 p2) (gm_9_0 (gw_9_1 (gw_9_0 hg p0 p1) p0 p2) p0), gr_3_3 (gw_9_1 (gw_9_0 hg p0 p1) p0 p2) (gm_9_0 (gw_9_1 (gw_9_0 hg p0 p1) p0 p2) p0), gk_9 (gw_9_1 (gw_9_0 hg p0 p1) p0 p2) p0, gr_9_2 (gw_9_1 (gw_9_0 hg p0 p1) p0 p2) p0, ?_⟩
  show K 25 [some (.inr (.inr a0)), some (.inr (.inr a1)), some (.inr (.inr a2)), none] [.inl 36, .inl 0, .inr (.inr (a0 + 1)), .inl 0, .inr (.inr ((ia_r (ia_wR (ia_wR h a0 0 a1) a0 1 a2) a0 0) + 1))] (ia_wR (ia_wR h a0 0 a1) a0 1 a2)
  refine gd_cI hK (ia_tb_in (List.mem_of_getElem? (i := 1038) (by decide +kernel)) rfl) dc_Sc_begin_25 (Nat.le_of_ble_eq_true rfl) (Or.inl rfl) (gw_9_1 (gw_9_0 hg p0 p1) p0 p2) (ka_3_3 (gm_9_0 (gw_9_1 (gw_9_0 hg p0 p1) p0 p2) p0)) (ka_9_2 p0) (by decide) rfl ?_
  show K 28 [some (.inr (.inr a0)), some (.inr (.inr a1)), some (.inr (.inr a2)), none] [] (ia_cpI (ia_wR (ia_wR h a0 0 a1) a0 1 a2) ((ia_r (ia_wR (ia_wR h a0 0 a1) a0 1 a2) a0 0) + 1) (a0 + 1) 0 0 36)
  refine ia_go hK ck_Sc_begin_28 ⟨gk_9 (gd_cpI (gw_9_1 (gw_9_0 hg p0 p1) p0 p2) (kx_100 (ka_9_2 p0))) p0, gk_3 (gd_cpI (gw_9_1 (gw_9_0 hg p0 p1) p0 p2) (kx_100 (ka_9_2 p0))) (gm_9_0 (gd_cpI (gw_9_1 (gw_9_0 hg p0 p1) p0 p2) (kx_100 (ka_9_2 p0))) p0), gr_3_4 (gd_cpI (gw_9_1 (gw_9_0 hg p0 p1) p0 p2) (kx_100 (ka_9_2 p0))) (gm_9_0 (gd_cpI (gw_9_1 (gw_9_0 hg p0 p1) p0 p2) (kx_100 (ka_9_2 p0))) p0), gk_9 (gd_cpI (gw_9_1 (gw_9_0 hg p0 p1) p0 p2) (kx_100 (ka_9_2 p0))) p0, gr_9_3 (gd_cpI (gw_9_1 (gw_9_0 hg p0 p1) p0 p2) (kx_100 (ka_9_2 p0))) p0, ?_⟩
  show K 43 [some (.inr (.inr a0)), some (.inr (.inr a1)), some (.inr (.inr a2)), none] [.inl 36, .inl 0, .inr (.inr (a0 + 2)), .inl 0, .inr (.inr ((ia_r (ia_cpI (ia_wR (ia_wR h a0 0 a1) a0 1 a2) ((ia_r (ia_wR (ia_wR h a0 0 a1) a0 1 a2) a0 0) + 1) (a0 + 1) 0 0 36) a0 0) + 2))] (ia_cpI (ia_wR (ia_wR h a0 0 a1) a0 1 a2) ((ia_r (ia_wR (ia_wR h a0 0 a1) a0 1 a2) a0 0) + 1) (a0 + 1) 0 0 36)
  refine gd_cI hK (ia_tb_in (List.mem_of_getElem? (i := 1038) (by decide +kernel)) rfl) dc_Sc_begin_43 (Nat.le_of_ble_eq_true rfl) (Or.inl rfl) (gd_cpI (gw_9_1 (gw_9_0 hg p0 p1) p0 p2) (kx_100 (ka_9_2 p0))) (ka_3_4 (gm_9_0 (gd_cpI (gw_9_1 (gw_9_0 hg p0 p1) p0 p2) (kx_100 (ka_9_2 p0))) p0)) (ka_9_3 p0) (by decide) rfl ?_
  show K 46 [some (.inr (.inr a0)), some (.inr (.inr a1)), some (.inr (.inr a2)), none] [] (ia_cpI (ia_cpI (ia_wR (ia_wR h a0 0 a1) a0 1 a2) ((ia_r (ia_wR (ia_wR h a0 0 a1) a0 1 a2) a0 0) + 1) (a0 + 1) 0 0 36) ((ia_r (ia_cpI (ia_wR (ia_wR h a0 0 a1) a0 1 a2) ((ia_r (ia_wR (ia_wR h a0 0 a1) a0 1 a2) a0 0) + 1) (a0 + 1) 0 0 36) a0 0) + 2) (a0 + 2) 0 0 36)
  refine ia_go hK ck_Sc_begin_46 ⟨gk_9 (gd_cpI (gd_cpI (gw_9_1 (gw_9_0 hg p0 p1) p0 p2) (kx_100 (ka_9_2 p0))) (kx_100 (ka_9_3 p0))) p0, gk_3 (gd_cpI (gd_cpI (gw_9_1 (gw_9_0 hg p0 p1) p0 p2) (kx_100 (ka_9_2 p0))) (kx_100 (ka_9_3 p0))) (gm_9_0 (gd_cpI (gd_cpI (gw_9_1 (gw_9_0 hg p0 p1) p0 p2) (kx_100 (ka_9_2 p0))) (kx_100 (ka_9_3 p0))) p0), gr_3_13 (gd_cpI (gd_cpI (gw_9_1 (gw_9_0 hg p0 p1) p0 p2) (kx_100 (ka_9_2 p0))) (kx_100 (ka_9_3 p0))) (gm_9_0 (gd_cpI (gd_cpI (gw_9_1 (gw_9_0 hg p0 p1) p0 p2) (kx_100 (ka_9_2 p0))) (kx_100 (ka_9_3 p0))) p0), gk_9 (gd_cpI (gd_cpI (gw_9_1 (gw_9_0 hg p0 p1) p0 p2) (kx_100 (ka_9_2 p0))) (kx_100 (ka_9_3 p0))) p0, gr_9_7 (gd_cpI (gd_cpI (gw_9_1 (gw_9_0 hg p0 p1) p0 p2) (kx_100 (ka_9_2 p0))) (kx_100 (ka_9_3 p0))) p0, ?_⟩
  show K 61 [some (.inr (.inr a0)), some (.inr (.inr a1)), some (.inr (.inr a2)), none] [.inl 6, .inl 0, .inr (.inr (a0 + 6)), .inl 0, .inr (.inr ((ia_r (ia_cpI (ia_cpI (ia_wR (ia_wR h a0 0 a1) a0 1 a2) ((ia_r (ia_wR (ia_wR h a0 0 a1) a0 1 a2) a0 0) + 1) (a0 + 1) 0 0 36) ((ia_r (ia_cpI (ia_wR (ia_wR h a0 0 a1) a0 1 a2) ((ia_r (ia_wR (ia_wR h a0 0 a1) a0 1 a2) a0 0) + 1) (a0 + 1) 0 0 36) a0 0) + 2) (a0 + 2) 0 0 36) a0 0) + 7))] (ia_cpI (ia_cpI (ia_wR (ia_wR h a0 0 a1) a0 1 a2) ((ia_r (ia_wR (ia_wR h a0 0 a1) a0 1 a2) a0 0) + 1) (a0 + 1) 0 0 36) ((ia_r (ia_cpI (ia_wR (ia_wR h a0 0 a1) a0 1 a2) ((ia_r (ia_wR (ia_wR h a0 0 a1) a0 1 a2) a0 0) + 1) (a0 + 1) 0 0 36) a0 0) + 2) (a0 + 2) 0 0 36)
  refine gd_cI hK (ia_tb_in (List.mem_of_getElem? (i := 1038) (by decide +kernel)) rfl) dc_Sc_begin_61 (Nat.le_of_ble_eq_true rfl) (Or.inl rfl) (gd_cpI (gd_cpI (gw_9_1 (gw_9_0 hg p0 p1) p0 p2) (kx_100 (ka_9_2 p0))) (kx_100 (ka_9_3 p0))) (ka_3_13 (gm_9_0 (gd_cpI (gd_cpI (gw_9_1 (gw_9_0 hg p0 p1) p0 p2) (kx_100 (ka_9_2 p0))) (kx_100 (ka_9_3 p0))) p0)) (ka_9_7 p0) (by decide) rfl ?_
  show K 64 [some (.inr (.inr a0)), some (.inr (.inr a1)), some (.inr (.inr a2)), none] [] (ia_cpI (ia_cpI (ia_cpI (ia_wR (ia_wR h a0 0 a1) a0 1 a2) ((ia_r (ia_wR (ia_wR h a0 0 a1) a0 1 a2) a0 0) + 1) (a0 + 1) 0 0 36) ((ia_r (ia_cpI (ia_wR (ia_wR h a0 0 a1) a0 1 a2) ((ia_r (ia_wR (ia_wR h a0 0 a1) a0 1 a2) a0 0) + 1) (a0 + 1) 0 0 36) a0 0) + 2) (a0 + 2) 0 0 36) ((ia_r (ia_cpI (ia_cpI (ia_wR (ia_wR h a0 0 a1) a0 1 a2) ((ia_r (ia_wR (ia_wR h a0 0 a1) a0 1 a2) a0 0) + 1) (a0 + 1) 0 0 36) ((ia_r (ia_cpI (ia_wR (ia_wR h a0 0 a1) a0 1 a2) ((ia_r (ia_wR (ia_wR h a0 0 a1) a0 1 a2) a0 0) + 1) (a0 + 1) 0 0 36) a0 0) + 2) (a0 + 2) 0 0 36) a0 0) + 7) (a0 + 6) 0 0 6)
  refine ia_fg hK (lv' := [some (.inr (.inr a0)), none, none, none]) ⟨rfl, trivial⟩ ?_
  exact tj_Sc_begin_64 hK p0 p1 p2 hret (ia_cpI (ia_cpI (ia_cpI (ia_wR (ia_wR h a0 0 a1) a0 1 a2) ((ia_r (ia_wR (ia_wR h a0 0 a1) a0 1 a2) a0 0) + 1) (a0 + 1) 0 0 36) ((ia_r (ia_cpI (ia_wR (ia_wR h a0 0 a1) a0 1 a2) ((ia_r (ia_wR (ia_wR h a0 0 a1) a0 1 a2) a0 0) + 1) (a0 + 1) 0 0 36) a0 0) + 2) (a0 + 2) 0 0 36) ((ia_r (ia_cpI (ia_cpI (ia_wR (ia_wR h a0 0 a1) a0 1 a2) ((ia_r (ia_wR (ia_wR h a0 0 a1) a0 1 a2) a0 0) + 1) (a0 + 1) 0 0 36) ((ia_r (ia_cpI (ia_wR (ia_wR h a0 0 a1) a0 1 a2) ((ia_r (ia_wR (ia_wR h a0 0 a1) a0 1 a2) a0 0) + 1) (a0 + 1) 0 0 36) a0 0) + 2) (a0 + 2) 0 0 36) a0 0) + 7) (a0 + 6) 0 0 6) (gd_cpI (gd_cpI (gd_cpI (gw_9_1 (gw_9_0 hg p0 p1) p0 p2) (kx_100 (ka_9_2 p0))) (kx_100 (ka_9_3 p0))) (kx_100 (ka_9_7 p0))) hm
def mm_Sc_frost : ia_M := (⟨"IceStreet$Scene", "frost", "()I"⟩, prog_10_method_15_code, 1, (some .int), 9, false)
theorem ok_Sc_frost : ia_mok mm_Sc_frost := ⟨by decide +kernel, by decide +kernel, by decide +kernel, by decide +kernel⟩
theorem mk_Sc_frost : ia_mkn mm_Sc_frost 1 0 := ⟨ia_tb_in (List.mem_of_getElem? (i := 1075) (by decide +kernel)) rfl, ia_tb_in (List.mem_of_getElem? (i := 140) (by decide +kernel)) rfl, by decide +kernel, by decide +kernel, ⟨ia_tb_in (List.mem_of_getElem? (i := 1073) (by decide +kernel)) rfl, ia_tb_in (List.mem_of_getElem? (i := 1074) (by decide +kernel)) rfl⟩⟩
theorem ck_Sc_frost_0 : ia_cks 9 1 false prog_10_method_15_code 0 [(.aload_n 0, 0, 0, 0, 0), (.getfield 33, 9, 0, 2, 0), (.getfield 102, 3, 10, 0, 0), (.iconst 1, 0, 0, 0, 0), (.if_icmp .ge 7, 0, 0, 0, 0)] = true := by decide +kernel
theorem ck_Sc_frost_15 : ia_cks 9 1 false prog_10_method_15_code 15 [(.aload_n 0, 0, 0, 0, 0), (.getfield 33, 9, 0, 2, 0), (.getfield 105, 3, 9, 3, 5), (.aload_n 0, 0, 0, 0, 0), (.getfield 59, 9, 9, 0, 0), (.aload_n 0, 0, 0, 0, 0), (.getfield 33, 9, 0, 2, 0), (.getfield 102, 3, 10, 0, 0), (.irem, 0, 0, 0, 0), (.iaload, 0, 0, 0, 0)] = true := by decide +kernel
theorem ck_Sc_frost_11 : ia_cks 9 1 false prog_10_method_15_code 11 [(.iconst 0, 0, 0, 0, 0), (.goto 23, 0, 0, 0, 0)] = true := by decide +kernel
theorem dc_Sc_frost_35 : decode prog_10_method_15_code 35 = .ok (.ireturn, 1) := by decide +kernel
def f_Sc_frost (a0 : Nat) (h : ia_H) : Option Int32 := if 1 ≤ (ia_i h (ia_r h a0 0) 10) then (ia_gd (ia_nz (ia_i h (ia_r h a0 0) 10)) (ia_gd (ia_ib ((ia_i h a0 9) - (ia_i h a0 9) / (ia_i h (ia_r h a0 0) 10) * (ia_i h (ia_r h a0 0) 10)) 12) (some (ia_i h ((ia_r h a0 0) + 5) (((ia_i h a0 9) - (ia_i h a0 9) / (ia_i h (ia_r h a0 0) 10) * (ia_i h (ia_r h a0 0) 10)).toNatClampNeg))))) else (some 0)
theorem t_Sc_frost {w : ia_O0} (d : Nat) {a0 : Nat} {h : ia_H} (hg : gd_ w h) (p0 : (kd_D a0).1 = 9) {r : Int32} (hm : f_Sc_frost a0 h = some r) : ia_Ev (d + 0) mm_Sc_frost [.inr (.inr a0)] h (some (.inl r)) h := by
  refine ia_Ev_intro ok_Sc_frost (Nat.le_refl _) (Nat.le_refl _) (Nat.le_of_ble_eq_true rfl) (fun K hK hret => ?_)
  show K 0 [some (.inr (.inr a0))] [] h
  unfold f_Sc_frost at hm
  refine ia_go hK ck_Sc_frost_0 ⟨gk_9 hg p0, gk_3 hg (gm_9_0 hg p0), fun c => ?_, fun c => ?_⟩
  · replace hm := ia_ifp hm c
    show K 15 [some (.inr (.inr a0))] [] h
    obtain ⟨c1, hm⟩ := ia_gd_some hm
    obtain ⟨c2, hm⟩ := ia_gd_some hm
    refine ia_go hK ck_Sc_frost_15 ⟨gk_9 hg p0, gk_3 hg (gm_9_0 hg p0), gr_3_9 hg (gm_9_0 hg p0), gk_9 hg p0, gk_9 hg p0, gk_3 hg (gm_9_0 hg p0), ia_nz_spec c1, ga_i100 hg (ka_3_9 (gm_9_0 hg p0)) c2, ?_⟩
    show K 35 [some (.inr (.inr a0))] [.inl (ia_i h ((ia_r h a0 0) + 5) (((ia_i h a0 9) - (ia_i h a0 9) / (ia_i h (ia_r h a0 0) 10) * (ia_i h (ia_r h a0 0) 10)).toNatClampNeg))] h
    obtain rfl := Option.some.inj hm
    exact hret 35 _ dc_Sc_frost_35
  · replace hm := ia_ifn hm c
    show K 11 [some (.inr (.inr a0))] [] h
    refine ia_go hK ck_Sc_frost_11 ?_
    show K 35 [some (.inr (.inr a0))] [.inl 0] h
    obtain rfl := Option.some.inj hm
    exact hret 35 _ dc_Sc_frost_35
def mm_Sc_freeze : ia_M := (⟨"IceStreet$Scene", "freeze", "(II)V"⟩, prog_10_method_18_code, 4, none, 9, false)
theorem ok_Sc_freeze : ia_mok mm_Sc_freeze := ⟨by decide +kernel, by decide +kernel, by decide +kernel, by decide +kernel⟩
theorem mk_Sc_freeze : ia_mkn mm_Sc_freeze 1 2 := ⟨ia_tb_in (List.mem_of_getElem? (i := 1084) (by decide +kernel)) rfl, ia_tb_in (List.mem_of_getElem? (i := 140) (by decide +kernel)) rfl, by decide +kernel, by decide +kernel, ⟨ia_tb_in (List.mem_of_getElem? (i := 1083) (by decide +kernel)) rfl, ia_tb_in (List.mem_of_getElem? (i := 23) (by decide +kernel)) rfl⟩⟩
theorem ck_Sc_freeze_0 : ia_cks 9 4 false prog_10_method_18_code 0 [(.iload_n 2, 0, 0, 0, 0), (.ifCond .le 18, 0, 0, 0, 0)] = true := by decide +kernel
theorem ck_Sc_freeze_19 : ia_cks 9 4 false prog_10_method_18_code 19 [(.iload_n 2, 0, 0, 0, 0)] = true := by decide +kernel
theorem ck_Sc_freeze_20 : ia_cks 9 4 false prog_10_method_18_code 20 [(.istore_n 3, 0, 0, 0, 0), (.aload_n 0, 0, 0, 0, 0), (.getfield 9, 9, 2, 3, 1), (.iload_n 1, 0, 0, 0, 0), (.iconst 0, 0, 0, 0, 0), (.bipush 99, 0, 0, 0, 0), (.aload_n 0, 0, 0, 0, 0), (.getfield 9, 9, 2, 3, 1), (.iload_n 1, 0, 0, 0, 0), (.iaload, 0, 0, 0, 0), (.iload_n 3, 0, 0, 0, 0), (.iadd, 0, 0, 0, 0), (.aload_n 0, 0, 0, 0, 0), (.getfield 21, 9, 5, 3, 4), (.iload_n 1, 0, 0, 0, 0), (.iaload, 0, 0, 0, 0), (.isub, 0, 0, 0, 0)] = true := by decide +kernel
theorem ck_Sc_freeze_50 : ia_cks 9 4 false prog_10_method_18_code 50 [(.iastore, 0, 0, 0, 0)] = true := by decide +kernel
theorem ck_Sc_freeze_4 : ia_cks 9 4 false prog_10_method_18_code 4 [(.iconst 0, 0, 0, 0, 0), (.iload_n 2, 0, 0, 0, 0), (.aload_n 0, 0, 0, 0, 0), (.getfield 15, 9, 3, 3, 2), (.iload_n 1, 0, 0, 0, 0), (.iaload, 0, 0, 0, 0), (.isub, 0, 0, 0, 0)] = true := by decide +kernel
theorem ck_Sc_freeze_16 : ia_cks 9 4 false prog_10_method_18_code 16 [(.goto 4, 0, 0, 0, 0)] = true := by decide +kernel
theorem dc_Sc_freeze_44 : decode prog_10_method_18_code 44 = .ok (.invokestatic 123, 3) := by decide +kernel
theorem dc_Sc_freeze_47 : decode prog_10_method_18_code 47 = .ok (.invokestatic 117, 3) := by decide +kernel
theorem dc_Sc_freeze_51 : decode prog_10_method_18_code 51 = .ok (.return_, 1) := by decide +kernel
theorem dc_Sc_freeze_13 : decode prog_10_method_18_code 13 = .ok (.invokestatic 117, 3) := by decide +kernel
def j_Sc_freeze_20 (a0 : Nat) (x1 : Int32) (x2 : Int32) (s0 : Int32) (h : ia_H) : Option ia_H := ia_gd (ia_ib x1 36) (ia_gd (ia_ib x1 36) (ia_gd (ia_ib x1 36) (some (ia_wI h (a0 + 1) ((x1).toNatClampNeg) (ia_max 0 (ia_min 99 (((ia_i h (a0 + 1) ((x1).toNatClampNeg)) + s0) - (ia_i h (a0 + 4) ((x1).toNatClampNeg)))))))))
theorem tj_Sc_freeze_20 {w : ia_O0} {d N1 W1 : Nat} {K : ia_K} (hK : ia_isK (d + 0) mm_Sc_freeze N1 W1 K) {a0 : Nat} {x1 : Int32} {x2 : Int32} (p0 : (kd_D a0).1 = 9) {h1 : ia_H} (hret : ∀ (pc : Nat) (lv : ia_L), ia_ret mm_Sc_freeze pc none → K pc lv (none : Option ia_V).toList h1) : ∀ (s0 : Int32) (h : ia_H), gd_ w h → j_Sc_freeze_20 a0 x1 x2 s0 h = some h1 → K 20 [some (.inr (.inr a0)), some (.inl x1), none, none] [.inl s0] h := by
  intro s0 h hg hm
  unfold j_Sc_freeze_20 at hm
  obtain ⟨c1, hm⟩ := ia_gd_some hm
  obtain ⟨c2, hm⟩ := ia_gd_some hm
  refine ia_go hK ck_Sc_freeze_20 ⟨gk_9 hg p0, gr_9_2 hg p0, gk_9 hg p0, gr_9_2 hg p0, ga_i100 hg (ka_9_2 p0) c1, gk_9 hg p0, gr_9_5 hg p0, ga_i100 hg (ka_9_5 p0) c2, ?_⟩
  show K 44 [some (.inr (.inr a0)), some (.inl x1), none, some (.inl s0)] [.inl (((ia_i h (a0 + 1) ((x1).toNatClampNeg)) + s0) - (ia_i h (a0 + 4) ((x1).toNatClampNeg))), .inl 99, .inl 0, .inl x1, .inr (.inr (a0 + 1))] h
  refine ia_mmin hK (ia_tb_in (List.mem_of_getElem? (i := 1088) (by decide +kernel)) rfl) dc_Sc_freeze_44 (Nat.le_of_ble_eq_true rfl) ?_
  show K 47 [some (.inr (.inr a0)), some (.inl x1), none, some (.inl s0)] [.inl (ia_min 99 (((ia_i h (a0 + 1) ((x1).toNatClampNeg)) + s0) - (ia_i h (a0 + 4) ((x1).toNatClampNeg)))), .inl 0, .inl x1, .inr (.inr (a0 + 1))] h
  refine ia_mmax hK (ia_tb_in (List.mem_of_getElem? (i := 1085) (by decide +kernel)) rfl) dc_Sc_freeze_47 (Nat.le_of_ble_eq_true rfl) ?_
  show K 50 [some (.inr (.inr a0)), some (.inl x1), none, some (.inl s0)] [.inl (ia_max 0 (ia_min 99 (((ia_i h (a0 + 1) ((x1).toNatClampNeg)) + s0) - (ia_i h (a0 + 4) ((x1).toNatClampNeg))))), .inl x1, .inr (.inr (a0 + 1))] h
  obtain ⟨c3, hm⟩ := ia_gd_some hm
  refine ia_go hK ck_Sc_freeze_50 ⟨ga_s100 hg (ka_9_2 p0) c3, ?_⟩
  show K 51 [some (.inr (.inr a0)), some (.inl x1), none, some (.inl s0)] [] (ia_wI h (a0 + 1) ((x1).toNatClampNeg) (ia_max 0 (ia_min 99 (((ia_i h (a0 + 1) ((x1).toNatClampNeg)) + s0) - (ia_i h (a0 + 4) ((x1).toNatClampNeg))))))
  obtain rfl := Option.some.inj hm
  exact hret 51 _ dc_Sc_freeze_51
theorem gj_Sc_freeze_20 {w : ia_O0} {a0 : Nat} {x1 : Int32} {x2 : Int32} (p0 : (kd_D a0).1 = 9) {h1 : ia_H} : ∀ (s0 : Int32) (h : ia_H), gd_ w h → j_Sc_freeze_20 a0 x1 x2 s0 h = some h1 → gd_ w h1 := by
  intro s0 h hg hm
  unfold j_Sc_freeze_20 at hm
  obtain ⟨c1, hm⟩ := ia_gd_some hm
  obtain ⟨c2, hm⟩ := ia_gd_some hm
  obtain ⟨c3, hm⟩ := ia_gd_some hm
  obtain rfl := Option.some.inj hm
  exact (gd_wI hg (kx_100 (ka_9_2 p0)))
def f_Sc_freeze (a0 : Nat) (x1 : Int32) (x2 : Int32) (h : ia_H) : Option ia_H := if x2 ≤ 0 then (j_Sc_freeze_20 a0 x1 x2 x2 h) else (ia_gd (ia_ib x1 36) (j_Sc_freeze_20 a0 x1 x2 (ia_max 0 (x2 - (ia_i h (a0 + 2) ((x1).toNatClampNeg)))) h))
theorem g_Sc_freeze {w : ia_O0} {a0 : Nat} {x1 : Int32} {x2 : Int32} {h : ia_H} (hg : gd_ w h) (p0 : (kd_D a0).1 = 9) {q : ia_H} (hm : f_Sc_freeze a0 x1 x2 h = some q) : gd_ w q := by
  obtain ⟨h1, e1⟩ : ∃ x, x = q := ⟨_, rfl⟩
  subst e1
  unfold f_Sc_freeze at hm
  by_cases c : x2 ≤ 0
  · replace hm := ia_ifp hm c
    exact gj_Sc_freeze_20 p0 x2 h hg hm
  · replace hm := ia_ifn hm c
    obtain ⟨c4, hm⟩ := ia_gd_some hm
    exact gj_Sc_freeze_20 p0 (ia_max 0 (x2 - (ia_i h (a0 + 2) ((x1).toNatClampNeg)))) h hg hm
theorem t_Sc_freeze {w : ia_O0} (d : Nat) {a0 : Nat} {x1 : Int32} {x2 : Int32} {h : ia_H} (hg : gd_ w h) (p0 : (kd_D a0).1 = 9) {q : ia_H} (hm : f_Sc_freeze a0 x1 x2 h = some q) : ia_Ev (d + 0) mm_Sc_freeze [.inr (.inr a0), .inl x1, .inl x2] h none q := by
  have gq := g_Sc_freeze hg p0 hm
  refine ia_Ev_intro ok_Sc_freeze (gd_le hg gq).1 (gd_le hg gq).2 (Nat.le_of_ble_eq_true rfl) (fun K hK hret => ?_)
  obtain ⟨h1, e1⟩ : ∃ x, x = q := ⟨_, rfl⟩
  subst e1
  show K 0 [some (.inr (.inr a0)), some (.inl x1), some (.inl x2), none] [] h
  unfold f_Sc_freeze at hm
  refine ia_go hK ck_Sc_freeze_0 ⟨fun c => ?_, fun c => ?_⟩
  · replace hm := ia_ifp hm c
    show K 19 [some (.inr (.inr a0)), some (.inl x1), some (.inl x2), none] [] h
    refine ia_go hK ck_Sc_freeze_19 ?_
    show K 20 [some (.inr (.inr a0)), some (.inl x1), some (.inl x2), none] [.inl x2] h
    refine ia_fg hK (lv' := [some (.inr (.inr a0)), some (.inl x1), none, none]) ⟨rfl, rfl, trivial⟩ ?_
    exact tj_Sc_freeze_20 hK p0 hret x2 h hg hm
  · replace hm := ia_ifn hm c
    show K 4 [some (.inr (.inr a0)), some (.inl x1), some (.inl x2), none] [] h
    obtain ⟨c4, hm⟩ := ia_gd_some hm
    refine ia_go hK ck_Sc_freeze_4 ⟨gk_9 hg p0, gr_9_3 hg p0, ga_i100 hg (ka_9_3 p0) c4, ?_⟩
    show K 13 [some (.inr (.inr a0)), some (.inl x1), some (.inl x2), none] [.inl (x2 - (ia_i h (a0 + 2) ((x1).toNatClampNeg))), .inl 0] h
    refine ia_mmax hK (ia_tb_in (List.mem_of_getElem? (i := 1085) (by decide +kernel)) rfl) dc_Sc_freeze_13 (Nat.le_of_ble_eq_true rfl) ?_
    show K 16 [some (.inr (.inr a0)), some (.inl x1), some (.inl x2), none] [.inl (ia_max 0 (x2 - (ia_i h (a0 + 2) ((x1).toNatClampNeg))))] h
    refine ia_go hK ck_Sc_freeze_16 ?_
    show K 20 [some (.inr (.inr a0)), some (.inl x1), some (.inl x2), none] [.inl (ia_max 0 (x2 - (ia_i h (a0 + 2) ((x1).toNatClampNeg))))] h
    refine ia_fg hK (lv' := [some (.inr (.inr a0)), some (.inl x1), none, none]) ⟨rfl, rfl, trivial⟩ ?_
    exact tj_Sc_freeze_20 hK p0 hret (ia_max 0 (x2 - (ia_i h (a0 + 2) ((x1).toNatClampNeg)))) h hg hm
def mm_Lw_dueFor : ia_M := (⟨"IceStreet$Law", "dueFor", "(I)I"⟩, prog_5_method_7_code, 2, (some .int), 4, false)
theorem ok_Lw_dueFor : ia_mok mm_Lw_dueFor := ⟨by decide +kernel, by decide +kernel, by decide +kernel, by decide +kernel⟩
theorem mk_Lw_dueFor : ia_mkn mm_Lw_dueFor 1 1 := ⟨ia_tb_in (List.mem_of_getElem? (i := 1096) (by decide +kernel)) rfl, ia_tb_in (List.mem_of_getElem? (i := 137) (by decide +kernel)) rfl, by decide +kernel, by decide +kernel, ⟨ia_tb_in (List.mem_of_getElem? (i := 1094) (by decide +kernel)) rfl, ia_tb_in (List.mem_of_getElem? (i := 1095) (by decide +kernel)) rfl⟩⟩
theorem ck_Lw_dueFor_0 : ia_cks 4 2 false prog_5_method_7_code 0 [(.aload_n 0, 0, 0, 0, 0), (.getfield 35, 4, 3, 0, 0), (.iload_n 1, 0, 0, 0, 0), (.imul, 0, 0, 0, 0), (.bipush 10, 0, 0, 0, 0), (.idiv, 0, 0, 0, 0)] = true := by decide +kernel
theorem dc_Lw_dueFor_9 : decode prog_5_method_7_code 9 = .ok (.ireturn, 1) := by decide +kernel
def f_Lw_dueFor (a0 : Nat) (x1 : Int32) (h : ia_H) : Option Int32 := some (((ia_i h a0 3) * x1) / 10)
theorem t_Lw_dueFor {w : ia_O0} (d : Nat) {a0 : Nat} {x1 : Int32} {h : ia_H} (hg : gd_ w h) (p0 : (kd_D a0).1 = 4) {r : Int32} (hm : f_Lw_dueFor a0 x1 h = some r) : ia_Ev (d + 0) mm_Lw_dueFor [.inr (.inr a0), .inl x1] h (some (.inl r)) h := by
  refine ia_Ev_intro ok_Lw_dueFor (Nat.le_refl _) (Nat.le_refl _) (Nat.le_of_ble_eq_true rfl) (fun K hK hret => ?_)
  show K 0 [some (.inr (.inr a0)), some (.inl x1)] [] h
  unfold f_Lw_dueFor at hm
  refine ia_go hK ck_Lw_dueFor_0 ⟨gk_4 hg p0, (by decide), ?_⟩
  show K 9 [some (.inr (.inr a0)), some (.inl x1)] [.inl (((ia_i h a0 3) * x1) / 10)] h
  obtain rfl := Option.some.inj hm
  exact hret 9 _ dc_Lw_dueFor_9
def mm_Sc_pay : ia_M := (⟨"IceStreet$Scene", "pay", "()V"⟩, prog_10_method_19_code, 2, none, 9, false)
theorem ok_Sc_pay : ia_mok mm_Sc_pay := ⟨by decide +kernel, by decide +kernel, by decide +kernel, by decide +kernel⟩
theorem mk_Sc_pay : ia_mkn mm_Sc_pay 1 0 := ⟨ia_tb_in (List.mem_of_getElem? (i := 1092) (by decide +kernel)) rfl, ia_tb_in (List.mem_of_getElem? (i := 140) (by decide +kernel)) rfl, by decide +kernel, by decide +kernel, ⟨ia_tb_in (List.mem_of_getElem? (i := 1091) (by decide +kernel)) rfl, ia_tb_in (List.mem_of_getElem? (i := 24) (by decide +kernel)) rfl⟩⟩
theorem ck_Sc_pay_0 : ia_cks 9 2 false prog_10_method_19_code 0 [(.aload_n 0, 0, 0, 0, 0), (.dup, 0, 0, 0, 0), (.getfield 59, 9, 9, 0, 0), (.iconst 1, 0, 0, 0, 0), (.iadd, 0, 0, 0, 0), (.putfield 59, 9, 9, 0, 0), (.iconst 0, 0, 0, 0, 0), (.istore_n 1, 0, 0, 0, 0)] = true := by decide +kernel
theorem ck_Sc_pay_12 : ia_cks 9 2 false prog_10_method_19_code 12 [(.iload_n 1, 0, 0, 0, 0), (.aload_n 0, 0, 0, 0, 0), (.getfield 33, 9, 0, 2, 0), (.getfield 66, 3, 11, 0, 0), (.if_icmp .ge 45, 0, 0, 0, 0)] = true := by decide +kernel
theorem ck_Sc_pay_23 : ia_cks 9 2 false prog_10_method_19_code 23 [(.aload_n 0, 0, 0, 0, 0), (.getfield 24, 9, 6, 3, 5), (.iload_n 1, 0, 0, 0, 0), (.iaload, 0, 0, 0, 0), (.ifCond .lt 30, 0, 0, 0, 0)] = true := by decide +kernel
theorem ck_Sc_pay_59 : ia_cks 9 2 false prog_10_method_19_code 59 [(.iinc 1 1, 0, 0, 0, 0), (.goto (-50), 0, 0, 0, 0)] = true := by decide +kernel
theorem ck_Sc_pay_32 : ia_cks 9 2 false prog_10_method_19_code 32 [(.aload_n 0, 0, 0, 0, 0), (.dup, 0, 0, 0, 0), (.getfield 63, 9, 10, 0, 0), (.aload_n 0, 0, 0, 0, 0), (.getfield 37, 9, 1, 2, 0), (.aload_n 0, 0, 0, 0, 0), (.getfield 9, 9, 2, 3, 1), (.aload_n 0, 0, 0, 0, 0), (.getfield 24, 9, 6, 3, 5), (.iload_n 1, 0, 0, 0, 0), (.iaload, 0, 0, 0, 0), (.iaload, 0, 0, 0, 0)] = true := by decide +kernel
theorem ck_Sc_pay_55 : ia_cks 9 2 false prog_10_method_19_code 55 [(.iadd, 0, 0, 0, 0), (.putfield 63, 9, 10, 0, 0), (.iinc 1 1, 0, 0, 0, 0), (.goto (-50), 0, 0, 0, 0)] = true := by decide +kernel
theorem dc_Sc_pay_52 : decode prog_10_method_19_code 52 = .ok (.invokevirtual 126, 3) := by decide +kernel
theorem dc_Sc_pay_65 : decode prog_10_method_19_code 65 = .ok (.return_, 1) := by decide +kernel
def l_Sc_pay_12 (a0 : Nat) (k65 : ia_H → Option ia_H) (n : Nat) (x1 : Int32) (h : ia_H) : Option ia_H := match n with
  | 0 => none
  | n + 1 => if (ia_i h (ia_r h a0 0) 11) ≤ x1 then (k65 h) else (ia_gd (ia_ib x1 6) (if (ia_i h (a0 + 5) ((x1).toNatClampNeg)) < 0 then (l_Sc_pay_12 a0 k65 n (x1 + 1) h) else (ia_gd (ia_ib x1 6) (ia_gd (ia_ib (ia_i h (a0 + 5) ((x1).toNatClampNeg)) 36) ((f_Lw_dueFor (ia_r h a0 1) (ia_i h (a0 + 1) ((ia_i h (a0 + 5) ((x1).toNatClampNeg)).toNatClampNeg)) h).bind fun v4 => (l_Sc_pay_12 a0 k65 n (x1 + 1) (ia_wI h a0 10 ((ia_i h a0 10) + v4))))))))
theorem tl_Sc_pay_12 {w : ia_O0} {d N1 W1 : Nat} {K : ia_K} (hK : ia_isK (d + 1) mm_Sc_pay N1 W1 K) {a0 : Nat} (p0 : (kd_D a0).1 = 9) {h1 : ia_H} (hret : ∀ (pc : Nat) (lv : ia_L), ia_ret mm_Sc_pay pc none → K pc lv (none : Option ia_V).toList h1) {k65 : ia_H → Option ia_H} (hk65 : ∀ (h : ia_H), gd_ w h → k65 h = some h1 → K 65 [none, none] [] h) : ∀ (n : Nat) (x1 : Int32) (h : ia_H), gd_ w h → l_Sc_pay_12 a0 k65 n x1 h = some h1 → K 12 [some (.inr (.inr a0)), some (.inl x1)] [] h := by
  intro n
  induction n with
  | zero =>
    intro x1 h hg hm
    cases (show (none : Option ia_H) = some _ from hm)
  | succ n ih =>
    intro x1 h hg hm
    rw [l_Sc_pay_12] at hm
    refine ia_go hK ck_Sc_pay_12 ⟨gk_9 hg p0, gk_3 hg (gm_9_0 hg p0), fun c => ?_, fun c => ?_⟩
    · replace hm := ia_ifp hm c
      show K 65 [some (.inr (.inr a0)), some (.inl x1)] [] h
      refine ia_fg hK (lv' := [none, none]) trivial ?_
      exact hk65 h hg hm
    · replace hm := ia_ifn hm c
      show K 23 [some (.inr (.inr a0)), some (.inl x1)] [] h
      obtain ⟨c1, hm⟩ := ia_gd_some hm
      refine ia_go hK ck_Sc_pay_23 ⟨gk_9 hg p0, gr_9_6 hg p0, ga_i100 hg (ka_9_6 p0) c1, fun c => ?_, fun c => ?_⟩
      · replace hm := ia_ifp hm c
        show K 59 [some (.inr (.inr a0)), some (.inl x1)] [] h
        refine ia_go hK ck_Sc_pay_59 ?_
        show K 12 [some (.inr (.inr a0)), some (.inl (x1 + 1))] [] h
        exact ih (x1 + 1) h hg hm
      · replace hm := ia_ifn hm c
        show K 32 [some (.inr (.inr a0)), some (.inl x1)] [] h
        obtain ⟨c2, hm⟩ := ia_gd_some hm
        obtain ⟨c3, hm⟩ := ia_gd_some hm
        refine ia_go hK ck_Sc_pay_32 ⟨gk_9 hg p0, gk_9 hg p0, gk_9 hg p0, gr_9_2 hg p0, gk_9 hg p0, gr_9_6 hg p0, ga_i100 hg (ka_9_6 p0) c2, ga_i100 hg (ka_9_2 p0) c3, ?_⟩
        show K 52 [some (.inr (.inr a0)), some (.inl x1)] [.inl (ia_i h (a0 + 1) ((ia_i h (a0 + 5) ((x1).toNatClampNeg)).toNatClampNeg)), .inr (.inr (ia_r h a0 1)), .inl (ia_i h a0 10), .inr (.inr a0)] h
        obtain ⟨v4, hv4, hm⟩ := ia_bnd hm
        have ev4 := t_Lw_dueFor (d + 0) hg (gm_9_1 hg p0) hv4
        refine ia_cV hK mk_Lw_dueFor lk_9_126 dc_Sc_pay_52 (ia_r h a0 1) [.inl (ia_i h (a0 + 1) ((ia_i h (a0 + 5) ((x1).toNatClampNeg)).toNatClampNeg))] [.inl (ia_i h a0 10), .inr (.inr a0)] rfl rfl (Nat.le_of_ble_eq_true rfl) (by decide) rfl (gk_4 hg (gm_9_1 hg p0)) ev4 ⟨rfl, rfl⟩ ?_
        show K 55 [some (.inr (.inr a0)), some (.inl x1)] [.inl v4, .inl (ia_i h a0 10), .inr (.inr a0)] h
        refine ia_go hK ck_Sc_pay_55 ⟨gk_9 hg p0, ?_⟩
        show K 12 [some (.inr (.inr a0)), some (.inl (x1 + 1))] [] (ia_wI h a0 10 ((ia_i h a0 10) + v4))
        exact ih (x1 + 1) (ia_wI h a0 10 ((ia_i h a0 10) + v4)) (gd_wI hg (ko_9 p0)) hm
theorem gl_Sc_pay_12 {w : ia_O0} {a0 : Nat} (p0 : (kd_D a0).1 = 9) {h1 : ia_H} {k65 : ia_H → Option ia_H} (hk65 : ∀ (h : ia_H), gd_ w h → k65 h = some h1 → gd_ w h1) : ∀ (n : Nat) (x1 : Int32) (h : ia_H), gd_ w h → l_Sc_pay_12 a0 k65 n x1 h = some h1 → gd_ w h1 := by
  intro n
  induction n with
  | zero =>
    intro x1 h hg hm
    cases (show (none : Option ia_H) = some _ from hm)
  | succ n ih =>
    intro x1 h hg hm
    rw [l_Sc_pay_12] at hm
    by_cases c : (ia_i h (ia_r h a0 0) 11) ≤ x1
    · replace hm := ia_ifp hm c
      exact hk65 h hg hm
    · replace hm := ia_ifn hm c
      obtain ⟨c1, hm⟩ := ia_gd_some hm
      by_cases c : (ia_i h (a0 + 5) ((x1).toNatClampNeg)) < 0
      · replace hm := ia_ifp hm c
        exact ih (x1 + 1) h hg hm
      · replace hm := ia_ifn hm c
        obtain ⟨c2, hm⟩ := ia_gd_some hm
        obtain ⟨c3, hm⟩ := ia_gd_some hm
        obtain ⟨v4, hv4, hm⟩ := ia_bnd hm
        exact ih (x1 + 1) (ia_wI h a0 10 ((ia_i h a0 10) + v4)) (gd_wI hg (ko_9 p0)) hm
def f_Sc_pay (a0 : Nat) (h : ia_H) : Option ia_H := l_Sc_pay_12 a0 (fun h => some h) fu_ 0 (ia_wI h a0 9 ((ia_i h a0 9) + 1))
theorem g_Sc_pay {w : ia_O0} {a0 : Nat} {h : ia_H} (hg : gd_ w h) (p0 : (kd_D a0).1 = 9) {q : ia_H} (hm : f_Sc_pay a0 h = some q) : gd_ w q := by
  obtain ⟨h1, e1⟩ : ∃ x, x = q := ⟨_, rfl⟩
  subst e1
  unfold f_Sc_pay at hm
  refine gl_Sc_pay_12 p0 ?_ fu_ 0 (ia_wI h a0 9 ((ia_i h a0 9) + 1)) (gd_wI hg (ko_9 p0)) hm
  · intro h hg hm
    obtain rfl := Option.some.inj hm
    exact hg
theorem t_Sc_pay {w : ia_O0} (d : Nat) {a0 : Nat} {h : ia_H} (hg : gd_ w h) (p0 : (kd_D a0).1 = 9) {q : ia_H} (hm : f_Sc_pay a0 h = some q) : ia_Ev (d + 1) mm_Sc_pay [.inr (.inr a0)] h none q := by
  have gq := g_Sc_pay hg p0 hm
  refine ia_Ev_intro ok_Sc_pay (gd_le hg gq).1 (gd_le hg gq).2 (Nat.le_of_ble_eq_true rfl) (fun K hK hret => ?_)
  obtain ⟨h1, e1⟩ : ∃ x, x = q := ⟨_, rfl⟩
  subst e1
  show K 0 [some (.inr (.inr a0)), none] [] h
  unfold f_Sc_pay at hm
  refine ia_go hK ck_Sc_pay_0 ⟨gk_9 hg p0, gk_9 hg p0, ?_⟩
  show K 12 [some (.inr (.inr a0)), some (.inl 0)] [] (ia_wI h a0 9 ((ia_i h a0 9) + 1))
  refine tl_Sc_pay_12 hK p0 hret ?_ fu_ 0 (ia_wI h a0 9 ((ia_i h a0 9) + 1)) (gd_wI hg (ko_9 p0)) hm
  · intro h hg hm
    obtain rfl := Option.some.inj hm
    exact hret 65 _ dc_Sc_pay_65
def mm_Sc_passDay : ia_M := (⟨"IceStreet$Scene", "passDay", "(I)V"⟩, prog_10_method_16_code, 3, none, 9, false)
theorem ok_Sc_passDay : ia_mok mm_Sc_passDay := ⟨by decide +kernel, by decide +kernel, by decide +kernel, by decide +kernel⟩
theorem mk_Sc_passDay : ia_mkn mm_Sc_passDay 1 1 := ⟨ia_tb_in (List.mem_of_getElem? (i := 1079) (by decide +kernel)) rfl, ia_tb_in (List.mem_of_getElem? (i := 140) (by decide +kernel)) rfl, by decide +kernel, by decide +kernel, ⟨ia_tb_in (List.mem_of_getElem? (i := 1077) (by decide +kernel)) rfl, ia_tb_in (List.mem_of_getElem? (i := 1078) (by decide +kernel)) rfl⟩⟩
theorem ck_Sc_passDay_0 : ia_cks 9 3 false prog_10_method_16_code 0 [(.iconst 0, 0, 0, 0, 0), (.istore_n 2, 0, 0, 0, 0)] = true := by decide +kernel
theorem ck_Sc_passDay_2 : ia_cks 9 3 false prog_10_method_16_code 2 [(.iload_n 2, 0, 0, 0, 0), (.aload_n 0, 0, 0, 0, 0), (.getfield 33, 9, 0, 2, 0)] = true := by decide +kernel
theorem ck_Sc_passDay_10 : ia_cks 9 3 false prog_10_method_16_code 10 [(.if_icmp .ge 15, 0, 0, 0, 0)] = true := by decide +kernel
theorem ck_Sc_passDay_13 : ia_cks 9 3 false prog_10_method_16_code 13 [(.aload_n 0, 0, 0, 0, 0), (.iload_n 2, 0, 0, 0, 0), (.iload_n 1, 0, 0, 0, 0)] = true := by decide +kernel
theorem ck_Sc_passDay_19 : ia_cks 9 3 false prog_10_method_16_code 19 [(.iinc 2 1, 0, 0, 0, 0), (.goto (-20), 0, 0, 0, 0)] = true := by decide +kernel
theorem ck_Sc_passDay_25 : ia_cks 9 3 false prog_10_method_16_code 25 [(.aload_n 0, 0, 0, 0, 0)] = true := by decide +kernel
theorem ck_Sc_passDay_29 : ia_cks 9 3 false prog_10_method_16_code 29 [(.aload_n 0, 0, 0, 0, 0)] = true := by decide +kernel
theorem dc_Sc_passDay_7 : decode prog_10_method_16_code 7 = .ok (.invokevirtual 108, 3) := by decide +kernel
theorem dc_Sc_passDay_16 : decode prog_10_method_16_code 16 = .ok (.invokevirtual 111, 3) := by decide +kernel
theorem dc_Sc_passDay_26 : decode prog_10_method_16_code 26 = .ok (.invokevirtual 114, 3) := by decide +kernel
theorem dc_Sc_passDay_30 : decode prog_10_method_16_code 30 = .ok (.invokevirtual 76, 3) := by decide +kernel
theorem dc_Sc_passDay_33 : decode prog_10_method_16_code 33 = .ok (.return_, 1) := by decide +kernel
def l_Sc_passDay_2 (a0 : Nat) (x1 : Int32) (k25 : ia_H → Option ia_H) (n : Nat) (x2 : Int32) (h : ia_H) : Option ia_H := match n with
  | 0 => none
  | n + 1 => (f_La_cells (ia_r h a0 0) h).bind fun v1 => (if v1 ≤ x2 then (k25 h) else ((f_Sc_freeze a0 x2 x1 h).bind fun v2 => (l_Sc_passDay_2 a0 x1 k25 n (x2 + 1) v2)))
theorem tl_Sc_passDay_2 {w : ia_O0} {d N1 W1 : Nat} {K : ia_K} (hK : ia_isK (d + 3) mm_Sc_passDay N1 W1 K) {a0 : Nat} {x1 : Int32} (p0 : (kd_D a0).1 = 9) {h1 : ia_H} (hret : ∀ (pc : Nat) (lv : ia_L), ia_ret mm_Sc_passDay pc none → K pc lv (none : Option ia_V).toList h1) {k25 : ia_H → Option ia_H} (hk25 : ∀ (h : ia_H), gd_ w h → k25 h = some h1 → K 25 [some (.inr (.inr a0)), none, none] [] h) : ∀ (n : Nat) (x2 : Int32) (h : ia_H), gd_ w h → l_Sc_passDay_2 a0 x1 k25 n x2 h = some h1 → K 2 [some (.inr (.inr a0)), some (.inl x1), some (.inl x2)] [] h := by
  intro n
  induction n with
  | zero =>
    intro x2 h hg hm
    cases (show (none : Option ia_H) = some _ from hm)
  | succ n ih =>
    intro x2 h hg hm
    rw [l_Sc_passDay_2] at hm
    refine ia_go hK ck_Sc_passDay_2 ⟨gk_9 hg p0, ?_⟩
    show K 7 [some (.inr (.inr a0)), some (.inl x1), some (.inl x2)] [.inr (.inr (ia_r h a0 0)), .inl x2] h
    obtain ⟨v1, hv1, hm⟩ := ia_bnd hm
    have ev1 := t_La_cells (d + 2) hg (gm_9_0 hg p0) hv1
    refine ia_cV hK mk_La_cells lk_9_108 dc_Sc_passDay_7 (ia_r h a0 0) [] [.inl x2] rfl rfl (Nat.le_of_ble_eq_true rfl) (by decide) rfl (gk_3 hg (gm_9_0 hg p0)) ev1 ⟨rfl, rfl⟩ ?_
    show K 10 [some (.inr (.inr a0)), some (.inl x1), some (.inl x2)] [.inl v1, .inl x2] h
    refine ia_go hK ck_Sc_passDay_10 ⟨fun c => ?_, fun c => ?_⟩
    · replace hm := ia_ifp hm c
      show K 25 [some (.inr (.inr a0)), some (.inl x1), some (.inl x2)] [] h
      refine ia_fg hK (lv' := [some (.inr (.inr a0)), none, none]) ⟨rfl, trivial⟩ ?_
      exact hk25 h hg hm
    · replace hm := ia_ifn hm c
      show K 13 [some (.inr (.inr a0)), some (.inl x1), some (.inl x2)] [] h
      refine ia_go hK ck_Sc_passDay_13 ?_
      show K 16 [some (.inr (.inr a0)), some (.inl x1), some (.inl x2)] [.inl x1, .inl x2, .inr (.inr a0)] h
      obtain ⟨v2, hv2, hm⟩ := ia_bnd hm
      have ev2 := t_Sc_freeze (d + 2) hg p0 hv2
      have gv2 := g_Sc_freeze hg p0 hv2
      refine ia_cV hK mk_Sc_freeze lk_9_111 dc_Sc_passDay_16 a0 [.inl x2, .inl x1] [] rfl rfl (Nat.le_of_ble_eq_true rfl) (by decide) rfl (gk_9 hg p0) ev2 (gd_nm hg gv2) ?_
      show K 19 [some (.inr (.inr a0)), some (.inl x1), some (.inl x2)] [] v2
      refine ia_go hK ck_Sc_passDay_19 ?_
      show K 2 [some (.inr (.inr a0)), some (.inl x1), some (.inl (x2 + 1))] [] v2
      exact ih (x2 + 1) v2 gv2 hm
theorem gl_Sc_passDay_2 {w : ia_O0} {a0 : Nat} {x1 : Int32} (p0 : (kd_D a0).1 = 9) {h1 : ia_H} {k25 : ia_H → Option ia_H} (hk25 : ∀ (h : ia_H), gd_ w h → k25 h = some h1 → gd_ w h1) : ∀ (n : Nat) (x2 : Int32) (h : ia_H), gd_ w h → l_Sc_passDay_2 a0 x1 k25 n x2 h = some h1 → gd_ w h1 := by
  intro n
  induction n with
  | zero =>
    intro x2 h hg hm
    cases (show (none : Option ia_H) = some _ from hm)
  | succ n ih =>
    intro x2 h hg hm
    rw [l_Sc_passDay_2] at hm
    obtain ⟨v1, hv1, hm⟩ := ia_bnd hm
    by_cases c : v1 ≤ x2
    · replace hm := ia_ifp hm c
      exact hk25 h hg hm
    · replace hm := ia_ifn hm c
      obtain ⟨v2, hv2, hm⟩ := ia_bnd hm
      have gv2 := g_Sc_freeze hg p0 hv2
      exact ih (x2 + 1) v2 gv2 hm
def f_Sc_passDay (a0 : Nat) (x1 : Int32) (h : ia_H) : Option ia_H := l_Sc_passDay_2 a0 x1 (fun h => (f_Sc_pay a0 h).bind fun v3 => ((f_Sc_settle a0 v3).bind fun v4 => (some v4))) fu_ 0 h
theorem g_Sc_passDay {w : ia_O0} {a0 : Nat} {x1 : Int32} {h : ia_H} (hg : gd_ w h) (p0 : (kd_D a0).1 = 9) {q : ia_H} (hm : f_Sc_passDay a0 x1 h = some q) : gd_ w q := by
  obtain ⟨h1, e1⟩ : ∃ x, x = q := ⟨_, rfl⟩
  subst e1
  unfold f_Sc_passDay at hm
  refine gl_Sc_passDay_2 p0 ?_ fu_ 0 h hg hm
  · intro h hg hm
    obtain ⟨v3, hv3, hm⟩ := ia_bnd hm
    have gv3 := g_Sc_pay hg p0 hv3
    obtain ⟨v4, hv4, hm⟩ := ia_bnd hm
    have gv4 := g_Sc_settle gv3 p0 hv4
    obtain rfl := Option.some.inj hm
    exact gv4
theorem t_Sc_passDay {w : ia_O0} (d : Nat) {a0 : Nat} {x1 : Int32} {h : ia_H} (hg : gd_ w h) (p0 : (kd_D a0).1 = 9) {q : ia_H} (hm : f_Sc_passDay a0 x1 h = some q) : ia_Ev (d + 3) mm_Sc_passDay [.inr (.inr a0), .inl x1] h none q := by
  have gq := g_Sc_passDay hg p0 hm
  refine ia_Ev_intro ok_Sc_passDay (gd_le hg gq).1 (gd_le hg gq).2 (Nat.le_of_ble_eq_true rfl) (fun K hK hret => ?_)
  obtain ⟨h1, e1⟩ : ∃ x, x = q := ⟨_, rfl⟩
  subst e1
  show K 0 [some (.inr (.inr a0)), some (.inl x1), none] [] h
  unfold f_Sc_passDay at hm
  refine ia_go hK ck_Sc_passDay_0 ?_
  show K 2 [some (.inr (.inr a0)), some (.inl x1), some (.inl 0)] [] h
  refine tl_Sc_passDay_2 hK p0 hret ?_ fu_ 0 h hg hm
  · intro h hg hm
    refine ia_go hK ck_Sc_passDay_25 ?_
    show K 26 [some (.inr (.inr a0)), none, none] [.inr (.inr a0)] h
    obtain ⟨v3, hv3, hm⟩ := ia_bnd hm
    have ev3 := t_Sc_pay (d + 1) hg p0 hv3
    have gv3 := g_Sc_pay hg p0 hv3
    refine ia_cV hK mk_Sc_pay lk_9_114 dc_Sc_passDay_26 a0 [] [] rfl rfl (Nat.le_of_ble_eq_true rfl) (by decide) rfl (gk_9 hg p0) ev3 (gd_nm hg gv3) ?_
    show K 29 [some (.inr (.inr a0)), none, none] [] v3
    refine ia_go hK ck_Sc_passDay_29 ?_
    show K 30 [some (.inr (.inr a0)), none, none] [.inr (.inr a0)] v3
    obtain ⟨v4, hv4, hm⟩ := ia_bnd hm
    have ev4 := t_Sc_settle (d + 0) gv3 p0 hv4
    have gv4 := g_Sc_settle gv3 p0 hv4
    refine ia_cV hK mk_Sc_settle lk_9_76 dc_Sc_passDay_30 a0 [] [] rfl rfl (Nat.le_of_ble_eq_true rfl) (by decide) rfl (gk_9 gv3 p0) ev4 (gd_nm gv3 gv4) ?_
    show K 33 [some (.inr (.inr a0)), none, none] [] v4
    obtain rfl := Option.some.inj hm
    exact hret 33 _ dc_Sc_passDay_33
def mm_Sc_stands : ia_M := (⟨"IceStreet$Scene", "stands", "(I)Z"⟩, prog_10_method_4_code, 2, (some .boolean), 9, false)
theorem ok_Sc_stands : ia_mok mm_Sc_stands := ⟨by decide +kernel, by decide +kernel, by decide +kernel, by decide +kernel⟩
theorem mk_Sc_stands : ia_mkn mm_Sc_stands 1 1 := ⟨ia_tb_in (List.mem_of_getElem? (i := 1104) (by decide +kernel)) rfl, ia_tb_in (List.mem_of_getElem? (i := 140) (by decide +kernel)) rfl, by decide +kernel, by decide +kernel, ⟨ia_tb_in (List.mem_of_getElem? (i := 1102) (by decide +kernel)) rfl, ia_tb_in (List.mem_of_getElem? (i := 1103) (by decide +kernel)) rfl⟩⟩
theorem ck_Sc_stands_0 : ia_cks 9 2 false prog_10_method_4_code 0 [(.iload_n 1, 0, 0, 0, 0), (.ifCond .lt 27, 0, 0, 0, 0)] = true := by decide +kernel
theorem ck_Sc_stands_28 : ia_cks 9 2 false prog_10_method_4_code 28 [(.iconst 0, 0, 0, 0, 0)] = true := by decide +kernel
theorem ck_Sc_stands_4 : ia_cks 9 2 false prog_10_method_4_code 4 [(.iload_n 1, 0, 0, 0, 0), (.aload_n 0, 0, 0, 0, 0), (.getfield 33, 9, 0, 2, 0), (.getfield 66, 3, 11, 0, 0), (.if_icmp .ge 16, 0, 0, 0, 0)] = true := by decide +kernel
theorem ck_Sc_stands_15 : ia_cks 9 2 false prog_10_method_4_code 15 [(.aload_n 0, 0, 0, 0, 0), (.getfield 24, 9, 6, 3, 5), (.iload_n 1, 0, 0, 0, 0), (.iaload, 0, 0, 0, 0), (.ifCond .lt 7, 0, 0, 0, 0)] = true := by decide +kernel
theorem ck_Sc_stands_24 : ia_cks 9 2 false prog_10_method_4_code 24 [(.iconst 1, 0, 0, 0, 0), (.goto 4, 0, 0, 0, 0)] = true := by decide +kernel
theorem dc_Sc_stands_29 : decode prog_10_method_4_code 29 = .ok (.ireturn, 1) := by decide +kernel
def f_Sc_stands (a0 : Nat) (x1 : Int32) (h : ia_H) : Option Int32 := if x1 < 0 then (some 0) else (if (ia_i h (ia_r h a0 0) 11) ≤ x1 then (some 0) else (ia_gd (ia_ib x1 6) (if (ia_i h (a0 + 5) ((x1).toNatClampNeg)) < 0 then (some 0) else (some 1))))
theorem t_Sc_stands {w : ia_O0} (d : Nat) {a0 : Nat} {x1 : Int32} {h : ia_H} (hg : gd_ w h) (p0 : (kd_D a0).1 = 9) {r : Int32} (hm : f_Sc_stands a0 x1 h = some r) : ia_Ev (d + 0) mm_Sc_stands [.inr (.inr a0), .inl x1] h (some (.inl r)) h := by
  refine ia_Ev_intro ok_Sc_stands (Nat.le_refl _) (Nat.le_refl _) (Nat.le_of_ble_eq_true rfl) (fun K hK hret => ?_)
  show K 0 [some (.inr (.inr a0)), some (.inl x1)] [] h
  unfold f_Sc_stands at hm
  refine ia_go hK ck_Sc_stands_0 ⟨fun c => ?_, fun c => ?_⟩
  · replace hm := ia_ifp hm c
    show K 28 [some (.inr (.inr a0)), some (.inl x1)] [] h
    refine ia_go hK ck_Sc_stands_28 ?_
    show K 29 [some (.inr (.inr a0)), some (.inl x1)] [.inl 0] h
    obtain rfl := Option.some.inj hm
    exact hret 29 _ ⟨Or.inl rfl, dc_Sc_stands_29⟩
  · replace hm := ia_ifn hm c
    show K 4 [some (.inr (.inr a0)), some (.inl x1)] [] h
    refine ia_go hK ck_Sc_stands_4 ⟨gk_9 hg p0, gk_3 hg (gm_9_0 hg p0), fun c => ?_, fun c => ?_⟩
    · replace hm := ia_ifp hm c
      show K 28 [some (.inr (.inr a0)), some (.inl x1)] [] h
      refine ia_go hK ck_Sc_stands_28 ?_
      show K 29 [some (.inr (.inr a0)), some (.inl x1)] [.inl 0] h
      obtain rfl := Option.some.inj hm
      exact hret 29 _ ⟨Or.inl rfl, dc_Sc_stands_29⟩
    · replace hm := ia_ifn hm c
      show K 15 [some (.inr (.inr a0)), some (.inl x1)] [] h
      obtain ⟨c1, hm⟩ := ia_gd_some hm
      refine ia_go hK ck_Sc_stands_15 ⟨gk_9 hg p0, gr_9_6 hg p0, ga_i100 hg (ka_9_6 p0) c1, fun c => ?_, fun c => ?_⟩
      · replace hm := ia_ifp hm c
        show K 28 [some (.inr (.inr a0)), some (.inl x1)] [] h
        refine ia_go hK ck_Sc_stands_28 ?_
        show K 29 [some (.inr (.inr a0)), some (.inl x1)] [.inl 0] h
        obtain rfl := Option.some.inj hm
        exact hret 29 _ ⟨Or.inl rfl, dc_Sc_stands_29⟩
      · replace hm := ia_ifn hm c
        show K 24 [some (.inr (.inr a0)), some (.inl x1)] [] h
        refine ia_go hK ck_Sc_stands_24 ?_
        show K 29 [some (.inr (.inr a0)), some (.inl x1)] [.inl 1] h
        obtain rfl := Option.some.inj hm
        exact hret 29 _ ⟨Or.inr rfl, dc_Sc_stands_29⟩
def mm_Wa_survey : ia_M := (⟨"IceStreet$Ways", "survey", "(LIceStreet$Scene;I)V"⟩, prog_12_method_2_code, 5, none, 11, false)
theorem ok_Wa_survey : ia_mok mm_Wa_survey := ⟨by decide +kernel, by decide +kernel, by decide +kernel, by decide +kernel⟩
theorem mk_Wa_survey : ia_mkn mm_Wa_survey 1 2 := ⟨ia_tb_in (List.mem_of_getElem? (i := 1118) (by decide +kernel)) rfl, ia_tb_in (List.mem_of_getElem? (i := 141) (by decide +kernel)) rfl, by decide +kernel, by decide +kernel, ⟨ia_tb_in (List.mem_of_getElem? (i := 1116) (by decide +kernel)) rfl, ia_tb_in (List.mem_of_getElem? (i := 1117) (by decide +kernel)) rfl⟩⟩
theorem ck_Wa_survey_0 : ia_cks 11 5 false prog_12_method_2_code 0 [(.aload_n 0, 0, 0, 0, 0), (.aload_n 1, 0, 0, 0, 0), (.getfield 37, 9, 0, 2, 0), (.putfield 29, 11, 4, 2, 0), (.aload_n 0, 0, 0, 0, 0), (.aload_n 1, 0, 0, 0, 0), (.getfield 40, 9, 1, 2, 0), (.putfield 33, 11, 5, 2, 0), (.iconst 0, 0, 0, 0, 0), (.istore_n 3, 0, 0, 0, 0)] = true := by decide +kernel
theorem ck_Wa_survey_18 : ia_cks 11 5 false prog_12_method_2_code 18 [(.iload_n 3, 0, 0, 0, 0), (.aload_n 0, 0, 0, 0, 0), (.getfield 29, 11, 4, 2, 0)] = true := by decide +kernel
theorem ck_Wa_survey_26 : ia_cks 11 5 false prog_12_method_2_code 26 [(.if_icmp .ge 57, 0, 0, 0, 0)] = true := by decide +kernel
theorem ck_Wa_survey_29 : ia_cks 11 5 false prog_12_method_2_code 29 [(.aload_n 1, 0, 0, 0, 0), (.getfield 47, 9, 2, 3, 1), (.iload_n 3, 0, 0, 0, 0), (.iaload, 0, 0, 0, 0), (.iload_n 2, 0, 0, 0, 0), (.iadd, 0, 0, 0, 0), (.istore 4, 0, 0, 0, 0), (.aload_n 0, 0, 0, 0, 0), (.getfield 15, 11, 6, 3, 2), (.iload_n 3, 0, 0, 0, 0), (.iload 4, 0, 0, 0, 0), (.aload_n 0, 0, 0, 0, 0), (.getfield 33, 11, 5, 2, 0), (.getfield 50, 4, 0, 0, 0), (.if_icmp .ge 7, 0, 0, 0, 0)] = true := by decide +kernel
theorem ck_Wa_survey_60 : ia_cks 11 5 false prog_12_method_2_code 60 [(.aload_n 0, 0, 0, 0, 0), (.getfield 29, 11, 4, 2, 0), (.iload 4, 0, 0, 0, 0)] = true := by decide +kernel
theorem ck_Wa_survey_69 : ia_cks 11 5 false prog_12_method_2_code 69 [(.aload_n 1, 0, 0, 0, 0), (.getfield 60, 9, 4, 3, 3), (.iload_n 3, 0, 0, 0, 0), (.iaload, 0, 0, 0, 0), (.isub, 0, 0, 0, 0), (.iastore, 0, 0, 0, 0), (.iinc 3 1, 0, 0, 0, 0), (.goto (-62), 0, 0, 0, 0)] = true := by decide +kernel
theorem ck_Wa_survey_56 : ia_cks 11 5 false prog_12_method_2_code 56 [(.iconst 0, 0, 0, 0, 0), (.goto 19, 0, 0, 0, 0)] = true := by decide +kernel
theorem ck_Wa_survey_76 : ia_cks 11 5 false prog_12_method_2_code 76 [(.iastore, 0, 0, 0, 0), (.iinc 3 1, 0, 0, 0, 0), (.goto (-62), 0, 0, 0, 0)] = true := by decide +kernel
theorem ck_Wa_survey_83 : ia_cks 11 5 false prog_12_method_2_code 83 [(.iconst 0, 0, 0, 0, 0), (.istore_n 3, 0, 0, 0, 0)] = true := by decide +kernel
theorem ck_Wa_survey_85 : ia_cks 11 5 false prog_12_method_2_code 85 [(.iload_n 3, 0, 0, 0, 0), (.aload_n 0, 0, 0, 0, 0), (.getfield 29, 11, 4, 2, 0), (.getfield 63, 3, 11, 0, 0), (.if_icmp .ge 30, 0, 0, 0, 0)] = true := by decide +kernel
theorem ck_Wa_survey_96 : ia_cks 11 5 false prog_12_method_2_code 96 [(.aload_n 1, 0, 0, 0, 0), (.getfield 66, 9, 6, 3, 5), (.iload_n 3, 0, 0, 0, 0), (.iaload, 0, 0, 0, 0), (.ifCond .lt 15, 0, 0, 0, 0)] = true := by decide +kernel
theorem ck_Wa_survey_117 : ia_cks 11 5 false prog_12_method_2_code 117 [(.iinc 3 1, 0, 0, 0, 0), (.goto (-35), 0, 0, 0, 0)] = true := by decide +kernel
theorem ck_Wa_survey_105 : ia_cks 11 5 false prog_12_method_2_code 105 [(.aload_n 0, 0, 0, 0, 0), (.getfield 15, 11, 6, 3, 2), (.aload_n 1, 0, 0, 0, 0), (.getfield 66, 9, 6, 3, 5), (.iload_n 3, 0, 0, 0, 0), (.iaload, 0, 0, 0, 0), (.iconst 0, 0, 0, 0, 0), (.iastore, 0, 0, 0, 0), (.iinc 3 1, 0, 0, 0, 0), (.goto (-35), 0, 0, 0, 0)] = true := by decide +kernel
theorem dc_Wa_survey_23 : decode prog_12_method_2_code 23 = .ok (.invokevirtual 41, 3) := by decide +kernel
theorem dc_Wa_survey_66 : decode prog_12_method_2_code 66 = .ok (.invokevirtual 56, 3) := by decide +kernel
theorem dc_Wa_survey_123 : decode prog_12_method_2_code 123 = .ok (.return_, 1) := by decide +kernel
def l_Wa_survey_18 (a1 : Nat) (x2 : Int32) (k83 : ia_H → Option ia_H) (n : Nat) (x3 : Int32) (h : ia_H) : Option ia_H := match n with
  | 0 => none
  | n + 1 => (f_La_cells (ia_r h 311 4) h).bind fun v1 => (if v1 ≤ x3 then (k83 h) else (ia_gd (ia_ib x3 36) (if (ia_i h (ia_r h 311 5) 0) ≤ ((ia_i h (a1 + 1) ((x3).toNatClampNeg)) + x2) then ((f_La_bearing (ia_r h 311 4) ((ia_i h (a1 + 1) ((x3).toNatClampNeg)) + x2) h).bind fun v3 => (ia_gd (ia_ib x3 36) (ia_gd (ia_ib x3 36) (l_Wa_survey_18 a1 x2 k83 n (x3 + 1) (ia_wI h 313 ((x3).toNatClampNeg) (v3 - (ia_i h (a1 + 3) ((x3).toNatClampNeg)))))))) else (ia_gd (ia_ib x3 36) (l_Wa_survey_18 a1 x2 k83 n (x3 + 1) (ia_wI h 313 ((x3).toNatClampNeg) 0))))))
theorem tl_Wa_survey_18 {w : ia_O0} {d N1 W1 : Nat} {K : ia_K} (hK : ia_isK (d + 1) mm_Wa_survey N1 W1 K) {a1 : Nat} {x2 : Int32} (p1 : (kd_D a1).1 = 9) {h1 : ia_H} (hret : ∀ (pc : Nat) (lv : ia_L), ia_ret mm_Wa_survey pc none → K pc lv (none : Option ia_V).toList h1) {k83 : ia_H → Option ia_H} (hk83 : ∀ (h : ia_H), gd_ w h → k83 h = some h1 → K 83 [some (.inr (.inr 311)), some (.inr (.inr a1)), none, none, none] [] h) : ∀ (n : Nat) (x3 : Int32) (h : ia_H), gd_ w h → l_Wa_survey_18 a1 x2 k83 n x3 h = some h1 → K 18 [some (.inr (.inr 311)), some (.inr (.inr a1)), some (.inl x2), some (.inl x3), none] [] h := by
  intro n
  induction n with
  | zero =>
    intro x3 h hg hm
    cases (show (none : Option ia_H) = some _ from hm)
  | succ n ih =>
    intro x3 h hg hm
    rw [l_Wa_survey_18] at hm
    refine ia_go hK ck_Wa_survey_18 ⟨gk_11 hg pk_311, ?_⟩
    show K 23 [some (.inr (.inr 311)), some (.inr (.inr a1)), some (.inl x2), some (.inl x3), none] [.inr (.inr (ia_r h 311 4)), .inl x3] h
    obtain ⟨v1, hv1, hm⟩ := ia_bnd hm
    have ev1 := t_La_cells (d + 0) hg (gm_11_4 hg pk_311) hv1
    refine ia_cV hK mk_La_cells lk_11_41 dc_Wa_survey_23 (ia_r h 311 4) [] [.inl x3] rfl rfl (Nat.le_of_ble_eq_true rfl) (by decide) rfl (gk_3 hg (gm_11_4 hg pk_311)) ev1 ⟨rfl, rfl⟩ ?_
    show K 26 [some (.inr (.inr 311)), some (.inr (.inr a1)), some (.inl x2), some (.inl x3), none] [.inl v1, .inl x3] h
    refine ia_go hK ck_Wa_survey_26 ⟨fun c => ?_, fun c => ?_⟩
    · replace hm := ia_ifp hm c
      show K 83 [some (.inr (.inr 311)), some (.inr (.inr a1)), some (.inl x2), some (.inl x3), none] [] h
      refine ia_fg hK (lv' := [some (.inr (.inr 311)), some (.inr (.inr a1)), none, none, none]) ⟨rfl, rfl, trivial⟩ ?_
      exact hk83 h hg hm
    · replace hm := ia_ifn hm c
      show K 29 [some (.inr (.inr 311)), some (.inr (.inr a1)), some (.inl x2), some (.inl x3), none] [] h
      obtain ⟨c2, hm⟩ := ia_gd_some hm
      refine ia_go hK ck_Wa_survey_29 ⟨gk_9 hg p1, gr_9_2 hg p1, ga_i100 hg (ka_9_2 p1) c2, gk_11 hg pk_311, gr_11_6 hg pk_311, gk_11 hg pk_311, gk_4 hg (gm_11_5 hg pk_311), fun c => ?_, fun c => ?_⟩
      · replace hm := ia_ifp hm c
        show K 60 [some (.inr (.inr 311)), some (.inr (.inr a1)), some (.inl x2), some (.inl x3), some (.inl ((ia_i h (a1 + 1) ((x3).toNatClampNeg)) + x2))] [.inl x3, .inr (.inr 313)] h
        refine ia_go hK ck_Wa_survey_60 ⟨gk_11 hg pk_311, ?_⟩
        show K 66 [some (.inr (.inr 311)), some (.inr (.inr a1)), some (.inl x2), some (.inl x3), some (.inl ((ia_i h (a1 + 1) ((x3).toNatClampNeg)) + x2))] [.inl ((ia_i h (a1 + 1) ((x3).toNatClampNeg)) + x2), .inr (.inr (ia_r h 311 4)), .inl x3, .inr (.inr 313)] h
        obtain ⟨v3, hv3, hm⟩ := ia_bnd hm
        have ev3 := t_La_bearing (d + 0) hg (gm_11_4 hg pk_311) hv3
        refine ia_cV hK mk_La_bearing lk_11_56 dc_Wa_survey_66 (ia_r h 311 4) [.inl ((ia_i h (a1 + 1) ((x3).toNatClampNeg)) + x2)] [.inl x3, .inr (.inr 313)] rfl rfl (Nat.le_of_ble_eq_true rfl) (by decide) rfl (gk_3 hg (gm_11_4 hg pk_311)) ev3 ⟨rfl, rfl⟩ ?_
        show K 69 [some (.inr (.inr 311)), some (.inr (.inr a1)), some (.inl x2), some (.inl x3), some (.inl ((ia_i h (a1 + 1) ((x3).toNatClampNeg)) + x2))] [.inl v3, .inl x3, .inr (.inr 313)] h
        obtain ⟨c4, hm⟩ := ia_gd_some hm
        obtain ⟨c5, hm⟩ := ia_gd_some hm
        refine ia_go hK ck_Wa_survey_69 ⟨gk_9 hg p1, gr_9_4 hg p1, ga_i100 hg (ka_9_4 p1) c4, ga_s100 hg (ka_11_6 pk_311) c5, ?_⟩
        show K 18 [some (.inr (.inr 311)), some (.inr (.inr a1)), some (.inl x2), some (.inl (x3 + 1)), some (.inl ((ia_i h (a1 + 1) ((x3).toNatClampNeg)) + x2))] [] (ia_wI h 313 ((x3).toNatClampNeg) (v3 - (ia_i h (a1 + 3) ((x3).toNatClampNeg))))
        refine ia_fg hK (lv' := [some (.inr (.inr 311)), some (.inr (.inr a1)), some (.inl x2), some (.inl (x3 + 1)), none]) ⟨rfl, rfl, rfl, rfl, trivial⟩ ?_
        exact ih (x3 + 1) (ia_wI h 313 ((x3).toNatClampNeg) (v3 - (ia_i h (a1 + 3) ((x3).toNatClampNeg)))) (gd_wI hg (kx_100 (ka_11_6 pk_311))) hm
      · replace hm := ia_ifn hm c
        show K 56 [some (.inr (.inr 311)), some (.inr (.inr a1)), some (.inl x2), some (.inl x3), some (.inl ((ia_i h (a1 + 1) ((x3).toNatClampNeg)) + x2))] [.inl x3, .inr (.inr 313)] h
        refine ia_go hK ck_Wa_survey_56 ?_
        show K 76 [some (.inr (.inr 311)), some (.inr (.inr a1)), some (.inl x2), some (.inl x3), some (.inl ((ia_i h (a1 + 1) ((x3).toNatClampNeg)) + x2))] [.inl 0, .inl x3, .inr (.inr 313)] h
        obtain ⟨c6, hm⟩ := ia_gd_some hm
        refine ia_go hK ck_Wa_survey_76 ⟨ga_s100 hg (ka_11_6 pk_311) c6, ?_⟩
        show K 18 [some (.inr (.inr 311)), some (.inr (.inr a1)), some (.inl x2), some (.inl (x3 + 1)), some (.inl ((ia_i h (a1 + 1) ((x3).toNatClampNeg)) + x2))] [] (ia_wI h 313 ((x3).toNatClampNeg) 0)
        refine ia_fg hK (lv' := [some (.inr (.inr 311)), some (.inr (.inr a1)), some (.inl x2), some (.inl (x3 + 1)), none]) ⟨rfl, rfl, rfl, rfl, trivial⟩ ?_
        exact ih (x3 + 1) (ia_wI h 313 ((x3).toNatClampNeg) 0) (gd_wI hg (kx_100 (ka_11_6 pk_311))) hm
theorem gl_Wa_survey_18 {w : ia_O0} {a1 : Nat} {x2 : Int32} (p1 : (kd_D a1).1 = 9) {h1 : ia_H} {k83 : ia_H → Option ia_H} (hk83 : ∀ (h : ia_H), gd_ w h → k83 h = some h1 → gd_ w h1) : ∀ (n : Nat) (x3 : Int32) (h : ia_H), gd_ w h → l_Wa_survey_18 a1 x2 k83 n x3 h = some h1 → gd_ w h1 := by
  intro n
  induction n with
  | zero =>
    intro x3 h hg hm
    cases (show (none : Option ia_H) = some _ from hm)
  | succ n ih =>
    intro x3 h hg hm
    rw [l_Wa_survey_18] at hm
    obtain ⟨v1, hv1, hm⟩ := ia_bnd hm
    by_cases c : v1 ≤ x3
    · replace hm := ia_ifp hm c
      exact hk83 h hg hm
    · replace hm := ia_ifn hm c
      obtain ⟨c2, hm⟩ := ia_gd_some hm
      by_cases c : (ia_i h (ia_r h 311 5) 0) ≤ ((ia_i h (a1 + 1) ((x3).toNatClampNeg)) + x2)
      · replace hm := ia_ifp hm c
        obtain ⟨v3, hv3, hm⟩ := ia_bnd hm
        obtain ⟨c4, hm⟩ := ia_gd_some hm
        obtain ⟨c5, hm⟩ := ia_gd_some hm
        exact ih (x3 + 1) (ia_wI h 313 ((x3).toNatClampNeg) (v3 - (ia_i h (a1 + 3) ((x3).toNatClampNeg)))) (gd_wI hg (kx_100 (ka_11_6 pk_311))) hm
      · replace hm := ia_ifn hm c
        obtain ⟨c6, hm⟩ := ia_gd_some hm
        exact ih (x3 + 1) (ia_wI h 313 ((x3).toNatClampNeg) 0) (gd_wI hg (kx_100 (ka_11_6 pk_311))) hm
def l_Wa_survey_85 (a1 : Nat) (x2 : Int32) (k123 : ia_H → Option ia_H) (n : Nat) (x3 : Int32) (h : ia_H) : Option ia_H := match n with
  | 0 => none
  | n + 1 => if (ia_i h (ia_r h 311 4) 11) ≤ x3 then (k123 h) else (ia_gd (ia_ib x3 6) (if (ia_i h (a1 + 5) ((x3).toNatClampNeg)) < 0 then (l_Wa_survey_85 a1 x2 k123 n (x3 + 1) h) else (ia_gd (ia_ib x3 6) (ia_gd (ia_ib (ia_i h (a1 + 5) ((x3).toNatClampNeg)) 36) (l_Wa_survey_85 a1 x2 k123 n (x3 + 1) (ia_wI h 313 ((ia_i h (a1 + 5) ((x3).toNatClampNeg)).toNatClampNeg) 0))))))
theorem tl_Wa_survey_85 {w : ia_O0} {d N1 W1 : Nat} {K : ia_K} (hK : ia_isK (d + 1) mm_Wa_survey N1 W1 K) {a1 : Nat} {x2 : Int32} (p1 : (kd_D a1).1 = 9) {h1 : ia_H} (hret : ∀ (pc : Nat) (lv : ia_L), ia_ret mm_Wa_survey pc none → K pc lv (none : Option ia_V).toList h1) {k123 : ia_H → Option ia_H} (hk123 : ∀ (h : ia_H), gd_ w h → k123 h = some h1 → K 123 [none, none, none, none, none] [] h) : ∀ (n : Nat) (x3 : Int32) (h : ia_H), gd_ w h → l_Wa_survey_85 a1 x2 k123 n x3 h = some h1 → K 85 [some (.inr (.inr 311)), some (.inr (.inr a1)), none, some (.inl x3), none] [] h := by
  intro n
  induction n with
  | zero =>
    intro x3 h hg hm
    cases (show (none : Option ia_H) = some _ from hm)
  | succ n ih =>
    intro x3 h hg hm
    rw [l_Wa_survey_85] at hm
    refine ia_go hK ck_Wa_survey_85 ⟨gk_11 hg pk_311, gk_3 hg (gm_11_4 hg pk_311), fun c => ?_, fun c => ?_⟩
    · replace hm := ia_ifp hm c
      show K 123 [some (.inr (.inr 311)), some (.inr (.inr a1)), none, some (.inl x3), none] [] h
      refine ia_fg hK (lv' := [none, none, none, none, none]) trivial ?_
      exact hk123 h hg hm
    · replace hm := ia_ifn hm c
      show K 96 [some (.inr (.inr 311)), some (.inr (.inr a1)), none, some (.inl x3), none] [] h
      obtain ⟨c7, hm⟩ := ia_gd_some hm
      refine ia_go hK ck_Wa_survey_96 ⟨gk_9 hg p1, gr_9_6 hg p1, ga_i100 hg (ka_9_6 p1) c7, fun c => ?_, fun c => ?_⟩
      · replace hm := ia_ifp hm c
        show K 117 [some (.inr (.inr 311)), some (.inr (.inr a1)), none, some (.inl x3), none] [] h
        refine ia_go hK ck_Wa_survey_117 ?_
        show K 85 [some (.inr (.inr 311)), some (.inr (.inr a1)), none, some (.inl (x3 + 1)), none] [] h
        exact ih (x3 + 1) h hg hm
      · replace hm := ia_ifn hm c
        show K 105 [some (.inr (.inr 311)), some (.inr (.inr a1)), none, some (.inl x3), none] [] h
        obtain ⟨c8, hm⟩ := ia_gd_some hm
        obtain ⟨c9, hm⟩ := ia_gd_some hm
        refine ia_go hK ck_Wa_survey_105 ⟨gk_11 hg pk_311, gr_11_6 hg pk_311, gk_9 hg p1, gr_9_6 hg p1, ga_i100 hg (ka_9_6 p1) c8, ga_s100 hg (ka_11_6 pk_311) c9, ?_⟩
        show K 85 [some (.inr (.inr 311)), some (.inr (.inr a1)), none, some (.inl (x3 + 1)), none] [] (ia_wI h 313 ((ia_i h (a1 + 5) ((x3).toNatClampNeg)).toNatClampNeg) 0)
        exact ih (x3 + 1) (ia_wI h 313 ((ia_i h (a1 + 5) ((x3).toNatClampNeg)).toNatClampNeg) 0) (gd_wI hg (kx_100 (ka_11_6 pk_311))) hm
theorem gl_Wa_survey_85 {w : ia_O0} {a1 : Nat} {x2 : Int32} (p1 : (kd_D a1).1 = 9) {h1 : ia_H} {k123 : ia_H → Option ia_H} (hk123 : ∀ (h : ia_H), gd_ w h → k123 h = some h1 → gd_ w h1) : ∀ (n : Nat) (x3 : Int32) (h : ia_H), gd_ w h → l_Wa_survey_85 a1 x2 k123 n x3 h = some h1 → gd_ w h1 := by
  intro n
  induction n with
  | zero =>
    intro x3 h hg hm
    cases (show (none : Option ia_H) = some _ from hm)
  | succ n ih =>
    intro x3 h hg hm
    rw [l_Wa_survey_85] at hm
    by_cases c : (ia_i h (ia_r h 311 4) 11) ≤ x3
    · replace hm := ia_ifp hm c
      exact hk123 h hg hm
    · replace hm := ia_ifn hm c
      obtain ⟨c7, hm⟩ := ia_gd_some hm
      by_cases c : (ia_i h (a1 + 5) ((x3).toNatClampNeg)) < 0
      · replace hm := ia_ifp hm c
        exact ih (x3 + 1) h hg hm
      · replace hm := ia_ifn hm c
        obtain ⟨c8, hm⟩ := ia_gd_some hm
        obtain ⟨c9, hm⟩ := ia_gd_some hm
        exact ih (x3 + 1) (ia_wI h 313 ((ia_i h (a1 + 5) ((x3).toNatClampNeg)).toNatClampNeg) 0) (gd_wI hg (kx_100 (ka_11_6 pk_311))) hm
def f_Wa_survey (a1 : Nat) (x2 : Int32) (h : ia_H) : Option ia_H := l_Wa_survey_18 a1 x2 (fun h => l_Wa_survey_85 a1 x2 (fun h => some h) fu_ 0 h) fu_ 0 (ia_wR (ia_wR h 311 4 (ia_r h a1 0)) 311 5 (ia_r (ia_wR h 311 4 (ia_r h a1 0)) a1 1))
theorem g_Wa_survey {w : ia_O0} {a1 : Nat} {x2 : Int32} {h : ia_H} (hg : gd_ w h) (p1 : (kd_D a1).1 = 9) {q : ia_H} (hm : f_Wa_survey a1 x2 h = some q) : gd_ w q := by
  obtain ⟨h1, e1⟩ : ∃ x, x = q := ⟨_, rfl⟩
  subst e1
  unfold f_Wa_survey at hm
  refine gl_Wa_survey_18 p1 ?_ fu_ 0 (ia_wR (ia_wR h 311 4 (ia_r h a1 0)) 311 5 (ia_r (ia_wR h 311 4 (ia_r h a1 0)) a1 1)) (gw_11_5 (gw_11_4 hg pk_311 (gm_9_0 hg p1)) pk_311 (gm_9_1 (gw_11_4 hg pk_311 (gm_9_0 hg p1)) p1)) hm
  · intro h hg hm
    refine gl_Wa_survey_85 p1 ?_ fu_ 0 h hg hm
    · intro h hg hm
      obtain rfl := Option.some.inj hm
      exact hg
theorem t_Wa_survey {w : ia_O0} (d : Nat) {a1 : Nat} {x2 : Int32} {h : ia_H} (hg : gd_ w h) (p1 : (kd_D a1).1 = 9) {q : ia_H} (hm : f_Wa_survey a1 x2 h = some q) : ia_Ev (d + 1) mm_Wa_survey [.inr (.inr 311), .inr (.inr a1), .inl x2] h none q := by
  have gq := g_Wa_survey hg p1 hm
  refine ia_Ev_intro ok_Wa_survey (gd_le hg gq).1 (gd_le hg gq).2 (Nat.le_of_ble_eq_true rfl) (fun K hK hret => ?_)
  obtain ⟨h1, e1⟩ : ∃ x, x = q := ⟨_, rfl⟩
  subst e1
  show K 0 [some (.inr (.inr 311)), some (.inr (.inr a1)), some (.inl x2), none, none] [] h
  unfold f_Wa_survey at hm
  refine ia_go hK ck_Wa_survey_0 ⟨gk_9 hg p1, gk_11 hg pk_311, gk_9 (gw_11_4 hg pk_311 (gm_9_0 hg p1)) p1, gk_11 (gw_11_4 hg pk_311 (gm_9_0 hg p1)) pk_311, ?_⟩
  show K 18 [some (.inr (.inr 311)), some (.inr (.inr a1)), some (.inl x2), some (.inl 0), none] [] (ia_wR (ia_wR h 311 4 (ia_r h a1 0)) 311 5 (ia_r (ia_wR h 311 4 (ia_r h a1 0)) a1 1))
  refine tl_Wa_survey_18 hK p1 hret ?_ fu_ 0 (ia_wR (ia_wR h 311 4 (ia_r h a1 0)) 311 5 (ia_r (ia_wR h 311 4 (ia_r h a1 0)) a1 1)) (gw_11_5 (gw_11_4 hg pk_311 (gm_9_0 hg p1)) pk_311 (gm_9_1 (gw_11_4 hg pk_311 (gm_9_0 hg p1)) p1)) hm
  · intro h hg hm
    refine ia_go hK ck_Wa_survey_83 ?_
    show K 85 [some (.inr (.inr 311)), some (.inr (.inr a1)), none, some (.inl 0), none] [] h
    refine tl_Wa_survey_85 hK p1 hret ?_ fu_ 0 h hg hm
    · intro h hg hm
      obtain rfl := Option.some.inj hm
      exact hret 123 _ dc_Wa_survey_123
def mm_Wa_surveyWithout : ia_M := (⟨"IceStreet$Ways", "surveyWithout", "(LIceStreet$Scene;I)V"⟩, prog_12_method_17_code, 4, none, 11, false)
theorem ok_Wa_surveyWithout : ia_mok mm_Wa_surveyWithout := ⟨by decide +kernel, by decide +kernel, by decide +kernel, by decide +kernel⟩
theorem mk_Wa_surveyWithout : ia_mkn mm_Wa_surveyWithout 1 2 := ⟨ia_tb_in (List.mem_of_getElem? (i := 1113) (by decide +kernel)) rfl, ia_tb_in (List.mem_of_getElem? (i := 141) (by decide +kernel)) rfl, by decide +kernel, by decide +kernel, ⟨ia_tb_in (List.mem_of_getElem? (i := 1112) (by decide +kernel)) rfl, ia_tb_in (List.mem_of_getElem? (i := 26) (by decide +kernel)) rfl⟩⟩
theorem ck_Wa_surveyWithout_0 : ia_cks 11 4 false prog_12_method_17_code 0 [(.aload_n 1, 0, 0, 0, 0), (.getfield 66, 9, 6, 3, 5), (.iload_n 2, 0, 0, 0, 0), (.iaload, 0, 0, 0, 0), (.istore_n 3, 0, 0, 0, 0), (.aload_n 1, 0, 0, 0, 0), (.iload_n 2, 0, 0, 0, 0), (.iconst (-1), 0, 0, 0, 0)] = true := by decide +kernel
theorem ck_Wa_surveyWithout_13 : ia_cks 11 4 false prog_12_method_17_code 13 [(.aload_n 0, 0, 0, 0, 0), (.aload_n 1, 0, 0, 0, 0), (.iconst 0, 0, 0, 0, 0)] = true := by decide +kernel
theorem ck_Wa_surveyWithout_19 : ia_cks 11 4 false prog_12_method_17_code 19 [(.aload_n 1, 0, 0, 0, 0), (.iload_n 2, 0, 0, 0, 0), (.iload_n 3, 0, 0, 0, 0)] = true := by decide +kernel
theorem dc_Wa_surveyWithout_10 : decode prog_12_method_17_code 10 = .ok (.invokevirtual 158, 3) := by decide +kernel
theorem dc_Wa_surveyWithout_16 : decode prog_12_method_17_code 16 = .ok (.invokevirtual 162, 3) := by decide +kernel
theorem dc_Wa_surveyWithout_22 : decode prog_12_method_17_code 22 = .ok (.invokevirtual 166, 3) := by decide +kernel
theorem dc_Wa_surveyWithout_25 : decode prog_12_method_17_code 25 = .ok (.return_, 1) := by decide +kernel
def f_Wa_surveyWithout (a1 : Nat) (x2 : Int32) (h : ia_H) : Option ia_H := ia_gd (ia_ib x2 6) ((f_Sc_lift a1 x2 (-1) h).bind fun v2 => ((f_Wa_survey a1 0 v2).bind fun v3 => ((f_Sc_lower a1 x2 (ia_i h (a1 + 5) ((x2).toNatClampNeg)) v3).bind fun v4 => (some v4))))
theorem g_Wa_surveyWithout {w : ia_O0} {a1 : Nat} {x2 : Int32} {h : ia_H} (hg : gd_ w h) (p1 : (kd_D a1).1 = 9) {q : ia_H} (hm : f_Wa_surveyWithout a1 x2 h = some q) : gd_ w q := by
  obtain ⟨h1, e1⟩ : ∃ x, x = q := ⟨_, rfl⟩
  subst e1
  unfold f_Wa_surveyWithout at hm
  obtain ⟨c1, hm⟩ := ia_gd_some hm
  obtain ⟨v2, hv2, hm⟩ := ia_bnd hm
  have gv2 := g_Sc_lift hg p1 hv2
  obtain ⟨v3, hv3, hm⟩ := ia_bnd hm
  have gv3 := g_Wa_survey gv2 p1 hv3
  obtain ⟨v4, hv4, hm⟩ := ia_bnd hm
  have gv4 := g_Sc_lower gv3 p1 hv4
  obtain rfl := Option.some.inj hm
  exact gv4
theorem t_Wa_surveyWithout {w : ia_O0} (d : Nat) {a1 : Nat} {x2 : Int32} {h : ia_H} (hg : gd_ w h) (p1 : (kd_D a1).1 = 9) {q : ia_H} (hm : f_Wa_surveyWithout a1 x2 h = some q) : ia_Ev (d + 2) mm_Wa_surveyWithout [.inr (.inr 311), .inr (.inr a1), .inl x2] h none q := by
  have gq := g_Wa_surveyWithout hg p1 hm
  refine ia_Ev_intro ok_Wa_surveyWithout (gd_le hg gq).1 (gd_le hg gq).2 (Nat.le_of_ble_eq_true rfl) (fun K hK hret => ?_)
  obtain ⟨h1, e1⟩ : ∃ x, x = q := ⟨_, rfl⟩
  subst e1
  show K 0 [some (.inr (.inr 311)), some (.inr (.inr a1)), some (.inl x2), none] [] h
  unfold f_Wa_surveyWithout at hm
  obtain ⟨c1, hm⟩ := ia_gd_some hm
  refine ia_go hK ck_Wa_surveyWithout_0 ⟨gk_9 hg p1, gr_9_6 hg p1, ga_i100 hg (ka_9_6 p1) c1, ?_⟩
  show K 10 [some (.inr (.inr 311)), some (.inr (.inr a1)), some (.inl x2), some (.inl (ia_i h (a1 + 5) ((x2).toNatClampNeg)))] [.inl (-1), .inl x2, .inr (.inr a1)] h
  obtain ⟨v2, hv2, hm⟩ := ia_bnd hm
  have ev2 := t_Sc_lift (d + 0) hg p1 hv2
  have gv2 := g_Sc_lift hg p1 hv2
  refine ia_cV hK mk_Sc_lift lk_11_158 dc_Wa_surveyWithout_10 a1 [.inl x2, .inl (-1)] [] rfl rfl (Nat.le_of_ble_eq_true rfl) (by decide) rfl (gk_9 hg p1) ev2 (gd_nm hg gv2) ?_
  show K 13 [some (.inr (.inr 311)), some (.inr (.inr a1)), some (.inl x2), some (.inl (ia_i h (a1 + 5) ((x2).toNatClampNeg)))] [] v2
  refine ia_go hK ck_Wa_surveyWithout_13 ?_
  show K 16 [some (.inr (.inr 311)), some (.inr (.inr a1)), some (.inl x2), some (.inl (ia_i h (a1 + 5) ((x2).toNatClampNeg)))] [.inl 0, .inr (.inr a1), .inr (.inr 311)] v2
  obtain ⟨v3, hv3, hm⟩ := ia_bnd hm
  have ev3 := t_Wa_survey (d + 0) gv2 p1 hv3
  have gv3 := g_Wa_survey gv2 p1 hv3
  refine ia_cV hK mk_Wa_survey lk_11_162 dc_Wa_surveyWithout_16 311 [.inr (.inr a1), .inl 0] [] rfl rfl (Nat.le_of_ble_eq_true rfl) (by decide) rfl (gk_11 gv2 pk_311) ev3 (gd_nm gv2 gv3) ?_
  show K 19 [some (.inr (.inr 311)), some (.inr (.inr a1)), some (.inl x2), some (.inl (ia_i h (a1 + 5) ((x2).toNatClampNeg)))] [] v3
  refine ia_go hK ck_Wa_surveyWithout_19 ?_
  show K 22 [some (.inr (.inr 311)), some (.inr (.inr a1)), some (.inl x2), some (.inl (ia_i h (a1 + 5) ((x2).toNatClampNeg)))] [.inl (ia_i h (a1 + 5) ((x2).toNatClampNeg)), .inl x2, .inr (.inr a1)] v3
  obtain ⟨v4, hv4, hm⟩ := ia_bnd hm
  have ev4 := t_Sc_lower (d + 0) gv3 p1 hv4
  have gv4 := g_Sc_lower gv3 p1 hv4
  refine ia_cV hK mk_Sc_lower lk_11_166 dc_Wa_surveyWithout_22 a1 [.inl x2, .inl (ia_i h (a1 + 5) ((x2).toNatClampNeg))] [] rfl rfl (Nat.le_of_ble_eq_true rfl) (by decide) rfl (gk_9 gv3 p1) ev4 (gd_nm gv3 gv4) ?_
  show K 25 [some (.inr (.inr 311)), some (.inr (.inr a1)), some (.inl x2), some (.inl (ia_i h (a1 + 5) ((x2).toNatClampNeg)))] [] v4
  obtain rfl := Option.some.inj hm
  exact hret 25 _ dc_Wa_surveyWithout_25
def mm_Wa_mayStep : ia_M := (⟨"IceStreet$Ways", "mayStep", "(II)Z"⟩, prog_12_method_3_code, 3, (some .boolean), 11, false)
theorem ok_Wa_mayStep : ia_mok mm_Wa_mayStep := ⟨by decide +kernel, by decide +kernel, by decide +kernel, by decide +kernel⟩
theorem mk_Wa_mayStep : ia_mkn mm_Wa_mayStep 1 2 := ⟨ia_tb_in (List.mem_of_getElem? (i := 1131) (by decide +kernel)) rfl, ia_tb_in (List.mem_of_getElem? (i := 141) (by decide +kernel)) rfl, by decide +kernel, by decide +kernel, ⟨ia_tb_in (List.mem_of_getElem? (i := 1130) (by decide +kernel)) rfl, ia_tb_in (List.mem_of_getElem? (i := 27) (by decide +kernel)) rfl⟩⟩
theorem ck_Wa_mayStep_0 : ia_cks 11 3 false prog_12_method_3_code 0 [(.aload_n 0, 0, 0, 0, 0), (.getfield 33, 11, 5, 2, 0), (.getfield 69, 4, 8, 3, 3), (.iload_n 1, 0, 0, 0, 0), (.laload, 0, 0, 0, 0), (.iload_n 2, 0, 0, 0, 0), (.lushr, 0, 0, 0, 0), (.lconst 1, 0, 0, 0, 0), (.land, 0, 0, 0, 0), (.lconst 0, 0, 0, 0, 0), (.lcmp, 0, 0, 0, 0), (.ifCond .ne 7, 0, 0, 0, 0)] = true := by decide +kernel
theorem ck_Wa_mayStep_22 : ia_cks 11 3 false prog_12_method_3_code 22 [(.iconst 0, 0, 0, 0, 0)] = true := by decide +kernel
theorem ck_Wa_mayStep_18 : ia_cks 11 3 false prog_12_method_3_code 18 [(.iconst 1, 0, 0, 0, 0), (.goto 4, 0, 0, 0, 0)] = true := by decide +kernel
theorem dc_Wa_mayStep_23 : decode prog_12_method_3_code 23 = .ok (.ireturn, 1) := by decide +kernel
def f_Wa_mayStep (x1 : Int32) (x2 : Int32) (h : ia_H) : Option Int32 := ia_gd (ia_ib x1 36) (if (lg_cmp ((((ia_l h ((ia_r h 311 5) + 3) ((x1).toNatClampNeg)).toUInt64 >>> (x2.toInt64.toUInt64 &&& Int64.toUInt64 63)).toInt64) &&& 1) 0) = 0 then (some 1) else (some 0))
theorem t_Wa_mayStep {w : ia_O0} (d : Nat) {x1 : Int32} {x2 : Int32} {h : ia_H} (hg : gd_ w h) {r : Int32} (hm : f_Wa_mayStep x1 x2 h = some r) : ia_Ev (d + 0) mm_Wa_mayStep [.inr (.inr 311), .inl x1, .inl x2] h (some (.inl r)) h := by
  refine ia_Ev_intro ok_Wa_mayStep (Nat.le_refl _) (Nat.le_refl _) (Nat.le_of_ble_eq_true rfl) (fun K hK hret => ?_)
  show K 0 [some (.inr (.inr 311)), some (.inl x1), some (.inl x2)] [] h
  unfold f_Wa_mayStep at hm
  obtain ⟨c1, hm⟩ := ia_gd_some hm
  refine ia_go hK ck_Wa_mayStep_0 ⟨gk_11 hg pk_311, gk_4 hg (gm_11_5 hg pk_311), gr_4_8 hg (gm_11_5 hg pk_311), ga_s103 hg (ka_4_8 (gm_11_5 hg pk_311)) c1, fun c => ?_, fun c => ?_⟩
  · replace hm := ia_ifn hm c
    show K 22 [some (.inr (.inr 311)), some (.inl x1), some (.inl x2)] [] h
    refine ia_go hK ck_Wa_mayStep_22 ?_
    show K 23 [some (.inr (.inr 311)), some (.inl x1), some (.inl x2)] [.inl 0] h
    obtain rfl := Option.some.inj hm
    exact hret 23 _ ⟨Or.inl rfl, dc_Wa_mayStep_23⟩
  · replace hm := ia_ifp hm c
    show K 18 [some (.inr (.inr 311)), some (.inl x1), some (.inl x2)] [] h
    refine ia_go hK ck_Wa_mayStep_18 ?_
    show K 23 [some (.inr (.inr 311)), some (.inl x1), some (.inl x2)] [.inl 1] h
    obtain rfl := Option.some.inj hm
    exact hret 23 _ ⟨Or.inr rfl, dc_Wa_mayStep_23⟩
def mm_Wa_reach : ia_M := (⟨"IceStreet$Ways", "reach", "(II)J"⟩, prog_12_method_15_code, 10, (some .long), 11, false)
theorem ok_Wa_reach : ia_mok mm_Wa_reach := ⟨by decide +kernel, by decide +kernel, by decide +kernel, by decide +kernel⟩
theorem mk_Wa_reach : ia_mkn mm_Wa_reach 1 2 := ⟨ia_tb_in (List.mem_of_getElem? (i := 1125) (by decide +kernel)) rfl, ia_tb_in (List.mem_of_getElem? (i := 141) (by decide +kernel)) rfl, by decide +kernel, by decide +kernel, ⟨ia_tb_in (List.mem_of_getElem? (i := 1123) (by decide +kernel)) rfl, ia_tb_in (List.mem_of_getElem? (i := 1124) (by decide +kernel)) rfl⟩⟩
theorem ck_Wa_reach_0 : ia_cks 11 10 false prog_12_method_15_code 0 [(.iload_n 2, 0, 0, 0, 0)] = true := by decide +kernel
theorem ck_Wa_reach_4 : ia_cks 11 10 false prog_12_method_15_code 4 [(.lstore_n 3, 0, 0, 0, 0), (.aload_n 0, 0, 0, 0, 0), (.getfield 21, 11, 8, 3, 4), (.iconst 0, 0, 0, 0, 0), (.iload_n 2, 0, 0, 0, 0), (.iastore, 0, 0, 0, 0), (.iconst 1, 0, 0, 0, 0), (.istore 5, 0, 0, 0, 0), (.iconst 0, 0, 0, 0, 0), (.istore 6, 0, 0, 0, 0)] = true := by decide +kernel
theorem ck_Wa_reach_18 : ia_cks 11 10 false prog_12_method_15_code 18 [(.iload 6, 0, 0, 0, 0), (.iload 5, 0, 0, 0, 0), (.if_icmp .ge 114, 0, 0, 0, 0)] = true := by decide +kernel
theorem ck_Wa_reach_25 : ia_cks 11 10 false prog_12_method_15_code 25 [(.iload 6, 0, 0, 0, 0), (.bipush 36, 0, 0, 0, 0), (.if_icmp .ge 107, 0, 0, 0, 0)] = true := by decide +kernel
theorem ck_Wa_reach_32 : ia_cks 11 10 false prog_12_method_15_code 32 [(.aload_n 0, 0, 0, 0, 0), (.getfield 21, 11, 8, 3, 4), (.iload 6, 0, 0, 0, 0), (.iaload, 0, 0, 0, 0), (.istore 7, 0, 0, 0, 0), (.iconst 0, 0, 0, 0, 0), (.istore 8, 0, 0, 0, 0)] = true := by decide +kernel
theorem ck_Wa_reach_44 : ia_cks 11 10 false prog_12_method_15_code 44 [(.iload 8, 0, 0, 0, 0), (.iconst 4, 0, 0, 0, 0), (.if_icmp .ge 83, 0, 0, 0, 0)] = true := by decide +kernel
theorem ck_Wa_reach_50 : ia_cks 11 10 false prog_12_method_15_code 50 [(.aload_n 0, 0, 0, 0, 0), (.getfield 29, 11, 4, 2, 0), (.getfield 94, 3, 16, 3, 10), (.iload 7, 0, 0, 0, 0), (.iconst 4, 0, 0, 0, 0), (.imul, 0, 0, 0, 0), (.iload 8, 0, 0, 0, 0), (.iadd, 0, 0, 0, 0), (.iaload, 0, 0, 0, 0), (.istore 9, 0, 0, 0, 0), (.iload 9, 0, 0, 0, 0), (.iconst (-1), 0, 0, 0, 0), (.if_icmp .eq 54, 0, 0, 0, 0)] = true := by decide +kernel
theorem ck_Wa_reach_124 : ia_cks 11 10 false prog_12_method_15_code 124 [(.iinc 8 1, 0, 0, 0, 0), (.goto (-83), 0, 0, 0, 0)] = true := by decide +kernel
theorem ck_Wa_reach_73 : ia_cks 11 10 false prog_12_method_15_code 73 [(.lload_n 3, 0, 0, 0, 0), (.iload 9, 0, 0, 0, 0)] = true := by decide +kernel
theorem ck_Wa_reach_79 : ia_cks 11 10 false prog_12_method_15_code 79 [(.ifCond .ne 45, 0, 0, 0, 0)] = true := by decide +kernel
theorem ck_Wa_reach_82 : ia_cks 11 10 false prog_12_method_15_code 82 [(.aload_n 0, 0, 0, 0, 0), (.getfield 15, 11, 6, 3, 2), (.iload 9, 0, 0, 0, 0), (.iaload, 0, 0, 0, 0), (.iload_n 1, 0, 0, 0, 0), (.if_icmp .lt 34, 0, 0, 0, 0)] = true := by decide +kernel
theorem ck_Wa_reach_93 : ia_cks 11 10 false prog_12_method_15_code 93 [(.aload_n 0, 0, 0, 0, 0), (.iload 7, 0, 0, 0, 0), (.iload 9, 0, 0, 0, 0)] = true := by decide +kernel
theorem ck_Wa_reach_101 : ia_cks 11 10 false prog_12_method_15_code 101 [(.ifCond .eq 23, 0, 0, 0, 0)] = true := by decide +kernel
theorem ck_Wa_reach_104 : ia_cks 11 10 false prog_12_method_15_code 104 [(.lload_n 3, 0, 0, 0, 0), (.iload 9, 0, 0, 0, 0)] = true := by decide +kernel
theorem ck_Wa_reach_110 : ia_cks 11 10 false prog_12_method_15_code 110 [(.lor, 0, 0, 0, 0), (.lstore_n 3, 0, 0, 0, 0), (.aload_n 0, 0, 0, 0, 0), (.getfield 21, 11, 8, 3, 4), (.iload 5, 0, 0, 0, 0), (.iinc 5 1, 0, 0, 0, 0), (.iload 9, 0, 0, 0, 0), (.iastore, 0, 0, 0, 0), (.iinc 8 1, 0, 0, 0, 0), (.goto (-83), 0, 0, 0, 0)] = true := by decide +kernel
theorem ck_Wa_reach_130 : ia_cks 11 10 false prog_12_method_15_code 130 [(.iinc 6 1, 0, 0, 0, 0), (.goto (-115), 0, 0, 0, 0)] = true := by decide +kernel
theorem ck_Wa_reach_136 : ia_cks 11 10 false prog_12_method_15_code 136 [(.lload_n 3, 0, 0, 0, 0), (.iload_n 2, 0, 0, 0, 0)] = true := by decide +kernel
theorem ck_Wa_reach_144 : ia_cks 11 10 false prog_12_method_15_code 144 [(.lxor, 0, 0, 0, 0), (.land, 0, 0, 0, 0)] = true := by decide +kernel
theorem dc_Wa_reach_1 : decode prog_12_method_15_code 1 = .ok (.invokestatic 142, 3) := by decide +kernel
theorem dc_Wa_reach_76 : decode prog_12_method_15_code 76 = .ok (.invokestatic 146, 3) := by decide +kernel
theorem dc_Wa_reach_98 : decode prog_12_method_15_code 98 = .ok (.invokevirtual 97, 3) := by decide +kernel
theorem dc_Wa_reach_107 : decode prog_12_method_15_code 107 = .ok (.invokestatic 142, 3) := by decide +kernel
theorem dc_Wa_reach_138 : decode prog_12_method_15_code 138 = .ok (.invokestatic 142, 3) := by decide +kernel
theorem dc_Wa_reach_141 : decode prog_12_method_15_code 141 = .ok (.ldc2_w 150, 3) := by decide +kernel
theorem dc_Wa_reach_146 : decode prog_12_method_15_code 146 = .ok (.lreturn, 1) := by decide +kernel
def l_Wa_reach_44 (x1 : Int32) (x2 : Int32) (k130 : Int64 → Int32 → Int32 → ia_H → Option (Int64 × ia_H)) (n : Nat) (y3 : Int64) (x5 : Int32) (x6 : Int32) (x7 : Int32) (x8 : Int32) (h : ia_H) : Option (Int64 × ia_H) := match n with
  | 0 => none
  | n + 1 => if 4 ≤ x8 then (k130 y3 x5 x6 h) else (ia_gd (ia_ib ((x7 * 4) + x8) 144) (if (ia_i h ((ia_r h 311 4) + 10) (((x7 * 4) + x8).toNatClampNeg)) = (-1) then (l_Wa_reach_44 x1 x2 k130 n y3 x5 x6 x7 (x8 + 1) h) else ((f_I_hasBit y3 (ia_i h ((ia_r h 311 4) + 10) (((x7 * 4) + x8).toNatClampNeg)) h).bind fun v4 => (if v4 = 0 then (ia_gd (ia_ib (ia_i h ((ia_r h 311 4) + 10) (((x7 * 4) + x8).toNatClampNeg)) 36) (if (ia_i h 313 ((ia_i h ((ia_r h 311 4) + 10) (((x7 * 4) + x8).toNatClampNeg)).toNatClampNeg)) < x1 then (l_Wa_reach_44 x1 x2 k130 n y3 x5 x6 x7 (x8 + 1) h) else ((f_Wa_mayStep x7 (ia_i h ((ia_r h 311 4) + 10) (((x7 * 4) + x8).toNatClampNeg)) h).bind fun v6 => (if v6 = 0 then (l_Wa_reach_44 x1 x2 k130 n y3 x5 x6 x7 (x8 + 1) h) else ((f_I_bit (ia_i h ((ia_r h 311 4) + 10) (((x7 * 4) + x8).toNatClampNeg)) h).bind fun v7 => (ia_gd (ia_ib x5 36) (l_Wa_reach_44 x1 x2 k130 n (y3 ||| v7) (x5 + 1) x6 x7 (x8 + 1) (ia_wI h 315 ((x5).toNatClampNeg) (ia_i h ((ia_r h 311 4) + 10) (((x7 * 4) + x8).toNatClampNeg)))))))))) else (l_Wa_reach_44 x1 x2 k130 n y3 x5 x6 x7 (x8 + 1) h)))))
theorem tl_Wa_reach_44 {w : ia_O0} {d N1 W1 : Nat} {K : ia_K} (hK : ia_isK (d + 1) mm_Wa_reach N1 W1 K) {x1 : Int32} {x2 : Int32} {r : Int64} {h1 : ia_H} (hret : ∀ (pc : Nat) (lv : ia_L), ia_ret mm_Wa_reach pc (some (.inr (.inl r))) → K pc lv ((some (.inr (.inl r))) : Option ia_V).toList h1) {k130 : Int64 → Int32 → Int32 → ia_H → Option (Int64 × ia_H)} (hk130 : ∀ (y3 : Int64) (x5 : Int32) (x6 : Int32) (h : ia_H), gd_ w h → k130 y3 x5 x6 h = some (r, h1) → K 130 [some (.inr (.inr 311)), some (.inl x1), some (.inl x2), some (.inr (.inl y3)), none, some (.inl x5), some (.inl x6), none, none, none] [] h) : ∀ (n : Nat) (y3 : Int64) (x5 : Int32) (x6 : Int32) (x7 : Int32) (x8 : Int32) (h : ia_H), gd_ w h → l_Wa_reach_44 x1 x2 k130 n y3 x5 x6 x7 x8 h = some (r, h1) → K 44 [some (.inr (.inr 311)), some (.inl x1), some (.inl x2), some (.inr (.inl y3)), none, some (.inl x5), some (.inl x6), some (.inl x7), some (.inl x8), none] [] h := by
  intro n
  induction n with
  | zero =>
    intro y3 x5 x6 x7 x8 h hg hm
    cases (show (none : Option (Int64 × ia_H)) = some _ from hm)
  | succ n ih =>
    intro y3 x5 x6 x7 x8 h hg hm
    rw [l_Wa_reach_44] at hm
    refine ia_go hK ck_Wa_reach_44 ⟨fun c => ?_, fun c => ?_⟩
    · replace hm := ia_ifp hm c
      show K 130 [some (.inr (.inr 311)), some (.inl x1), some (.inl x2), some (.inr (.inl y3)), none, some (.inl x5), some (.inl x6), some (.inl x7), some (.inl x8), none] [] h
      refine ia_fg hK (lv' := [some (.inr (.inr 311)), some (.inl x1), some (.inl x2), some (.inr (.inl y3)), none, some (.inl x5), some (.inl x6), none, none, none]) ⟨rfl, rfl, rfl, rfl, rfl, rfl, trivial⟩ ?_
      exact hk130 y3 x5 x6 h hg hm
    · replace hm := ia_ifn hm c
      show K 50 [some (.inr (.inr 311)), some (.inl x1), some (.inl x2), some (.inr (.inl y3)), none, some (.inl x5), some (.inl x6), some (.inl x7), some (.inl x8), none] [] h
      obtain ⟨c3, hm⟩ := ia_gd_some hm
      refine ia_go hK ck_Wa_reach_50 ⟨gk_11 hg pk_311, gk_3 hg (gm_11_4 hg pk_311), gr_3_16 hg (gm_11_4 hg pk_311), ga_i100 hg (ka_3_16 (gm_11_4 hg pk_311)) c3, fun c => ?_, fun c => ?_⟩
      · replace hm := ia_ifp hm c
        show K 124 [some (.inr (.inr 311)), some (.inl x1), some (.inl x2), some (.inr (.inl y3)), none, some (.inl x5), some (.inl x6), some (.inl x7), some (.inl x8), some (.inl (ia_i h ((ia_r h 311 4) + 10) (((x7 * 4) + x8).toNatClampNeg)))] [] h
        refine ia_go hK ck_Wa_reach_124 ?_
        show K 44 [some (.inr (.inr 311)), some (.inl x1), some (.inl x2), some (.inr (.inl y3)), none, some (.inl x5), some (.inl x6), some (.inl x7), some (.inl (x8 + 1)), some (.inl (ia_i h ((ia_r h 311 4) + 10) (((x7 * 4) + x8).toNatClampNeg)))] [] h
        refine ia_fg hK (lv' := [some (.inr (.inr 311)), some (.inl x1), some (.inl x2), some (.inr (.inl y3)), none, some (.inl x5), some (.inl x6), some (.inl x7), some (.inl (x8 + 1)), none]) ⟨rfl, rfl, rfl, rfl, rfl, rfl, rfl, rfl, trivial⟩ ?_
        exact ih y3 x5 x6 x7 (x8 + 1) h hg hm
      · replace hm := ia_ifn hm c
        show K 73 [some (.inr (.inr 311)), some (.inl x1), some (.inl x2), some (.inr (.inl y3)), none, some (.inl x5), some (.inl x6), some (.inl x7), some (.inl x8), some (.inl (ia_i h ((ia_r h 311 4) + 10) (((x7 * 4) + x8).toNatClampNeg)))] [] h
        refine ia_go hK ck_Wa_reach_73 ?_
        show K 76 [some (.inr (.inr 311)), some (.inl x1), some (.inl x2), some (.inr (.inl y3)), none, some (.inl x5), some (.inl x6), some (.inl x7), some (.inl x8), some (.inl (ia_i h ((ia_r h 311 4) + 10) (((x7 * 4) + x8).toNatClampNeg)))] [.inl (ia_i h ((ia_r h 311 4) + 10) (((x7 * 4) + x8).toNatClampNeg)), .inr (.inl y3)] h
        obtain ⟨v4, hv4, hm⟩ := ia_bnd hm
        have ev4 := t_I_hasBit (d + 0) hg hv4
        refine ia_cS hK mk_I_hasBit lk_11_146 dc_Wa_reach_76 [.inr (.inl y3), .inl (ia_i h ((ia_r h 311 4) + 10) (((x7 * 4) + x8).toNatClampNeg))] [] rfl rfl (Nat.le_of_ble_eq_true rfl) ev4 ⟨rfl, rfl⟩ ?_
        show K 79 [some (.inr (.inr 311)), some (.inl x1), some (.inl x2), some (.inr (.inl y3)), none, some (.inl x5), some (.inl x6), some (.inl x7), some (.inl x8), some (.inl (ia_i h ((ia_r h 311 4) + 10) (((x7 * 4) + x8).toNatClampNeg)))] [.inl v4] h
        refine ia_go hK ck_Wa_reach_79 ⟨fun c => ?_, fun c => ?_⟩
        · replace hm := ia_ifn hm c
          show K 124 [some (.inr (.inr 311)), some (.inl x1), some (.inl x2), some (.inr (.inl y3)), none, some (.inl x5), some (.inl x6), some (.inl x7), some (.inl x8), some (.inl (ia_i h ((ia_r h 311 4) + 10) (((x7 * 4) + x8).toNatClampNeg)))] [] h
          refine ia_go hK ck_Wa_reach_124 ?_
          show K 44 [some (.inr (.inr 311)), some (.inl x1), some (.inl x2), some (.inr (.inl y3)), none, some (.inl x5), some (.inl x6), some (.inl x7), some (.inl (x8 + 1)), some (.inl (ia_i h ((ia_r h 311 4) + 10) (((x7 * 4) + x8).toNatClampNeg)))] [] h
          refine ia_fg hK (lv' := [some (.inr (.inr 311)), some (.inl x1), some (.inl x2), some (.inr (.inl y3)), none, some (.inl x5), some (.inl x6), some (.inl x7), some (.inl (x8 + 1)), none]) ⟨rfl, rfl, rfl, rfl, rfl, rfl, rfl, rfl, trivial⟩ ?_
          exact ih y3 x5 x6 x7 (x8 + 1) h hg hm
        · replace hm := ia_ifp hm c
          show K 82 [some (.inr (.inr 311)), some (.inl x1), some (.inl x2), some (.inr (.inl y3)), none, some (.inl x5), some (.inl x6), some (.inl x7), some (.inl x8), some (.inl (ia_i h ((ia_r h 311 4) + 10) (((x7 * 4) + x8).toNatClampNeg)))] [] h
          obtain ⟨c5, hm⟩ := ia_gd_some hm
          refine ia_go hK ck_Wa_reach_82 ⟨gk_11 hg pk_311, gr_11_6 hg pk_311, ga_i100 hg (ka_11_6 pk_311) c5, fun c => ?_, fun c => ?_⟩
          · replace hm := ia_ifp hm c
            show K 124 [some (.inr (.inr 311)), some (.inl x1), some (.inl x2), some (.inr (.inl y3)), none, some (.inl x5), some (.inl x6), some (.inl x7), some (.inl x8), some (.inl (ia_i h ((ia_r h 311 4) + 10) (((x7 * 4) + x8).toNatClampNeg)))] [] h
            refine ia_go hK ck_Wa_reach_124 ?_
            show K 44 [some (.inr (.inr 311)), some (.inl x1), some (.inl x2), some (.inr (.inl y3)), none, some (.inl x5), some (.inl x6), some (.inl x7), some (.inl (x8 + 1)), some (.inl (ia_i h ((ia_r h 311 4) + 10) (((x7 * 4) + x8).toNatClampNeg)))] [] h
            refine ia_fg hK (lv' := [some (.inr (.inr 311)), some (.inl x1), some (.inl x2), some (.inr (.inl y3)), none, some (.inl x5), some (.inl x6), some (.inl x7), some (.inl (x8 + 1)), none]) ⟨rfl, rfl, rfl, rfl, rfl, rfl, rfl, rfl, trivial⟩ ?_
            exact ih y3 x5 x6 x7 (x8 + 1) h hg hm
          · replace hm := ia_ifn hm c
            show K 93 [some (.inr (.inr 311)), some (.inl x1), some (.inl x2), some (.inr (.inl y3)), none, some (.inl x5), some (.inl x6), some (.inl x7), some (.inl x8), some (.inl (ia_i h ((ia_r h 311 4) + 10) (((x7 * 4) + x8).toNatClampNeg)))] [] h
            refine ia_go hK ck_Wa_reach_93 ?_
            show K 98 [some (.inr (.inr 311)), some (.inl x1), some (.inl x2), some (.inr (.inl y3)), none, some (.inl x5), some (.inl x6), some (.inl x7), some (.inl x8), some (.inl (ia_i h ((ia_r h 311 4) + 10) (((x7 * 4) + x8).toNatClampNeg)))] [.inl (ia_i h ((ia_r h 311 4) + 10) (((x7 * 4) + x8).toNatClampNeg)), .inl x7, .inr (.inr 311)] h
            obtain ⟨v6, hv6, hm⟩ := ia_bnd hm
            have ev6 := t_Wa_mayStep (d + 0) hg hv6
            refine ia_cV hK mk_Wa_mayStep lk_11_97 dc_Wa_reach_98 311 [.inl x7, .inl (ia_i h ((ia_r h 311 4) + 10) (((x7 * 4) + x8).toNatClampNeg))] [] rfl rfl (Nat.le_of_ble_eq_true rfl) (by decide) rfl (gk_11 hg pk_311) ev6 ⟨rfl, rfl⟩ ?_
            show K 101 [some (.inr (.inr 311)), some (.inl x1), some (.inl x2), some (.inr (.inl y3)), none, some (.inl x5), some (.inl x6), some (.inl x7), some (.inl x8), some (.inl (ia_i h ((ia_r h 311 4) + 10) (((x7 * 4) + x8).toNatClampNeg)))] [.inl v6] h
            refine ia_go hK ck_Wa_reach_101 ⟨fun c => ?_, fun c => ?_⟩
            · replace hm := ia_ifp hm c
              show K 124 [some (.inr (.inr 311)), some (.inl x1), some (.inl x2), some (.inr (.inl y3)), none, some (.inl x5), some (.inl x6), some (.inl x7), some (.inl x8), some (.inl (ia_i h ((ia_r h 311 4) + 10) (((x7 * 4) + x8).toNatClampNeg)))] [] h
              refine ia_go hK ck_Wa_reach_124 ?_
              show K 44 [some (.inr (.inr 311)), some (.inl x1), some (.inl x2), some (.inr (.inl y3)), none, some (.inl x5), some (.inl x6), some (.inl x7), some (.inl (x8 + 1)), some (.inl (ia_i h ((ia_r h 311 4) + 10) (((x7 * 4) + x8).toNatClampNeg)))] [] h
              refine ia_fg hK (lv' := [some (.inr (.inr 311)), some (.inl x1), some (.inl x2), some (.inr (.inl y3)), none, some (.inl x5), some (.inl x6), some (.inl x7), some (.inl (x8 + 1)), none]) ⟨rfl, rfl, rfl, rfl, rfl, rfl, rfl, rfl, trivial⟩ ?_
              exact ih y3 x5 x6 x7 (x8 + 1) h hg hm
            · replace hm := ia_ifn hm c
              show K 104 [some (.inr (.inr 311)), some (.inl x1), some (.inl x2), some (.inr (.inl y3)), none, some (.inl x5), some (.inl x6), some (.inl x7), some (.inl x8), some (.inl (ia_i h ((ia_r h 311 4) + 10) (((x7 * 4) + x8).toNatClampNeg)))] [] h
              refine ia_go hK ck_Wa_reach_104 ?_
              show K 107 [some (.inr (.inr 311)), some (.inl x1), some (.inl x2), some (.inr (.inl y3)), none, some (.inl x5), some (.inl x6), some (.inl x7), some (.inl x8), some (.inl (ia_i h ((ia_r h 311 4) + 10) (((x7 * 4) + x8).toNatClampNeg)))] [.inl (ia_i h ((ia_r h 311 4) + 10) (((x7 * 4) + x8).toNatClampNeg)), .inr (.inl y3)] h
              obtain ⟨v7, hv7, hm⟩ := ia_bnd hm
              have ev7 := t_I_bit (d + 0) hg hv7
              refine ia_cS hK mk_I_bit lk_11_142 dc_Wa_reach_107 [.inl (ia_i h ((ia_r h 311 4) + 10) (((x7 * 4) + x8).toNatClampNeg))] [.inr (.inl y3)] rfl rfl (Nat.le_of_ble_eq_true rfl) ev7 ⟨rfl, rfl⟩ ?_
              show K 110 [some (.inr (.inr 311)), some (.inl x1), some (.inl x2), some (.inr (.inl y3)), none, some (.inl x5), some (.inl x6), some (.inl x7), some (.inl x8), some (.inl (ia_i h ((ia_r h 311 4) + 10) (((x7 * 4) + x8).toNatClampNeg)))] [.inr (.inl v7), .inr (.inl y3)] h
              obtain ⟨c8, hm⟩ := ia_gd_some hm
              refine ia_go hK ck_Wa_reach_110 ⟨gk_11 hg pk_311, gr_11_8 hg pk_311, ga_s100 hg (ka_11_8 pk_311) c8, ?_⟩
              show K 44 [some (.inr (.inr 311)), some (.inl x1), some (.inl x2), some (.inr (.inl (y3 ||| v7))), none, some (.inl (x5 + 1)), some (.inl x6), some (.inl x7), some (.inl (x8 + 1)), some (.inl (ia_i h ((ia_r h 311 4) + 10) (((x7 * 4) + x8).toNatClampNeg)))] [] (ia_wI h 315 ((x5).toNatClampNeg) (ia_i h ((ia_r h 311 4) + 10) (((x7 * 4) + x8).toNatClampNeg)))
              refine ia_fg hK (lv' := [some (.inr (.inr 311)), some (.inl x1), some (.inl x2), some (.inr (.inl (y3 ||| v7))), none, some (.inl (x5 + 1)), some (.inl x6), some (.inl x7), some (.inl (x8 + 1)), none]) ⟨rfl, rfl, rfl, rfl, rfl, rfl, rfl, rfl, trivial⟩ ?_
              exact ih (y3 ||| v7) (x5 + 1) x6 x7 (x8 + 1) (ia_wI h 315 ((x5).toNatClampNeg) (ia_i h ((ia_r h 311 4) + 10) (((x7 * 4) + x8).toNatClampNeg))) (gd_wI hg (kx_100 (ka_11_8 pk_311))) hm
theorem gl_Wa_reach_44 {w : ia_O0} {x1 : Int32} {x2 : Int32} {r : Int64} {h1 : ia_H} {k130 : Int64 → Int32 → Int32 → ia_H → Option (Int64 × ia_H)} (hk130 : ∀ (y3 : Int64) (x5 : Int32) (x6 : Int32) (h : ia_H), gd_ w h → k130 y3 x5 x6 h = some (r, h1) → gd_ w h1) : ∀ (n : Nat) (y3 : Int64) (x5 : Int32) (x6 : Int32) (x7 : Int32) (x8 : Int32) (h : ia_H), gd_ w h → l_Wa_reach_44 x1 x2 k130 n y3 x5 x6 x7 x8 h = some (r, h1) → gd_ w h1 := by
  intro n
  induction n with
  | zero =>
    intro y3 x5 x6 x7 x8 h hg hm
    cases (show (none : Option (Int64 × ia_H)) = some _ from hm)
  | succ n ih =>
    intro y3 x5 x6 x7 x8 h hg hm
    rw [l_Wa_reach_44] at hm
    by_cases c : 4 ≤ x8
    · replace hm := ia_ifp hm c
      exact hk130 y3 x5 x6 h hg hm
    · replace hm := ia_ifn hm c
      obtain ⟨c3, hm⟩ := ia_gd_some hm
      by_cases c : (ia_i h ((ia_r h 311 4) + 10) (((x7 * 4) + x8).toNatClampNeg)) = (-1)
      · replace hm := ia_ifp hm c
        exact ih y3 x5 x6 x7 (x8 + 1) h hg hm
      · replace hm := ia_ifn hm c
        obtain ⟨v4, hv4, hm⟩ := ia_bnd hm
        by_cases c : v4 = 0
        · replace hm := ia_ifp hm c
          obtain ⟨c5, hm⟩ := ia_gd_some hm
          by_cases c : (ia_i h 313 ((ia_i h ((ia_r h 311 4) + 10) (((x7 * 4) + x8).toNatClampNeg)).toNatClampNeg)) < x1
          · replace hm := ia_ifp hm c
            exact ih y3 x5 x6 x7 (x8 + 1) h hg hm
          · replace hm := ia_ifn hm c
            obtain ⟨v6, hv6, hm⟩ := ia_bnd hm
            by_cases c : v6 = 0
            · replace hm := ia_ifp hm c
              exact ih y3 x5 x6 x7 (x8 + 1) h hg hm
            · replace hm := ia_ifn hm c
              obtain ⟨v7, hv7, hm⟩ := ia_bnd hm
              obtain ⟨c8, hm⟩ := ia_gd_some hm
              exact ih (y3 ||| v7) (x5 + 1) x6 x7 (x8 + 1) (ia_wI h 315 ((x5).toNatClampNeg) (ia_i h ((ia_r h 311 4) + 10) (((x7 * 4) + x8).toNatClampNeg))) (gd_wI hg (kx_100 (ka_11_8 pk_311))) hm
        · replace hm := ia_ifn hm c
          exact ih y3 x5 x6 x7 (x8 + 1) h hg hm
def l_Wa_reach_18 (x1 : Int32) (x2 : Int32) (k136 : Int64 → ia_H → Option (Int64 × ia_H)) (n : Nat) (y3 : Int64) (x5 : Int32) (x6 : Int32) (h : ia_H) : Option (Int64 × ia_H) := match n with
  | 0 => none
  | n + 1 => if x5 ≤ x6 then (k136 y3 h) else (if 36 ≤ x6 then (k136 y3 h) else (ia_gd (ia_ib x6 36) (l_Wa_reach_44 x1 x2 (fun y3 x5 x6 h => l_Wa_reach_18 x1 x2 k136 n y3 x5 (x6 + 1) h) fu_ y3 x5 x6 (ia_i h 315 ((x6).toNatClampNeg)) 0 h)))
theorem tl_Wa_reach_18 {w : ia_O0} {d N1 W1 : Nat} {K : ia_K} (hK : ia_isK (d + 1) mm_Wa_reach N1 W1 K) {x1 : Int32} {x2 : Int32} {r : Int64} {h1 : ia_H} (hret : ∀ (pc : Nat) (lv : ia_L), ia_ret mm_Wa_reach pc (some (.inr (.inl r))) → K pc lv ((some (.inr (.inl r))) : Option ia_V).toList h1) {k136 : Int64 → ia_H → Option (Int64 × ia_H)} (hk136 : ∀ (y3 : Int64) (h : ia_H), gd_ w h → k136 y3 h = some (r, h1) → K 136 [none, none, some (.inl x2), some (.inr (.inl y3)), none, none, none, none, none, none] [] h) : ∀ (n : Nat) (y3 : Int64) (x5 : Int32) (x6 : Int32) (h : ia_H), gd_ w h → l_Wa_reach_18 x1 x2 k136 n y3 x5 x6 h = some (r, h1) → K 18 [some (.inr (.inr 311)), some (.inl x1), some (.inl x2), some (.inr (.inl y3)), none, some (.inl x5), some (.inl x6), none, none, none] [] h := by
  intro n
  induction n with
  | zero =>
    intro y3 x5 x6 h hg hm
    cases (show (none : Option (Int64 × ia_H)) = some _ from hm)
  | succ n ih =>
    intro y3 x5 x6 h hg hm
    rw [l_Wa_reach_18] at hm
    refine ia_go hK ck_Wa_reach_18 ⟨fun c => ?_, fun c => ?_⟩
    · replace hm := ia_ifp hm c
      show K 136 [some (.inr (.inr 311)), some (.inl x1), some (.inl x2), some (.inr (.inl y3)), none, some (.inl x5), some (.inl x6), none, none, none] [] h
      refine ia_fg hK (lv' := [none, none, some (.inl x2), some (.inr (.inl y3)), none, none, none, none, none, none]) ⟨rfl, rfl, trivial⟩ ?_
      exact hk136 y3 h hg hm
    · replace hm := ia_ifn hm c
      show K 25 [some (.inr (.inr 311)), some (.inl x1), some (.inl x2), some (.inr (.inl y3)), none, some (.inl x5), some (.inl x6), none, none, none] [] h
      refine ia_go hK ck_Wa_reach_25 ⟨fun c => ?_, fun c => ?_⟩
      · replace hm := ia_ifp hm c
        show K 136 [some (.inr (.inr 311)), some (.inl x1), some (.inl x2), some (.inr (.inl y3)), none, some (.inl x5), some (.inl x6), none, none, none] [] h
        refine ia_fg hK (lv' := [none, none, some (.inl x2), some (.inr (.inl y3)), none, none, none, none, none, none]) ⟨rfl, rfl, trivial⟩ ?_
        exact hk136 y3 h hg hm
      · replace hm := ia_ifn hm c
        show K 32 [some (.inr (.inr 311)), some (.inl x1), some (.inl x2), some (.inr (.inl y3)), none, some (.inl x5), some (.inl x6), none, none, none] [] h
        obtain ⟨c2, hm⟩ := ia_gd_some hm
        refine ia_go hK ck_Wa_reach_32 ⟨gk_11 hg pk_311, gr_11_8 hg pk_311, ga_i100 hg (ka_11_8 pk_311) c2, ?_⟩
        show K 44 [some (.inr (.inr 311)), some (.inl x1), some (.inl x2), some (.inr (.inl y3)), none, some (.inl x5), some (.inl x6), some (.inl (ia_i h 315 ((x6).toNatClampNeg))), some (.inl 0), none] [] h
        refine tl_Wa_reach_44 hK hret ?_ fu_ y3 x5 x6 (ia_i h 315 ((x6).toNatClampNeg)) 0 h hg hm
        · intro y3 x5 x6 h hg hm
          refine ia_go hK ck_Wa_reach_130 ?_
          show K 18 [some (.inr (.inr 311)), some (.inl x1), some (.inl x2), some (.inr (.inl y3)), none, some (.inl x5), some (.inl (x6 + 1)), none, none, none] [] h
          exact ih y3 x5 (x6 + 1) h hg hm
theorem gl_Wa_reach_18 {w : ia_O0} {x1 : Int32} {x2 : Int32} {r : Int64} {h1 : ia_H} {k136 : Int64 → ia_H → Option (Int64 × ia_H)} (hk136 : ∀ (y3 : Int64) (h : ia_H), gd_ w h → k136 y3 h = some (r, h1) → gd_ w h1) : ∀ (n : Nat) (y3 : Int64) (x5 : Int32) (x6 : Int32) (h : ia_H), gd_ w h → l_Wa_reach_18 x1 x2 k136 n y3 x5 x6 h = some (r, h1) → gd_ w h1 := by
  intro n
  induction n with
  | zero =>
    intro y3 x5 x6 h hg hm
    cases (show (none : Option (Int64 × ia_H)) = some _ from hm)
  | succ n ih =>
    intro y3 x5 x6 h hg hm
    rw [l_Wa_reach_18] at hm
    by_cases c : x5 ≤ x6
    · replace hm := ia_ifp hm c
      exact hk136 y3 h hg hm
    · replace hm := ia_ifn hm c
      by_cases c : 36 ≤ x6
      · replace hm := ia_ifp hm c
        exact hk136 y3 h hg hm
      · replace hm := ia_ifn hm c
        obtain ⟨c2, hm⟩ := ia_gd_some hm
        refine gl_Wa_reach_44 ?_ fu_ y3 x5 x6 (ia_i h 315 ((x6).toNatClampNeg)) 0 h hg hm
        · intro y3 x5 x6 h hg hm
          exact ih y3 x5 (x6 + 1) h hg hm
def j_Wa_reach_136 (x1 : Int32) (x2 : Int32) (y3 : Int64) (h : ia_H) : Option (Int64 × ia_H) := (f_I_bit x2 h).bind fun v9 => (some (y3 &&& (v9 ^^^ (-1)), h))
theorem tj_Wa_reach_136 {w : ia_O0} {d N1 W1 : Nat} {K : ia_K} (hK : ia_isK (d + 1) mm_Wa_reach N1 W1 K) {x1 : Int32} {x2 : Int32} {r : Int64} {h1 : ia_H} (hret : ∀ (pc : Nat) (lv : ia_L), ia_ret mm_Wa_reach pc (some (.inr (.inl r))) → K pc lv ((some (.inr (.inl r))) : Option ia_V).toList h1) : ∀ (y3 : Int64) (h : ia_H), gd_ w h → j_Wa_reach_136 x1 x2 y3 h = some (r, h1) → K 136 [none, none, some (.inl x2), some (.inr (.inl y3)), none, none, none, none, none, none] [] h := by
  intro y3 h hg hm
  unfold j_Wa_reach_136 at hm
  refine ia_go hK ck_Wa_reach_136 ?_
  show K 138 [none, none, some (.inl x2), some (.inr (.inl y3)), none, none, none, none, none, none] [.inl x2, .inr (.inl y3)] h
  obtain ⟨v9, hv9, hm⟩ := ia_bnd hm
  have ev9 := t_I_bit (d + 0) hg hv9
  refine ia_cS hK mk_I_bit lk_11_142 dc_Wa_reach_138 [.inl x2] [.inr (.inl y3)] rfl rfl (Nat.le_of_ble_eq_true rfl) ev9 ⟨rfl, rfl⟩ ?_
  show K 141 [none, none, some (.inl x2), some (.inr (.inl y3)), none, none, none, none, none, none] [.inr (.inl v9), .inr (.inl y3)] h
  refine ia_ldc2 hK (v := (-1)) (ia_tb_in (List.mem_of_getElem? (i := 1132) (by decide +kernel)) rfl) dc_Wa_reach_141 ?_
  show K 144 [none, none, some (.inl x2), some (.inr (.inl y3)), none, none, none, none, none, none] [.inr (.inl (-1)), .inr (.inl v9), .inr (.inl y3)] h
  refine ia_go hK ck_Wa_reach_144 ?_
  show K 146 [none, none, some (.inl x2), some (.inr (.inl y3)), none, none, none, none, none, none] [.inr (.inl (y3 &&& (v9 ^^^ (-1))))] h
  obtain ⟨rfl, rfl⟩ := Prod.mk.inj (Option.some.inj hm)
  exact hret 146 _ dc_Wa_reach_146
theorem gj_Wa_reach_136 {w : ia_O0} {x1 : Int32} {x2 : Int32} {r : Int64} {h1 : ia_H} : ∀ (y3 : Int64) (h : ia_H), gd_ w h → j_Wa_reach_136 x1 x2 y3 h = some (r, h1) → gd_ w h1 := by
  intro y3 h hg hm
  unfold j_Wa_reach_136 at hm
  obtain ⟨v9, hv9, hm⟩ := ia_bnd hm
  obtain ⟨rfl, rfl⟩ := Prod.mk.inj (Option.some.inj hm)
  exact hg
def f_Wa_reach (x1 : Int32) (x2 : Int32) (h : ia_H) : Option (Int64 × ia_H) := (f_I_bit x2 h).bind fun v1 => (l_Wa_reach_18 x1 x2 (fun y3 h => j_Wa_reach_136 x1 x2 y3 h) fu_ v1 1 0 (ia_wI h 315 0 x2))
theorem g_Wa_reach {w : ia_O0} {x1 : Int32} {x2 : Int32} {h : ia_H} (hg : gd_ w h) {q : (Int64 × ia_H)} (hm : f_Wa_reach x1 x2 h = some q) : gd_ w q.2 := by
  obtain ⟨r, h1⟩ := q
  unfold f_Wa_reach at hm
  obtain ⟨v1, hv1, hm⟩ := ia_bnd hm
  refine gl_Wa_reach_18 ?_ fu_ v1 1 0 (ia_wI h 315 0 x2) (gd_wI hg (kx_100 (ka_11_8 pk_311))) hm
  · intro y3 h hg hm
    exact gj_Wa_reach_136 y3 h hg hm
theorem t_Wa_reach {w : ia_O0} (d : Nat) {x1 : Int32} {x2 : Int32} {h : ia_H} (hg : gd_ w h) {q : (Int64 × ia_H)} (hm : f_Wa_reach x1 x2 h = some q) : ia_Ev (d + 1) mm_Wa_reach [.inr (.inr 311), .inl x1, .inl x2] h (some (.inr (.inl q.1))) q.2 := by
  have gq := g_Wa_reach hg hm
  refine ia_Ev_intro ok_Wa_reach (gd_le hg gq).1 (gd_le hg gq).2 (Nat.le_of_ble_eq_true rfl) (fun K hK hret => ?_)
  obtain ⟨r, h1⟩ := q
  show K 0 [some (.inr (.inr 311)), some (.inl x1), some (.inl x2), none, none, none, none, none, none, none] [] h
  unfold f_Wa_reach at hm
  refine ia_go hK ck_Wa_reach_0 ?_
  show K 1 [some (.inr (.inr 311)), some (.inl x1), some (.inl x2), none, none, none, none, none, none, none] [.inl x2] h
  obtain ⟨v1, hv1, hm⟩ := ia_bnd hm
  have ev1 := t_I_bit (d + 0) hg hv1
  refine ia_cS hK mk_I_bit lk_11_142 dc_Wa_reach_1 [.inl x2] [] rfl rfl (Nat.le_of_ble_eq_true rfl) ev1 ⟨rfl, rfl⟩ ?_
  show K 4 [some (.inr (.inr 311)), some (.inl x1), some (.inl x2), none, none, none, none, none, none, none] [.inr (.inl v1)] h
  refine ia_go hK ck_Wa_reach_4 ⟨gk_11 hg pk_311, gr_11_8 hg pk_311, ga_s100 hg (ka_11_8 pk_311) (by decide), ?_⟩
  show K 18 [some (.inr (.inr 311)), some (.inl x1), some (.inl x2), some (.inr (.inl v1)), none, some (.inl 1), some (.inl 0), none, none, none] [] (ia_wI h 315 0 x2)
  refine tl_Wa_reach_18 hK hret ?_ fu_ v1 1 0 (ia_wI h 315 0 x2) (gd_wI hg (kx_100 (ka_11_8 pk_311))) hm
  · intro y3 h hg hm
    exact tj_Wa_reach_136 hK hret y3 h hg hm
def mm_Sc_isTooHot : ia_M := (⟨"IceStreet$Scene", "isTooHot", "(II)Z"⟩, prog_10_method_25_code, 4, (some .boolean), 9, false)
theorem ok_Sc_isTooHot : ia_mok mm_Sc_isTooHot := ⟨by decide +kernel, by decide +kernel, by decide +kernel, by decide +kernel⟩
theorem mk_Sc_isTooHot : ia_mkn mm_Sc_isTooHot 1 2 := ⟨ia_tb_in (List.mem_of_getElem? (i := 1136) (by decide +kernel)) rfl, ia_tb_in (List.mem_of_getElem? (i := 140) (by decide +kernel)) rfl, by decide +kernel, by decide +kernel, ⟨ia_tb_in (List.mem_of_getElem? (i := 1134) (by decide +kernel)) rfl, ia_tb_in (List.mem_of_getElem? (i := 1135) (by decide +kernel)) rfl⟩⟩
theorem ck_Sc_isTooHot_0 : ia_cks 9 4 false prog_10_method_25_code 0 [(.iconst 0, 0, 0, 0, 0), (.istore_n 3, 0, 0, 0, 0)] = true := by decide +kernel
theorem ck_Sc_isTooHot_2 : ia_cks 9 4 false prog_10_method_25_code 2 [(.iload_n 3, 0, 0, 0, 0), (.aload_n 0, 0, 0, 0, 0), (.getfield 33, 9, 0, 2, 0), (.getfield 66, 3, 11, 0, 0), (.if_icmp .ge 58, 0, 0, 0, 0)] = true := by decide +kernel
theorem ck_Sc_isTooHot_13 : ia_cks 9 4 false prog_10_method_25_code 13 [(.iload_n 3, 0, 0, 0, 0), (.iload_n 1, 0, 0, 0, 0), (.if_icmp .eq 47, 0, 0, 0, 0)] = true := by decide +kernel
theorem ck_Sc_isTooHot_62 : ia_cks 9 4 false prog_10_method_25_code 62 [(.iinc 3 1, 0, 0, 0, 0), (.goto (-63), 0, 0, 0, 0)] = true := by decide +kernel
theorem ck_Sc_isTooHot_18 : ia_cks 9 4 false prog_10_method_25_code 18 [(.aload_n 0, 0, 0, 0, 0), (.getfield 24, 9, 6, 3, 5), (.iload_n 3, 0, 0, 0, 0), (.iaload, 0, 0, 0, 0), (.ifCond .lt 38, 0, 0, 0, 0)] = true := by decide +kernel
theorem ck_Sc_isTooHot_27 : ia_cks 9 4 false prog_10_method_25_code 27 [(.aload_n 0, 0, 0, 0, 0), (.getfield 30, 9, 8, 3, 7), (.iload_n 3, 0, 0, 0, 0), (.iaload, 0, 0, 0, 0), (.ifCond .le 29, 0, 0, 0, 0)] = true := by decide +kernel
theorem ck_Sc_isTooHot_36 : ia_cks 9 4 false prog_10_method_25_code 36 [(.aload_n 0, 0, 0, 0, 0), (.getfield 33, 9, 0, 2, 0), (.aload_n 0, 0, 0, 0, 0), (.getfield 24, 9, 6, 3, 5), (.iload_n 3, 0, 0, 0, 0), (.iaload, 0, 0, 0, 0), (.iload_n 2, 0, 0, 0, 0)] = true := by decide +kernel
theorem ck_Sc_isTooHot_50 : ia_cks 9 4 false prog_10_method_25_code 50 [(.aload_n 0, 0, 0, 0, 0), (.getfield 37, 9, 1, 2, 0), (.getfield 143, 4, 1, 0, 0), (.if_icmp .ge 5, 0, 0, 0, 0)] = true := by decide +kernel
theorem ck_Sc_isTooHot_60 : ia_cks 9 4 false prog_10_method_25_code 60 [(.iconst 1, 0, 0, 0, 0)] = true := by decide +kernel
theorem ck_Sc_isTooHot_68 : ia_cks 9 4 false prog_10_method_25_code 68 [(.iconst 0, 0, 0, 0, 0)] = true := by decide +kernel
theorem dc_Sc_isTooHot_47 : decode prog_10_method_25_code 47 = .ok (.invokevirtual 140, 3) := by decide +kernel
theorem dc_Sc_isTooHot_61 : decode prog_10_method_25_code 61 = .ok (.ireturn, 1) := by decide +kernel
theorem dc_Sc_isTooHot_69 : decode prog_10_method_25_code 69 = .ok (.ireturn, 1) := by decide +kernel
def l_Sc_isTooHot_2 (a0 : Nat) (x1 : Int32) (x2 : Int32) (h : ia_H) (k60 : Option Int32) (k68 : Option Int32) (n : Nat) (x3 : Int32) : Option Int32 := match n with
  | 0 => none
  | n + 1 => if (ia_i h (ia_r h a0 0) 11) ≤ x3 then k68 else (if x3 = x1 then (l_Sc_isTooHot_2 a0 x1 x2 h k60 k68 n (x3 + 1)) else (ia_gd (ia_ib x3 6) (if (ia_i h (a0 + 5) ((x3).toNatClampNeg)) < 0 then (l_Sc_isTooHot_2 a0 x1 x2 h k60 k68 n (x3 + 1)) else (ia_gd (ia_ib x3 6) (if (ia_i h (a0 + 7) ((x3).toNatClampNeg)) ≤ 0 then (l_Sc_isTooHot_2 a0 x1 x2 h k60 k68 n (x3 + 1)) else (ia_gd (ia_ib x3 6) ((f_La_steps (ia_r h a0 0) (ia_i h (a0 + 5) ((x3).toNatClampNeg)) x2 h).bind fun v4 => (if (ia_i h (ia_r h a0 1) 1) ≤ v4 then (l_Sc_isTooHot_2 a0 x1 x2 h k60 k68 n (x3 + 1)) else k60))))))))
theorem tl_Sc_isTooHot_2 {w : ia_O0} {d N1 W1 : Nat} {K : ia_K} (hK : ia_isK (d + 1) mm_Sc_isTooHot N1 W1 K) {a0 : Nat} {x1 : Int32} {x2 : Int32} {h : ia_H} (hg : gd_ w h) (p0 : (kd_D a0).1 = 9) {r : Int32} (hret : ∀ (pc : Nat) (lv : ia_L), ia_ret mm_Sc_isTooHot pc (some (.inl r)) → K pc lv ((some (.inl r)) : Option ia_V).toList h) {k60 : Option Int32} {k68 : Option Int32} (hk60 : k60 = some r → K 60 [none, none, none, none] [] h) (hk68 : k68 = some r → K 68 [none, none, none, none] [] h) : ∀ (n : Nat) (x3 : Int32), l_Sc_isTooHot_2 a0 x1 x2 h k60 k68 n x3 = some r → K 2 [some (.inr (.inr a0)), some (.inl x1), some (.inl x2), some (.inl x3)] [] h := by
  intro n
  induction n with
  | zero =>
    intro x3 hm
    cases (show (none : Option Int32) = some _ from hm)
  | succ n ih =>
    intro x3 hm
    rw [l_Sc_isTooHot_2] at hm
    refine ia_go hK ck_Sc_isTooHot_2 ⟨gk_9 hg p0, gk_3 hg (gm_9_0 hg p0), fun c => ?_, fun c => ?_⟩
    · replace hm := ia_ifp hm c
      show K 68 [some (.inr (.inr a0)), some (.inl x1), some (.inl x2), some (.inl x3)] [] h
      refine ia_fg hK (lv' := [none, none, none, none]) trivial ?_
      exact hk68 hm
    · replace hm := ia_ifn hm c
      show K 13 [some (.inr (.inr a0)), some (.inl x1), some (.inl x2), some (.inl x3)] [] h
      refine ia_go hK ck_Sc_isTooHot_13 ⟨fun c => ?_, fun c => ?_⟩
      · replace hm := ia_ifp hm c
        show K 62 [some (.inr (.inr a0)), some (.inl x1), some (.inl x2), some (.inl x3)] [] h
        refine ia_go hK ck_Sc_isTooHot_62 ?_
        show K 2 [some (.inr (.inr a0)), some (.inl x1), some (.inl x2), some (.inl (x3 + 1))] [] h
        exact ih (x3 + 1) hm
      · replace hm := ia_ifn hm c
        show K 18 [some (.inr (.inr a0)), some (.inl x1), some (.inl x2), some (.inl x3)] [] h
        obtain ⟨c1, hm⟩ := ia_gd_some hm
        refine ia_go hK ck_Sc_isTooHot_18 ⟨gk_9 hg p0, gr_9_6 hg p0, ga_i100 hg (ka_9_6 p0) c1, fun c => ?_, fun c => ?_⟩
        · replace hm := ia_ifp hm c
          show K 62 [some (.inr (.inr a0)), some (.inl x1), some (.inl x2), some (.inl x3)] [] h
          refine ia_go hK ck_Sc_isTooHot_62 ?_
          show K 2 [some (.inr (.inr a0)), some (.inl x1), some (.inl x2), some (.inl (x3 + 1))] [] h
          exact ih (x3 + 1) hm
        · replace hm := ia_ifn hm c
          show K 27 [some (.inr (.inr a0)), some (.inl x1), some (.inl x2), some (.inl x3)] [] h
          obtain ⟨c2, hm⟩ := ia_gd_some hm
          refine ia_go hK ck_Sc_isTooHot_27 ⟨gk_9 hg p0, gr_9_8 hg p0, ga_i100 hg (ka_9_8 p0) c2, fun c => ?_, fun c => ?_⟩
          · replace hm := ia_ifp hm c
            show K 62 [some (.inr (.inr a0)), some (.inl x1), some (.inl x2), some (.inl x3)] [] h
            refine ia_go hK ck_Sc_isTooHot_62 ?_
            show K 2 [some (.inr (.inr a0)), some (.inl x1), some (.inl x2), some (.inl (x3 + 1))] [] h
            exact ih (x3 + 1) hm
          · replace hm := ia_ifn hm c
            show K 36 [some (.inr (.inr a0)), some (.inl x1), some (.inl x2), some (.inl x3)] [] h
            obtain ⟨c3, hm⟩ := ia_gd_some hm
            refine ia_go hK ck_Sc_isTooHot_36 ⟨gk_9 hg p0, gk_9 hg p0, gr_9_6 hg p0, ga_i100 hg (ka_9_6 p0) c3, ?_⟩
            show K 47 [some (.inr (.inr a0)), some (.inl x1), some (.inl x2), some (.inl x3)] [.inl x2, .inl (ia_i h (a0 + 5) ((x3).toNatClampNeg)), .inr (.inr (ia_r h a0 0))] h
            obtain ⟨v4, hv4, hm⟩ := ia_bnd hm
            have ev4 := t_La_steps (d + 0) hg (gm_9_0 hg p0) hv4
            refine ia_cV hK mk_La_steps lk_9_140 dc_Sc_isTooHot_47 (ia_r h a0 0) [.inl (ia_i h (a0 + 5) ((x3).toNatClampNeg)), .inl x2] [] rfl rfl (Nat.le_of_ble_eq_true rfl) (by decide) rfl (gk_3 hg (gm_9_0 hg p0)) ev4 ⟨rfl, rfl⟩ ?_
            show K 50 [some (.inr (.inr a0)), some (.inl x1), some (.inl x2), some (.inl x3)] [.inl v4] h
            refine ia_go hK ck_Sc_isTooHot_50 ⟨gk_9 hg p0, gk_4 hg (gm_9_1 hg p0), fun c => ?_, fun c => ?_⟩
            · replace hm := ia_ifp hm c
              show K 62 [some (.inr (.inr a0)), some (.inl x1), some (.inl x2), some (.inl x3)] [] h
              refine ia_go hK ck_Sc_isTooHot_62 ?_
              show K 2 [some (.inr (.inr a0)), some (.inl x1), some (.inl x2), some (.inl (x3 + 1))] [] h
              exact ih (x3 + 1) hm
            · replace hm := ia_ifn hm c
              show K 60 [some (.inr (.inr a0)), some (.inl x1), some (.inl x2), some (.inl x3)] [] h
              refine ia_fg hK (lv' := [none, none, none, none]) trivial ?_
              exact hk60 hm
def f_Sc_isTooHot (a0 : Nat) (x1 : Int32) (x2 : Int32) (h : ia_H) : Option Int32 := l_Sc_isTooHot_2 a0 x1 x2 h (some 1) (some 0) fu_ 0
theorem t_Sc_isTooHot {w : ia_O0} (d : Nat) {a0 : Nat} {x1 : Int32} {x2 : Int32} {h : ia_H} (hg : gd_ w h) (p0 : (kd_D a0).1 = 9) {r : Int32} (hm : f_Sc_isTooHot a0 x1 x2 h = some r) : ia_Ev (d + 1) mm_Sc_isTooHot [.inr (.inr a0), .inl x1, .inl x2] h (some (.inl r)) h := by
  refine ia_Ev_intro ok_Sc_isTooHot (Nat.le_refl _) (Nat.le_refl _) (Nat.le_of_ble_eq_true rfl) (fun K hK hret => ?_)
  show K 0 [some (.inr (.inr a0)), some (.inl x1), some (.inl x2), none] [] h
  unfold f_Sc_isTooHot at hm
  refine ia_go hK ck_Sc_isTooHot_0 ?_
  show K 2 [some (.inr (.inr a0)), some (.inl x1), some (.inl x2), some (.inl 0)] [] h
  refine tl_Sc_isTooHot_2 hK hg p0 hret ?_ ?_ fu_ 0 hm
  · intro hm
    refine ia_go hK ck_Sc_isTooHot_60 ?_
    show K 61 [none, none, none, none] [.inl 1] h
    obtain rfl := Option.some.inj hm
    exact hret 61 _ ⟨Or.inr rfl, dc_Sc_isTooHot_61⟩
  · intro hm
    refine ia_go hK ck_Sc_isTooHot_68 ?_
    show K 69 [none, none, none, none] [.inl 0] h
    obtain rfl := Option.some.inj hm
    exact hret 69 _ ⟨Or.inl rfl, dc_Sc_isTooHot_69⟩
def mm_Wa_movesOf : ia_M := (⟨"IceStreet$Ways", "movesOf", "(LIceStreet$Scene;I)J"⟩, prog_12_method_18_code, 6, (some .long), 11, false)
theorem ok_Wa_movesOf : ia_mok mm_Wa_movesOf := ⟨by decide +kernel, by decide +kernel, by decide +kernel, by decide +kernel⟩
theorem mk_Wa_movesOf : ia_mkn mm_Wa_movesOf 1 2 := ⟨ia_tb_in (List.mem_of_getElem? (i := 1109) (by decide +kernel)) rfl, ia_tb_in (List.mem_of_getElem? (i := 141) (by decide +kernel)) rfl, by decide +kernel, by decide +kernel, ⟨ia_tb_in (List.mem_of_getElem? (i := 1107) (by decide +kernel)) rfl, ia_tb_in (List.mem_of_getElem? (i := 1108) (by decide +kernel)) rfl⟩⟩
theorem ck_Wa_movesOf_0 : ia_cks 11 6 false prog_12_method_18_code 0 [(.aload_n 0, 0, 0, 0, 0), (.aload_n 1, 0, 0, 0, 0), (.iload_n 2, 0, 0, 0, 0)] = true := by decide +kernel
theorem ck_Wa_movesOf_6 : ia_cks 11 6 false prog_12_method_18_code 6 [(.aload_n 0, 0, 0, 0, 0), (.aload_n 1, 0, 0, 0, 0), (.getfield 172, 9, 7, 3, 6), (.iload_n 2, 0, 0, 0, 0), (.iaload, 0, 0, 0, 0), (.aload_n 1, 0, 0, 0, 0), (.getfield 66, 9, 6, 3, 5), (.iload_n 2, 0, 0, 0, 0), (.iaload, 0, 0, 0, 0)] = true := by decide +kernel
theorem ck_Wa_movesOf_22 : ia_cks 11 6 false prog_12_method_18_code 22 [(.aload_n 0, 0, 0, 0, 0), (.getfield 33, 11, 5, 2, 0), (.getfield 175, 4, 7, 1, 0)] = true := by decide +kernel
theorem ck_Wa_movesOf_32 : ia_cks 11 6 false prog_12_method_18_code 32 [(.lxor, 0, 0, 0, 0), (.land, 0, 0, 0, 0), (.lstore_n 3, 0, 0, 0, 0), (.aload_n 1, 0, 0, 0, 0), (.getfield 178, 9, 8, 3, 7), (.iload_n 2, 0, 0, 0, 0), (.iaload, 0, 0, 0, 0), (.ifCond .le 55, 0, 0, 0, 0)] = true := by decide +kernel
theorem ck_Wa_movesOf_96 : ia_cks 11 6 false prog_12_method_18_code 96 [(.lload_n 3, 0, 0, 0, 0)] = true := by decide +kernel
theorem ck_Wa_movesOf_44 : ia_cks 11 6 false prog_12_method_18_code 44 [(.iconst 0, 0, 0, 0, 0), (.istore 5, 0, 0, 0, 0)] = true := by decide +kernel
theorem ck_Wa_movesOf_47 : ia_cks 11 6 false prog_12_method_18_code 47 [(.iload 5, 0, 0, 0, 0), (.aload_n 0, 0, 0, 0, 0), (.getfield 29, 11, 4, 2, 0)] = true := by decide +kernel
theorem ck_Wa_movesOf_56 : ia_cks 11 6 false prog_12_method_18_code 56 [(.if_icmp .ge 40, 0, 0, 0, 0)] = true := by decide +kernel
theorem ck_Wa_movesOf_59 : ia_cks 11 6 false prog_12_method_18_code 59 [(.lload_n 3, 0, 0, 0, 0), (.iload 5, 0, 0, 0, 0)] = true := by decide +kernel
theorem ck_Wa_movesOf_65 : ia_cks 11 6 false prog_12_method_18_code 65 [(.ifCond .eq 25, 0, 0, 0, 0)] = true := by decide +kernel
theorem ck_Wa_movesOf_90 : ia_cks 11 6 false prog_12_method_18_code 90 [(.iinc 5 1, 0, 0, 0, 0), (.goto (-46), 0, 0, 0, 0)] = true := by decide +kernel
theorem ck_Wa_movesOf_68 : ia_cks 11 6 false prog_12_method_18_code 68 [(.aload_n 1, 0, 0, 0, 0), (.iload_n 2, 0, 0, 0, 0), (.iload 5, 0, 0, 0, 0)] = true := by decide +kernel
theorem ck_Wa_movesOf_75 : ia_cks 11 6 false prog_12_method_18_code 75 [(.ifCond .eq 15, 0, 0, 0, 0)] = true := by decide +kernel
theorem ck_Wa_movesOf_78 : ia_cks 11 6 false prog_12_method_18_code 78 [(.lload_n 3, 0, 0, 0, 0), (.iload 5, 0, 0, 0, 0)] = true := by decide +kernel
theorem ck_Wa_movesOf_87 : ia_cks 11 6 false prog_12_method_18_code 87 [(.lxor, 0, 0, 0, 0), (.land, 0, 0, 0, 0), (.lstore_n 3, 0, 0, 0, 0), (.iinc 5 1, 0, 0, 0, 0), (.goto (-46), 0, 0, 0, 0)] = true := by decide +kernel
theorem dc_Wa_movesOf_3 : decode prog_12_method_18_code 3 = .ok (.invokevirtual 169, 3) := by decide +kernel
theorem dc_Wa_movesOf_19 : decode prog_12_method_18_code 19 = .ok (.invokevirtual 155, 3) := by decide +kernel
theorem dc_Wa_movesOf_29 : decode prog_12_method_18_code 29 = .ok (.ldc2_w 150, 3) := by decide +kernel
theorem dc_Wa_movesOf_97 : decode prog_12_method_18_code 97 = .ok (.lreturn, 1) := by decide +kernel
theorem dc_Wa_movesOf_53 : decode prog_12_method_18_code 53 = .ok (.invokevirtual 41, 3) := by decide +kernel
theorem dc_Wa_movesOf_62 : decode prog_12_method_18_code 62 = .ok (.invokestatic 146, 3) := by decide +kernel
theorem dc_Wa_movesOf_72 : decode prog_12_method_18_code 72 = .ok (.invokevirtual 181, 3) := by decide +kernel
theorem dc_Wa_movesOf_81 : decode prog_12_method_18_code 81 = .ok (.invokestatic 142, 3) := by decide +kernel
theorem dc_Wa_movesOf_84 : decode prog_12_method_18_code 84 = .ok (.ldc2_w 150, 3) := by decide +kernel
def l_Wa_movesOf_47 (a1 : Nat) (x2 : Int32) (k96 : Int64 → ia_H → Option (Int64 × ia_H)) (n : Nat) (y3 : Int64) (x5 : Int32) (h : ia_H) : Option (Int64 × ia_H) := match n with
  | 0 => none
  | n + 1 => (f_La_cells (ia_r h 311 4) h).bind fun v6 => (if v6 ≤ x5 then (k96 y3 h) else ((f_I_hasBit y3 x5 h).bind fun v7 => (if v7 = 0 then (l_Wa_movesOf_47 a1 x2 k96 n y3 (x5 + 1) h) else ((f_Sc_isTooHot a1 x2 x5 h).bind fun v8 => (if v8 = 0 then (l_Wa_movesOf_47 a1 x2 k96 n y3 (x5 + 1) h) else ((f_I_bit x5 h).bind fun v9 => (l_Wa_movesOf_47 a1 x2 k96 n (y3 &&& (v9 ^^^ (-1))) (x5 + 1) h)))))))
theorem tl_Wa_movesOf_47 {w : ia_O0} {d N1 W1 : Nat} {K : ia_K} (hK : ia_isK (d + 3) mm_Wa_movesOf N1 W1 K) {a1 : Nat} {x2 : Int32} (p1 : (kd_D a1).1 = 9) {r : Int64} {h1 : ia_H} (hret : ∀ (pc : Nat) (lv : ia_L), ia_ret mm_Wa_movesOf pc (some (.inr (.inl r))) → K pc lv ((some (.inr (.inl r))) : Option ia_V).toList h1) {k96 : Int64 → ia_H → Option (Int64 × ia_H)} (hk96 : ∀ (y3 : Int64) (h : ia_H), gd_ w h → k96 y3 h = some (r, h1) → K 96 [none, none, none, some (.inr (.inl y3)), none, none] [] h) : ∀ (n : Nat) (y3 : Int64) (x5 : Int32) (h : ia_H), gd_ w h → l_Wa_movesOf_47 a1 x2 k96 n y3 x5 h = some (r, h1) → K 47 [some (.inr (.inr 311)), some (.inr (.inr a1)), some (.inl x2), some (.inr (.inl y3)), none, some (.inl x5)] [] h := by
  intro n
  induction n with
  | zero =>
    intro y3 x5 h hg hm
    cases (show (none : Option (Int64 × ia_H)) = some _ from hm)
  | succ n ih =>
    intro y3 x5 h hg hm
    rw [l_Wa_movesOf_47] at hm
    refine ia_go hK ck_Wa_movesOf_47 ⟨gk_11 hg pk_311, ?_⟩
    show K 53 [some (.inr (.inr 311)), some (.inr (.inr a1)), some (.inl x2), some (.inr (.inl y3)), none, some (.inl x5)] [.inr (.inr (ia_r h 311 4)), .inl x5] h
    obtain ⟨v6, hv6, hm⟩ := ia_bnd hm
    have ev6 := t_La_cells (d + 2) hg (gm_11_4 hg pk_311) hv6
    refine ia_cV hK mk_La_cells lk_11_41 dc_Wa_movesOf_53 (ia_r h 311 4) [] [.inl x5] rfl rfl (Nat.le_of_ble_eq_true rfl) (by decide) rfl (gk_3 hg (gm_11_4 hg pk_311)) ev6 ⟨rfl, rfl⟩ ?_
    show K 56 [some (.inr (.inr 311)), some (.inr (.inr a1)), some (.inl x2), some (.inr (.inl y3)), none, some (.inl x5)] [.inl v6, .inl x5] h
    refine ia_go hK ck_Wa_movesOf_56 ⟨fun c => ?_, fun c => ?_⟩
    · replace hm := ia_ifp hm c
      show K 96 [some (.inr (.inr 311)), some (.inr (.inr a1)), some (.inl x2), some (.inr (.inl y3)), none, some (.inl x5)] [] h
      refine ia_fg hK (lv' := [none, none, none, some (.inr (.inl y3)), none, none]) ⟨rfl, trivial⟩ ?_
      exact hk96 y3 h hg hm
    · replace hm := ia_ifn hm c
      show K 59 [some (.inr (.inr 311)), some (.inr (.inr a1)), some (.inl x2), some (.inr (.inl y3)), none, some (.inl x5)] [] h
      refine ia_go hK ck_Wa_movesOf_59 ?_
      show K 62 [some (.inr (.inr 311)), some (.inr (.inr a1)), some (.inl x2), some (.inr (.inl y3)), none, some (.inl x5)] [.inl x5, .inr (.inl y3)] h
      obtain ⟨v7, hv7, hm⟩ := ia_bnd hm
      have ev7 := t_I_hasBit (d + 2) hg hv7
      refine ia_cS hK mk_I_hasBit lk_11_146 dc_Wa_movesOf_62 [.inr (.inl y3), .inl x5] [] rfl rfl (Nat.le_of_ble_eq_true rfl) ev7 ⟨rfl, rfl⟩ ?_
      show K 65 [some (.inr (.inr 311)), some (.inr (.inr a1)), some (.inl x2), some (.inr (.inl y3)), none, some (.inl x5)] [.inl v7] h
      refine ia_go hK ck_Wa_movesOf_65 ⟨fun c => ?_, fun c => ?_⟩
      · replace hm := ia_ifp hm c
        show K 90 [some (.inr (.inr 311)), some (.inr (.inr a1)), some (.inl x2), some (.inr (.inl y3)), none, some (.inl x5)] [] h
        refine ia_go hK ck_Wa_movesOf_90 ?_
        show K 47 [some (.inr (.inr 311)), some (.inr (.inr a1)), some (.inl x2), some (.inr (.inl y3)), none, some (.inl (x5 + 1))] [] h
        exact ih y3 (x5 + 1) h hg hm
      · replace hm := ia_ifn hm c
        show K 68 [some (.inr (.inr 311)), some (.inr (.inr a1)), some (.inl x2), some (.inr (.inl y3)), none, some (.inl x5)] [] h
        refine ia_go hK ck_Wa_movesOf_68 ?_
        show K 72 [some (.inr (.inr 311)), some (.inr (.inr a1)), some (.inl x2), some (.inr (.inl y3)), none, some (.inl x5)] [.inl x5, .inl x2, .inr (.inr a1)] h
        obtain ⟨v8, hv8, hm⟩ := ia_bnd hm
        have ev8 := t_Sc_isTooHot (d + 1) hg p1 hv8
        refine ia_cV hK mk_Sc_isTooHot lk_11_181 dc_Wa_movesOf_72 a1 [.inl x2, .inl x5] [] rfl rfl (Nat.le_of_ble_eq_true rfl) (by decide) rfl (gk_9 hg p1) ev8 ⟨rfl, rfl⟩ ?_
        show K 75 [some (.inr (.inr 311)), some (.inr (.inr a1)), some (.inl x2), some (.inr (.inl y3)), none, some (.inl x5)] [.inl v8] h
        refine ia_go hK ck_Wa_movesOf_75 ⟨fun c => ?_, fun c => ?_⟩
        · replace hm := ia_ifp hm c
          show K 90 [some (.inr (.inr 311)), some (.inr (.inr a1)), some (.inl x2), some (.inr (.inl y3)), none, some (.inl x5)] [] h
          refine ia_go hK ck_Wa_movesOf_90 ?_
          show K 47 [some (.inr (.inr 311)), some (.inr (.inr a1)), some (.inl x2), some (.inr (.inl y3)), none, some (.inl (x5 + 1))] [] h
          exact ih y3 (x5 + 1) h hg hm
        · replace hm := ia_ifn hm c
          show K 78 [some (.inr (.inr 311)), some (.inr (.inr a1)), some (.inl x2), some (.inr (.inl y3)), none, some (.inl x5)] [] h
          refine ia_go hK ck_Wa_movesOf_78 ?_
          show K 81 [some (.inr (.inr 311)), some (.inr (.inr a1)), some (.inl x2), some (.inr (.inl y3)), none, some (.inl x5)] [.inl x5, .inr (.inl y3)] h
          obtain ⟨v9, hv9, hm⟩ := ia_bnd hm
          have ev9 := t_I_bit (d + 2) hg hv9
          refine ia_cS hK mk_I_bit lk_11_142 dc_Wa_movesOf_81 [.inl x5] [.inr (.inl y3)] rfl rfl (Nat.le_of_ble_eq_true rfl) ev9 ⟨rfl, rfl⟩ ?_
          show K 84 [some (.inr (.inr 311)), some (.inr (.inr a1)), some (.inl x2), some (.inr (.inl y3)), none, some (.inl x5)] [.inr (.inl v9), .inr (.inl y3)] h
          refine ia_ldc2 hK (v := (-1)) (ia_tb_in (List.mem_of_getElem? (i := 1132) (by decide +kernel)) rfl) dc_Wa_movesOf_84 ?_
          show K 87 [some (.inr (.inr 311)), some (.inr (.inr a1)), some (.inl x2), some (.inr (.inl y3)), none, some (.inl x5)] [.inr (.inl (-1)), .inr (.inl v9), .inr (.inl y3)] h
          refine ia_go hK ck_Wa_movesOf_87 ?_
          show K 47 [some (.inr (.inr 311)), some (.inr (.inr a1)), some (.inl x2), some (.inr (.inl (y3 &&& (v9 ^^^ (-1))))), none, some (.inl (x5 + 1))] [] h
          exact ih (y3 &&& (v9 ^^^ (-1))) (x5 + 1) h hg hm
theorem gl_Wa_movesOf_47 {w : ia_O0} {a1 : Nat} {x2 : Int32} (p1 : (kd_D a1).1 = 9) {r : Int64} {h1 : ia_H} {k96 : Int64 → ia_H → Option (Int64 × ia_H)} (hk96 : ∀ (y3 : Int64) (h : ia_H), gd_ w h → k96 y3 h = some (r, h1) → gd_ w h1) : ∀ (n : Nat) (y3 : Int64) (x5 : Int32) (h : ia_H), gd_ w h → l_Wa_movesOf_47 a1 x2 k96 n y3 x5 h = some (r, h1) → gd_ w h1 := by
  intro n
  induction n with
  | zero =>
    intro y3 x5 h hg hm
    cases (show (none : Option (Int64 × ia_H)) = some _ from hm)
  | succ n ih =>
    intro y3 x5 h hg hm
    rw [l_Wa_movesOf_47] at hm
    obtain ⟨v6, hv6, hm⟩ := ia_bnd hm
    by_cases c : v6 ≤ x5
    · replace hm := ia_ifp hm c
      exact hk96 y3 h hg hm
    · replace hm := ia_ifn hm c
      obtain ⟨v7, hv7, hm⟩ := ia_bnd hm
      by_cases c : v7 = 0
      · replace hm := ia_ifp hm c
        exact ih y3 (x5 + 1) h hg hm
      · replace hm := ia_ifn hm c
        obtain ⟨v8, hv8, hm⟩ := ia_bnd hm
        by_cases c : v8 = 0
        · replace hm := ia_ifp hm c
          exact ih y3 (x5 + 1) h hg hm
        · replace hm := ia_ifn hm c
          obtain ⟨v9, hv9, hm⟩ := ia_bnd hm
          exact ih (y3 &&& (v9 ^^^ (-1))) (x5 + 1) h hg hm
def f_Wa_movesOf (a1 : Nat) (x2 : Int32) (h : ia_H) : Option (Int64 × ia_H) := (f_Wa_surveyWithout a1 x2 h).bind fun v1 => (ia_gd (ia_ib x2 6) (ia_gd (ia_ib x2 6) ((f_Wa_reach (ia_i v1 (a1 + 6) ((x2).toNatClampNeg)) (ia_i v1 (a1 + 5) ((x2).toNatClampNeg)) v1).bind fun v4 => (ia_gd (ia_ib x2 6) (if (ia_i v4.2 (a1 + 7) ((x2).toNatClampNeg)) ≤ 0 then (some (v4.1 &&& ((ia_l v4.2 (ia_r v4.2 311 5) 7) ^^^ (-1)), v4.2)) else (l_Wa_movesOf_47 a1 x2 (fun y3 h => some (y3, h)) fu_ (v4.1 &&& ((ia_l v4.2 (ia_r v4.2 311 5) 7) ^^^ (-1))) 0 v4.2))))))
theorem g_Wa_movesOf {w : ia_O0} {a1 : Nat} {x2 : Int32} {h : ia_H} (hg : gd_ w h) (p1 : (kd_D a1).1 = 9) {q : (Int64 × ia_H)} (hm : f_Wa_movesOf a1 x2 h = some q) : gd_ w q.2 := by
  obtain ⟨r, h1⟩ := q
  unfold f_Wa_movesOf at hm
  obtain ⟨v1, hv1, hm⟩ := ia_bnd hm
  have gv1 := g_Wa_surveyWithout hg p1 hv1
  obtain ⟨c2, hm⟩ := ia_gd_some hm
  obtain ⟨c3, hm⟩ := ia_gd_some hm
  obtain ⟨v4, hv4, hm⟩ := ia_bnd hm
  have gv4 := g_Wa_reach gv1 hv4
  obtain ⟨c5, hm⟩ := ia_gd_some hm
  by_cases c : (ia_i v4.2 (a1 + 7) ((x2).toNatClampNeg)) ≤ 0
  · replace hm := ia_ifp hm c
    obtain ⟨rfl, rfl⟩ := Prod.mk.inj (Option.some.inj hm)
    exact gv4
  · replace hm := ia_ifn hm c
    refine gl_Wa_movesOf_47 p1 ?_ fu_ (v4.1 &&& ((ia_l v4.2 (ia_r v4.2 311 5) 7) ^^^ (-1))) 0 v4.2 gv4 hm
    · intro y3 h hg hm
      obtain ⟨rfl, rfl⟩ := Prod.mk.inj (Option.some.inj hm)
      exact hg
theorem t_Wa_movesOf {w : ia_O0} (d : Nat) {a1 : Nat} {x2 : Int32} {h : ia_H} (hg : gd_ w h) (p1 : (kd_D a1).1 = 9) {q : (Int64 × ia_H)} (hm : f_Wa_movesOf a1 x2 h = some q) : ia_Ev (d + 3) mm_Wa_movesOf [.inr (.inr 311), .inr (.inr a1), .inl x2] h (some (.inr (.inl q.1))) q.2 := by
  have gq := g_Wa_movesOf hg p1 hm
  refine ia_Ev_intro ok_Wa_movesOf (gd_le hg gq).1 (gd_le hg gq).2 (Nat.le_of_ble_eq_true rfl) (fun K hK hret => ?_)
  obtain ⟨r, h1⟩ := q
  show K 0 [some (.inr (.inr 311)), some (.inr (.inr a1)), some (.inl x2), none, none, none] [] h
  unfold f_Wa_movesOf at hm
  refine ia_go hK ck_Wa_movesOf_0 ?_
  show K 3 [some (.inr (.inr 311)), some (.inr (.inr a1)), some (.inl x2), none, none, none] [.inl x2, .inr (.inr a1), .inr (.inr 311)] h
  obtain ⟨v1, hv1, hm⟩ := ia_bnd hm
  have ev1 := t_Wa_surveyWithout (d + 0) hg p1 hv1
  have gv1 := g_Wa_surveyWithout hg p1 hv1
  refine ia_cV hK mk_Wa_surveyWithout lk_11_169 dc_Wa_movesOf_3 311 [.inr (.inr a1), .inl x2] [] rfl rfl (Nat.le_of_ble_eq_true rfl) (by decide) rfl (gk_11 hg pk_311) ev1 (gd_nm hg gv1) ?_
  show K 6 [some (.inr (.inr 311)), some (.inr (.inr a1)), some (.inl x2), none, none, none] [] v1
  obtain ⟨c2, hm⟩ := ia_gd_some hm
  obtain ⟨c3, hm⟩ := ia_gd_some hm
  refine ia_go hK ck_Wa_movesOf_6 ⟨gk_9 gv1 p1, gr_9_7 gv1 p1, ga_i100 gv1 (ka_9_7 p1) c2, gk_9 gv1 p1, gr_9_6 gv1 p1, ga_i100 gv1 (ka_9_6 p1) c3, ?_⟩
  show K 19 [some (.inr (.inr 311)), some (.inr (.inr a1)), some (.inl x2), none, none, none] [.inl (ia_i v1 (a1 + 5) ((x2).toNatClampNeg)), .inl (ia_i v1 (a1 + 6) ((x2).toNatClampNeg)), .inr (.inr 311)] v1
  obtain ⟨v4, hv4, hm⟩ := ia_bnd hm
  have ev4 := t_Wa_reach (d + 1) gv1 hv4
  have gv4 := g_Wa_reach gv1 hv4
  refine ia_cV hK mk_Wa_reach lk_11_155 dc_Wa_movesOf_19 311 [.inl (ia_i v1 (a1 + 6) ((x2).toNatClampNeg)), .inl (ia_i v1 (a1 + 5) ((x2).toNatClampNeg))] [] rfl rfl (Nat.le_of_ble_eq_true rfl) (by decide) rfl (gk_11 gv1 pk_311) ev4 (gd_nm gv1 gv4) ?_
  show K 22 [some (.inr (.inr 311)), some (.inr (.inr a1)), some (.inl x2), none, none, none] [.inr (.inl v4.1)] v4.2
  refine ia_go hK ck_Wa_movesOf_22 ⟨gk_11 gv4 pk_311, gk_4 gv4 (gm_11_5 gv4 pk_311), ?_⟩
  show K 29 [some (.inr (.inr 311)), some (.inr (.inr a1)), some (.inl x2), none, none, none] [.inr (.inl (ia_l v4.2 (ia_r v4.2 311 5) 7)), .inr (.inl v4.1)] v4.2
  refine ia_ldc2 hK (v := (-1)) (ia_tb_in (List.mem_of_getElem? (i := 1132) (by decide +kernel)) rfl) dc_Wa_movesOf_29 ?_
  show K 32 [some (.inr (.inr 311)), some (.inr (.inr a1)), some (.inl x2), none, none, none] [.inr (.inl (-1)), .inr (.inl (ia_l v4.2 (ia_r v4.2 311 5) 7)), .inr (.inl v4.1)] v4.2
  obtain ⟨c5, hm⟩ := ia_gd_some hm
  refine ia_go hK ck_Wa_movesOf_32 ⟨gk_9 gv4 p1, gr_9_8 gv4 p1, ga_i100 gv4 (ka_9_8 p1) c5, fun c => ?_, fun c => ?_⟩
  · replace hm := ia_ifp hm c
    show K 96 [some (.inr (.inr 311)), some (.inr (.inr a1)), some (.inl x2), some (.inr (.inl (v4.1 &&& ((ia_l v4.2 (ia_r v4.2 311 5) 7) ^^^ (-1))))), none, none] [] v4.2
    refine ia_go hK ck_Wa_movesOf_96 ?_
    show K 97 [some (.inr (.inr 311)), some (.inr (.inr a1)), some (.inl x2), some (.inr (.inl (v4.1 &&& ((ia_l v4.2 (ia_r v4.2 311 5) 7) ^^^ (-1))))), none, none] [.inr (.inl (v4.1 &&& ((ia_l v4.2 (ia_r v4.2 311 5) 7) ^^^ (-1))))] v4.2
    obtain ⟨rfl, rfl⟩ := Prod.mk.inj (Option.some.inj hm)
    exact hret 97 _ dc_Wa_movesOf_97
  · replace hm := ia_ifn hm c
    show K 44 [some (.inr (.inr 311)), some (.inr (.inr a1)), some (.inl x2), some (.inr (.inl (v4.1 &&& ((ia_l v4.2 (ia_r v4.2 311 5) 7) ^^^ (-1))))), none, none] [] v4.2
    refine ia_go hK ck_Wa_movesOf_44 ?_
    show K 47 [some (.inr (.inr 311)), some (.inr (.inr a1)), some (.inl x2), some (.inr (.inl (v4.1 &&& ((ia_l v4.2 (ia_r v4.2 311 5) 7) ^^^ (-1))))), none, some (.inl 0)] [] v4.2
    refine tl_Wa_movesOf_47 hK p1 hret ?_ fu_ (v4.1 &&& ((ia_l v4.2 (ia_r v4.2 311 5) 7) ^^^ (-1))) 0 v4.2 gv4 hm
    · intro y3 h hg hm
      refine ia_go hK ck_Wa_movesOf_96 ?_
      show K 97 [none, none, none, some (.inr (.inl y3)), none, none] [.inr (.inl y3)] h
      obtain ⟨rfl, rfl⟩ := Prod.mk.inj (Option.some.inj hm)
      exact hret 97 _ dc_Wa_movesOf_97
