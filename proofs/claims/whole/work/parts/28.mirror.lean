def mm_Dr_keepBetter : ia_M := (⟨"IceStreet$Drawing", "keepBetter", "(I)V"⟩, prog_3_method_5_code, 2, none, 2, false)
theorem ok_Dr_keepBetter : ia_mok mm_Dr_keepBetter := ⟨by decide +kernel, by decide +kernel, by decide +kernel, by decide +kernel⟩
theorem mk_Dr_keepBetter : ia_mkn mm_Dr_keepBetter 1 1 := ⟨ia_tb_in (List.mem_of_getElem? (i := 1353) (by decide +kernel)) rfl, ia_tb_in (List.mem_of_getElem? (i := 144) (by decide +kernel)) rfl, by decide +kernel, by decide +kernel, ⟨ia_tb_in (List.mem_of_getElem? (i := 1352) (by decide +kernel)) rfl, ia_tb_in (List.mem_of_getElem? (i := 40) (by decide +kernel)) rfl⟩⟩
theorem ck_Dr_keepBetter_0 : ia_cks 2 2 false prog_3_method_5_code 0 [(.iload_n 1, 0, 0, 0, 0), (.aload_n 0, 0, 0, 0, 0), (.getfield 49, 2, 0, 0, 0), (.if_icmp .ge 25, 0, 0, 0, 0)] = true := by decide +kernel
theorem ck_Dr_keepBetter_8 : ia_cks 2 2 false prog_3_method_5_code 8 [(.aload_n 0, 0, 0, 0, 0), (.iload_n 1, 0, 0, 0, 0), (.putfield 49, 2, 0, 0, 0), (.aload_n 0, 0, 0, 0, 0), (.getfield 15, 2, 3, 3, 2), (.iconst 0, 0, 0, 0, 0), (.aload_n 0, 0, 0, 0, 0), (.getfield 9, 2, 1, 3, 1), (.iconst 0, 0, 0, 0, 0), (.aload_n 0, 0, 0, 0, 0), (.getfield 41, 2, 6, 0, 0)] = true := by decide +kernel
theorem dc_Dr_keepBetter_30 : decode prog_3_method_5_code 30 = .ok (.return_, 1) := by decide +kernel
theorem dc_Dr_keepBetter_27 : decode prog_3_method_5_code 27 = .ok (.invokestatic 103, 3) := by decide +kernel
def f_Dr_keepBetter (x1 : Int32) (h : ia_H) : Option ia_H := if (ia_i h 345 0) ≤ x1 then (some h) else (ia_gd (ia_cb 0 0 (ia_i (ia_wI h 345 0 x1) 345 6) 6 6) (some (ia_cpI (ia_wI h 345 0 x1) 347 346 0 0 ((ia_i (ia_wI h 345 0 x1) 345 6).toNatClampNeg))))
theorem g_Dr_keepBetter {x1 : Int32} {h : ia_H} (hg : gd_ h) {q : ia_H} (hm : f_Dr_keepBetter x1 h = some q) : gd_ q := by
  obtain ⟨h1, e1⟩ : ∃ x, x = q := ⟨_, rfl⟩
  subst e1
  unfold f_Dr_keepBetter at hm
  by_cases c : (ia_i h 345 0) ≤ x1
  · replace hm := ia_ifp hm c
    cases hm
    exact hg
  · replace hm := ia_ifn hm c
    obtain ⟨c1, hm⟩ := ia_gd_some hm
    cases hm
    exact (gd_cpI (gd_wI hg))
theorem t_Dr_keepBetter (d : Nat) {x1 : Int32} {h : ia_H} (hg : gd_ h) {q : ia_H} (hm : f_Dr_keepBetter x1 h = some q) : ia_Ev (d + 0) mm_Dr_keepBetter [.inr (.inr 345), .inl x1] h none q := by
  have gq := g_Dr_keepBetter hg hm
  refine ia_Ev_intro ok_Dr_keepBetter (gd_le hg gq).1 (gd_le hg gq).2 (Nat.le_of_ble_eq_true rfl) (fun K hK hret => ?_)
  obtain ⟨h1, e1⟩ : ∃ x, x = q := ⟨_, rfl⟩
  subst e1
  show K 0 [some (.inr (.inr 345)), some (.inl x1)] [] h
  unfold f_Dr_keepBetter at hm
  refine ia_go hK ck_Dr_keepBetter_0 ⟨gk_2 hg pk_345, fun c => ?_, fun c => ?_⟩
  · replace hm := ia_ifp hm c
    show K 30 [some (.inr (.inr 345)), some (.inl x1)] [] h
    cases hm
    exact hret 30 _ dc_Dr_keepBetter_30
  · replace hm := ia_ifn hm c
    show K 8 [some (.inr (.inr 345)), some (.inl x1)] [] h
    refine ia_go hK ck_Dr_keepBetter_8 ⟨gk_2 hg pk_345, gk_2 (gd_wI hg) pk_345, gr_2_3 (gd_wI hg) pk_345, gk_2 (gd_wI hg) pk_345, gr_2_1 (gd_wI hg) pk_345, gk_2 (gd_wI hg) pk_345, ?_⟩
    show K 27 [some (.inr (.inr 345)), some (.inl x1)] [.inl (ia_i (ia_wI h 345 0 x1) 345 6), .inl 0, .inr (.inr 346), .inl 0, .inr (.inr 347)] (ia_wI h 345 0 x1)
    obtain ⟨c1, hm⟩ := ia_gd_some hm
    refine ia_copyI hK (ia_tb_in (List.mem_of_getElem? (i := 1354) (by decide +kernel)) rfl) dc_Dr_keepBetter_27 (Nat.le_of_ble_eq_true rfl) (Or.inl rfl) ⟨(gd_ka (gd_wI hg) (ka_2_3 pk_345) (by decide)).1, (gd_ka (gd_wI hg) (ka_2_1 pk_345) (by decide)).1⟩ (gd_ka (gd_wI hg) (ka_2_3 pk_345) (by decide)).2 (gd_ka (gd_wI hg) (ka_2_1 pk_345) (by decide)).2 c1 rfl ?_
    show K 30 [some (.inr (.inr 345)), some (.inl x1)] [] (ia_cpI (ia_wI h 345 0 x1) 347 346 0 0 ((ia_i (ia_wI h 345 0 x1) 345 6).toNatClampNeg))
    cases hm
    exact hret 30 _ dc_Dr_keepBetter_30
def mm_Dr_shopsWithHope : ia_M := (⟨"IceStreet$Drawing", "shopsWithHope", "(LIceStreet$Scene;I)I"⟩, prog_3_method_7_code, 5, (some .int), 2, false)
theorem ok_Dr_shopsWithHope : ia_mok mm_Dr_shopsWithHope := ⟨by decide +kernel, by decide +kernel, by decide +kernel, by decide +kernel⟩
theorem mk_Dr_shopsWithHope : ia_mkn mm_Dr_shopsWithHope 1 2 := ⟨ia_tb_in (List.mem_of_getElem? (i := 1358) (by decide +kernel)) rfl, ia_tb_in (List.mem_of_getElem? (i := 144) (by decide +kernel)) rfl, by decide +kernel, by decide +kernel, ⟨ia_tb_in (List.mem_of_getElem? (i := 1357) (by decide +kernel)) rfl, ia_tb_in (List.mem_of_getElem? (i := 41) (by decide +kernel)) rfl⟩⟩
theorem ck_Dr_shopsWithHope_0 : ia_cks 2 5 false prog_3_method_7_code 0 [(.aload_n 0, 0, 0, 0, 0), (.getfield 31, 2, 5, 3, 60), (.aload_n 1, 0, 0, 0, 0)] = true := by decide +kernel
theorem ck_Dr_shopsWithHope_8 : ia_cks 2 5 false prog_3_method_7_code 8 [(.iconst 0, 0, 0, 0, 0), (.istore_n 3, 0, 0, 0, 0)] = true := by decide +kernel
theorem ck_Dr_shopsWithHope_10 : ia_cks 2 5 false prog_3_method_7_code 10 [(.iload_n 3, 0, 0, 0, 0), (.aload_n 1, 0, 0, 0, 0), (.getfield 68, 9, 0, 2, 0), (.getfield 72, 3, 11, 0, 0), (.if_icmp .ge 27, 0, 0, 0, 0)] = true := by decide +kernel
theorem ck_Dr_shopsWithHope_21 : ia_cks 2 5 false prog_3_method_7_code 21 [(.aload_n 1, 0, 0, 0, 0), (.getfield 112, 9, 6, 3, 5), (.iload_n 3, 0, 0, 0, 0), (.iaload, 0, 0, 0, 0), (.ifCond .lt 12, 0, 0, 0, 0)] = true := by decide +kernel
theorem ck_Dr_shopsWithHope_39 : ia_cks 2 5 false prog_3_method_7_code 39 [(.iinc 3 1, 0, 0, 0, 0), (.goto (-32), 0, 0, 0, 0)] = true := by decide +kernel
theorem ck_Dr_shopsWithHope_30 : ia_cks 2 5 false prog_3_method_7_code 30 [(.aload_n 0, 0, 0, 0, 0), (.getfield 31, 2, 5, 3, 60), (.iload_n 3, 0, 0, 0, 0), (.iconst (-1), 0, 0, 0, 0)] = true := by decide +kernel
theorem ck_Dr_shopsWithHope_45 : ia_cks 2 5 false prog_3_method_7_code 45 [(.iconst 1, 0, 0, 0, 0), (.istore_n 3, 0, 0, 0, 0)] = true := by decide +kernel
theorem ck_Dr_shopsWithHope_47 : ia_cks 2 5 false prog_3_method_7_code 47 [(.iload_n 3, 0, 0, 0, 0), (.iload_n 2, 0, 0, 0, 0), (.if_icmp .ge 27, 0, 0, 0, 0)] = true := by decide +kernel
theorem ck_Dr_shopsWithHope_52 : ia_cks 2 5 false prog_3_method_7_code 52 [(.aload_n 0, 0, 0, 0, 0), (.getfield 31, 2, 5, 3, 60), (.iconst 0, 0, 0, 0, 0), (.aload_n 0, 0, 0, 0, 0), (.getfield 31, 2, 5, 3, 60)] = true := by decide +kernel
theorem ck_Dr_shopsWithHope_70 : ia_cks 2 5 false prog_3_method_7_code 70 [(.iinc 3 1, 0, 0, 0, 0), (.goto (-26), 0, 0, 0, 0)] = true := by decide +kernel
theorem ck_Dr_shopsWithHope_76 : ia_cks 2 5 false prog_3_method_7_code 76 [(.aload_n 0, 0, 0, 0, 0), (.getfield 24, 2, 2, 4, 311), (.aload_n 0, 0, 0, 0, 0), (.getfield 31, 2, 5, 3, 60), (.iconst 0, 0, 0, 0, 0)] = true := by decide +kernel
theorem ck_Dr_shopsWithHope_88 : ia_cks 2 5 false prog_3_method_7_code 88 [(.iconst 0, 0, 0, 0, 0), (.istore_n 3, 0, 0, 0, 0), (.iconst 0, 0, 0, 0, 0), (.istore 4, 0, 0, 0, 0)] = true := by decide +kernel
theorem ck_Dr_shopsWithHope_93 : ia_cks 2 5 false prog_3_method_7_code 93 [(.iload 4, 0, 0, 0, 0), (.aload_n 1, 0, 0, 0, 0), (.getfield 68, 9, 0, 2, 0), (.getfield 72, 3, 11, 0, 0), (.if_icmp .ge 50, 0, 0, 0, 0)] = true := by decide +kernel
theorem ck_Dr_shopsWithHope_105 : ia_cks 2 5 false prog_3_method_7_code 105 [(.aload_n 1, 0, 0, 0, 0), (.getfield 112, 9, 6, 3, 5), (.iload 4, 0, 0, 0, 0), (.iaload, 0, 0, 0, 0), (.ifCond .lt 34, 0, 0, 0, 0)] = true := by decide +kernel
theorem ck_Dr_shopsWithHope_146 : ia_cks 2 5 false prog_3_method_7_code 146 [(.iinc 4 1, 0, 0, 0, 0), (.goto (-56), 0, 0, 0, 0)] = true := by decide +kernel
theorem ck_Dr_shopsWithHope_115 : ia_cks 2 5 false prog_3_method_7_code 115 [(.aload_n 0, 0, 0, 0, 0), (.getfield 24, 2, 2, 4, 311), (.aload_n 1, 0, 0, 0, 0), (.getfield 125, 9, 7, 3, 6), (.iload 4, 0, 0, 0, 0), (.iaload, 0, 0, 0, 0), (.aload_n 1, 0, 0, 0, 0), (.getfield 112, 9, 6, 3, 5), (.iload 4, 0, 0, 0, 0), (.iaload, 0, 0, 0, 0)] = true := by decide +kernel
theorem ck_Dr_shopsWithHope_136 : ia_cks 2 5 false prog_3_method_7_code 136 [(.ifCond .eq 10, 0, 0, 0, 0)] = true := by decide +kernel
theorem ck_Dr_shopsWithHope_139 : ia_cks 2 5 false prog_3_method_7_code 139 [(.iload_n 3, 0, 0, 0, 0), (.iconst 1, 0, 0, 0, 0), (.iload 4, 0, 0, 0, 0), (.ishl, 0, 0, 0, 0), (.ior, 0, 0, 0, 0), (.istore_n 3, 0, 0, 0, 0), (.iinc 4 1, 0, 0, 0, 0), (.goto (-56), 0, 0, 0, 0)] = true := by decide +kernel
theorem ck_Dr_shopsWithHope_152 : ia_cks 2 5 false prog_3_method_7_code 152 [(.iload_n 3, 0, 0, 0, 0)] = true := by decide +kernel
theorem dc_Dr_shopsWithHope_5 : decode prog_3_method_7_code 5 = .ok (.invokevirtual 45, 3) := by decide +kernel
theorem dc_Dr_shopsWithHope_36 : decode prog_3_method_7_code 36 = .ok (.invokevirtual 115, 3) := by decide +kernel
theorem dc_Dr_shopsWithHope_61 : decode prog_3_method_7_code 61 = .ok (.invokevirtual 94, 3) := by decide +kernel
theorem dc_Dr_shopsWithHope_64 : decode prog_3_method_7_code 64 = .ok (.invokestatic 118, 3) := by decide +kernel
theorem dc_Dr_shopsWithHope_67 : decode prog_3_method_7_code 67 = .ok (.invokevirtual 97, 3) := by decide +kernel
theorem dc_Dr_shopsWithHope_85 : decode prog_3_method_7_code 85 = .ok (.invokevirtual 121, 3) := by decide +kernel
theorem dc_Dr_shopsWithHope_133 : decode prog_3_method_7_code 133 = .ok (.invokevirtual 128, 3) := by decide +kernel
theorem dc_Dr_shopsWithHope_153 : decode prog_3_method_7_code 153 = .ok (.ireturn, 1) := by decide +kernel
def l_Dr_shopsWithHope_10 (a1 : Nat) (x2 : Int32) (k45 : ia_H → Option (Int32 × ia_H)) (n : Nat) (x3 : Int32) (h : ia_H) : Option (Int32 × ia_H) := match n with
  | 0 => none
  | n + 1 => if (ia_i h (ia_r h a1 0) 11) ≤ x3 then (k45 h) else (ia_gd (ia_ib x3 6) (if (ia_i h (a1 + 5) ((x3).toNatClampNeg)) < 0 then (l_Dr_shopsWithHope_10 a1 x2 k45 n (x3 + 1) h) else ((f_Sc_lift 405 x3 (-1) h).bind fun v3 => (l_Dr_shopsWithHope_10 a1 x2 k45 n (x3 + 1) v3))))
theorem tl_Dr_shopsWithHope_10 {d N1 W1 : Nat} {K : ia_K} (hK : ia_isK (d + 4) mm_Dr_shopsWithHope N1 W1 K) {a1 : Nat} {x2 : Int32} (p1 : (kd_D a1).1 = 9) {r : Int32} {h1 : ia_H} (hret : ∀ (pc : Nat) (lv : ia_L), ia_ret mm_Dr_shopsWithHope pc (some (.inl r)) → K pc lv ((some (.inl r)) : Option ia_V).toList h1) {k45 : ia_H → Option (Int32 × ia_H)} (hk45 : ∀ (h : ia_H), gd_ h → k45 h = some (r, h1) → K 45 [some (.inr (.inr 345)), some (.inr (.inr a1)), some (.inl x2), none, none] [] h) : ∀ (n : Nat) (x3 : Int32) (h : ia_H), gd_ h → l_Dr_shopsWithHope_10 a1 x2 k45 n x3 h = some (r, h1) → K 10 [some (.inr (.inr 345)), some (.inr (.inr a1)), some (.inl x2), some (.inl x3), none] [] h := by
  intro n
  induction n with
  | zero =>
    intro x3 h hg hm
    cases (show (none : Option (Int32 × ia_H)) = some _ from hm)
  | succ n ih =>
    intro x3 h hg hm
    rw [l_Dr_shopsWithHope_10] at hm
    refine ia_go hK ck_Dr_shopsWithHope_10 ⟨gk_9 hg p1, gk_3 hg (gm_9_0 hg p1), fun c => ?_, fun c => ?_⟩
    · replace hm := ia_ifp hm c
      show K 45 [some (.inr (.inr 345)), some (.inr (.inr a1)), some (.inl x2), some (.inl x3), none] [] h
      refine ia_fg hK (lv' := [some (.inr (.inr 345)), some (.inr (.inr a1)), some (.inl x2), none, none]) ⟨rfl, rfl, rfl, trivial⟩ ?_
      exact hk45 h hg hm
    · replace hm := ia_ifn hm c
      show K 21 [some (.inr (.inr 345)), some (.inr (.inr a1)), some (.inl x2), some (.inl x3), none] [] h
      obtain ⟨c2, hm⟩ := ia_gd_some hm
      refine ia_go hK ck_Dr_shopsWithHope_21 ⟨gk_9 hg p1, gr_9_6 hg p1, ga_i100 hg (ka_9_6 p1) c2, fun c => ?_, fun c => ?_⟩
      · replace hm := ia_ifp hm c
        show K 39 [some (.inr (.inr 345)), some (.inr (.inr a1)), some (.inl x2), some (.inl x3), none] [] h
        refine ia_go hK ck_Dr_shopsWithHope_39 ?_
        show K 10 [some (.inr (.inr 345)), some (.inr (.inr a1)), some (.inl x2), some (.inl (x3 + 1)), none] [] h
        exact ih (x3 + 1) h hg hm
      · replace hm := ia_ifn hm c
        show K 30 [some (.inr (.inr 345)), some (.inr (.inr a1)), some (.inl x2), some (.inl x3), none] [] h
        refine ia_go hK ck_Dr_shopsWithHope_30 ⟨gk_2 hg pk_345, gr_2_5 hg pk_345, ?_⟩
        show K 36 [some (.inr (.inr 345)), some (.inr (.inr a1)), some (.inl x2), some (.inl x3), none] [.inl (-1), .inl x3, .inr (.inr 405)] h
        obtain ⟨v3, hv3, hm⟩ := ia_bnd hm
        have ev3 := t_Sc_lift (d + 2) hg (ka_2_5 pk_345) hv3
        have gv3 := g_Sc_lift hg (ka_2_5 pk_345) hv3
        refine ia_cV hK mk_Sc_lift lk_2_115 dc_Dr_shopsWithHope_36 405 [.inl x3, .inl (-1)] [] rfl rfl (Nat.le_of_ble_eq_true rfl) (by decide) rfl (gk_9 hg (ka_2_5 pk_345)) ev3 (gd_nm hg gv3) ?_
        show K 39 [some (.inr (.inr 345)), some (.inr (.inr a1)), some (.inl x2), some (.inl x3), none] [] v3
        refine ia_go hK ck_Dr_shopsWithHope_39 ?_
        show K 10 [some (.inr (.inr 345)), some (.inr (.inr a1)), some (.inl x2), some (.inl (x3 + 1)), none] [] v3
        exact ih (x3 + 1) v3 gv3 hm
theorem gl_Dr_shopsWithHope_10 {a1 : Nat} {x2 : Int32} (p1 : (kd_D a1).1 = 9) {r : Int32} {h1 : ia_H} {k45 : ia_H → Option (Int32 × ia_H)} (hk45 : ∀ (h : ia_H), gd_ h → k45 h = some (r, h1) → gd_ h1) : ∀ (n : Nat) (x3 : Int32) (h : ia_H), gd_ h → l_Dr_shopsWithHope_10 a1 x2 k45 n x3 h = some (r, h1) → gd_ h1 := by
  intro n
  induction n with
  | zero =>
    intro x3 h hg hm
    cases (show (none : Option (Int32 × ia_H)) = some _ from hm)
  | succ n ih =>
    intro x3 h hg hm
    rw [l_Dr_shopsWithHope_10] at hm
    by_cases c : (ia_i h (ia_r h a1 0) 11) ≤ x3
    · replace hm := ia_ifp hm c
      exact hk45 h hg hm
    · replace hm := ia_ifn hm c
      obtain ⟨c2, hm⟩ := ia_gd_some hm
      by_cases c : (ia_i h (a1 + 5) ((x3).toNatClampNeg)) < 0
      · replace hm := ia_ifp hm c
        exact ih (x3 + 1) h hg hm
      · replace hm := ia_ifn hm c
        obtain ⟨v3, hv3, hm⟩ := ia_bnd hm
        have gv3 := g_Sc_lift hg (ka_2_5 pk_345) hv3
        exact ih (x3 + 1) v3 gv3 hm
def l_Dr_shopsWithHope_47 (a1 : Nat) (x2 : Int32) (k76 : ia_H → Option (Int32 × ia_H)) (n : Nat) (x3 : Int32) (h : ia_H) : Option (Int32 × ia_H) := match n with
  | 0 => none
  | n + 1 => if x2 ≤ x3 then (k76 h) else ((f_Sc_frost 405 h).bind fun v4 => ((f_Sc_passDay 405 (ia_max 0 v4) h).bind fun v5 => (l_Dr_shopsWithHope_47 a1 x2 k76 n (x3 + 1) v5)))
theorem tl_Dr_shopsWithHope_47 {d N1 W1 : Nat} {K : ia_K} (hK : ia_isK (d + 4) mm_Dr_shopsWithHope N1 W1 K) {a1 : Nat} {x2 : Int32} (p1 : (kd_D a1).1 = 9) {r : Int32} {h1 : ia_H} (hret : ∀ (pc : Nat) (lv : ia_L), ia_ret mm_Dr_shopsWithHope pc (some (.inl r)) → K pc lv ((some (.inl r)) : Option ia_V).toList h1) {k76 : ia_H → Option (Int32 × ia_H)} (hk76 : ∀ (h : ia_H), gd_ h → k76 h = some (r, h1) → K 76 [some (.inr (.inr 345)), some (.inr (.inr a1)), none, none, none] [] h) : ∀ (n : Nat) (x3 : Int32) (h : ia_H), gd_ h → l_Dr_shopsWithHope_47 a1 x2 k76 n x3 h = some (r, h1) → K 47 [some (.inr (.inr 345)), some (.inr (.inr a1)), some (.inl x2), some (.inl x3), none] [] h := by
  intro n
  induction n with
  | zero =>
    intro x3 h hg hm
    cases (show (none : Option (Int32 × ia_H)) = some _ from hm)
  | succ n ih =>
    intro x3 h hg hm
    rw [l_Dr_shopsWithHope_47] at hm
    refine ia_go hK ck_Dr_shopsWithHope_47 ⟨fun c => ?_, fun c => ?_⟩
    · replace hm := ia_ifp hm c
      show K 76 [some (.inr (.inr 345)), some (.inr (.inr a1)), some (.inl x2), some (.inl x3), none] [] h
      refine ia_fg hK (lv' := [some (.inr (.inr 345)), some (.inr (.inr a1)), none, none, none]) ⟨rfl, rfl, trivial⟩ ?_
      exact hk76 h hg hm
    · replace hm := ia_ifn hm c
      show K 52 [some (.inr (.inr 345)), some (.inr (.inr a1)), some (.inl x2), some (.inl x3), none] [] h
      refine ia_go hK ck_Dr_shopsWithHope_52 ⟨gk_2 hg pk_345, gr_2_5 hg pk_345, gk_2 hg pk_345, gr_2_5 hg pk_345, ?_⟩
      show K 61 [some (.inr (.inr 345)), some (.inr (.inr a1)), some (.inl x2), some (.inl x3), none] [.inr (.inr 405), .inl 0, .inr (.inr 405)] h
      obtain ⟨v4, hv4, hm⟩ := ia_bnd hm
      have ev4 := t_Sc_frost (d + 3) hg (ka_2_5 pk_345) hv4
      refine ia_cV hK mk_Sc_frost lk_2_94 dc_Dr_shopsWithHope_61 405 [] [.inl 0, .inr (.inr 405)] rfl rfl (Nat.le_of_ble_eq_true rfl) (by decide) rfl (gk_9 hg (ka_2_5 pk_345)) ev4 ⟨rfl, rfl⟩ ?_
      show K 64 [some (.inr (.inr 345)), some (.inr (.inr a1)), some (.inl x2), some (.inl x3), none] [.inl v4, .inl 0, .inr (.inr 405)] h
      refine ia_mmax hK (ia_tb_in (List.mem_of_getElem? (i := 1361) (by decide +kernel)) rfl) dc_Dr_shopsWithHope_64 (Nat.le_of_ble_eq_true rfl) ?_
      show K 67 [some (.inr (.inr 345)), some (.inr (.inr a1)), some (.inl x2), some (.inl x3), none] [.inl (ia_max 0 v4), .inr (.inr 405)] h
      obtain ⟨v5, hv5, hm⟩ := ia_bnd hm
      have ev5 := t_Sc_passDay (d + 0) hg (ka_2_5 pk_345) hv5
      have gv5 := g_Sc_passDay hg (ka_2_5 pk_345) hv5
      refine ia_cV hK mk_Sc_passDay lk_2_97 dc_Dr_shopsWithHope_67 405 [.inl (ia_max 0 v4)] [] rfl rfl (Nat.le_of_ble_eq_true rfl) (by decide) rfl (gk_9 hg (ka_2_5 pk_345)) ev5 (gd_nm hg gv5) ?_
      show K 70 [some (.inr (.inr 345)), some (.inr (.inr a1)), some (.inl x2), some (.inl x3), none] [] v5
      refine ia_go hK ck_Dr_shopsWithHope_70 ?_
      show K 47 [some (.inr (.inr 345)), some (.inr (.inr a1)), some (.inl x2), some (.inl (x3 + 1)), none] [] v5
      exact ih (x3 + 1) v5 gv5 hm
theorem gl_Dr_shopsWithHope_47 {a1 : Nat} {x2 : Int32} (p1 : (kd_D a1).1 = 9) {r : Int32} {h1 : ia_H} {k76 : ia_H → Option (Int32 × ia_H)} (hk76 : ∀ (h : ia_H), gd_ h → k76 h = some (r, h1) → gd_ h1) : ∀ (n : Nat) (x3 : Int32) (h : ia_H), gd_ h → l_Dr_shopsWithHope_47 a1 x2 k76 n x3 h = some (r, h1) → gd_ h1 := by
  intro n
  induction n with
  | zero =>
    intro x3 h hg hm
    cases (show (none : Option (Int32 × ia_H)) = some _ from hm)
  | succ n ih =>
    intro x3 h hg hm
    rw [l_Dr_shopsWithHope_47] at hm
    by_cases c : x2 ≤ x3
    · replace hm := ia_ifp hm c
      exact hk76 h hg hm
    · replace hm := ia_ifn hm c
      obtain ⟨v4, hv4, hm⟩ := ia_bnd hm
      obtain ⟨v5, hv5, hm⟩ := ia_bnd hm
      have gv5 := g_Sc_passDay hg (ka_2_5 pk_345) hv5
      exact ih (x3 + 1) v5 gv5 hm
def l_Dr_shopsWithHope_93 (a1 : Nat) (x2 : Int32) (k152 : Int32 → ia_H → Option (Int32 × ia_H)) (n : Nat) (x3 : Int32) (x4 : Int32) (h : ia_H) : Option (Int32 × ia_H) := match n with
  | 0 => none
  | n + 1 => if (ia_i h (ia_r h a1 0) 11) ≤ x4 then (k152 x3 h) else (ia_gd (ia_ib x4 6) (if (ia_i h (a1 + 5) ((x4).toNatClampNeg)) < 0 then (l_Dr_shopsWithHope_93 a1 x2 k152 n x3 (x4 + 1) h) else (ia_gd (ia_ib x4 6) (ia_gd (ia_ib x4 6) ((f_Wa_reachesShore (ia_i h (a1 + 6) ((x4).toNatClampNeg)) (ia_i h (a1 + 5) ((x4).toNatClampNeg)) h).bind fun v10 => (if v10.1 = 0 then (l_Dr_shopsWithHope_93 a1 x2 k152 n x3 (x4 + 1) v10.2) else (l_Dr_shopsWithHope_93 a1 x2 k152 n (x3 ||| (1 <<< (x4 &&& 31))) (x4 + 1) v10.2)))))))
theorem tl_Dr_shopsWithHope_93 {d N1 W1 : Nat} {K : ia_K} (hK : ia_isK (d + 4) mm_Dr_shopsWithHope N1 W1 K) {a1 : Nat} {x2 : Int32} (p1 : (kd_D a1).1 = 9) {r : Int32} {h1 : ia_H} (hret : ∀ (pc : Nat) (lv : ia_L), ia_ret mm_Dr_shopsWithHope pc (some (.inl r)) → K pc lv ((some (.inl r)) : Option ia_V).toList h1) {k152 : Int32 → ia_H → Option (Int32 × ia_H)} (hk152 : ∀ (x3 : Int32) (h : ia_H), gd_ h → k152 x3 h = some (r, h1) → K 152 [none, none, none, some (.inl x3), none] [] h) : ∀ (n : Nat) (x3 : Int32) (x4 : Int32) (h : ia_H), gd_ h → l_Dr_shopsWithHope_93 a1 x2 k152 n x3 x4 h = some (r, h1) → K 93 [some (.inr (.inr 345)), some (.inr (.inr a1)), none, some (.inl x3), some (.inl x4)] [] h := by
  intro n
  induction n with
  | zero =>
    intro x3 x4 h hg hm
    cases (show (none : Option (Int32 × ia_H)) = some _ from hm)
  | succ n ih =>
    intro x3 x4 h hg hm
    rw [l_Dr_shopsWithHope_93] at hm
    refine ia_go hK ck_Dr_shopsWithHope_93 ⟨gk_9 hg p1, gk_3 hg (gm_9_0 hg p1), fun c => ?_, fun c => ?_⟩
    · replace hm := ia_ifp hm c
      show K 152 [some (.inr (.inr 345)), some (.inr (.inr a1)), none, some (.inl x3), some (.inl x4)] [] h
      refine ia_fg hK (lv' := [none, none, none, some (.inl x3), none]) ⟨rfl, trivial⟩ ?_
      exact hk152 x3 h hg hm
    · replace hm := ia_ifn hm c
      show K 105 [some (.inr (.inr 345)), some (.inr (.inr a1)), none, some (.inl x3), some (.inl x4)] [] h
      obtain ⟨c7, hm⟩ := ia_gd_some hm
      refine ia_go hK ck_Dr_shopsWithHope_105 ⟨gk_9 hg p1, gr_9_6 hg p1, ga_i100 hg (ka_9_6 p1) c7, fun c => ?_, fun c => ?_⟩
      · replace hm := ia_ifp hm c
        show K 146 [some (.inr (.inr 345)), some (.inr (.inr a1)), none, some (.inl x3), some (.inl x4)] [] h
        refine ia_go hK ck_Dr_shopsWithHope_146 ?_
        show K 93 [some (.inr (.inr 345)), some (.inr (.inr a1)), none, some (.inl x3), some (.inl (x4 + 1))] [] h
        exact ih x3 (x4 + 1) h hg hm
      · replace hm := ia_ifn hm c
        show K 115 [some (.inr (.inr 345)), some (.inr (.inr a1)), none, some (.inl x3), some (.inl x4)] [] h
        obtain ⟨c8, hm⟩ := ia_gd_some hm
        obtain ⟨c9, hm⟩ := ia_gd_some hm
        refine ia_go hK ck_Dr_shopsWithHope_115 ⟨gk_2 hg pk_345, gr_2_2 hg pk_345, gk_9 hg p1, gr_9_7 hg p1, ga_i100 hg (ka_9_7 p1) c8, gk_9 hg p1, gr_9_6 hg p1, ga_i100 hg (ka_9_6 p1) c9, ?_⟩
        show K 133 [some (.inr (.inr 345)), some (.inr (.inr a1)), none, some (.inl x3), some (.inl x4)] [.inl (ia_i h (a1 + 5) ((x4).toNatClampNeg)), .inl (ia_i h (a1 + 6) ((x4).toNatClampNeg)), .inr (.inr 311)] h
        obtain ⟨v10, hv10, hm⟩ := ia_bnd hm
        have ev10 := t_Wa_reachesShore (d + 1) hg hv10
        have gv10 := g_Wa_reachesShore hg hv10
        refine ia_cV hK mk_Wa_reachesShore lk_2_128 dc_Dr_shopsWithHope_133 311 [.inl (ia_i h (a1 + 6) ((x4).toNatClampNeg)), .inl (ia_i h (a1 + 5) ((x4).toNatClampNeg))] [] rfl rfl (Nat.le_of_ble_eq_true rfl) (by decide) rfl (gk_11 hg pk_311) ev10 (gd_nm hg gv10) ?_
        show K 136 [some (.inr (.inr 345)), some (.inr (.inr a1)), none, some (.inl x3), some (.inl x4)] [.inl v10.1] v10.2
        refine ia_go hK ck_Dr_shopsWithHope_136 ⟨fun c => ?_, fun c => ?_⟩
        · replace hm := ia_ifp hm c
          show K 146 [some (.inr (.inr 345)), some (.inr (.inr a1)), none, some (.inl x3), some (.inl x4)] [] v10.2
          refine ia_go hK ck_Dr_shopsWithHope_146 ?_
          show K 93 [some (.inr (.inr 345)), some (.inr (.inr a1)), none, some (.inl x3), some (.inl (x4 + 1))] [] v10.2
          exact ih x3 (x4 + 1) v10.2 gv10 hm
        · replace hm := ia_ifn hm c
          show K 139 [some (.inr (.inr 345)), some (.inr (.inr a1)), none, some (.inl x3), some (.inl x4)] [] v10.2
          refine ia_go hK ck_Dr_shopsWithHope_139 ?_
          show K 93 [some (.inr (.inr 345)), some (.inr (.inr a1)), none, some (.inl (x3 ||| (1 <<< (x4 &&& 31)))), some (.inl (x4 + 1))] [] v10.2
          exact ih (x3 ||| (1 <<< (x4 &&& 31))) (x4 + 1) v10.2 gv10 hm
theorem gl_Dr_shopsWithHope_93 {a1 : Nat} {x2 : Int32} (p1 : (kd_D a1).1 = 9) {r : Int32} {h1 : ia_H} {k152 : Int32 → ia_H → Option (Int32 × ia_H)} (hk152 : ∀ (x3 : Int32) (h : ia_H), gd_ h → k152 x3 h = some (r, h1) → gd_ h1) : ∀ (n : Nat) (x3 : Int32) (x4 : Int32) (h : ia_H), gd_ h → l_Dr_shopsWithHope_93 a1 x2 k152 n x3 x4 h = some (r, h1) → gd_ h1 := by
  intro n
  induction n with
  | zero =>
    intro x3 x4 h hg hm
    cases (show (none : Option (Int32 × ia_H)) = some _ from hm)
  | succ n ih =>
    intro x3 x4 h hg hm
    rw [l_Dr_shopsWithHope_93] at hm
    by_cases c : (ia_i h (ia_r h a1 0) 11) ≤ x4
    · replace hm := ia_ifp hm c
      exact hk152 x3 h hg hm
    · replace hm := ia_ifn hm c
      obtain ⟨c7, hm⟩ := ia_gd_some hm
      by_cases c : (ia_i h (a1 + 5) ((x4).toNatClampNeg)) < 0
      · replace hm := ia_ifp hm c
        exact ih x3 (x4 + 1) h hg hm
      · replace hm := ia_ifn hm c
        obtain ⟨c8, hm⟩ := ia_gd_some hm
        obtain ⟨c9, hm⟩ := ia_gd_some hm
        obtain ⟨v10, hv10, hm⟩ := ia_bnd hm
        have gv10 := g_Wa_reachesShore hg hv10
        by_cases c : v10.1 = 0
        · replace hm := ia_ifp hm c
          exact ih x3 (x4 + 1) v10.2 gv10 hm
        · replace hm := ia_ifn hm c
          exact ih (x3 ||| (1 <<< (x4 &&& 31))) (x4 + 1) v10.2 gv10 hm
def f_Dr_shopsWithHope (a1 : Nat) (x2 : Int32) (h : ia_H) : Option (Int32 × ia_H) := (f_Sc_become 405 a1 h).bind fun v1 => (l_Dr_shopsWithHope_10 a1 x2 (fun h => l_Dr_shopsWithHope_47 a1 x2 (fun h => (f_Wa_survey 405 0 h).bind fun v6 => (l_Dr_shopsWithHope_93 a1 x2 (fun x3 h => some (x3, h)) fu_ 0 0 v6)) fu_ 1 h) fu_ 0 v1)
theorem g_Dr_shopsWithHope {a1 : Nat} {x2 : Int32} {h : ia_H} (hg : gd_ h) (p1 : (kd_D a1).1 = 9) {q : (Int32 × ia_H)} (hm : f_Dr_shopsWithHope a1 x2 h = some q) : gd_ q.2 := by
  obtain ⟨r, h1⟩ := q
  unfold f_Dr_shopsWithHope at hm
  obtain ⟨v1, hv1, hm⟩ := ia_bnd hm
  have gv1 := g_Sc_become hg (ka_2_5 pk_345) p1 hv1
  refine gl_Dr_shopsWithHope_10 p1 ?_ fu_ 0 v1 gv1 hm
  · intro h hg hm
    refine gl_Dr_shopsWithHope_47 p1 ?_ fu_ 1 h hg hm
    · intro h hg hm
      obtain ⟨v6, hv6, hm⟩ := ia_bnd hm
      have gv6 := g_Wa_survey hg (ka_2_5 pk_345) hv6
      refine gl_Dr_shopsWithHope_93 p1 ?_ fu_ 0 0 v6 gv6 hm
      · intro x3 h hg hm
        cases hm
        exact hg
theorem t_Dr_shopsWithHope (d : Nat) {a1 : Nat} {x2 : Int32} {h : ia_H} (hg : gd_ h) (p1 : (kd_D a1).1 = 9) {q : (Int32 × ia_H)} (hm : f_Dr_shopsWithHope a1 x2 h = some q) : ia_Ev (d + 4) mm_Dr_shopsWithHope [.inr (.inr 345), .inr (.inr a1), .inl x2] h (some (.inl q.1)) q.2 := by
  have gq := g_Dr_shopsWithHope hg p1 hm
  refine ia_Ev_intro ok_Dr_shopsWithHope (gd_le hg gq).1 (gd_le hg gq).2 (Nat.le_of_ble_eq_true rfl) (fun K hK hret => ?_)
  obtain ⟨r, h1⟩ := q
  show K 0 [some (.inr (.inr 345)), some (.inr (.inr a1)), some (.inl x2), none, none] [] h
  unfold f_Dr_shopsWithHope at hm
  refine ia_go hK ck_Dr_shopsWithHope_0 ⟨gk_2 hg pk_345, gr_2_5 hg pk_345, ?_⟩
  show K 5 [some (.inr (.inr 345)), some (.inr (.inr a1)), some (.inl x2), none, none] [.inr (.inr a1), .inr (.inr 405)] h
  obtain ⟨v1, hv1, hm⟩ := ia_bnd hm
  have ev1 := t_Sc_become (d + 3) hg (ka_2_5 pk_345) p1 hv1
  have gv1 := g_Sc_become hg (ka_2_5 pk_345) p1 hv1
  refine ia_cV hK mk_Sc_become lk_2_45 dc_Dr_shopsWithHope_5 405 [.inr (.inr a1)] [] rfl rfl (Nat.le_of_ble_eq_true rfl) (by decide) rfl (gk_9 hg (ka_2_5 pk_345)) ev1 (gd_nm hg gv1) ?_
  show K 8 [some (.inr (.inr 345)), some (.inr (.inr a1)), some (.inl x2), none, none] [] v1
  refine ia_go hK ck_Dr_shopsWithHope_8 ?_
  show K 10 [some (.inr (.inr 345)), some (.inr (.inr a1)), some (.inl x2), some (.inl 0), none] [] v1
  refine tl_Dr_shopsWithHope_10 hK p1 hret ?_ fu_ 0 v1 gv1 hm
  · intro h hg hm
    refine ia_go hK ck_Dr_shopsWithHope_45 ?_
    show K 47 [some (.inr (.inr 345)), some (.inr (.inr a1)), some (.inl x2), some (.inl 1), none] [] h
    refine tl_Dr_shopsWithHope_47 hK p1 hret ?_ fu_ 1 h hg hm
    · intro h hg hm
      refine ia_go hK ck_Dr_shopsWithHope_76 ⟨gk_2 hg pk_345, gr_2_2 hg pk_345, gk_2 hg pk_345, gr_2_5 hg pk_345, ?_⟩
      show K 85 [some (.inr (.inr 345)), some (.inr (.inr a1)), none, none, none] [.inl 0, .inr (.inr 405), .inr (.inr 311)] h
      obtain ⟨v6, hv6, hm⟩ := ia_bnd hm
      have ev6 := t_Wa_survey (d + 2) hg (ka_2_5 pk_345) hv6
      have gv6 := g_Wa_survey hg (ka_2_5 pk_345) hv6
      refine ia_cV hK mk_Wa_survey lk_2_121 dc_Dr_shopsWithHope_85 311 [.inr (.inr 405), .inl 0] [] rfl rfl (Nat.le_of_ble_eq_true rfl) (by decide) rfl (gk_11 hg pk_311) ev6 (gd_nm hg gv6) ?_
      show K 88 [some (.inr (.inr 345)), some (.inr (.inr a1)), none, none, none] [] v6
      refine ia_go hK ck_Dr_shopsWithHope_88 ?_
      show K 93 [some (.inr (.inr 345)), some (.inr (.inr a1)), none, some (.inl 0), some (.inl 0)] [] v6
      refine tl_Dr_shopsWithHope_93 hK p1 hret ?_ fu_ 0 0 v6 gv6 hm
      · intro x3 h hg hm
        refine ia_go hK ck_Dr_shopsWithHope_152 ?_
        show K 153 [none, none, none, some (.inl x3), none] [.inl x3] h
        cases hm
        exact hret 153 _ dc_Dr_shopsWithHope_153
def mm_Dr_worthAtLeast : ia_M := (⟨"IceStreet$Drawing", "worthAtLeast", "(LIceStreet$Scene;II)I"⟩, prog_3_method_6_code, 9, (some .int), 2, false)
theorem ok_Dr_worthAtLeast : ia_mok mm_Dr_worthAtLeast := ⟨by decide +kernel, by decide +kernel, by decide +kernel, by decide +kernel⟩
theorem mk_Dr_worthAtLeast : ia_mkn mm_Dr_worthAtLeast 0 3 := ⟨ia_tb_in (List.mem_of_getElem? (i := 1367) (by decide +kernel)) rfl, ia_tb_in (List.mem_of_getElem? (i := 144) (by decide +kernel)) rfl, by decide +kernel, by decide +kernel, ia_tb_in (List.mem_of_getElem? (i := 1366) (by decide +kernel)) rfl⟩
theorem ck_Dr_worthAtLeast_0 : ia_cks 2 9 false prog_3_method_6_code 0 [(.aload_n 0, 0, 0, 0, 0)] = true := by decide +kernel
theorem ck_Dr_worthAtLeast_4 : ia_cks 2 9 false prog_3_method_6_code 4 [(.istore_n 3, 0, 0, 0, 0), (.iload_n 2, 0, 0, 0, 0), (.istore 4, 0, 0, 0, 0), (.iconst 0, 0, 0, 0, 0), (.istore 5, 0, 0, 0, 0)] = true := by decide +kernel
theorem ck_Dr_worthAtLeast_11 : ia_cks 2 9 false prog_3_method_6_code 11 [(.iload 5, 0, 0, 0, 0), (.iload_n 1, 0, 0, 0, 0), (.if_icmp .ge 123, 0, 0, 0, 0)] = true := by decide +kernel
theorem ck_Dr_worthAtLeast_17 : ia_cks 2 9 false prog_3_method_6_code 17 [(.iload 4, 0, 0, 0, 0), (.ifCond .eq 118, 0, 0, 0, 0)] = true := by decide +kernel
theorem ck_Dr_worthAtLeast_22 : ia_cks 2 9 false prog_3_method_6_code 22 [(.iconst (-1), 0, 0, 0, 0), (.istore 6, 0, 0, 0, 0), (.iconst 0, 0, 0, 0, 0), (.istore 7, 0, 0, 0, 0)] = true := by decide +kernel
theorem ck_Dr_worthAtLeast_28 : ia_cks 2 9 false prog_3_method_6_code 28 [(.iload 7, 0, 0, 0, 0), (.aload_n 0, 0, 0, 0, 0), (.getfield 68, 9, 0, 2, 0), (.getfield 72, 3, 11, 0, 0), (.if_icmp .ge 64, 0, 0, 0, 0)] = true := by decide +kernel
theorem ck_Dr_worthAtLeast_40 : ia_cks 2 9 false prog_3_method_6_code 40 [(.iload 6, 0, 0, 0, 0), (.iconst (-1), 0, 0, 0, 0), (.if_icmp .eq 26, 0, 0, 0, 0)] = true := by decide +kernel
theorem ck_Dr_worthAtLeast_69 : ia_cks 2 9 false prog_3_method_6_code 69 [(.iconst 1, 0, 0, 0, 0), (.goto 4, 0, 0, 0, 0)] = true := by decide +kernel
theorem ck_Dr_worthAtLeast_74 : ia_cks 2 9 false prog_3_method_6_code 74 [(.istore 8, 0, 0, 0, 0), (.iload 4, 0, 0, 0, 0), (.iload 7, 0, 0, 0, 0), (.ishr, 0, 0, 0, 0), (.iconst 1, 0, 0, 0, 0), (.iand, 0, 0, 0, 0), (.ifCond .eq 12, 0, 0, 0, 0)] = true := by decide +kernel
theorem ck_Dr_worthAtLeast_95 : ia_cks 2 9 false prog_3_method_6_code 95 [(.iinc 7 1, 0, 0, 0, 0), (.goto (-70), 0, 0, 0, 0)] = true := by decide +kernel
theorem ck_Dr_worthAtLeast_86 : ia_cks 2 9 false prog_3_method_6_code 86 [(.iload 8, 0, 0, 0, 0), (.ifCond .eq 7, 0, 0, 0, 0)] = true := by decide +kernel
theorem ck_Dr_worthAtLeast_91 : ia_cks 2 9 false prog_3_method_6_code 91 [(.iload 7, 0, 0, 0, 0), (.istore 6, 0, 0, 0, 0), (.iinc 7 1, 0, 0, 0, 0), (.goto (-70), 0, 0, 0, 0)] = true := by decide +kernel
theorem ck_Dr_worthAtLeast_46 : ia_cks 2 9 false prog_3_method_6_code 46 [(.aload_n 0, 0, 0, 0, 0), (.getfield 68, 9, 0, 2, 0), (.getfield 109, 3, 15, 3, 9), (.iload 7, 0, 0, 0, 0), (.iaload, 0, 0, 0, 0), (.aload_n 0, 0, 0, 0, 0), (.getfield 68, 9, 0, 2, 0), (.getfield 109, 3, 15, 3, 9), (.iload 6, 0, 0, 0, 0), (.iaload, 0, 0, 0, 0), (.if_icmp .le 7, 0, 0, 0, 0)] = true := by decide +kernel
theorem ck_Dr_worthAtLeast_73 : ia_cks 2 9 false prog_3_method_6_code 73 [(.iconst 0, 0, 0, 0, 0)] = true := by decide +kernel
theorem ck_Dr_worthAtLeast_101 : ia_cks 2 9 false prog_3_method_6_code 101 [(.iload 6, 0, 0, 0, 0), (.iconst (-1), 0, 0, 0, 0), (.if_icmp .eq 27, 0, 0, 0, 0)] = true := by decide +kernel
theorem ck_Dr_worthAtLeast_131 : ia_cks 2 9 false prog_3_method_6_code 131 [(.iinc 5 1, 0, 0, 0, 0), (.goto (-123), 0, 0, 0, 0)] = true := by decide +kernel
theorem ck_Dr_worthAtLeast_107 : ia_cks 2 9 false prog_3_method_6_code 107 [(.iload 4, 0, 0, 0, 0), (.iconst 1, 0, 0, 0, 0), (.iload 6, 0, 0, 0, 0), (.ishl, 0, 0, 0, 0), (.iconst (-1), 0, 0, 0, 0), (.ixor, 0, 0, 0, 0), (.iand, 0, 0, 0, 0), (.istore 4, 0, 0, 0, 0), (.iload_n 3, 0, 0, 0, 0), (.aload_n 0, 0, 0, 0, 0), (.getfield 68, 9, 0, 2, 0), (.getfield 109, 3, 15, 3, 9), (.iload 6, 0, 0, 0, 0), (.iaload, 0, 0, 0, 0), (.isub, 0, 0, 0, 0), (.istore_n 3, 0, 0, 0, 0), (.iinc 5 1, 0, 0, 0, 0), (.goto (-123), 0, 0, 0, 0)] = true := by decide +kernel
theorem ck_Dr_worthAtLeast_137 : ia_cks 2 9 false prog_3_method_6_code 137 [(.iload_n 3, 0, 0, 0, 0)] = true := by decide +kernel
theorem dc_Dr_worthAtLeast_1 : decode prog_3_method_6_code 1 = .ok (.invokevirtual 52, 3) := by decide +kernel
theorem dc_Dr_worthAtLeast_138 : decode prog_3_method_6_code 138 = .ok (.ireturn, 1) := by decide +kernel
def j_Dr_worthAtLeast_74 (a0 : Nat) (x1 : Int32) (x2 : Int32) (h : ia_H) (kr : Int32 → Int32 → Int32 → Int32 → Int32 → Option Int32) (k101 : Int32 → Int32 → Int32 → Int32 → Option Int32) (x3 : Int32) (x4 : Int32) (x5 : Int32) (x6 : Int32) (x7 : Int32) (s0 : Int32) : Option Int32 := if ((x4 >>> (x7 &&& 31)) &&& 1) = 0 then (kr x3 x4 x5 x6 (x7 + 1)) else (if s0 = 0 then (kr x3 x4 x5 x6 (x7 + 1)) else (kr x3 x4 x5 x7 (x7 + 1)))
theorem tj_Dr_worthAtLeast_74 {d N1 W1 : Nat} {K : ia_K} (hK : ia_isK (d + 1) mm_Dr_worthAtLeast N1 W1 K) {a0 : Nat} {x1 : Int32} {x2 : Int32} {h : ia_H} (hg : gd_ h) (p0 : (kd_D a0).1 = 9) {r : Int32} (hret : ∀ (pc : Nat) (lv : ia_L), ia_ret mm_Dr_worthAtLeast pc (some (.inl r)) → K pc lv ((some (.inl r)) : Option ia_V).toList h) {kr : Int32 → Int32 → Int32 → Int32 → Int32 → Option Int32} {k101 : Int32 → Int32 → Int32 → Int32 → Option Int32} (hkr : ∀ (x3 : Int32) (x4 : Int32) (x5 : Int32) (x6 : Int32) (x7 : Int32), kr x3 x4 x5 x6 x7 = some r → K 28 [some (.inr (.inr a0)), some (.inl x1), none, some (.inl x3), some (.inl x4), some (.inl x5), some (.inl x6), some (.inl x7), none] [] h) (hk101 : ∀ (x3 : Int32) (x4 : Int32) (x5 : Int32) (x6 : Int32), k101 x3 x4 x5 x6 = some r → K 101 [some (.inr (.inr a0)), some (.inl x1), none, some (.inl x3), some (.inl x4), some (.inl x5), some (.inl x6), none, none] [] h) : ∀ (x3 : Int32) (x4 : Int32) (x5 : Int32) (x6 : Int32) (x7 : Int32) (s0 : Int32), j_Dr_worthAtLeast_74 a0 x1 x2 h kr k101 x3 x4 x5 x6 x7 s0 = some r → K 74 [some (.inr (.inr a0)), some (.inl x1), none, some (.inl x3), some (.inl x4), some (.inl x5), some (.inl x6), some (.inl x7), none] [.inl s0] h := by
  intro x3 x4 x5 x6 x7 s0 hm
  unfold j_Dr_worthAtLeast_74 at hm
  refine ia_go hK ck_Dr_worthAtLeast_74 ⟨fun c => ?_, fun c => ?_⟩
  · replace hm := ia_ifp hm c
    show K 95 [some (.inr (.inr a0)), some (.inl x1), none, some (.inl x3), some (.inl x4), some (.inl x5), some (.inl x6), some (.inl x7), some (.inl s0)] [] h
    refine ia_go hK ck_Dr_worthAtLeast_95 ?_
    show K 28 [some (.inr (.inr a0)), some (.inl x1), none, some (.inl x3), some (.inl x4), some (.inl x5), some (.inl x6), some (.inl (x7 + 1)), some (.inl s0)] [] h
    refine ia_fg hK (lv' := [some (.inr (.inr a0)), some (.inl x1), none, some (.inl x3), some (.inl x4), some (.inl x5), some (.inl x6), some (.inl (x7 + 1)), none]) ⟨rfl, rfl, rfl, rfl, rfl, rfl, rfl, trivial⟩ ?_
    exact hkr x3 x4 x5 x6 (x7 + 1) hm
  · replace hm := ia_ifn hm c
    show K 86 [some (.inr (.inr a0)), some (.inl x1), none, some (.inl x3), some (.inl x4), some (.inl x5), some (.inl x6), some (.inl x7), some (.inl s0)] [] h
    refine ia_go hK ck_Dr_worthAtLeast_86 ⟨fun c => ?_, fun c => ?_⟩
    · replace hm := ia_ifp hm c
      show K 95 [some (.inr (.inr a0)), some (.inl x1), none, some (.inl x3), some (.inl x4), some (.inl x5), some (.inl x6), some (.inl x7), some (.inl s0)] [] h
      refine ia_go hK ck_Dr_worthAtLeast_95 ?_
      show K 28 [some (.inr (.inr a0)), some (.inl x1), none, some (.inl x3), some (.inl x4), some (.inl x5), some (.inl x6), some (.inl (x7 + 1)), some (.inl s0)] [] h
      refine ia_fg hK (lv' := [some (.inr (.inr a0)), some (.inl x1), none, some (.inl x3), some (.inl x4), some (.inl x5), some (.inl x6), some (.inl (x7 + 1)), none]) ⟨rfl, rfl, rfl, rfl, rfl, rfl, rfl, trivial⟩ ?_
      exact hkr x3 x4 x5 x6 (x7 + 1) hm
    · replace hm := ia_ifn hm c
      show K 91 [some (.inr (.inr a0)), some (.inl x1), none, some (.inl x3), some (.inl x4), some (.inl x5), some (.inl x6), some (.inl x7), some (.inl s0)] [] h
      refine ia_go hK ck_Dr_worthAtLeast_91 ?_
      show K 28 [some (.inr (.inr a0)), some (.inl x1), none, some (.inl x3), some (.inl x4), some (.inl x5), some (.inl x7), some (.inl (x7 + 1)), some (.inl s0)] [] h
      refine ia_fg hK (lv' := [some (.inr (.inr a0)), some (.inl x1), none, some (.inl x3), some (.inl x4), some (.inl x5), some (.inl x7), some (.inl (x7 + 1)), none]) ⟨rfl, rfl, rfl, rfl, rfl, rfl, rfl, trivial⟩ ?_
      exact hkr x3 x4 x5 x7 (x7 + 1) hm
def l_Dr_worthAtLeast_28 (a0 : Nat) (x1 : Int32) (x2 : Int32) (h : ia_H) (k101 : Int32 → Int32 → Int32 → Int32 → Option Int32) (n : Nat) (x3 : Int32) (x4 : Int32) (x5 : Int32) (x6 : Int32) (x7 : Int32) : Option Int32 := match n with
  | 0 => none
  | n + 1 => if (ia_i h (ia_r h a0 0) 11) ≤ x7 then (k101 x3 x4 x5 x6) else (if x6 = (-1) then (j_Dr_worthAtLeast_74 a0 x1 x2 h (l_Dr_worthAtLeast_28 a0 x1 x2 h k101 n) k101 x3 x4 x5 x6 x7 1) else (ia_gd (ia_ib x7 6) (ia_gd (ia_ib x6 6) (if (ia_i h ((ia_r h a0 0) + 9) ((x7).toNatClampNeg)) ≤ (ia_i h ((ia_r h a0 0) + 9) ((x6).toNatClampNeg)) then (j_Dr_worthAtLeast_74 a0 x1 x2 h (l_Dr_worthAtLeast_28 a0 x1 x2 h k101 n) k101 x3 x4 x5 x6 x7 0) else (j_Dr_worthAtLeast_74 a0 x1 x2 h (l_Dr_worthAtLeast_28 a0 x1 x2 h k101 n) k101 x3 x4 x5 x6 x7 1)))))
theorem tl_Dr_worthAtLeast_28 {d N1 W1 : Nat} {K : ia_K} (hK : ia_isK (d + 1) mm_Dr_worthAtLeast N1 W1 K) {a0 : Nat} {x1 : Int32} {x2 : Int32} {h : ia_H} (hg : gd_ h) (p0 : (kd_D a0).1 = 9) {r : Int32} (hret : ∀ (pc : Nat) (lv : ia_L), ia_ret mm_Dr_worthAtLeast pc (some (.inl r)) → K pc lv ((some (.inl r)) : Option ia_V).toList h) {k101 : Int32 → Int32 → Int32 → Int32 → Option Int32} (hk101 : ∀ (x3 : Int32) (x4 : Int32) (x5 : Int32) (x6 : Int32), k101 x3 x4 x5 x6 = some r → K 101 [some (.inr (.inr a0)), some (.inl x1), none, some (.inl x3), some (.inl x4), some (.inl x5), some (.inl x6), none, none] [] h) : ∀ (n : Nat) (x3 : Int32) (x4 : Int32) (x5 : Int32) (x6 : Int32) (x7 : Int32), l_Dr_worthAtLeast_28 a0 x1 x2 h k101 n x3 x4 x5 x6 x7 = some r → K 28 [some (.inr (.inr a0)), some (.inl x1), none, some (.inl x3), some (.inl x4), some (.inl x5), some (.inl x6), some (.inl x7), none] [] h := by
  intro n
  induction n with
  | zero =>
    intro x3 x4 x5 x6 x7 hm
    cases (show (none : Option Int32) = some _ from hm)
  | succ n ih =>
    intro x3 x4 x5 x6 x7 hm
    rw [l_Dr_worthAtLeast_28] at hm
    refine ia_go hK ck_Dr_worthAtLeast_28 ⟨gk_9 hg p0, gk_3 hg (gm_9_0 hg p0), fun c => ?_, fun c => ?_⟩
    · replace hm := ia_ifp hm c
      show K 101 [some (.inr (.inr a0)), some (.inl x1), none, some (.inl x3), some (.inl x4), some (.inl x5), some (.inl x6), some (.inl x7), none] [] h
      refine ia_fg hK (lv' := [some (.inr (.inr a0)), some (.inl x1), none, some (.inl x3), some (.inl x4), some (.inl x5), some (.inl x6), none, none]) ⟨rfl, rfl, rfl, rfl, rfl, rfl, trivial⟩ ?_
      exact hk101 x3 x4 x5 x6 hm
    · replace hm := ia_ifn hm c
      show K 40 [some (.inr (.inr a0)), some (.inl x1), none, some (.inl x3), some (.inl x4), some (.inl x5), some (.inl x6), some (.inl x7), none] [] h
      refine ia_go hK ck_Dr_worthAtLeast_40 ⟨fun c => ?_, fun c => ?_⟩
      · replace hm := ia_ifp hm c
        show K 69 [some (.inr (.inr a0)), some (.inl x1), none, some (.inl x3), some (.inl x4), some (.inl x5), some (.inl x6), some (.inl x7), none] [] h
        refine ia_go hK ck_Dr_worthAtLeast_69 ?_
        show K 74 [some (.inr (.inr a0)), some (.inl x1), none, some (.inl x3), some (.inl x4), some (.inl x5), some (.inl x6), some (.inl x7), none] [.inl 1] h
        exact tj_Dr_worthAtLeast_74 hK hg p0 hret ih hk101 x3 x4 x5 x6 x7 1 hm
      · replace hm := ia_ifn hm c
        show K 46 [some (.inr (.inr a0)), some (.inl x1), none, some (.inl x3), some (.inl x4), some (.inl x5), some (.inl x6), some (.inl x7), none] [] h
        obtain ⟨c2, hm⟩ := ia_gd_some hm
        obtain ⟨c3, hm⟩ := ia_gd_some hm
        refine ia_go hK ck_Dr_worthAtLeast_46 ⟨gk_9 hg p0, gk_3 hg (gm_9_0 hg p0), gr_3_15 hg (gm_9_0 hg p0), ga_i100 hg (ka_3_15 (gm_9_0 hg p0)) c2, gk_9 hg p0, gk_3 hg (gm_9_0 hg p0), gr_3_15 hg (gm_9_0 hg p0), ga_i100 hg (ka_3_15 (gm_9_0 hg p0)) c3, fun c => ?_, fun c => ?_⟩
        · replace hm := ia_ifp hm c
          show K 73 [some (.inr (.inr a0)), some (.inl x1), none, some (.inl x3), some (.inl x4), some (.inl x5), some (.inl x6), some (.inl x7), none] [] h
          refine ia_go hK ck_Dr_worthAtLeast_73 ?_
          show K 74 [some (.inr (.inr a0)), some (.inl x1), none, some (.inl x3), some (.inl x4), some (.inl x5), some (.inl x6), some (.inl x7), none] [.inl 0] h
          exact tj_Dr_worthAtLeast_74 hK hg p0 hret ih hk101 x3 x4 x5 x6 x7 0 hm
        · replace hm := ia_ifn hm c
          show K 69 [some (.inr (.inr a0)), some (.inl x1), none, some (.inl x3), some (.inl x4), some (.inl x5), some (.inl x6), some (.inl x7), none] [] h
          refine ia_go hK ck_Dr_worthAtLeast_69 ?_
          show K 74 [some (.inr (.inr a0)), some (.inl x1), none, some (.inl x3), some (.inl x4), some (.inl x5), some (.inl x6), some (.inl x7), none] [.inl 1] h
          exact tj_Dr_worthAtLeast_74 hK hg p0 hret ih hk101 x3 x4 x5 x6 x7 1 hm
def l_Dr_worthAtLeast_11 (a0 : Nat) (x1 : Int32) (x2 : Int32) (h : ia_H) (k137 : Int32 → Option Int32) (n : Nat) (x3 : Int32) (x4 : Int32) (x5 : Int32) : Option Int32 := match n with
  | 0 => none
  | n + 1 => if x1 ≤ x5 then (k137 x3) else (if x4 = 0 then (k137 x3) else (l_Dr_worthAtLeast_28 a0 x1 x2 h (fun x3 x4 x5 x6 => if x6 = (-1) then (l_Dr_worthAtLeast_11 a0 x1 x2 h k137 n x3 x4 (x5 + 1)) else (ia_gd (ia_ib x6 6) (l_Dr_worthAtLeast_11 a0 x1 x2 h k137 n (x3 - (ia_i h ((ia_r h a0 0) + 9) ((x6).toNatClampNeg))) (x4 &&& ((1 <<< (x6 &&& 31)) ^^^ (-1))) (x5 + 1)))) fu_ x3 x4 x5 (-1) 0))
theorem tl_Dr_worthAtLeast_11 {d N1 W1 : Nat} {K : ia_K} (hK : ia_isK (d + 1) mm_Dr_worthAtLeast N1 W1 K) {a0 : Nat} {x1 : Int32} {x2 : Int32} {h : ia_H} (hg : gd_ h) (p0 : (kd_D a0).1 = 9) {r : Int32} (hret : ∀ (pc : Nat) (lv : ia_L), ia_ret mm_Dr_worthAtLeast pc (some (.inl r)) → K pc lv ((some (.inl r)) : Option ia_V).toList h) {k137 : Int32 → Option Int32} (hk137 : ∀ (x3 : Int32), k137 x3 = some r → K 137 [none, none, none, some (.inl x3), none, none, none, none, none] [] h) : ∀ (n : Nat) (x3 : Int32) (x4 : Int32) (x5 : Int32), l_Dr_worthAtLeast_11 a0 x1 x2 h k137 n x3 x4 x5 = some r → K 11 [some (.inr (.inr a0)), some (.inl x1), none, some (.inl x3), some (.inl x4), some (.inl x5), none, none, none] [] h := by
  intro n
  induction n with
  | zero =>
    intro x3 x4 x5 hm
    cases (show (none : Option Int32) = some _ from hm)
  | succ n ih =>
    intro x3 x4 x5 hm
    rw [l_Dr_worthAtLeast_11] at hm
    refine ia_go hK ck_Dr_worthAtLeast_11 ⟨fun c => ?_, fun c => ?_⟩
    · replace hm := ia_ifp hm c
      show K 137 [some (.inr (.inr a0)), some (.inl x1), none, some (.inl x3), some (.inl x4), some (.inl x5), none, none, none] [] h
      refine ia_fg hK (lv' := [none, none, none, some (.inl x3), none, none, none, none, none]) ⟨rfl, trivial⟩ ?_
      exact hk137 x3 hm
    · replace hm := ia_ifn hm c
      show K 17 [some (.inr (.inr a0)), some (.inl x1), none, some (.inl x3), some (.inl x4), some (.inl x5), none, none, none] [] h
      refine ia_go hK ck_Dr_worthAtLeast_17 ⟨fun c => ?_, fun c => ?_⟩
      · replace hm := ia_ifp hm c
        show K 137 [some (.inr (.inr a0)), some (.inl x1), none, some (.inl x3), some (.inl x4), some (.inl x5), none, none, none] [] h
        refine ia_fg hK (lv' := [none, none, none, some (.inl x3), none, none, none, none, none]) ⟨rfl, trivial⟩ ?_
        exact hk137 x3 hm
      · replace hm := ia_ifn hm c
        show K 22 [some (.inr (.inr a0)), some (.inl x1), none, some (.inl x3), some (.inl x4), some (.inl x5), none, none, none] [] h
        refine ia_go hK ck_Dr_worthAtLeast_22 ?_
        show K 28 [some (.inr (.inr a0)), some (.inl x1), none, some (.inl x3), some (.inl x4), some (.inl x5), some (.inl (-1)), some (.inl 0), none] [] h
        refine tl_Dr_worthAtLeast_28 hK hg p0 hret ?_ fu_ x3 x4 x5 (-1) 0 hm
        · intro x3 x4 x5 x6 hm
          refine ia_go hK ck_Dr_worthAtLeast_101 ⟨fun c => ?_, fun c => ?_⟩
          · replace hm := ia_ifp hm c
            show K 131 [some (.inr (.inr a0)), some (.inl x1), none, some (.inl x3), some (.inl x4), some (.inl x5), some (.inl x6), none, none] [] h
            refine ia_go hK ck_Dr_worthAtLeast_131 ?_
            show K 11 [some (.inr (.inr a0)), some (.inl x1), none, some (.inl x3), some (.inl x4), some (.inl (x5 + 1)), some (.inl x6), none, none] [] h
            refine ia_fg hK (lv' := [some (.inr (.inr a0)), some (.inl x1), none, some (.inl x3), some (.inl x4), some (.inl (x5 + 1)), none, none, none]) ⟨rfl, rfl, rfl, rfl, rfl, trivial⟩ ?_
            exact ih x3 x4 (x5 + 1) hm
          · replace hm := ia_ifn hm c
            show K 107 [some (.inr (.inr a0)), some (.inl x1), none, some (.inl x3), some (.inl x4), some (.inl x5), some (.inl x6), none, none] [] h
            obtain ⟨c4, hm⟩ := ia_gd_some hm
            refine ia_go hK ck_Dr_worthAtLeast_107 ⟨gk_9 hg p0, gk_3 hg (gm_9_0 hg p0), gr_3_15 hg (gm_9_0 hg p0), ga_i100 hg (ka_3_15 (gm_9_0 hg p0)) c4, ?_⟩
            show K 11 [some (.inr (.inr a0)), some (.inl x1), none, some (.inl (x3 - (ia_i h ((ia_r h a0 0) + 9) ((x6).toNatClampNeg)))), some (.inl (x4 &&& ((1 <<< (x6 &&& 31)) ^^^ (-1)))), some (.inl (x5 + 1)), some (.inl x6), none, none] [] h
            refine ia_fg hK (lv' := [some (.inr (.inr a0)), some (.inl x1), none, some (.inl (x3 - (ia_i h ((ia_r h a0 0) + 9) ((x6).toNatClampNeg)))), some (.inl (x4 &&& ((1 <<< (x6 &&& 31)) ^^^ (-1)))), some (.inl (x5 + 1)), none, none, none]) ⟨rfl, rfl, rfl, rfl, rfl, trivial⟩ ?_
            exact ih (x3 - (ia_i h ((ia_r h a0 0) + 9) ((x6).toNatClampNeg))) (x4 &&& ((1 <<< (x6 &&& 31)) ^^^ (-1))) (x5 + 1) hm
def f_Dr_worthAtLeast (a0 : Nat) (x1 : Int32) (x2 : Int32) (h : ia_H) : Option Int32 := (f_Sc_worthNotOff a0 h).bind fun v1 => (l_Dr_worthAtLeast_11 a0 x1 x2 h (fun x3 => some x3) fu_ v1 x2 0)
theorem t_Dr_worthAtLeast (d : Nat) {a0 : Nat} {x1 : Int32} {x2 : Int32} {h : ia_H} (hg : gd_ h) (p0 : (kd_D a0).1 = 9) {r : Int32} (hm : f_Dr_worthAtLeast a0 x1 x2 h = some r) : ia_Ev (d + 1) mm_Dr_worthAtLeast [.inr (.inr a0), .inl x1, .inl x2] h (some (.inl r)) h := by
  refine ia_Ev_intro ok_Dr_worthAtLeast (Nat.le_refl _) (Nat.le_refl _) (Nat.le_of_ble_eq_true rfl) (fun K hK hret => ?_)
  show K 0 [some (.inr (.inr a0)), some (.inl x1), some (.inl x2), none, none, none, none, none, none] [] h
  unfold f_Dr_worthAtLeast at hm
  refine ia_go hK ck_Dr_worthAtLeast_0 ?_
  show K 1 [some (.inr (.inr a0)), some (.inl x1), some (.inl x2), none, none, none, none, none, none] [.inr (.inr a0)] h
  obtain ⟨v1, hv1, hm⟩ := ia_bnd hm
  have ev1 := t_Sc_worthNotOff (d + 0) hg p0 hv1
  refine ia_cV hK mk_Sc_worthNotOff lk_2_52 dc_Dr_worthAtLeast_1 a0 [] [] rfl rfl (Nat.le_of_ble_eq_true rfl) (by decide) rfl (gk_9 hg p0) ev1 ⟨rfl, rfl⟩ ?_
  show K 4 [some (.inr (.inr a0)), some (.inl x1), some (.inl x2), none, none, none, none, none, none] [.inl v1] h
  refine ia_go hK ck_Dr_worthAtLeast_4 ?_
  show K 11 [some (.inr (.inr a0)), some (.inl x1), some (.inl x2), some (.inl v1), some (.inl x2), some (.inl 0), none, none, none] [] h
  refine ia_fg hK (lv' := [some (.inr (.inr a0)), some (.inl x1), none, some (.inl v1), some (.inl x2), some (.inl 0), none, none, none]) ⟨rfl, rfl, rfl, rfl, rfl, trivial⟩ ?_
  refine tl_Dr_worthAtLeast_11 hK hg p0 hret ?_ fu_ v1 x2 0 hm
  · intro x3 hm
    refine ia_go hK ck_Dr_worthAtLeast_137 ?_
    show K 138 [none, none, none, some (.inl x3), none, none, none, none, none] [.inl x3] h
    cases hm
    exact hret 138 _ dc_Dr_worthAtLeast_138
def mm_Ou_safestCell : ia_M := (⟨"IceStreet$Outlook", "safestCell", "(LIceStreet$Scene;I)I"⟩, prog_6_method_4_code, 10, (some .int), 5, false)
theorem ok_Ou_safestCell : ia_mok mm_Ou_safestCell := ⟨by decide +kernel, by decide +kernel, by decide +kernel, by decide +kernel⟩
theorem mk_Ou_safestCell : ia_mkn mm_Ou_safestCell 1 2 := ⟨ia_tb_in (List.mem_of_getElem? (i := 1383) (by decide +kernel)) rfl, ia_tb_in (List.mem_of_getElem? (i := 143) (by decide +kernel)) rfl, by decide +kernel, by decide +kernel, ⟨ia_tb_in (List.mem_of_getElem? (i := 1381) (by decide +kernel)) rfl, ia_tb_in (List.mem_of_getElem? (i := 1382) (by decide +kernel)) rfl⟩⟩
theorem ck_Ou_safestCell_0 : ia_cks 5 10 false prog_6_method_4_code 0 [(.aload_n 1, 0, 0, 0, 0), (.getfield 56, 9, 6, 3, 5), (.iload_n 2, 0, 0, 0, 0), (.iaload, 0, 0, 0, 0), (.istore_n 3, 0, 0, 0, 0), (.aload_n 0, 0, 0, 0, 0), (.getfield 18, 5, 0, 4, 311), (.aload_n 1, 0, 0, 0, 0), (.iload_n 2, 0, 0, 0, 0)] = true := by decide +kernel
theorem ck_Ou_safestCell_16 : ia_cks 5 10 false prog_6_method_4_code 16 [(.iload_n 3, 0, 0, 0, 0)] = true := by decide +kernel
theorem ck_Ou_safestCell_20 : ia_cks 5 10 false prog_6_method_4_code 20 [(.lor, 0, 0, 0, 0), (.lstore 4, 0, 0, 0, 0), (.iload_n 3, 0, 0, 0, 0), (.istore 6, 0, 0, 0, 0), (.iconst (-1), 0, 0, 0, 0), (.istore 7, 0, 0, 0, 0), (.iconst 0, 0, 0, 0, 0), (.istore 8, 0, 0, 0, 0)] = true := by decide +kernel
theorem ck_Ou_safestCell_32 : ia_cks 5 10 false prog_6_method_4_code 32 [(.iload 8, 0, 0, 0, 0), (.aload_n 1, 0, 0, 0, 0), (.getfield 69, 9, 0, 2, 0)] = true := by decide +kernel
theorem ck_Ou_safestCell_41 : ia_cks 5 10 false prog_6_method_4_code 41 [(.if_icmp .ge 69, 0, 0, 0, 0)] = true := by decide +kernel
theorem ck_Ou_safestCell_44 : ia_cks 5 10 false prog_6_method_4_code 44 [(.lload 4, 0, 0, 0, 0), (.iload 8, 0, 0, 0, 0)] = true := by decide +kernel
theorem ck_Ou_safestCell_51 : ia_cks 5 10 false prog_6_method_4_code 51 [(.ifCond .eq 53, 0, 0, 0, 0)] = true := by decide +kernel
theorem ck_Ou_safestCell_104 : ia_cks 5 10 false prog_6_method_4_code 104 [(.iinc 8 1, 0, 0, 0, 0), (.goto (-75), 0, 0, 0, 0)] = true := by decide +kernel
theorem ck_Ou_safestCell_54 : ia_cks 5 10 false prog_6_method_4_code 54 [(.aload_n 0, 0, 0, 0, 0), (.getfield 31, 5, 2, 3, 11), (.aload_n 1, 0, 0, 0, 0)] = true := by decide +kernel
theorem ck_Ou_safestCell_62 : ia_cks 5 10 false prog_6_method_4_code 62 [(.iload 8, 0, 0, 0, 0), (.iload_n 3, 0, 0, 0, 0), (.if_icmp .eq 13, 0, 0, 0, 0)] = true := by decide +kernel
theorem ck_Ou_safestCell_78 : ia_cks 5 10 false prog_6_method_4_code 78 [(.aload_n 0, 0, 0, 0, 0), (.aload_n 0, 0, 0, 0, 0), (.getfield 31, 5, 2, 3, 11), (.iload_n 2, 0, 0, 0, 0)] = true := by decide +kernel
theorem ck_Ou_safestCell_87 : ia_cks 5 10 false prog_6_method_4_code 87 [(.istore 9, 0, 0, 0, 0), (.iload 9, 0, 0, 0, 0), (.iload 7, 0, 0, 0, 0), (.if_icmp .le 11, 0, 0, 0, 0)] = true := by decide +kernel
theorem ck_Ou_safestCell_96 : ia_cks 5 10 false prog_6_method_4_code 96 [(.iload 9, 0, 0, 0, 0), (.istore 7, 0, 0, 0, 0), (.iload 8, 0, 0, 0, 0), (.istore 6, 0, 0, 0, 0), (.iinc 8 1, 0, 0, 0, 0), (.goto (-75), 0, 0, 0, 0)] = true := by decide +kernel
theorem ck_Ou_safestCell_68 : ia_cks 5 10 false prog_6_method_4_code 68 [(.aload_n 0, 0, 0, 0, 0), (.getfield 31, 5, 2, 3, 11), (.iload_n 2, 0, 0, 0, 0), (.iload 8, 0, 0, 0, 0)] = true := by decide +kernel
theorem ck_Ou_safestCell_110 : ia_cks 5 10 false prog_6_method_4_code 110 [(.iload 6, 0, 0, 0, 0)] = true := by decide +kernel
theorem dc_Ou_safestCell_13 : decode prog_6_method_4_code 13 = .ok (.invokevirtual 59, 3) := by decide +kernel
theorem dc_Ou_safestCell_17 : decode prog_6_method_4_code 17 = .ok (.invokestatic 65, 3) := by decide +kernel
theorem dc_Ou_safestCell_38 : decode prog_6_method_4_code 38 = .ok (.invokevirtual 73, 3) := by decide +kernel
theorem dc_Ou_safestCell_48 : decode prog_6_method_4_code 48 = .ok (.invokestatic 78, 3) := by decide +kernel
theorem dc_Ou_safestCell_59 : decode prog_6_method_4_code 59 = .ok (.invokevirtual 34, 3) := by decide +kernel
theorem dc_Ou_safestCell_84 : decode prog_6_method_4_code 84 = .ok (.invokevirtual 86, 3) := by decide +kernel
theorem dc_Ou_safestCell_75 : decode prog_6_method_4_code 75 = .ok (.invokevirtual 82, 3) := by decide +kernel
theorem dc_Ou_safestCell_112 : decode prog_6_method_4_code 112 = .ok (.ireturn, 1) := by decide +kernel
def j_Ou_safestCell_78 (a1 : Nat) (x2 : Int32) (kr : Int32 → Int64 → Int32 → Int32 → Int32 → ia_H → Option (Int32 × ia_H)) (k110 : Int32 → ia_H → Option (Int32 × ia_H)) (x3 : Int32) (y4 : Int64) (x6 : Int32) (x7 : Int32) (x8 : Int32) (h : ia_H) : Option (Int32 × ia_H) := (f_Ou_daysHeld 337 x2 h).bind fun v7 => (if v7.1 ≤ x7 then (kr x3 y4 x6 x7 (x8 + 1) v7.2) else (kr x3 y4 x8 v7.1 (x8 + 1) v7.2))
theorem tj_Ou_safestCell_78 {d N1 W1 : Nat} {K : ia_K} (hK : ia_isK (d + 5) mm_Ou_safestCell N1 W1 K) {a1 : Nat} {x2 : Int32} (p1 : (kd_D a1).1 = 9) {r : Int32} {h1 : ia_H} (hret : ∀ (pc : Nat) (lv : ia_L), ia_ret mm_Ou_safestCell pc (some (.inl r)) → K pc lv ((some (.inl r)) : Option ia_V).toList h1) {kr : Int32 → Int64 → Int32 → Int32 → Int32 → ia_H → Option (Int32 × ia_H)} {k110 : Int32 → ia_H → Option (Int32 × ia_H)} (hkr : ∀ (x3 : Int32) (y4 : Int64) (x6 : Int32) (x7 : Int32) (x8 : Int32) (h : ia_H), gd_ h → kr x3 y4 x6 x7 x8 h = some (r, h1) → K 32 [some (.inr (.inr 326)), some (.inr (.inr a1)), some (.inl x2), some (.inl x3), some (.inr (.inl y4)), none, some (.inl x6), some (.inl x7), some (.inl x8), none] [] h) (hk110 : ∀ (x6 : Int32) (h : ia_H), gd_ h → k110 x6 h = some (r, h1) → K 110 [none, none, none, none, none, none, some (.inl x6), none, none, none] [] h) : ∀ (x3 : Int32) (y4 : Int64) (x6 : Int32) (x7 : Int32) (x8 : Int32) (h : ia_H), gd_ h → j_Ou_safestCell_78 a1 x2 kr k110 x3 y4 x6 x7 x8 h = some (r, h1) → K 78 [some (.inr (.inr 326)), some (.inr (.inr a1)), some (.inl x2), some (.inl x3), some (.inr (.inl y4)), none, some (.inl x6), some (.inl x7), some (.inl x8), none] [] h := by
  intro x3 y4 x6 x7 x8 h hg hm
  unfold j_Ou_safestCell_78 at hm
  refine ia_go hK ck_Ou_safestCell_78 ⟨gk_5 hg pk_326, gr_5_2 hg pk_326, ?_⟩
  show K 84 [some (.inr (.inr 326)), some (.inr (.inr a1)), some (.inl x2), some (.inl x3), some (.inr (.inl y4)), none, some (.inl x6), some (.inl x7), some (.inl x8), none] [.inl x2, .inr (.inr 337), .inr (.inr 326)] h
  obtain ⟨v7, hv7, hm⟩ := ia_bnd hm
  have ev7 := t_Ou_daysHeld (d + 0) hg (ka_5_2 pk_326) hv7
  have gv7 := g_Ou_daysHeld hg (ka_5_2 pk_326) hv7
  refine ia_cV hK mk_Ou_daysHeld lk_5_86 dc_Ou_safestCell_84 326 [.inr (.inr 337), .inl x2] [] rfl rfl (Nat.le_of_ble_eq_true rfl) (by decide) rfl (gk_5 hg pk_326) ev7 (gd_nm hg gv7) ?_
  show K 87 [some (.inr (.inr 326)), some (.inr (.inr a1)), some (.inl x2), some (.inl x3), some (.inr (.inl y4)), none, some (.inl x6), some (.inl x7), some (.inl x8), none] [.inl v7.1] v7.2
  refine ia_go hK ck_Ou_safestCell_87 ⟨fun c => ?_, fun c => ?_⟩
  · replace hm := ia_ifp hm c
    show K 104 [some (.inr (.inr 326)), some (.inr (.inr a1)), some (.inl x2), some (.inl x3), some (.inr (.inl y4)), none, some (.inl x6), some (.inl x7), some (.inl x8), some (.inl v7.1)] [] v7.2
    refine ia_go hK ck_Ou_safestCell_104 ?_
    show K 32 [some (.inr (.inr 326)), some (.inr (.inr a1)), some (.inl x2), some (.inl x3), some (.inr (.inl y4)), none, some (.inl x6), some (.inl x7), some (.inl (x8 + 1)), some (.inl v7.1)] [] v7.2
    refine ia_fg hK (lv' := [some (.inr (.inr 326)), some (.inr (.inr a1)), some (.inl x2), some (.inl x3), some (.inr (.inl y4)), none, some (.inl x6), some (.inl x7), some (.inl (x8 + 1)), none]) ⟨rfl, rfl, rfl, rfl, rfl, rfl, rfl, rfl, trivial⟩ ?_
    exact hkr x3 y4 x6 x7 (x8 + 1) v7.2 gv7 hm
  · replace hm := ia_ifn hm c
    show K 96 [some (.inr (.inr 326)), some (.inr (.inr a1)), some (.inl x2), some (.inl x3), some (.inr (.inl y4)), none, some (.inl x6), some (.inl x7), some (.inl x8), some (.inl v7.1)] [] v7.2
    refine ia_go hK ck_Ou_safestCell_96 ?_
    show K 32 [some (.inr (.inr 326)), some (.inr (.inr a1)), some (.inl x2), some (.inl x3), some (.inr (.inl y4)), none, some (.inl x8), some (.inl v7.1), some (.inl (x8 + 1)), some (.inl v7.1)] [] v7.2
    refine ia_fg hK (lv' := [some (.inr (.inr 326)), some (.inr (.inr a1)), some (.inl x2), some (.inl x3), some (.inr (.inl y4)), none, some (.inl x8), some (.inl v7.1), some (.inl (x8 + 1)), none]) ⟨rfl, rfl, rfl, rfl, rfl, rfl, rfl, rfl, trivial⟩ ?_
    exact hkr x3 y4 x8 v7.1 (x8 + 1) v7.2 gv7 hm
theorem gj_Ou_safestCell_78 {a1 : Nat} {x2 : Int32} (p1 : (kd_D a1).1 = 9) {r : Int32} {h1 : ia_H} {kr : Int32 → Int64 → Int32 → Int32 → Int32 → ia_H → Option (Int32 × ia_H)} {k110 : Int32 → ia_H → Option (Int32 × ia_H)} (hkr : ∀ (x3 : Int32) (y4 : Int64) (x6 : Int32) (x7 : Int32) (x8 : Int32) (h : ia_H), gd_ h → kr x3 y4 x6 x7 x8 h = some (r, h1) → gd_ h1) (hk110 : ∀ (x6 : Int32) (h : ia_H), gd_ h → k110 x6 h = some (r, h1) → gd_ h1) : ∀ (x3 : Int32) (y4 : Int64) (x6 : Int32) (x7 : Int32) (x8 : Int32) (h : ia_H), gd_ h → j_Ou_safestCell_78 a1 x2 kr k110 x3 y4 x6 x7 x8 h = some (r, h1) → gd_ h1 := by
  intro x3 y4 x6 x7 x8 h hg hm
  unfold j_Ou_safestCell_78 at hm
  obtain ⟨v7, hv7, hm⟩ := ia_bnd hm
  have gv7 := g_Ou_daysHeld hg (ka_5_2 pk_326) hv7
  by_cases c : v7.1 ≤ x7
  · replace hm := ia_ifp hm c
    exact hkr x3 y4 x6 x7 (x8 + 1) v7.2 gv7 hm
  · replace hm := ia_ifn hm c
    exact hkr x3 y4 x8 v7.1 (x8 + 1) v7.2 gv7 hm
def l_Ou_safestCell_32 (a1 : Nat) (x2 : Int32) (k110 : Int32 → ia_H → Option (Int32 × ia_H)) (n : Nat) (x3 : Int32) (y4 : Int64) (x6 : Int32) (x7 : Int32) (x8 : Int32) (h : ia_H) : Option (Int32 × ia_H) := match n with
  | 0 => none
  | n + 1 => (f_La_cells (ia_r h a1 0) h).bind fun v4 => (if v4 ≤ x8 then (k110 x6 h) else ((f_I_hasBit y4 x8 h).bind fun v5 => (if v5 = 0 then (l_Ou_safestCell_32 a1 x2 k110 n x3 y4 x6 x7 (x8 + 1) h) else ((f_Sc_become 337 a1 h).bind fun v6 => (if x8 = x3 then (j_Ou_safestCell_78 a1 x2 (l_Ou_safestCell_32 a1 x2 k110 n) k110 x3 y4 x6 x7 x8 v6) else ((f_Sc_shift 337 x2 x8 v6).bind fun v8 => (j_Ou_safestCell_78 a1 x2 (l_Ou_safestCell_32 a1 x2 k110 n) k110 x3 y4 x6 x7 x8 v8)))))))
theorem tl_Ou_safestCell_32 {d N1 W1 : Nat} {K : ia_K} (hK : ia_isK (d + 5) mm_Ou_safestCell N1 W1 K) {a1 : Nat} {x2 : Int32} (p1 : (kd_D a1).1 = 9) {r : Int32} {h1 : ia_H} (hret : ∀ (pc : Nat) (lv : ia_L), ia_ret mm_Ou_safestCell pc (some (.inl r)) → K pc lv ((some (.inl r)) : Option ia_V).toList h1) {k110 : Int32 → ia_H → Option (Int32 × ia_H)} (hk110 : ∀ (x6 : Int32) (h : ia_H), gd_ h → k110 x6 h = some (r, h1) → K 110 [none, none, none, none, none, none, some (.inl x6), none, none, none] [] h) : ∀ (n : Nat) (x3 : Int32) (y4 : Int64) (x6 : Int32) (x7 : Int32) (x8 : Int32) (h : ia_H), gd_ h → l_Ou_safestCell_32 a1 x2 k110 n x3 y4 x6 x7 x8 h = some (r, h1) → K 32 [some (.inr (.inr 326)), some (.inr (.inr a1)), some (.inl x2), some (.inl x3), some (.inr (.inl y4)), none, some (.inl x6), some (.inl x7), some (.inl x8), none] [] h := by
  intro n
  induction n with
  | zero =>
    intro x3 y4 x6 x7 x8 h hg hm
    cases (show (none : Option (Int32 × ia_H)) = some _ from hm)
  | succ n ih =>
    intro x3 y4 x6 x7 x8 h hg hm
    rw [l_Ou_safestCell_32] at hm
    refine ia_go hK ck_Ou_safestCell_32 ⟨gk_9 hg p1, ?_⟩
    show K 38 [some (.inr (.inr 326)), some (.inr (.inr a1)), some (.inl x2), some (.inl x3), some (.inr (.inl y4)), none, some (.inl x6), some (.inl x7), some (.inl x8), none] [.inr (.inr (ia_r h a1 0)), .inl x8] h
    obtain ⟨v4, hv4, hm⟩ := ia_bnd hm
    have ev4 := t_La_cells (d + 4) hg (gm_9_0 hg p1) hv4
    refine ia_cV hK mk_La_cells lk_5_73 dc_Ou_safestCell_38 (ia_r h a1 0) [] [.inl x8] rfl rfl (Nat.le_of_ble_eq_true rfl) (by decide) rfl (gk_3 hg (gm_9_0 hg p1)) ev4 ⟨rfl, rfl⟩ ?_
    show K 41 [some (.inr (.inr 326)), some (.inr (.inr a1)), some (.inl x2), some (.inl x3), some (.inr (.inl y4)), none, some (.inl x6), some (.inl x7), some (.inl x8), none] [.inl v4, .inl x8] h
    refine ia_go hK ck_Ou_safestCell_41 ⟨fun c => ?_, fun c => ?_⟩
    · replace hm := ia_ifp hm c
      show K 110 [some (.inr (.inr 326)), some (.inr (.inr a1)), some (.inl x2), some (.inl x3), some (.inr (.inl y4)), none, some (.inl x6), some (.inl x7), some (.inl x8), none] [] h
      refine ia_fg hK (lv' := [none, none, none, none, none, none, some (.inl x6), none, none, none]) ⟨rfl, trivial⟩ ?_
      exact hk110 x6 h hg hm
    · replace hm := ia_ifn hm c
      show K 44 [some (.inr (.inr 326)), some (.inr (.inr a1)), some (.inl x2), some (.inl x3), some (.inr (.inl y4)), none, some (.inl x6), some (.inl x7), some (.inl x8), none] [] h
      refine ia_go hK ck_Ou_safestCell_44 ?_
      show K 48 [some (.inr (.inr 326)), some (.inr (.inr a1)), some (.inl x2), some (.inl x3), some (.inr (.inl y4)), none, some (.inl x6), some (.inl x7), some (.inl x8), none] [.inl x8, .inr (.inl y4)] h
      obtain ⟨v5, hv5, hm⟩ := ia_bnd hm
      have ev5 := t_I_hasBit (d + 4) hg hv5
      refine ia_cS hK mk_I_hasBit lk_5_78 dc_Ou_safestCell_48 [.inr (.inl y4), .inl x8] [] rfl rfl (Nat.le_of_ble_eq_true rfl) ev5 ⟨rfl, rfl⟩ ?_
      show K 51 [some (.inr (.inr 326)), some (.inr (.inr a1)), some (.inl x2), some (.inl x3), some (.inr (.inl y4)), none, some (.inl x6), some (.inl x7), some (.inl x8), none] [.inl v5] h
      refine ia_go hK ck_Ou_safestCell_51 ⟨fun c => ?_, fun c => ?_⟩
      · replace hm := ia_ifp hm c
        show K 104 [some (.inr (.inr 326)), some (.inr (.inr a1)), some (.inl x2), some (.inl x3), some (.inr (.inl y4)), none, some (.inl x6), some (.inl x7), some (.inl x8), none] [] h
        refine ia_go hK ck_Ou_safestCell_104 ?_
        show K 32 [some (.inr (.inr 326)), some (.inr (.inr a1)), some (.inl x2), some (.inl x3), some (.inr (.inl y4)), none, some (.inl x6), some (.inl x7), some (.inl (x8 + 1)), none] [] h
        exact ih x3 y4 x6 x7 (x8 + 1) h hg hm
      · replace hm := ia_ifn hm c
        show K 54 [some (.inr (.inr 326)), some (.inr (.inr a1)), some (.inl x2), some (.inl x3), some (.inr (.inl y4)), none, some (.inl x6), some (.inl x7), some (.inl x8), none] [] h
        refine ia_go hK ck_Ou_safestCell_54 ⟨gk_5 hg pk_326, gr_5_2 hg pk_326, ?_⟩
        show K 59 [some (.inr (.inr 326)), some (.inr (.inr a1)), some (.inl x2), some (.inl x3), some (.inr (.inl y4)), none, some (.inl x6), some (.inl x7), some (.inl x8), none] [.inr (.inr a1), .inr (.inr 337)] h
        obtain ⟨v6, hv6, hm⟩ := ia_bnd hm
        have ev6 := t_Sc_become (d + 4) hg (ka_5_2 pk_326) p1 hv6
        have gv6 := g_Sc_become hg (ka_5_2 pk_326) p1 hv6
        refine ia_cV hK mk_Sc_become lk_5_34 dc_Ou_safestCell_59 337 [.inr (.inr a1)] [] rfl rfl (Nat.le_of_ble_eq_true rfl) (by decide) rfl (gk_9 hg (ka_5_2 pk_326)) ev6 (gd_nm hg gv6) ?_
        show K 62 [some (.inr (.inr 326)), some (.inr (.inr a1)), some (.inl x2), some (.inl x3), some (.inr (.inl y4)), none, some (.inl x6), some (.inl x7), some (.inl x8), none] [] v6
        refine ia_go hK ck_Ou_safestCell_62 ⟨fun c => ?_, fun c => ?_⟩
        · replace hm := ia_ifp hm c
          show K 78 [some (.inr (.inr 326)), some (.inr (.inr a1)), some (.inl x2), some (.inl x3), some (.inr (.inl y4)), none, some (.inl x6), some (.inl x7), some (.inl x8), none] [] v6
          exact tj_Ou_safestCell_78 hK p1 hret ih hk110 x3 y4 x6 x7 x8 v6 gv6 hm
        · replace hm := ia_ifn hm c
          show K 68 [some (.inr (.inr 326)), some (.inr (.inr a1)), some (.inl x2), some (.inl x3), some (.inr (.inl y4)), none, some (.inl x6), some (.inl x7), some (.inl x8), none] [] v6
          refine ia_go hK ck_Ou_safestCell_68 ⟨gk_5 gv6 pk_326, gr_5_2 gv6 pk_326, ?_⟩
          show K 75 [some (.inr (.inr 326)), some (.inr (.inr a1)), some (.inl x2), some (.inl x3), some (.inr (.inl y4)), none, some (.inl x6), some (.inl x7), some (.inl x8), none] [.inl x8, .inl x2, .inr (.inr 337)] v6
          obtain ⟨v8, hv8, hm⟩ := ia_bnd hm
          have ev8 := t_Sc_shift (d + 1) gv6 (ka_5_2 pk_326) hv8
          have gv8 := g_Sc_shift gv6 (ka_5_2 pk_326) hv8
          refine ia_cV hK mk_Sc_shift lk_5_82 dc_Ou_safestCell_75 337 [.inl x2, .inl x8] [] rfl rfl (Nat.le_of_ble_eq_true rfl) (by decide) rfl (gk_9 gv6 (ka_5_2 pk_326)) ev8 (gd_nm gv6 gv8) ?_
          show K 78 [some (.inr (.inr 326)), some (.inr (.inr a1)), some (.inl x2), some (.inl x3), some (.inr (.inl y4)), none, some (.inl x6), some (.inl x7), some (.inl x8), none] [] v8
          exact tj_Ou_safestCell_78 hK p1 hret ih hk110 x3 y4 x6 x7 x8 v8 gv8 hm
theorem gl_Ou_safestCell_32 {a1 : Nat} {x2 : Int32} (p1 : (kd_D a1).1 = 9) {r : Int32} {h1 : ia_H} {k110 : Int32 → ia_H → Option (Int32 × ia_H)} (hk110 : ∀ (x6 : Int32) (h : ia_H), gd_ h → k110 x6 h = some (r, h1) → gd_ h1) : ∀ (n : Nat) (x3 : Int32) (y4 : Int64) (x6 : Int32) (x7 : Int32) (x8 : Int32) (h : ia_H), gd_ h → l_Ou_safestCell_32 a1 x2 k110 n x3 y4 x6 x7 x8 h = some (r, h1) → gd_ h1 := by
  intro n
  induction n with
  | zero =>
    intro x3 y4 x6 x7 x8 h hg hm
    cases (show (none : Option (Int32 × ia_H)) = some _ from hm)
  | succ n ih =>
    intro x3 y4 x6 x7 x8 h hg hm
    rw [l_Ou_safestCell_32] at hm
    obtain ⟨v4, hv4, hm⟩ := ia_bnd hm
    by_cases c : v4 ≤ x8
    · replace hm := ia_ifp hm c
      exact hk110 x6 h hg hm
    · replace hm := ia_ifn hm c
      obtain ⟨v5, hv5, hm⟩ := ia_bnd hm
      by_cases c : v5 = 0
      · replace hm := ia_ifp hm c
        exact ih x3 y4 x6 x7 (x8 + 1) h hg hm
      · replace hm := ia_ifn hm c
        obtain ⟨v6, hv6, hm⟩ := ia_bnd hm
        have gv6 := g_Sc_become hg (ka_5_2 pk_326) p1 hv6
        by_cases c : x8 = x3
        · replace hm := ia_ifp hm c
          exact gj_Ou_safestCell_78 p1 ih hk110 x3 y4 x6 x7 x8 v6 gv6 hm
        · replace hm := ia_ifn hm c
          obtain ⟨v8, hv8, hm⟩ := ia_bnd hm
          have gv8 := g_Sc_shift gv6 (ka_5_2 pk_326) hv8
          exact gj_Ou_safestCell_78 p1 ih hk110 x3 y4 x6 x7 x8 v8 gv8 hm
def f_Ou_safestCell (a1 : Nat) (x2 : Int32) (h : ia_H) : Option (Int32 × ia_H) := ia_gd (ia_ib x2 6) ((f_Wa_movesOf a1 x2 h).bind fun v2 => ((f_I_bit (ia_i h (a1 + 5) ((x2).toNatClampNeg)) v2.2).bind fun v3 => (l_Ou_safestCell_32 a1 x2 (fun x6 h => some (x6, h)) fu_ (ia_i h (a1 + 5) ((x2).toNatClampNeg)) (v2.1 ||| v3) (ia_i h (a1 + 5) ((x2).toNatClampNeg)) (-1) 0 v2.2)))
theorem g_Ou_safestCell {a1 : Nat} {x2 : Int32} {h : ia_H} (hg : gd_ h) (p1 : (kd_D a1).1 = 9) {q : (Int32 × ia_H)} (hm : f_Ou_safestCell a1 x2 h = some q) : gd_ q.2 := by
  obtain ⟨r, h1⟩ := q
  unfold f_Ou_safestCell at hm
  obtain ⟨c1, hm⟩ := ia_gd_some hm
  obtain ⟨v2, hv2, hm⟩ := ia_bnd hm
  have gv2 := g_Wa_movesOf hg p1 hv2
  obtain ⟨v3, hv3, hm⟩ := ia_bnd hm
  refine gl_Ou_safestCell_32 p1 ?_ fu_ (ia_i h (a1 + 5) ((x2).toNatClampNeg)) (v2.1 ||| v3) (ia_i h (a1 + 5) ((x2).toNatClampNeg)) (-1) 0 v2.2 gv2 hm
  · intro x6 h hg hm
    cases hm
    exact hg
theorem t_Ou_safestCell (d : Nat) {a1 : Nat} {x2 : Int32} {h : ia_H} (hg : gd_ h) (p1 : (kd_D a1).1 = 9) {q : (Int32 × ia_H)} (hm : f_Ou_safestCell a1 x2 h = some q) : ia_Ev (d + 5) mm_Ou_safestCell [.inr (.inr 326), .inr (.inr a1), .inl x2] h (some (.inl q.1)) q.2 := by
  have gq := g_Ou_safestCell hg p1 hm
  refine ia_Ev_intro ok_Ou_safestCell (gd_le hg gq).1 (gd_le hg gq).2 (Nat.le_of_ble_eq_true rfl) (fun K hK hret => ?_)
  obtain ⟨r, h1⟩ := q
  show K 0 [some (.inr (.inr 326)), some (.inr (.inr a1)), some (.inl x2), none, none, none, none, none, none, none] [] h
  unfold f_Ou_safestCell at hm
  obtain ⟨c1, hm⟩ := ia_gd_some hm
  refine ia_go hK ck_Ou_safestCell_0 ⟨gk_9 hg p1, gr_9_6 hg p1, ga_i100 hg (ka_9_6 p1) c1, gk_5 hg pk_326, gr_5_0 hg pk_326, ?_⟩
  show K 13 [some (.inr (.inr 326)), some (.inr (.inr a1)), some (.inl x2), some (.inl (ia_i h (a1 + 5) ((x2).toNatClampNeg))), none, none, none, none, none, none] [.inl x2, .inr (.inr a1), .inr (.inr 311)] h
  obtain ⟨v2, hv2, hm⟩ := ia_bnd hm
  have ev2 := t_Wa_movesOf (d + 1) hg p1 hv2
  have gv2 := g_Wa_movesOf hg p1 hv2
  refine ia_cV hK mk_Wa_movesOf lk_5_59 dc_Ou_safestCell_13 311 [.inr (.inr a1), .inl x2] [] rfl rfl (Nat.le_of_ble_eq_true rfl) (by decide) rfl (gk_11 hg pk_311) ev2 (gd_nm hg gv2) ?_
  show K 16 [some (.inr (.inr 326)), some (.inr (.inr a1)), some (.inl x2), some (.inl (ia_i h (a1 + 5) ((x2).toNatClampNeg))), none, none, none, none, none, none] [.inr (.inl v2.1)] v2.2
  refine ia_go hK ck_Ou_safestCell_16 ?_
  show K 17 [some (.inr (.inr 326)), some (.inr (.inr a1)), some (.inl x2), some (.inl (ia_i h (a1 + 5) ((x2).toNatClampNeg))), none, none, none, none, none, none] [.inl (ia_i h (a1 + 5) ((x2).toNatClampNeg)), .inr (.inl v2.1)] v2.2
  obtain ⟨v3, hv3, hm⟩ := ia_bnd hm
  have ev3 := t_I_bit (d + 4) gv2 hv3
  refine ia_cS hK mk_I_bit lk_5_65 dc_Ou_safestCell_17 [.inl (ia_i h (a1 + 5) ((x2).toNatClampNeg))] [.inr (.inl v2.1)] rfl rfl (Nat.le_of_ble_eq_true rfl) ev3 ⟨rfl, rfl⟩ ?_
  show K 20 [some (.inr (.inr 326)), some (.inr (.inr a1)), some (.inl x2), some (.inl (ia_i h (a1 + 5) ((x2).toNatClampNeg))), none, none, none, none, none, none] [.inr (.inl v3), .inr (.inl v2.1)] v2.2
  refine ia_go hK ck_Ou_safestCell_20 ?_
  show K 32 [some (.inr (.inr 326)), some (.inr (.inr a1)), some (.inl x2), some (.inl (ia_i h (a1 + 5) ((x2).toNatClampNeg))), some (.inr (.inl (v2.1 ||| v3))), none, some (.inl (ia_i h (a1 + 5) ((x2).toNatClampNeg))), some (.inl (-1)), some (.inl 0), none] [] v2.2
  refine tl_Ou_safestCell_32 hK p1 hret ?_ fu_ (ia_i h (a1 + 5) ((x2).toNatClampNeg)) (v2.1 ||| v3) (ia_i h (a1 + 5) ((x2).toNatClampNeg)) (-1) 0 v2.2 gv2 hm
  · intro x6 h hg hm
    refine ia_go hK ck_Ou_safestCell_110 ?_
    show K 112 [none, none, none, none, none, none, some (.inl x6), none, none, none] [.inl x6] h
    cases hm
    exact hret 112 _ dc_Ou_safestCell_112
def mm_I_set : ia_M := (⟨"IceStreet", "set", "(IIIII)I"⟩, prog_1_method_24_code, 6, (some .int), 0, false)
theorem ok_I_set : ia_mok mm_I_set := ⟨by decide +kernel, by decide +kernel, by decide +kernel, by decide +kernel⟩
theorem mk_I_set : ia_mkn mm_I_set 1 5 := ⟨ia_tb_in (List.mem_of_getElem? (i := 1379) (by decide +kernel)) rfl, ia_tb_in (List.mem_of_getElem? (i := 133) (by decide +kernel)) rfl, by decide +kernel, by decide +kernel, ⟨ia_tb_in (List.mem_of_getElem? (i := 1377) (by decide +kernel)) rfl, ia_tb_in (List.mem_of_getElem? (i := 1378) (by decide +kernel)) rfl⟩⟩
theorem ck_I_set_0 : ia_cks 0 6 false prog_1_method_24_code 0 [(.aload_n 0, 0, 0, 0, 0), (.iload_n 1, 0, 0, 0, 0), (.iload_n 2, 0, 0, 0, 0), (.iload_n 3, 0, 0, 0, 0), (.iload 4, 0, 0, 0, 0)] = true := by decide +kernel
theorem ck_I_set_9 : ia_cks 0 6 false prog_1_method_24_code 9 [(.ifCond .eq 15, 0, 0, 0, 0)] = true := by decide +kernel
theorem ck_I_set_24 : ia_cks 0 6 false prog_1_method_24_code 24 [(.iconst (-1), 0, 0, 0, 0)] = true := by decide +kernel
theorem ck_I_set_12 : ia_cks 0 6 false prog_1_method_24_code 12 [(.aload_n 0, 0, 0, 0, 0), (.getfield 44, 0, 4, 3, 239), (.iload 5, 0, 0, 0, 0)] = true := by decide +kernel
theorem ck_I_set_21 : ia_cks 0 6 false prog_1_method_24_code 21 [(.ifCond .ne 5, 0, 0, 0, 0)] = true := by decide +kernel
theorem ck_I_set_26 : ia_cks 0 6 false prog_1_method_24_code 26 [(.aload_n 0, 0, 0, 0, 0), (.getfield 69, 0, 7, 3, 262), (.aload_n 0, 0, 0, 0, 0), (.getfield 44, 0, 4, 3, 239), (.iload 5, 0, 0, 0, 0)] = true := by decide +kernel
theorem dc_I_set_6 : decode prog_1_method_24_code 6 = .ok (.invokevirtual 266, 3) := by decide +kernel
theorem dc_I_set_25 : decode prog_1_method_24_code 25 = .ok (.ireturn, 1) := by decide +kernel
theorem dc_I_set_18 : decode prog_1_method_24_code 18 = .ok (.invokevirtual 347, 3) := by decide +kernel
theorem dc_I_set_36 : decode prog_1_method_24_code 36 = .ok (.invokevirtual 370, 3) := by decide +kernel
theorem dc_I_set_39 : decode prog_1_method_24_code 39 = .ok (.ireturn, 1) := by decide +kernel
def f_I_set (x1 : Int32) (x2 : Int32) (x3 : Int32) (x4 : Int32) (x5 : Int32) (h : ia_H) : Option (Int32 × ia_H) := (f_I_stage x1 x2 x3 x4 h).bind fun v1 => (if v1.1 = 0 then (some ((-1), v1.2)) else ((f_Sc_stands 303 x5 v1.2).bind fun v2 => (if v2 = 0 then (some ((-1), v1.2)) else ((f_Ou_safestCell 303 x5 v1.2).bind fun v3 => (some (v3.1, v3.2))))))
theorem g_I_set {x1 : Int32} {x2 : Int32} {x3 : Int32} {x4 : Int32} {x5 : Int32} {h : ia_H} (hg : gd_ h) {q : (Int32 × ia_H)} (hm : f_I_set x1 x2 x3 x4 x5 h = some q) : gd_ q.2 := by
  obtain ⟨r, h1⟩ := q
  unfold f_I_set at hm
  obtain ⟨v1, hv1, hm⟩ := ia_bnd hm
  have gv1 := g_I_stage hg hv1
  by_cases c : v1.1 = 0
  · replace hm := ia_ifp hm c
    cases hm
    exact gv1
  · replace hm := ia_ifn hm c
    obtain ⟨v2, hv2, hm⟩ := ia_bnd hm
    by_cases c : v2 = 0
    · replace hm := ia_ifp hm c
      cases hm
      exact gv1
    · replace hm := ia_ifn hm c
      obtain ⟨v3, hv3, hm⟩ := ia_bnd hm
      have gv3 := g_Ou_safestCell gv1 (ka_0_4 pk_64) hv3
      cases hm
      exact gv3
theorem t_I_set (d : Nat) {x1 : Int32} {x2 : Int32} {x3 : Int32} {x4 : Int32} {x5 : Int32} {h : ia_H} (hg : gd_ h) {q : (Int32 × ia_H)} (hm : f_I_set x1 x2 x3 x4 x5 h = some q) : ia_Ev (d + 7) mm_I_set [.inr (.inr 64), .inl x1, .inl x2, .inl x3, .inl x4, .inl x5] h (some (.inl q.1)) q.2 := by
  have gq := g_I_set hg hm
  refine ia_Ev_intro ok_I_set (gd_le hg gq).1 (gd_le hg gq).2 (Nat.le_of_ble_eq_true rfl) (fun K hK hret => ?_)
  obtain ⟨r, h1⟩ := q
  show K 0 [some (.inr (.inr 64)), some (.inl x1), some (.inl x2), some (.inl x3), some (.inl x4), some (.inl x5)] [] h
  unfold f_I_set at hm
  refine ia_go hK ck_I_set_0 ?_
  show K 6 [some (.inr (.inr 64)), some (.inl x1), some (.inl x2), some (.inl x3), some (.inl x4), some (.inl x5)] [.inl x4, .inl x3, .inl x2, .inl x1, .inr (.inr 64)] h
  obtain ⟨v1, hv1, hm⟩ := ia_bnd hm
  have ev1 := t_I_stage (d + 0) hg hv1
  have gv1 := g_I_stage hg hv1
  refine ia_cV hK mk_I_stage lk_0_266 dc_I_set_6 64 [.inl x1, .inl x2, .inl x3, .inl x4] [] rfl rfl (Nat.le_of_ble_eq_true rfl) (by decide) rfl (gk_0 hg pk_64) ev1 (gd_nm hg gv1) ?_
  show K 9 [some (.inr (.inr 64)), some (.inl x1), some (.inl x2), some (.inl x3), some (.inl x4), some (.inl x5)] [.inl v1.1] v1.2
  refine ia_go hK ck_I_set_9 ⟨fun c => ?_, fun c => ?_⟩
  · replace hm := ia_ifp hm c
    show K 24 [some (.inr (.inr 64)), some (.inl x1), some (.inl x2), some (.inl x3), some (.inl x4), some (.inl x5)] [] v1.2
    refine ia_go hK ck_I_set_24 ?_
    show K 25 [some (.inr (.inr 64)), some (.inl x1), some (.inl x2), some (.inl x3), some (.inl x4), some (.inl x5)] [.inl (-1)] v1.2
    cases hm
    exact hret 25 _ dc_I_set_25
  · replace hm := ia_ifn hm c
    show K 12 [some (.inr (.inr 64)), some (.inl x1), some (.inl x2), some (.inl x3), some (.inl x4), some (.inl x5)] [] v1.2
    refine ia_go hK ck_I_set_12 ⟨gk_0 gv1 pk_64, gr_0_4 gv1 pk_64, ?_⟩
    show K 18 [some (.inr (.inr 64)), some (.inl x1), some (.inl x2), some (.inl x3), some (.inl x4), some (.inl x5)] [.inl x5, .inr (.inr 303)] v1.2
    obtain ⟨v2, hv2, hm⟩ := ia_bnd hm
    have ev2 := t_Sc_stands (d + 6) gv1 (ka_0_4 pk_64) hv2
    refine ia_cV hK mk_Sc_stands lk_0_347 dc_I_set_18 303 [.inl x5] [] rfl rfl (Nat.le_of_ble_eq_true rfl) (by decide) rfl (gk_9 gv1 (ka_0_4 pk_64)) ev2 ⟨rfl, rfl⟩ ?_
    show K 21 [some (.inr (.inr 64)), some (.inl x1), some (.inl x2), some (.inl x3), some (.inl x4), some (.inl x5)] [.inl v2] v1.2
    refine ia_go hK ck_I_set_21 ⟨fun c => ?_, fun c => ?_⟩
    · replace hm := ia_ifn hm c
      show K 26 [some (.inr (.inr 64)), some (.inl x1), some (.inl x2), some (.inl x3), some (.inl x4), some (.inl x5)] [] v1.2
      refine ia_go hK ck_I_set_26 ⟨gk_0 gv1 pk_64, gr_0_7 gv1 pk_64, gk_0 gv1 pk_64, gr_0_4 gv1 pk_64, ?_⟩
      show K 36 [some (.inr (.inr 64)), some (.inl x1), some (.inl x2), some (.inl x3), some (.inl x4), some (.inl x5)] [.inl x5, .inr (.inr 303), .inr (.inr 326)] v1.2
      obtain ⟨v3, hv3, hm⟩ := ia_bnd hm
      have ev3 := t_Ou_safestCell (d + 1) gv1 (ka_0_4 pk_64) hv3
      have gv3 := g_Ou_safestCell gv1 (ka_0_4 pk_64) hv3
      refine ia_cV hK mk_Ou_safestCell lk_0_370 dc_I_set_36 326 [.inr (.inr 303), .inl x5] [] rfl rfl (Nat.le_of_ble_eq_true rfl) (by decide) rfl (gk_5 gv1 (ka_0_7 pk_64)) ev3 (gd_nm gv1 gv3) ?_
      show K 39 [some (.inr (.inr 64)), some (.inl x1), some (.inl x2), some (.inl x3), some (.inl x4), some (.inl x5)] [.inl v3.1] v3.2
      cases hm
      exact hret 39 _ dc_I_set_39
    · replace hm := ia_ifp hm c
      show K 24 [some (.inr (.inr 64)), some (.inl x1), some (.inl x2), some (.inl x3), some (.inl x4), some (.inl x5)] [] v1.2
      refine ia_go hK ck_I_set_24 ?_
      show K 25 [some (.inr (.inr 64)), some (.inl x1), some (.inl x2), some (.inl x3), some (.inl x4), some (.inl x5)] [.inl (-1)] v1.2
      cases hm
      exact hret 25 _ dc_I_set_25
def mm_Ou_recordHeld : ia_M := (⟨"IceStreet$Outlook", "recordHeld", "(LIceStreet$Scene;[I)V"⟩, prog_6_method_3_code, 5, none, 5, false)
theorem ok_Ou_recordHeld : ia_mok mm_Ou_recordHeld := ⟨by decide +kernel, by decide +kernel, by decide +kernel, by decide +kernel⟩
theorem mk_Ou_recordHeld : ia_mkn mm_Ou_recordHeld 1 2 := ⟨ia_tb_in (List.mem_of_getElem? (i := 1399) (by decide +kernel)) rfl, ia_tb_in (List.mem_of_getElem? (i := 143) (by decide +kernel)) rfl, by decide +kernel, by decide +kernel, ⟨ia_tb_in (List.mem_of_getElem? (i := 1398) (by decide +kernel)) rfl, ia_tb_in (List.mem_of_getElem? (i := 43) (by decide +kernel)) rfl⟩⟩
theorem ck_Ou_recordHeld_0 : ia_cks 5 5 false prog_6_method_3_code 0 [(.aload_n 0, 0, 0, 0, 0), (.getfield 27, 5, 1, 3, 3), (.aload_n 1, 0, 0, 0, 0)] = true := by decide +kernel
theorem ck_Ou_recordHeld_8 : ia_cks 5 5 false prog_6_method_3_code 8 [(.aload_n 2, 0, 0, 0, 0), (.iconst 0, 0, 0, 0, 0)] = true := by decide +kernel
theorem ck_Ou_recordHeld_13 : ia_cks 5 5 false prog_6_method_3_code 13 [(.iconst 0, 0, 0, 0, 0), (.istore_n 3, 0, 0, 0, 0)] = true := by decide +kernel
theorem ck_Ou_recordHeld_15 : ia_cks 5 5 false prog_6_method_3_code 15 [(.iload_n 3, 0, 0, 0, 0), (.bipush 60, 0, 0, 0, 0), (.if_icmp .gt 58, 0, 0, 0, 0)] = true := by decide +kernel
theorem ck_Ou_recordHeld_21 : ia_cks 5 5 false prog_6_method_3_code 21 [(.iconst 0, 0, 0, 0, 0), (.istore 4, 0, 0, 0, 0)] = true := by decide +kernel
theorem ck_Ou_recordHeld_24 : ia_cks 5 5 false prog_6_method_3_code 24 [(.iload 4, 0, 0, 0, 0), (.bipush 6, 0, 0, 0, 0), (.if_icmp .ge 28, 0, 0, 0, 0)] = true := by decide +kernel
theorem ck_Ou_recordHeld_31 : ia_cks 5 5 false prog_6_method_3_code 31 [(.aload_n 0, 0, 0, 0, 0), (.getfield 27, 5, 1, 3, 3), (.iload 4, 0, 0, 0, 0)] = true := by decide +kernel
theorem ck_Ou_recordHeld_40 : ia_cks 5 5 false prog_6_method_3_code 40 [(.ifCond .eq 10, 0, 0, 0, 0)] = true := by decide +kernel
theorem ck_Ou_recordHeld_50 : ia_cks 5 5 false prog_6_method_3_code 50 [(.iinc 4 1, 0, 0, 0, 0), (.goto (-29), 0, 0, 0, 0)] = true := by decide +kernel
theorem ck_Ou_recordHeld_43 : ia_cks 5 5 false prog_6_method_3_code 43 [(.aload_n 2, 0, 0, 0, 0), (.iload 4, 0, 0, 0, 0), (.iload_n 3, 0, 0, 0, 0), (.iconst 1, 0, 0, 0, 0), (.iadd, 0, 0, 0, 0), (.iastore, 0, 0, 0, 0), (.iinc 4 1, 0, 0, 0, 0), (.goto (-29), 0, 0, 0, 0)] = true := by decide +kernel
theorem ck_Ou_recordHeld_56 : ia_cks 5 5 false prog_6_method_3_code 56 [(.aload_n 0, 0, 0, 0, 0), (.getfield 27, 5, 1, 3, 3), (.aload_n 0, 0, 0, 0, 0), (.getfield 27, 5, 1, 3, 3)] = true := by decide +kernel
theorem ck_Ou_recordHeld_70 : ia_cks 5 5 false prog_6_method_3_code 70 [(.iinc 3 1, 0, 0, 0, 0), (.goto (-58), 0, 0, 0, 0)] = true := by decide +kernel
theorem dc_Ou_recordHeld_5 : decode prog_6_method_3_code 5 = .ok (.invokevirtual 34, 3) := by decide +kernel
theorem dc_Ou_recordHeld_10 : decode prog_6_method_3_code 10 = .ok (.invokestatic 50, 3) := by decide +kernel
theorem dc_Ou_recordHeld_37 : decode prog_6_method_3_code 37 = .ok (.invokevirtual 38, 3) := by decide +kernel
theorem dc_Ou_recordHeld_64 : decode prog_6_method_3_code 64 = .ok (.invokevirtual 42, 3) := by decide +kernel
theorem dc_Ou_recordHeld_67 : decode prog_6_method_3_code 67 = .ok (.invokevirtual 46, 3) := by decide +kernel
theorem dc_Ou_recordHeld_76 : decode prog_6_method_3_code 76 = .ok (.return_, 1) := by decide +kernel
def l_Ou_recordHeld_24 (a1 : Nat) (a2 : Nat) (k56 : Int32 → ia_H → Option ia_H) (n : Nat) (x3 : Int32) (x4 : Int32) (h : ia_H) : Option ia_H := match n with
  | 0 => none
  | n + 1 => if 6 ≤ x4 then (k56 x3 h) else ((f_Sc_stands 329 x4 h).bind fun v3 => (if v3 = 0 then (l_Ou_recordHeld_24 a1 a2 k56 n x3 (x4 + 1) h) else (ia_gd (ia_ib x4 (kd_D a2).2) (l_Ou_recordHeld_24 a1 a2 k56 n x3 (x4 + 1) (ia_wI h a2 ((x4).toNatClampNeg) (x3 + 1))))))
theorem tl_Ou_recordHeld_24 {d N1 W1 : Nat} {K : ia_K} (hK : ia_isK (d + 4) mm_Ou_recordHeld N1 W1 K) {a1 : Nat} {a2 : Nat} (p1 : (kd_D a1).1 = 9) (p2 : (kd_D a2).1 = 100) {h1 : ia_H} (hret : ∀ (pc : Nat) (lv : ia_L), ia_ret mm_Ou_recordHeld pc none → K pc lv (none : Option ia_V).toList h1) {k56 : Int32 → ia_H → Option ia_H} (hk56 : ∀ (x3 : Int32) (h : ia_H), gd_ h → k56 x3 h = some h1 → K 56 [some (.inr (.inr 326)), none, some (.inr (.inr a2)), some (.inl x3), none] [] h) : ∀ (n : Nat) (x3 : Int32) (x4 : Int32) (h : ia_H), gd_ h → l_Ou_recordHeld_24 a1 a2 k56 n x3 x4 h = some h1 → K 24 [some (.inr (.inr 326)), none, some (.inr (.inr a2)), some (.inl x3), some (.inl x4)] [] h := by
  intro n
  induction n with
  | zero =>
    intro x3 x4 h hg hm
    cases (show (none : Option ia_H) = some _ from hm)
  | succ n ih =>
    intro x3 x4 h hg hm
    rw [l_Ou_recordHeld_24] at hm
    refine ia_go hK ck_Ou_recordHeld_24 ⟨fun c => ?_, fun c => ?_⟩
    · replace hm := ia_ifp hm c
      show K 56 [some (.inr (.inr 326)), none, some (.inr (.inr a2)), some (.inl x3), some (.inl x4)] [] h
      refine ia_fg hK (lv' := [some (.inr (.inr 326)), none, some (.inr (.inr a2)), some (.inl x3), none]) ⟨rfl, rfl, rfl, trivial⟩ ?_
      exact hk56 x3 h hg hm
    · replace hm := ia_ifn hm c
      show K 31 [some (.inr (.inr 326)), none, some (.inr (.inr a2)), some (.inl x3), some (.inl x4)] [] h
      refine ia_go hK ck_Ou_recordHeld_31 ⟨gk_5 hg pk_326, gr_5_1 hg pk_326, ?_⟩
      show K 37 [some (.inr (.inr 326)), none, some (.inr (.inr a2)), some (.inl x3), some (.inl x4)] [.inl x4, .inr (.inr 329)] h
      obtain ⟨v3, hv3, hm⟩ := ia_bnd hm
      have ev3 := t_Sc_stands (d + 3) hg (ka_5_1 pk_326) hv3
      refine ia_cV hK mk_Sc_stands lk_5_38 dc_Ou_recordHeld_37 329 [.inl x4] [] rfl rfl (Nat.le_of_ble_eq_true rfl) (by decide) rfl (gk_9 hg (ka_5_1 pk_326)) ev3 ⟨rfl, rfl⟩ ?_
      show K 40 [some (.inr (.inr 326)), none, some (.inr (.inr a2)), some (.inl x3), some (.inl x4)] [.inl v3] h
      refine ia_go hK ck_Ou_recordHeld_40 ⟨fun c => ?_, fun c => ?_⟩
      · replace hm := ia_ifp hm c
        show K 50 [some (.inr (.inr 326)), none, some (.inr (.inr a2)), some (.inl x3), some (.inl x4)] [] h
        refine ia_go hK ck_Ou_recordHeld_50 ?_
        show K 24 [some (.inr (.inr 326)), none, some (.inr (.inr a2)), some (.inl x3), some (.inl (x4 + 1))] [] h
        exact ih x3 (x4 + 1) h hg hm
      · replace hm := ia_ifn hm c
        show K 43 [some (.inr (.inr 326)), none, some (.inr (.inr a2)), some (.inl x3), some (.inl x4)] [] h
        obtain ⟨c4, hm⟩ := ia_gd_some hm
        refine ia_go hK ck_Ou_recordHeld_43 ⟨ga_s100 hg (kd_pr p2) c4, ?_⟩
        show K 24 [some (.inr (.inr 326)), none, some (.inr (.inr a2)), some (.inl x3), some (.inl (x4 + 1))] [] (ia_wI h a2 ((x4).toNatClampNeg) (x3 + 1))
        exact ih x3 (x4 + 1) (ia_wI h a2 ((x4).toNatClampNeg) (x3 + 1)) (gd_wI hg) hm
theorem gl_Ou_recordHeld_24 {a1 : Nat} {a2 : Nat} (p1 : (kd_D a1).1 = 9) (p2 : (kd_D a2).1 = 100) {h1 : ia_H} {k56 : Int32 → ia_H → Option ia_H} (hk56 : ∀ (x3 : Int32) (h : ia_H), gd_ h → k56 x3 h = some h1 → gd_ h1) : ∀ (n : Nat) (x3 : Int32) (x4 : Int32) (h : ia_H), gd_ h → l_Ou_recordHeld_24 a1 a2 k56 n x3 x4 h = some h1 → gd_ h1 := by
  intro n
  induction n with
  | zero =>
    intro x3 x4 h hg hm
    cases (show (none : Option ia_H) = some _ from hm)
  | succ n ih =>
    intro x3 x4 h hg hm
    rw [l_Ou_recordHeld_24] at hm
    by_cases c : 6 ≤ x4
    · replace hm := ia_ifp hm c
      exact hk56 x3 h hg hm
    · replace hm := ia_ifn hm c
      obtain ⟨v3, hv3, hm⟩ := ia_bnd hm
      by_cases c : v3 = 0
      · replace hm := ia_ifp hm c
        exact ih x3 (x4 + 1) h hg hm
      · replace hm := ia_ifn hm c
        obtain ⟨c4, hm⟩ := ia_gd_some hm
        exact ih x3 (x4 + 1) (ia_wI h a2 ((x4).toNatClampNeg) (x3 + 1)) (gd_wI hg) hm
def l_Ou_recordHeld_15 (a1 : Nat) (a2 : Nat) (k76 : ia_H → Option ia_H) (n : Nat) (x3 : Int32) (h : ia_H) : Option ia_H := match n with
  | 0 => none
  | n + 1 => if 60 < x3 then (k76 h) else (l_Ou_recordHeld_24 a1 a2 (fun x3 h => (f_Sc_frost 329 h).bind fun v5 => ((f_Sc_passDayUnderShops 329 v5 h).bind fun v6 => (l_Ou_recordHeld_15 a1 a2 k76 n (x3 + 1) v6))) fu_ x3 0 h)
theorem tl_Ou_recordHeld_15 {d N1 W1 : Nat} {K : ia_K} (hK : ia_isK (d + 4) mm_Ou_recordHeld N1 W1 K) {a1 : Nat} {a2 : Nat} (p1 : (kd_D a1).1 = 9) (p2 : (kd_D a2).1 = 100) {h1 : ia_H} (hret : ∀ (pc : Nat) (lv : ia_L), ia_ret mm_Ou_recordHeld pc none → K pc lv (none : Option ia_V).toList h1) {k76 : ia_H → Option ia_H} (hk76 : ∀ (h : ia_H), gd_ h → k76 h = some h1 → K 76 [none, none, none, none, none] [] h) : ∀ (n : Nat) (x3 : Int32) (h : ia_H), gd_ h → l_Ou_recordHeld_15 a1 a2 k76 n x3 h = some h1 → K 15 [some (.inr (.inr 326)), none, some (.inr (.inr a2)), some (.inl x3), none] [] h := by
  intro n
  induction n with
  | zero =>
    intro x3 h hg hm
    cases (show (none : Option ia_H) = some _ from hm)
  | succ n ih =>
    intro x3 h hg hm
    rw [l_Ou_recordHeld_15] at hm
    refine ia_go hK ck_Ou_recordHeld_15 ⟨fun c => ?_, fun c => ?_⟩
    · replace hm := ia_ifp hm c
      show K 76 [some (.inr (.inr 326)), none, some (.inr (.inr a2)), some (.inl x3), none] [] h
      refine ia_fg hK (lv' := [none, none, none, none, none]) trivial ?_
      exact hk76 h hg hm
    · replace hm := ia_ifn hm c
      show K 21 [some (.inr (.inr 326)), none, some (.inr (.inr a2)), some (.inl x3), none] [] h
      refine ia_go hK ck_Ou_recordHeld_21 ?_
      show K 24 [some (.inr (.inr 326)), none, some (.inr (.inr a2)), some (.inl x3), some (.inl 0)] [] h
      refine tl_Ou_recordHeld_24 hK p1 p2 hret ?_ fu_ x3 0 h hg hm
      · intro x3 h hg hm
        refine ia_go hK ck_Ou_recordHeld_56 ⟨gk_5 hg pk_326, gr_5_1 hg pk_326, gk_5 hg pk_326, gr_5_1 hg pk_326, ?_⟩
        show K 64 [some (.inr (.inr 326)), none, some (.inr (.inr a2)), some (.inl x3), none] [.inr (.inr 329), .inr (.inr 329)] h
        obtain ⟨v5, hv5, hm⟩ := ia_bnd hm
        have ev5 := t_Sc_frost (d + 3) hg (ka_5_1 pk_326) hv5
        refine ia_cV hK mk_Sc_frost lk_5_42 dc_Ou_recordHeld_64 329 [] [.inr (.inr 329)] rfl rfl (Nat.le_of_ble_eq_true rfl) (by decide) rfl (gk_9 hg (ka_5_1 pk_326)) ev5 ⟨rfl, rfl⟩ ?_
        show K 67 [some (.inr (.inr 326)), none, some (.inr (.inr a2)), some (.inl x3), none] [.inl v5, .inr (.inr 329)] h
        obtain ⟨v6, hv6, hm⟩ := ia_bnd hm
        have ev6 := t_Sc_passDayUnderShops (d + 0) hg (ka_5_1 pk_326) hv6
        have gv6 := g_Sc_passDayUnderShops hg (ka_5_1 pk_326) hv6
        refine ia_cV hK mk_Sc_passDayUnderShops lk_5_46 dc_Ou_recordHeld_67 329 [.inl v5] [] rfl rfl (Nat.le_of_ble_eq_true rfl) (by decide) rfl (gk_9 hg (ka_5_1 pk_326)) ev6 (gd_nm hg gv6) ?_
        show K 70 [some (.inr (.inr 326)), none, some (.inr (.inr a2)), some (.inl x3), none] [] v6
        refine ia_go hK ck_Ou_recordHeld_70 ?_
        show K 15 [some (.inr (.inr 326)), none, some (.inr (.inr a2)), some (.inl (x3 + 1)), none] [] v6
        exact ih (x3 + 1) v6 gv6 hm
theorem gl_Ou_recordHeld_15 {a1 : Nat} {a2 : Nat} (p1 : (kd_D a1).1 = 9) (p2 : (kd_D a2).1 = 100) {h1 : ia_H} {k76 : ia_H → Option ia_H} (hk76 : ∀ (h : ia_H), gd_ h → k76 h = some h1 → gd_ h1) : ∀ (n : Nat) (x3 : Int32) (h : ia_H), gd_ h → l_Ou_recordHeld_15 a1 a2 k76 n x3 h = some h1 → gd_ h1 := by
  intro n
  induction n with
  | zero =>
    intro x3 h hg hm
    cases (show (none : Option ia_H) = some _ from hm)
  | succ n ih =>
    intro x3 h hg hm
    rw [l_Ou_recordHeld_15] at hm
    by_cases c : 60 < x3
    · replace hm := ia_ifp hm c
      exact hk76 h hg hm
    · replace hm := ia_ifn hm c
      refine gl_Ou_recordHeld_24 p1 p2 ?_ fu_ x3 0 h hg hm
      · intro x3 h hg hm
        obtain ⟨v5, hv5, hm⟩ := ia_bnd hm
        obtain ⟨v6, hv6, hm⟩ := ia_bnd hm
        have gv6 := g_Sc_passDayUnderShops hg (ka_5_1 pk_326) hv6
        exact ih (x3 + 1) v6 gv6 hm
def f_Ou_recordHeld (a1 : Nat) (a2 : Nat) (h : ia_H) : Option ia_H := (f_Sc_become 329 a1 h).bind fun v1 => ((f_Ar_fill a2 0 v1).bind fun v2 => (l_Ou_recordHeld_15 a1 a2 (fun h => some h) fu_ 0 v2))
theorem g_Ou_recordHeld {a1 : Nat} {a2 : Nat} {h : ia_H} (hg : gd_ h) (p1 : (kd_D a1).1 = 9) (p2 : (kd_D a2).1 = 100) {q : ia_H} (hm : f_Ou_recordHeld a1 a2 h = some q) : gd_ q := by
  obtain ⟨h1, e1⟩ : ∃ x, x = q := ⟨_, rfl⟩
  subst e1
  unfold f_Ou_recordHeld at hm
  obtain ⟨v1, hv1, hm⟩ := ia_bnd hm
  have gv1 := g_Sc_become hg (ka_5_1 pk_326) p1 hv1
  obtain ⟨v2, hv2, hm⟩ := ia_bnd hm
  have gv2 := g_Ar_fill gv1 (congrArg Prod.fst (kd_pr p2)) hv2
  refine gl_Ou_recordHeld_15 p1 p2 ?_ fu_ 0 v2 gv2 hm
  · intro h hg hm
    cases hm
    exact hg
theorem t_Ou_recordHeld (d : Nat) {a1 : Nat} {a2 : Nat} {h : ia_H} (hg : gd_ h) (p1 : (kd_D a1).1 = 9) (p2 : (kd_D a2).1 = 100) {q : ia_H} (hm : f_Ou_recordHeld a1 a2 h = some q) : ia_Ev (d + 4) mm_Ou_recordHeld [.inr (.inr 326), .inr (.inr a1), .inr (.inr a2)] h none q := by
  have gq := g_Ou_recordHeld hg p1 p2 hm
  refine ia_Ev_intro ok_Ou_recordHeld (gd_le hg gq).1 (gd_le hg gq).2 (Nat.le_of_ble_eq_true rfl) (fun K hK hret => ?_)
  obtain ⟨h1, e1⟩ : ∃ x, x = q := ⟨_, rfl⟩
  subst e1
  show K 0 [some (.inr (.inr 326)), some (.inr (.inr a1)), some (.inr (.inr a2)), none, none] [] h
  unfold f_Ou_recordHeld at hm
  refine ia_go hK ck_Ou_recordHeld_0 ⟨gk_5 hg pk_326, gr_5_1 hg pk_326, ?_⟩
  show K 5 [some (.inr (.inr 326)), some (.inr (.inr a1)), some (.inr (.inr a2)), none, none] [.inr (.inr a1), .inr (.inr 329)] h
  obtain ⟨v1, hv1, hm⟩ := ia_bnd hm
  have ev1 := t_Sc_become (d + 3) hg (ka_5_1 pk_326) p1 hv1
  have gv1 := g_Sc_become hg (ka_5_1 pk_326) p1 hv1
  refine ia_cV hK mk_Sc_become lk_5_34 dc_Ou_recordHeld_5 329 [.inr (.inr a1)] [] rfl rfl (Nat.le_of_ble_eq_true rfl) (by decide) rfl (gk_9 hg (ka_5_1 pk_326)) ev1 (gd_nm hg gv1) ?_
  show K 8 [some (.inr (.inr 326)), some (.inr (.inr a1)), some (.inr (.inr a2)), none, none] [] v1
  refine ia_go hK ck_Ou_recordHeld_8 ?_
  show K 10 [some (.inr (.inr 326)), some (.inr (.inr a1)), some (.inr (.inr a2)), none, none] [.inl 0, .inr (.inr a2)] v1
  obtain ⟨v2, hv2, hm⟩ := ia_bnd hm
  have ev2 := t_Ar_fill (d + 3) gv1 (congrArg Prod.fst (kd_pr p2)) hv2
  have gv2 := g_Ar_fill gv1 (congrArg Prod.fst (kd_pr p2)) hv2
  refine ia_cS hK mk_Ar_fill lk_5_50 dc_Ou_recordHeld_10 [.inr (.inr a2), .inl 0] [] rfl rfl (Nat.le_of_ble_eq_true rfl) ev2 (gd_nm gv1 gv2) ?_
  show K 13 [some (.inr (.inr 326)), some (.inr (.inr a1)), some (.inr (.inr a2)), none, none] [] v2
  refine ia_go hK ck_Ou_recordHeld_13 ?_
  show K 15 [some (.inr (.inr 326)), some (.inr (.inr a1)), some (.inr (.inr a2)), some (.inl 0), none] [] v2
  refine ia_fg hK (lv' := [some (.inr (.inr 326)), none, some (.inr (.inr a2)), some (.inl 0), none]) ⟨rfl, rfl, rfl, trivial⟩ ?_
  refine tl_Ou_recordHeld_15 hK p1 p2 hret ?_ fu_ 0 v2 gv2 hm
  · intro h hg hm
    cases hm
    exact hret 76 _ dc_Ou_recordHeld_76
def mm_Sc_putOut : ia_M := (⟨"IceStreet$Scene", "putOut", "(I)V"⟩, prog_10_method_11_code, 3, none, 9, false)
theorem ok_Sc_putOut : ia_mok mm_Sc_putOut := ⟨by decide +kernel, by decide +kernel, by decide +kernel, by decide +kernel⟩
theorem mk_Sc_putOut : ia_mkn mm_Sc_putOut 1 1 := ⟨ia_tb_in (List.mem_of_getElem? (i := 1408) (by decide +kernel)) rfl, ia_tb_in (List.mem_of_getElem? (i := 140) (by decide +kernel)) rfl, by decide +kernel, by decide +kernel, ⟨ia_tb_in (List.mem_of_getElem? (i := 1406) (by decide +kernel)) rfl, ia_tb_in (List.mem_of_getElem? (i := 1407) (by decide +kernel)) rfl⟩⟩
theorem ck_Sc_putOut_0 : ia_cks 9 3 false prog_10_method_11_code 0 [(.aload_n 0, 0, 0, 0, 0), (.getfield 24, 9, 6, 3, 5), (.iload_n 1, 0, 0, 0, 0), (.iaload, 0, 0, 0, 0), (.istore_n 2, 0, 0, 0, 0), (.aload_n 0, 0, 0, 0, 0), (.iload_n 1, 0, 0, 0, 0), (.iconst (-1), 0, 0, 0, 0)] = true := by decide +kernel
theorem ck_Sc_putOut_13 : ia_cks 9 3 false prog_10_method_11_code 13 [(.aload_n 0, 0, 0, 0, 0), (.getfield 30, 9, 8, 3, 7), (.iload_n 1, 0, 0, 0, 0), (.iconst 0, 0, 0, 0, 0), (.iastore, 0, 0, 0, 0), (.aload_n 0, 0, 0, 0, 0), (.iload_n 1, 0, 0, 0, 0), (.iload_n 2, 0, 0, 0, 0)] = true := by decide +kernel
theorem dc_Sc_putOut_10 : decode prog_10_method_11_code 10 = .ok (.invokevirtual 95, 3) := by decide +kernel
theorem dc_Sc_putOut_23 : decode prog_10_method_11_code 23 = .ok (.invokevirtual 72, 3) := by decide +kernel
theorem dc_Sc_putOut_26 : decode prog_10_method_11_code 26 = .ok (.return_, 1) := by decide +kernel
def f_Sc_putOut (a0 : Nat) (x1 : Int32) (h : ia_H) : Option ia_H := ia_gd (ia_ib x1 6) ((f_Sc_lift a0 x1 (-1) h).bind fun v2 => (ia_gd (ia_ib x1 6) ((f_Sc_lower a0 x1 (ia_i h (a0 + 5) ((x1).toNatClampNeg)) (ia_wI v2 (a0 + 7) ((x1).toNatClampNeg) 0)).bind fun v4 => (some v4))))
theorem g_Sc_putOut {a0 : Nat} {x1 : Int32} {h : ia_H} (hg : gd_ h) (p0 : (kd_D a0).1 = 9) {q : ia_H} (hm : f_Sc_putOut a0 x1 h = some q) : gd_ q := by
  obtain ⟨h1, e1⟩ : ∃ x, x = q := ⟨_, rfl⟩
  subst e1
  unfold f_Sc_putOut at hm
  obtain ⟨c1, hm⟩ := ia_gd_some hm
  obtain ⟨v2, hv2, hm⟩ := ia_bnd hm
  have gv2 := g_Sc_lift hg p0 hv2
  obtain ⟨c3, hm⟩ := ia_gd_some hm
  obtain ⟨v4, hv4, hm⟩ := ia_bnd hm
  have gv4 := g_Sc_lower (gd_wI gv2) p0 hv4
  cases hm
  exact gv4
theorem t_Sc_putOut (d : Nat) {a0 : Nat} {x1 : Int32} {h : ia_H} (hg : gd_ h) (p0 : (kd_D a0).1 = 9) {q : ia_H} (hm : f_Sc_putOut a0 x1 h = some q) : ia_Ev (d + 2) mm_Sc_putOut [.inr (.inr a0), .inl x1] h none q := by
  have gq := g_Sc_putOut hg p0 hm
  refine ia_Ev_intro ok_Sc_putOut (gd_le hg gq).1 (gd_le hg gq).2 (Nat.le_of_ble_eq_true rfl) (fun K hK hret => ?_)
  obtain ⟨h1, e1⟩ : ∃ x, x = q := ⟨_, rfl⟩
  subst e1
  show K 0 [some (.inr (.inr a0)), some (.inl x1), none] [] h
  unfold f_Sc_putOut at hm
  obtain ⟨c1, hm⟩ := ia_gd_some hm
  refine ia_go hK ck_Sc_putOut_0 ⟨gk_9 hg p0, gr_9_6 hg p0, ga_i100 hg (ka_9_6 p0) c1, ?_⟩
  show K 10 [some (.inr (.inr a0)), some (.inl x1), some (.inl (ia_i h (a0 + 5) ((x1).toNatClampNeg)))] [.inl (-1), .inl x1, .inr (.inr a0)] h
  obtain ⟨v2, hv2, hm⟩ := ia_bnd hm
  have ev2 := t_Sc_lift (d + 0) hg p0 hv2
  have gv2 := g_Sc_lift hg p0 hv2
  refine ia_cV hK mk_Sc_lift lk_9_95 dc_Sc_putOut_10 a0 [.inl x1, .inl (-1)] [] rfl rfl (Nat.le_of_ble_eq_true rfl) (by decide) rfl (gk_9 hg p0) ev2 (gd_nm hg gv2) ?_
  show K 13 [some (.inr (.inr a0)), some (.inl x1), some (.inl (ia_i h (a0 + 5) ((x1).toNatClampNeg)))] [] v2
  obtain ⟨c3, hm⟩ := ia_gd_some hm
  refine ia_go hK ck_Sc_putOut_13 ⟨gk_9 gv2 p0, gr_9_8 gv2 p0, ga_s100 gv2 (ka_9_8 p0) c3, ?_⟩
  show K 23 [some (.inr (.inr a0)), some (.inl x1), some (.inl (ia_i h (a0 + 5) ((x1).toNatClampNeg)))] [.inl (ia_i h (a0 + 5) ((x1).toNatClampNeg)), .inl x1, .inr (.inr a0)] (ia_wI v2 (a0 + 7) ((x1).toNatClampNeg) 0)
  obtain ⟨v4, hv4, hm⟩ := ia_bnd hm
  have ev4 := t_Sc_lower (d + 0) (gd_wI gv2) p0 hv4
  have gv4 := g_Sc_lower (gd_wI gv2) p0 hv4
  refine ia_cV hK mk_Sc_lower lk_9_72 dc_Sc_putOut_23 a0 [.inl x1, .inl (ia_i h (a0 + 5) ((x1).toNatClampNeg))] [] rfl rfl (Nat.le_of_ble_eq_true rfl) (by decide) rfl (gk_9 (gd_wI gv2) p0) ev4 (gd_nm (gd_wI gv2) gv4) ?_
  show K 26 [some (.inr (.inr a0)), some (.inl x1), some (.inl (ia_i h (a0 + 5) ((x1).toNatClampNeg)))] [] v4
  cases hm
  exact hret 26 _ dc_Sc_putOut_26
def mm_Ou_heldLongerWithout : ia_M := (⟨"IceStreet$Outlook", "heldLongerWithout", "(LIceStreet$Scene;I)I"⟩, prog_6_method_6_code, 5, (some .int), 5, false)
theorem ok_Ou_heldLongerWithout : ia_mok mm_Ou_heldLongerWithout := ⟨by decide +kernel, by decide +kernel, by decide +kernel, by decide +kernel⟩
theorem mk_Ou_heldLongerWithout : ia_mkn mm_Ou_heldLongerWithout 1 2 := ⟨ia_tb_in (List.mem_of_getElem? (i := 1404) (by decide +kernel)) rfl, ia_tb_in (List.mem_of_getElem? (i := 143) (by decide +kernel)) rfl, by decide +kernel, by decide +kernel, ⟨ia_tb_in (List.mem_of_getElem? (i := 1403) (by decide +kernel)) rfl, ia_tb_in (List.mem_of_getElem? (i := 44) (by decide +kernel)) rfl⟩⟩
theorem ck_Ou_heldLongerWithout_0 : ia_cks 5 5 false prog_6_method_6_code 0 [(.aload_n 0, 0, 0, 0, 0), (.getfield 31, 5, 2, 3, 11), (.aload_n 1, 0, 0, 0, 0)] = true := by decide +kernel
theorem ck_Ou_heldLongerWithout_8 : ia_cks 5 5 false prog_6_method_6_code 8 [(.aload_n 0, 0, 0, 0, 0), (.getfield 31, 5, 2, 3, 11), (.iload_n 2, 0, 0, 0, 0)] = true := by decide +kernel
theorem ck_Ou_heldLongerWithout_16 : ia_cks 5 5 false prog_6_method_6_code 16 [(.aload_n 0, 0, 0, 0, 0), (.aload_n 0, 0, 0, 0, 0), (.getfield 31, 5, 2, 3, 11), (.aload_n 0, 0, 0, 0, 0), (.getfield 15, 5, 4, 3, 2)] = true := by decide +kernel
theorem ck_Ou_heldLongerWithout_28 : ia_cks 5 5 false prog_6_method_6_code 28 [(.iconst 0, 0, 0, 0, 0), (.istore_n 3, 0, 0, 0, 0), (.iconst 0, 0, 0, 0, 0), (.istore 4, 0, 0, 0, 0)] = true := by decide +kernel
theorem ck_Ou_heldLongerWithout_33 : ia_cks 5 5 false prog_6_method_6_code 33 [(.iload 4, 0, 0, 0, 0), (.aload_n 1, 0, 0, 0, 0), (.getfield 69, 9, 0, 2, 0), (.getfield 94, 3, 11, 0, 0), (.if_icmp .ge 35, 0, 0, 0, 0)] = true := by decide +kernel
theorem ck_Ou_heldLongerWithout_45 : ia_cks 5 5 false prog_6_method_6_code 45 [(.iload 4, 0, 0, 0, 0), (.iload_n 2, 0, 0, 0, 0), (.if_icmp .eq 23, 0, 0, 0, 0)] = true := by decide +kernel
theorem ck_Ou_heldLongerWithout_71 : ia_cks 5 5 false prog_6_method_6_code 71 [(.iinc 4 1, 0, 0, 0, 0), (.goto (-41), 0, 0, 0, 0)] = true := by decide +kernel
theorem ck_Ou_heldLongerWithout_51 : ia_cks 5 5 false prog_6_method_6_code 51 [(.aload_n 0, 0, 0, 0, 0), (.getfield 15, 5, 4, 3, 2), (.iload 4, 0, 0, 0, 0), (.iaload, 0, 0, 0, 0), (.aload_n 0, 0, 0, 0, 0), (.getfield 9, 5, 3, 3, 1), (.iload 4, 0, 0, 0, 0), (.iaload, 0, 0, 0, 0), (.if_icmp .le 6, 0, 0, 0, 0)] = true := by decide +kernel
theorem ck_Ou_heldLongerWithout_68 : ia_cks 5 5 false prog_6_method_6_code 68 [(.iinc 3 1, 0, 0, 0, 0), (.iinc 4 1, 0, 0, 0, 0), (.goto (-41), 0, 0, 0, 0)] = true := by decide +kernel
theorem ck_Ou_heldLongerWithout_77 : ia_cks 5 5 false prog_6_method_6_code 77 [(.iload_n 3, 0, 0, 0, 0)] = true := by decide +kernel
theorem dc_Ou_heldLongerWithout_5 : decode prog_6_method_6_code 5 = .ok (.invokevirtual 34, 3) := by decide +kernel
theorem dc_Ou_heldLongerWithout_13 : decode prog_6_method_6_code 13 = .ok (.invokevirtual 101, 3) := by decide +kernel
theorem dc_Ou_heldLongerWithout_25 : decode prog_6_method_6_code 25 = .ok (.invokevirtual 90, 3) := by decide +kernel
theorem dc_Ou_heldLongerWithout_78 : decode prog_6_method_6_code 78 = .ok (.ireturn, 1) := by decide +kernel
def l_Ou_heldLongerWithout_33 (a1 : Nat) (x2 : Int32) (k77 : Int32 → ia_H → Option (Int32 × ia_H)) (n : Nat) (x3 : Int32) (x4 : Int32) (h : ia_H) : Option (Int32 × ia_H) := match n with
  | 0 => none
  | n + 1 => if (ia_i h (ia_r h a1 0) 11) ≤ x4 then (k77 x3 h) else (if x4 = x2 then (l_Ou_heldLongerWithout_33 a1 x2 k77 n x3 (x4 + 1) h) else (ia_gd (ia_ib x4 6) (ia_gd (ia_ib x4 6) (if (ia_i h 328 ((x4).toNatClampNeg)) ≤ (ia_i h 327 ((x4).toNatClampNeg)) then (l_Ou_heldLongerWithout_33 a1 x2 k77 n x3 (x4 + 1) h) else (l_Ou_heldLongerWithout_33 a1 x2 k77 n (x3 + 1) (x4 + 1) h)))))
theorem tl_Ou_heldLongerWithout_33 {d N1 W1 : Nat} {K : ia_K} (hK : ia_isK (d + 5) mm_Ou_heldLongerWithout N1 W1 K) {a1 : Nat} {x2 : Int32} (p1 : (kd_D a1).1 = 9) {r : Int32} {h1 : ia_H} (hret : ∀ (pc : Nat) (lv : ia_L), ia_ret mm_Ou_heldLongerWithout pc (some (.inl r)) → K pc lv ((some (.inl r)) : Option ia_V).toList h1) {k77 : Int32 → ia_H → Option (Int32 × ia_H)} (hk77 : ∀ (x3 : Int32) (h : ia_H), gd_ h → k77 x3 h = some (r, h1) → K 77 [none, none, none, some (.inl x3), none] [] h) : ∀ (n : Nat) (x3 : Int32) (x4 : Int32) (h : ia_H), gd_ h → l_Ou_heldLongerWithout_33 a1 x2 k77 n x3 x4 h = some (r, h1) → K 33 [some (.inr (.inr 326)), some (.inr (.inr a1)), some (.inl x2), some (.inl x3), some (.inl x4)] [] h := by
  intro n
  induction n with
  | zero =>
    intro x3 x4 h hg hm
    cases (show (none : Option (Int32 × ia_H)) = some _ from hm)
  | succ n ih =>
    intro x3 x4 h hg hm
    rw [l_Ou_heldLongerWithout_33] at hm
    refine ia_go hK ck_Ou_heldLongerWithout_33 ⟨gk_9 hg p1, gk_3 hg (gm_9_0 hg p1), fun c => ?_, fun c => ?_⟩
    · replace hm := ia_ifp hm c
      show K 77 [some (.inr (.inr 326)), some (.inr (.inr a1)), some (.inl x2), some (.inl x3), some (.inl x4)] [] h
      refine ia_fg hK (lv' := [none, none, none, some (.inl x3), none]) ⟨rfl, trivial⟩ ?_
      exact hk77 x3 h hg hm
    · replace hm := ia_ifn hm c
      show K 45 [some (.inr (.inr 326)), some (.inr (.inr a1)), some (.inl x2), some (.inl x3), some (.inl x4)] [] h
      refine ia_go hK ck_Ou_heldLongerWithout_45 ⟨fun c => ?_, fun c => ?_⟩
      · replace hm := ia_ifp hm c
        show K 71 [some (.inr (.inr 326)), some (.inr (.inr a1)), some (.inl x2), some (.inl x3), some (.inl x4)] [] h
        refine ia_go hK ck_Ou_heldLongerWithout_71 ?_
        show K 33 [some (.inr (.inr 326)), some (.inr (.inr a1)), some (.inl x2), some (.inl x3), some (.inl (x4 + 1))] [] h
        exact ih x3 (x4 + 1) h hg hm
      · replace hm := ia_ifn hm c
        show K 51 [some (.inr (.inr 326)), some (.inr (.inr a1)), some (.inl x2), some (.inl x3), some (.inl x4)] [] h
        obtain ⟨c4, hm⟩ := ia_gd_some hm
        obtain ⟨c5, hm⟩ := ia_gd_some hm
        refine ia_go hK ck_Ou_heldLongerWithout_51 ⟨gk_5 hg pk_326, gr_5_4 hg pk_326, ga_i100 hg (ka_5_4 pk_326) c4, gk_5 hg pk_326, gr_5_3 hg pk_326, ga_i100 hg (ka_5_3 pk_326) c5, fun c => ?_, fun c => ?_⟩
        · replace hm := ia_ifp hm c
          show K 71 [some (.inr (.inr 326)), some (.inr (.inr a1)), some (.inl x2), some (.inl x3), some (.inl x4)] [] h
          refine ia_go hK ck_Ou_heldLongerWithout_71 ?_
          show K 33 [some (.inr (.inr 326)), some (.inr (.inr a1)), some (.inl x2), some (.inl x3), some (.inl (x4 + 1))] [] h
          exact ih x3 (x4 + 1) h hg hm
        · replace hm := ia_ifn hm c
          show K 68 [some (.inr (.inr 326)), some (.inr (.inr a1)), some (.inl x2), some (.inl x3), some (.inl x4)] [] h
          refine ia_go hK ck_Ou_heldLongerWithout_68 ?_
          show K 33 [some (.inr (.inr 326)), some (.inr (.inr a1)), some (.inl x2), some (.inl (x3 + 1)), some (.inl (x4 + 1))] [] h
          exact ih (x3 + 1) (x4 + 1) h hg hm
theorem gl_Ou_heldLongerWithout_33 {a1 : Nat} {x2 : Int32} (p1 : (kd_D a1).1 = 9) {r : Int32} {h1 : ia_H} {k77 : Int32 → ia_H → Option (Int32 × ia_H)} (hk77 : ∀ (x3 : Int32) (h : ia_H), gd_ h → k77 x3 h = some (r, h1) → gd_ h1) : ∀ (n : Nat) (x3 : Int32) (x4 : Int32) (h : ia_H), gd_ h → l_Ou_heldLongerWithout_33 a1 x2 k77 n x3 x4 h = some (r, h1) → gd_ h1 := by
  intro n
  induction n with
  | zero =>
    intro x3 x4 h hg hm
    cases (show (none : Option (Int32 × ia_H)) = some _ from hm)
  | succ n ih =>
    intro x3 x4 h hg hm
    rw [l_Ou_heldLongerWithout_33] at hm
    by_cases c : (ia_i h (ia_r h a1 0) 11) ≤ x4
    · replace hm := ia_ifp hm c
      exact hk77 x3 h hg hm
    · replace hm := ia_ifn hm c
      by_cases c : x4 = x2
      · replace hm := ia_ifp hm c
        exact ih x3 (x4 + 1) h hg hm
      · replace hm := ia_ifn hm c
        obtain ⟨c4, hm⟩ := ia_gd_some hm
        obtain ⟨c5, hm⟩ := ia_gd_some hm
        by_cases c : (ia_i h 328 ((x4).toNatClampNeg)) ≤ (ia_i h 327 ((x4).toNatClampNeg))
        · replace hm := ia_ifp hm c
          exact ih x3 (x4 + 1) h hg hm
        · replace hm := ia_ifn hm c
          exact ih (x3 + 1) (x4 + 1) h hg hm
def f_Ou_heldLongerWithout (a1 : Nat) (x2 : Int32) (h : ia_H) : Option (Int32 × ia_H) := (f_Sc_become 337 a1 h).bind fun v1 => ((f_Sc_putOut 337 x2 v1).bind fun v2 => ((f_Ou_recordHeld 337 328 v2).bind fun v3 => (l_Ou_heldLongerWithout_33 a1 x2 (fun x3 h => some (x3, h)) fu_ 0 0 v3)))
theorem g_Ou_heldLongerWithout {a1 : Nat} {x2 : Int32} {h : ia_H} (hg : gd_ h) (p1 : (kd_D a1).1 = 9) {q : (Int32 × ia_H)} (hm : f_Ou_heldLongerWithout a1 x2 h = some q) : gd_ q.2 := by
  obtain ⟨r, h1⟩ := q
  unfold f_Ou_heldLongerWithout at hm
  obtain ⟨v1, hv1, hm⟩ := ia_bnd hm
  have gv1 := g_Sc_become hg (ka_5_2 pk_326) p1 hv1
  obtain ⟨v2, hv2, hm⟩ := ia_bnd hm
  have gv2 := g_Sc_putOut gv1 (ka_5_2 pk_326) hv2
  obtain ⟨v3, hv3, hm⟩ := ia_bnd hm
  have gv3 := g_Ou_recordHeld gv2 (ka_5_2 pk_326) (congrArg Prod.fst (ka_5_4 pk_326)) hv3
  refine gl_Ou_heldLongerWithout_33 p1 ?_ fu_ 0 0 v3 gv3 hm
  · intro x3 h hg hm
    cases hm
    exact hg
theorem t_Ou_heldLongerWithout (d : Nat) {a1 : Nat} {x2 : Int32} {h : ia_H} (hg : gd_ h) (p1 : (kd_D a1).1 = 9) {q : (Int32 × ia_H)} (hm : f_Ou_heldLongerWithout a1 x2 h = some q) : ia_Ev (d + 5) mm_Ou_heldLongerWithout [.inr (.inr 326), .inr (.inr a1), .inl x2] h (some (.inl q.1)) q.2 := by
  have gq := g_Ou_heldLongerWithout hg p1 hm
  refine ia_Ev_intro ok_Ou_heldLongerWithout (gd_le hg gq).1 (gd_le hg gq).2 (Nat.le_of_ble_eq_true rfl) (fun K hK hret => ?_)
  obtain ⟨r, h1⟩ := q
  show K 0 [some (.inr (.inr 326)), some (.inr (.inr a1)), some (.inl x2), none, none] [] h
  unfold f_Ou_heldLongerWithout at hm
  refine ia_go hK ck_Ou_heldLongerWithout_0 ⟨gk_5 hg pk_326, gr_5_2 hg pk_326, ?_⟩
  show K 5 [some (.inr (.inr 326)), some (.inr (.inr a1)), some (.inl x2), none, none] [.inr (.inr a1), .inr (.inr 337)] h
  obtain ⟨v1, hv1, hm⟩ := ia_bnd hm
  have ev1 := t_Sc_become (d + 4) hg (ka_5_2 pk_326) p1 hv1
  have gv1 := g_Sc_become hg (ka_5_2 pk_326) p1 hv1
  refine ia_cV hK mk_Sc_become lk_5_34 dc_Ou_heldLongerWithout_5 337 [.inr (.inr a1)] [] rfl rfl (Nat.le_of_ble_eq_true rfl) (by decide) rfl (gk_9 hg (ka_5_2 pk_326)) ev1 (gd_nm hg gv1) ?_
  show K 8 [some (.inr (.inr 326)), some (.inr (.inr a1)), some (.inl x2), none, none] [] v1
  refine ia_go hK ck_Ou_heldLongerWithout_8 ⟨gk_5 gv1 pk_326, gr_5_2 gv1 pk_326, ?_⟩
  show K 13 [some (.inr (.inr 326)), some (.inr (.inr a1)), some (.inl x2), none, none] [.inl x2, .inr (.inr 337)] v1
  obtain ⟨v2, hv2, hm⟩ := ia_bnd hm
  have ev2 := t_Sc_putOut (d + 2) gv1 (ka_5_2 pk_326) hv2
  have gv2 := g_Sc_putOut gv1 (ka_5_2 pk_326) hv2
  refine ia_cV hK mk_Sc_putOut lk_5_101 dc_Ou_heldLongerWithout_13 337 [.inl x2] [] rfl rfl (Nat.le_of_ble_eq_true rfl) (by decide) rfl (gk_9 gv1 (ka_5_2 pk_326)) ev2 (gd_nm gv1 gv2) ?_
  show K 16 [some (.inr (.inr 326)), some (.inr (.inr a1)), some (.inl x2), none, none] [] v2
  refine ia_go hK ck_Ou_heldLongerWithout_16 ⟨gk_5 gv2 pk_326, gr_5_2 gv2 pk_326, gk_5 gv2 pk_326, gr_5_4 gv2 pk_326, ?_⟩
  show K 25 [some (.inr (.inr 326)), some (.inr (.inr a1)), some (.inl x2), none, none] [.inr (.inr 328), .inr (.inr 337), .inr (.inr 326)] v2
  obtain ⟨v3, hv3, hm⟩ := ia_bnd hm
  have ev3 := t_Ou_recordHeld (d + 0) gv2 (ka_5_2 pk_326) (congrArg Prod.fst (ka_5_4 pk_326)) hv3
  have gv3 := g_Ou_recordHeld gv2 (ka_5_2 pk_326) (congrArg Prod.fst (ka_5_4 pk_326)) hv3
  refine ia_cV hK mk_Ou_recordHeld lk_5_90 dc_Ou_heldLongerWithout_25 326 [.inr (.inr 337), .inr (.inr 328)] [] rfl rfl (Nat.le_of_ble_eq_true rfl) (by decide) rfl (gk_5 gv2 pk_326) ev3 (gd_nm gv2 gv3) ?_
  show K 28 [some (.inr (.inr 326)), some (.inr (.inr a1)), some (.inl x2), none, none] [] v3
  refine ia_go hK ck_Ou_heldLongerWithout_28 ?_
  show K 33 [some (.inr (.inr 326)), some (.inr (.inr a1)), some (.inl x2), some (.inl 0), some (.inl 0)] [] v3
  refine tl_Ou_heldLongerWithout_33 hK p1 hret ?_ fu_ 0 0 v3 gv3 hm
  · intro x3 h hg hm
    refine ia_go hK ck_Ou_heldLongerWithout_77 ?_
    show K 78 [none, none, none, some (.inl x3), none] [.inl x3] h
    cases hm
    exact hret 78 _ dc_Ou_heldLongerWithout_78
def mm_Ou_worstStove : ia_M := (⟨"IceStreet$Outlook", "worstStove", "(LIceStreet$Scene;)I"⟩, prog_6_method_5_code, 6, (some .int), 5, false)
theorem ok_Ou_worstStove : ia_mok mm_Ou_worstStove := ⟨by decide +kernel, by decide +kernel, by decide +kernel, by decide +kernel⟩
theorem mk_Ou_worstStove : ia_mkn mm_Ou_worstStove 1 1 := ⟨ia_tb_in (List.mem_of_getElem? (i := 1395) (by decide +kernel)) rfl, ia_tb_in (List.mem_of_getElem? (i := 143) (by decide +kernel)) rfl, by decide +kernel, by decide +kernel, ⟨ia_tb_in (List.mem_of_getElem? (i := 1393) (by decide +kernel)) rfl, ia_tb_in (List.mem_of_getElem? (i := 1394) (by decide +kernel)) rfl⟩⟩
theorem ck_Ou_worstStove_0 : ia_cks 5 6 false prog_6_method_5_code 0 [(.aload_n 0, 0, 0, 0, 0), (.aload_n 1, 0, 0, 0, 0), (.aload_n 0, 0, 0, 0, 0), (.getfield 9, 5, 3, 3, 1)] = true := by decide +kernel
theorem ck_Ou_worstStove_9 : ia_cks 5 6 false prog_6_method_5_code 9 [(.iconst (-1), 0, 0, 0, 0), (.istore_n 2, 0, 0, 0, 0), (.iconst 0, 0, 0, 0, 0), (.istore_n 3, 0, 0, 0, 0), (.iconst 0, 0, 0, 0, 0), (.istore 4, 0, 0, 0, 0)] = true := by decide +kernel
theorem ck_Ou_worstStove_16 : ia_cks 5 6 false prog_6_method_5_code 16 [(.iload 4, 0, 0, 0, 0), (.aload_n 1, 0, 0, 0, 0), (.getfield 69, 9, 0, 2, 0), (.getfield 94, 3, 11, 0, 0), (.if_icmp .ge 43, 0, 0, 0, 0)] = true := by decide +kernel
theorem ck_Ou_worstStove_28 : ia_cks 5 6 false prog_6_method_5_code 28 [(.aload_n 1, 0, 0, 0, 0), (.iload 4, 0, 0, 0, 0)] = true := by decide +kernel
theorem ck_Ou_worstStove_34 : ia_cks 5 6 false prog_6_method_5_code 34 [(.ifCond .eq 13, 0, 0, 0, 0)] = true := by decide +kernel
theorem ck_Ou_worstStove_47 : ia_cks 5 6 false prog_6_method_5_code 47 [(.iconst 0, 0, 0, 0, 0)] = true := by decide +kernel
theorem ck_Ou_worstStove_48 : ia_cks 5 6 false prog_6_method_5_code 48 [(.istore 5, 0, 0, 0, 0), (.iload 5, 0, 0, 0, 0), (.iload_n 3, 0, 0, 0, 0), (.if_icmp .le 9, 0, 0, 0, 0)] = true := by decide +kernel
theorem ck_Ou_worstStove_62 : ia_cks 5 6 false prog_6_method_5_code 62 [(.iinc 4 1, 0, 0, 0, 0), (.goto (-49), 0, 0, 0, 0)] = true := by decide +kernel
theorem ck_Ou_worstStove_56 : ia_cks 5 6 false prog_6_method_5_code 56 [(.iload 5, 0, 0, 0, 0), (.istore_n 3, 0, 0, 0, 0), (.iload 4, 0, 0, 0, 0), (.istore_n 2, 0, 0, 0, 0), (.iinc 4 1, 0, 0, 0, 0), (.goto (-49), 0, 0, 0, 0)] = true := by decide +kernel
theorem ck_Ou_worstStove_37 : ia_cks 5 6 false prog_6_method_5_code 37 [(.aload_n 0, 0, 0, 0, 0), (.aload_n 1, 0, 0, 0, 0), (.iload 4, 0, 0, 0, 0)] = true := by decide +kernel
theorem ck_Ou_worstStove_44 : ia_cks 5 6 false prog_6_method_5_code 44 [(.goto 4, 0, 0, 0, 0)] = true := by decide +kernel
theorem ck_Ou_worstStove_68 : ia_cks 5 6 false prog_6_method_5_code 68 [(.iload_n 2, 0, 0, 0, 0)] = true := by decide +kernel
theorem dc_Ou_worstStove_6 : decode prog_6_method_5_code 6 = .ok (.invokevirtual 90, 3) := by decide +kernel
theorem dc_Ou_worstStove_31 : decode prog_6_method_5_code 31 = .ok (.invokevirtual 38, 3) := by decide +kernel
theorem dc_Ou_worstStove_41 : decode prog_6_method_5_code 41 = .ok (.invokevirtual 98, 3) := by decide +kernel
theorem dc_Ou_worstStove_69 : decode prog_6_method_5_code 69 = .ok (.ireturn, 1) := by decide +kernel
def j_Ou_worstStove_48 (a1 : Nat) (kr : Int32 → Int32 → Int32 → ia_H → Option (Int32 × ia_H)) (k68 : Int32 → ia_H → Option (Int32 × ia_H)) (x2 : Int32) (x3 : Int32) (x4 : Int32) (s0 : Int32) (h : ia_H) : Option (Int32 × ia_H) := if s0 ≤ x3 then (kr x2 x3 (x4 + 1) h) else (kr x4 s0 (x4 + 1) h)
theorem tj_Ou_worstStove_48 {d N1 W1 : Nat} {K : ia_K} (hK : ia_isK (d + 6) mm_Ou_worstStove N1 W1 K) {a1 : Nat} (p1 : (kd_D a1).1 = 9) {r : Int32} {h1 : ia_H} (hret : ∀ (pc : Nat) (lv : ia_L), ia_ret mm_Ou_worstStove pc (some (.inl r)) → K pc lv ((some (.inl r)) : Option ia_V).toList h1) {kr : Int32 → Int32 → Int32 → ia_H → Option (Int32 × ia_H)} {k68 : Int32 → ia_H → Option (Int32 × ia_H)} (hkr : ∀ (x2 : Int32) (x3 : Int32) (x4 : Int32) (h : ia_H), gd_ h → kr x2 x3 x4 h = some (r, h1) → K 16 [some (.inr (.inr 326)), some (.inr (.inr a1)), some (.inl x2), some (.inl x3), some (.inl x4), none] [] h) (hk68 : ∀ (x2 : Int32) (h : ia_H), gd_ h → k68 x2 h = some (r, h1) → K 68 [none, none, some (.inl x2), none, none, none] [] h) : ∀ (x2 : Int32) (x3 : Int32) (x4 : Int32) (s0 : Int32) (h : ia_H), gd_ h → j_Ou_worstStove_48 a1 kr k68 x2 x3 x4 s0 h = some (r, h1) → K 48 [some (.inr (.inr 326)), some (.inr (.inr a1)), some (.inl x2), some (.inl x3), some (.inl x4), none] [.inl s0] h := by
  intro x2 x3 x4 s0 h hg hm
  unfold j_Ou_worstStove_48 at hm
  refine ia_go hK ck_Ou_worstStove_48 ⟨fun c => ?_, fun c => ?_⟩
  · replace hm := ia_ifp hm c
    show K 62 [some (.inr (.inr 326)), some (.inr (.inr a1)), some (.inl x2), some (.inl x3), some (.inl x4), some (.inl s0)] [] h
    refine ia_go hK ck_Ou_worstStove_62 ?_
    show K 16 [some (.inr (.inr 326)), some (.inr (.inr a1)), some (.inl x2), some (.inl x3), some (.inl (x4 + 1)), some (.inl s0)] [] h
    refine ia_fg hK (lv' := [some (.inr (.inr 326)), some (.inr (.inr a1)), some (.inl x2), some (.inl x3), some (.inl (x4 + 1)), none]) ⟨rfl, rfl, rfl, rfl, rfl, trivial⟩ ?_
    exact hkr x2 x3 (x4 + 1) h hg hm
  · replace hm := ia_ifn hm c
    show K 56 [some (.inr (.inr 326)), some (.inr (.inr a1)), some (.inl x2), some (.inl x3), some (.inl x4), some (.inl s0)] [] h
    refine ia_go hK ck_Ou_worstStove_56 ?_
    show K 16 [some (.inr (.inr 326)), some (.inr (.inr a1)), some (.inl x4), some (.inl s0), some (.inl (x4 + 1)), some (.inl s0)] [] h
    refine ia_fg hK (lv' := [some (.inr (.inr 326)), some (.inr (.inr a1)), some (.inl x4), some (.inl s0), some (.inl (x4 + 1)), none]) ⟨rfl, rfl, rfl, rfl, rfl, trivial⟩ ?_
    exact hkr x4 s0 (x4 + 1) h hg hm
theorem gj_Ou_worstStove_48 {a1 : Nat} (p1 : (kd_D a1).1 = 9) {r : Int32} {h1 : ia_H} {kr : Int32 → Int32 → Int32 → ia_H → Option (Int32 × ia_H)} {k68 : Int32 → ia_H → Option (Int32 × ia_H)} (hkr : ∀ (x2 : Int32) (x3 : Int32) (x4 : Int32) (h : ia_H), gd_ h → kr x2 x3 x4 h = some (r, h1) → gd_ h1) (hk68 : ∀ (x2 : Int32) (h : ia_H), gd_ h → k68 x2 h = some (r, h1) → gd_ h1) : ∀ (x2 : Int32) (x3 : Int32) (x4 : Int32) (s0 : Int32) (h : ia_H), gd_ h → j_Ou_worstStove_48 a1 kr k68 x2 x3 x4 s0 h = some (r, h1) → gd_ h1 := by
  intro x2 x3 x4 s0 h hg hm
  unfold j_Ou_worstStove_48 at hm
  by_cases c : s0 ≤ x3
  · replace hm := ia_ifp hm c
    exact hkr x2 x3 (x4 + 1) h hg hm
  · replace hm := ia_ifn hm c
    exact hkr x4 s0 (x4 + 1) h hg hm
def l_Ou_worstStove_16 (a1 : Nat) (k68 : Int32 → ia_H → Option (Int32 × ia_H)) (n : Nat) (x2 : Int32) (x3 : Int32) (x4 : Int32) (h : ia_H) : Option (Int32 × ia_H) := match n with
  | 0 => none
  | n + 1 => if (ia_i h (ia_r h a1 0) 11) ≤ x4 then (k68 x2 h) else ((f_Sc_stands a1 x4 h).bind fun v2 => (if v2 = 0 then (j_Ou_worstStove_48 a1 (l_Ou_worstStove_16 a1 k68 n) k68 x2 x3 x4 0 h) else ((f_Ou_heldLongerWithout a1 x4 h).bind fun v3 => (j_Ou_worstStove_48 a1 (l_Ou_worstStove_16 a1 k68 n) k68 x2 x3 x4 v3.1 v3.2))))
theorem tl_Ou_worstStove_16 {d N1 W1 : Nat} {K : ia_K} (hK : ia_isK (d + 6) mm_Ou_worstStove N1 W1 K) {a1 : Nat} (p1 : (kd_D a1).1 = 9) {r : Int32} {h1 : ia_H} (hret : ∀ (pc : Nat) (lv : ia_L), ia_ret mm_Ou_worstStove pc (some (.inl r)) → K pc lv ((some (.inl r)) : Option ia_V).toList h1) {k68 : Int32 → ia_H → Option (Int32 × ia_H)} (hk68 : ∀ (x2 : Int32) (h : ia_H), gd_ h → k68 x2 h = some (r, h1) → K 68 [none, none, some (.inl x2), none, none, none] [] h) : ∀ (n : Nat) (x2 : Int32) (x3 : Int32) (x4 : Int32) (h : ia_H), gd_ h → l_Ou_worstStove_16 a1 k68 n x2 x3 x4 h = some (r, h1) → K 16 [some (.inr (.inr 326)), some (.inr (.inr a1)), some (.inl x2), some (.inl x3), some (.inl x4), none] [] h := by
  intro n
  induction n with
  | zero =>
    intro x2 x3 x4 h hg hm
    cases (show (none : Option (Int32 × ia_H)) = some _ from hm)
  | succ n ih =>
    intro x2 x3 x4 h hg hm
    rw [l_Ou_worstStove_16] at hm
    refine ia_go hK ck_Ou_worstStove_16 ⟨gk_9 hg p1, gk_3 hg (gm_9_0 hg p1), fun c => ?_, fun c => ?_⟩
    · replace hm := ia_ifp hm c
      show K 68 [some (.inr (.inr 326)), some (.inr (.inr a1)), some (.inl x2), some (.inl x3), some (.inl x4), none] [] h
      refine ia_fg hK (lv' := [none, none, some (.inl x2), none, none, none]) ⟨rfl, trivial⟩ ?_
      exact hk68 x2 h hg hm
    · replace hm := ia_ifn hm c
      show K 28 [some (.inr (.inr 326)), some (.inr (.inr a1)), some (.inl x2), some (.inl x3), some (.inl x4), none] [] h
      refine ia_go hK ck_Ou_worstStove_28 ?_
      show K 31 [some (.inr (.inr 326)), some (.inr (.inr a1)), some (.inl x2), some (.inl x3), some (.inl x4), none] [.inl x4, .inr (.inr a1)] h
      obtain ⟨v2, hv2, hm⟩ := ia_bnd hm
      have ev2 := t_Sc_stands (d + 5) hg p1 hv2
      refine ia_cV hK mk_Sc_stands lk_5_38 dc_Ou_worstStove_31 a1 [.inl x4] [] rfl rfl (Nat.le_of_ble_eq_true rfl) (by decide) rfl (gk_9 hg p1) ev2 ⟨rfl, rfl⟩ ?_
      show K 34 [some (.inr (.inr 326)), some (.inr (.inr a1)), some (.inl x2), some (.inl x3), some (.inl x4), none] [.inl v2] h
      refine ia_go hK ck_Ou_worstStove_34 ⟨fun c => ?_, fun c => ?_⟩
      · replace hm := ia_ifp hm c
        show K 47 [some (.inr (.inr 326)), some (.inr (.inr a1)), some (.inl x2), some (.inl x3), some (.inl x4), none] [] h
        refine ia_go hK ck_Ou_worstStove_47 ?_
        show K 48 [some (.inr (.inr 326)), some (.inr (.inr a1)), some (.inl x2), some (.inl x3), some (.inl x4), none] [.inl 0] h
        exact tj_Ou_worstStove_48 hK p1 hret ih hk68 x2 x3 x4 0 h hg hm
      · replace hm := ia_ifn hm c
        show K 37 [some (.inr (.inr 326)), some (.inr (.inr a1)), some (.inl x2), some (.inl x3), some (.inl x4), none] [] h
        refine ia_go hK ck_Ou_worstStove_37 ?_
        show K 41 [some (.inr (.inr 326)), some (.inr (.inr a1)), some (.inl x2), some (.inl x3), some (.inl x4), none] [.inl x4, .inr (.inr a1), .inr (.inr 326)] h
        obtain ⟨v3, hv3, hm⟩ := ia_bnd hm
        have ev3 := t_Ou_heldLongerWithout (d + 0) hg p1 hv3
        have gv3 := g_Ou_heldLongerWithout hg p1 hv3
        refine ia_cV hK mk_Ou_heldLongerWithout lk_5_98 dc_Ou_worstStove_41 326 [.inr (.inr a1), .inl x4] [] rfl rfl (Nat.le_of_ble_eq_true rfl) (by decide) rfl (gk_5 hg pk_326) ev3 (gd_nm hg gv3) ?_
        show K 44 [some (.inr (.inr 326)), some (.inr (.inr a1)), some (.inl x2), some (.inl x3), some (.inl x4), none] [.inl v3.1] v3.2
        refine ia_go hK ck_Ou_worstStove_44 ?_
        show K 48 [some (.inr (.inr 326)), some (.inr (.inr a1)), some (.inl x2), some (.inl x3), some (.inl x4), none] [.inl v3.1] v3.2
        exact tj_Ou_worstStove_48 hK p1 hret ih hk68 x2 x3 x4 v3.1 v3.2 gv3 hm
theorem gl_Ou_worstStove_16 {a1 : Nat} (p1 : (kd_D a1).1 = 9) {r : Int32} {h1 : ia_H} {k68 : Int32 → ia_H → Option (Int32 × ia_H)} (hk68 : ∀ (x2 : Int32) (h : ia_H), gd_ h → k68 x2 h = some (r, h1) → gd_ h1) : ∀ (n : Nat) (x2 : Int32) (x3 : Int32) (x4 : Int32) (h : ia_H), gd_ h → l_Ou_worstStove_16 a1 k68 n x2 x3 x4 h = some (r, h1) → gd_ h1 := by
  intro n
  induction n with
  | zero =>
    intro x2 x3 x4 h hg hm
    cases (show (none : Option (Int32 × ia_H)) = some _ from hm)
  | succ n ih =>
    intro x2 x3 x4 h hg hm
    rw [l_Ou_worstStove_16] at hm
    by_cases c : (ia_i h (ia_r h a1 0) 11) ≤ x4
    · replace hm := ia_ifp hm c
      exact hk68 x2 h hg hm
    · replace hm := ia_ifn hm c
      obtain ⟨v2, hv2, hm⟩ := ia_bnd hm
      by_cases c : v2 = 0
      · replace hm := ia_ifp hm c
        exact gj_Ou_worstStove_48 p1 ih hk68 x2 x3 x4 0 h hg hm
      · replace hm := ia_ifn hm c
        obtain ⟨v3, hv3, hm⟩ := ia_bnd hm
        have gv3 := g_Ou_heldLongerWithout hg p1 hv3
        exact gj_Ou_worstStove_48 p1 ih hk68 x2 x3 x4 v3.1 v3.2 gv3 hm
def f_Ou_worstStove (a1 : Nat) (h : ia_H) : Option (Int32 × ia_H) := (f_Ou_recordHeld a1 327 h).bind fun v1 => (l_Ou_worstStove_16 a1 (fun x2 h => some (x2, h)) fu_ (-1) 0 0 v1)
theorem g_Ou_worstStove {a1 : Nat} {h : ia_H} (hg : gd_ h) (p1 : (kd_D a1).1 = 9) {q : (Int32 × ia_H)} (hm : f_Ou_worstStove a1 h = some q) : gd_ q.2 := by
  obtain ⟨r, h1⟩ := q
  unfold f_Ou_worstStove at hm
  obtain ⟨v1, hv1, hm⟩ := ia_bnd hm
  have gv1 := g_Ou_recordHeld hg p1 (congrArg Prod.fst (ka_5_3 pk_326)) hv1
  refine gl_Ou_worstStove_16 p1 ?_ fu_ (-1) 0 0 v1 gv1 hm
  · intro x2 h hg hm
    cases hm
    exact hg
theorem t_Ou_worstStove (d : Nat) {a1 : Nat} {h : ia_H} (hg : gd_ h) (p1 : (kd_D a1).1 = 9) {q : (Int32 × ia_H)} (hm : f_Ou_worstStove a1 h = some q) : ia_Ev (d + 6) mm_Ou_worstStove [.inr (.inr 326), .inr (.inr a1)] h (some (.inl q.1)) q.2 := by
  have gq := g_Ou_worstStove hg p1 hm
  refine ia_Ev_intro ok_Ou_worstStove (gd_le hg gq).1 (gd_le hg gq).2 (Nat.le_of_ble_eq_true rfl) (fun K hK hret => ?_)
  obtain ⟨r, h1⟩ := q
  show K 0 [some (.inr (.inr 326)), some (.inr (.inr a1)), none, none, none, none] [] h
  unfold f_Ou_worstStove at hm
  refine ia_go hK ck_Ou_worstStove_0 ⟨gk_5 hg pk_326, gr_5_3 hg pk_326, ?_⟩
  show K 6 [some (.inr (.inr 326)), some (.inr (.inr a1)), none, none, none, none] [.inr (.inr 327), .inr (.inr a1), .inr (.inr 326)] h
  obtain ⟨v1, hv1, hm⟩ := ia_bnd hm
  have ev1 := t_Ou_recordHeld (d + 1) hg p1 (congrArg Prod.fst (ka_5_3 pk_326)) hv1
  have gv1 := g_Ou_recordHeld hg p1 (congrArg Prod.fst (ka_5_3 pk_326)) hv1
  refine ia_cV hK mk_Ou_recordHeld lk_5_90 dc_Ou_worstStove_6 326 [.inr (.inr a1), .inr (.inr 327)] [] rfl rfl (Nat.le_of_ble_eq_true rfl) (by decide) rfl (gk_5 hg pk_326) ev1 (gd_nm hg gv1) ?_
  show K 9 [some (.inr (.inr 326)), some (.inr (.inr a1)), none, none, none, none] [] v1
  refine ia_go hK ck_Ou_worstStove_9 ?_
  show K 16 [some (.inr (.inr 326)), some (.inr (.inr a1)), some (.inl (-1)), some (.inl 0), some (.inl 0), none] [] v1
  refine tl_Ou_worstStove_16 hK p1 hret ?_ fu_ (-1) 0 0 v1 gv1 hm
  · intro x2 h hg hm
    refine ia_go hK ck_Ou_worstStove_68 ?_
    show K 69 [none, none, some (.inl x2), none, none, none] [.inl x2] h
    cases hm
    exact hret 69 _ dc_Ou_worstStove_69
def mm_I_hearth : ia_M := (⟨"IceStreet", "hearth", "(IIII)I"⟩, prog_1_method_25_code, 5, (some .int), 0, false)
theorem ok_I_hearth : ia_mok mm_I_hearth := ⟨by decide +kernel, by decide +kernel, by decide +kernel, by decide +kernel⟩
theorem mk_I_hearth : ia_mkn mm_I_hearth 1 4 := ⟨ia_tb_in (List.mem_of_getElem? (i := 1391) (by decide +kernel)) rfl, ia_tb_in (List.mem_of_getElem? (i := 133) (by decide +kernel)) rfl, by decide +kernel, by decide +kernel, ⟨ia_tb_in (List.mem_of_getElem? (i := 1389) (by decide +kernel)) rfl, ia_tb_in (List.mem_of_getElem? (i := 1390) (by decide +kernel)) rfl⟩⟩
theorem ck_I_hearth_0 : ia_cks 0 5 false prog_1_method_25_code 0 [(.aload_n 0, 0, 0, 0, 0), (.iload_n 1, 0, 0, 0, 0), (.iload_n 2, 0, 0, 0, 0), (.iload_n 3, 0, 0, 0, 0), (.iload 4, 0, 0, 0, 0)] = true := by decide +kernel
theorem ck_I_hearth_9 : ia_cks 0 5 false prog_1_method_25_code 9 [(.ifCond .ne 5, 0, 0, 0, 0)] = true := by decide +kernel
theorem ck_I_hearth_14 : ia_cks 0 5 false prog_1_method_25_code 14 [(.aload_n 0, 0, 0, 0, 0), (.getfield 69, 0, 7, 3, 262), (.aload_n 0, 0, 0, 0, 0), (.getfield 44, 0, 4, 3, 239)] = true := by decide +kernel
theorem ck_I_hearth_12 : ia_cks 0 5 false prog_1_method_25_code 12 [(.iconst (-1), 0, 0, 0, 0)] = true := by decide +kernel
theorem dc_I_hearth_6 : decode prog_1_method_25_code 6 = .ok (.invokevirtual 266, 3) := by decide +kernel
theorem dc_I_hearth_22 : decode prog_1_method_25_code 22 = .ok (.invokevirtual 373, 3) := by decide +kernel
theorem dc_I_hearth_25 : decode prog_1_method_25_code 25 = .ok (.ireturn, 1) := by decide +kernel
theorem dc_I_hearth_13 : decode prog_1_method_25_code 13 = .ok (.ireturn, 1) := by decide +kernel
def f_I_hearth (x1 : Int32) (x2 : Int32) (x3 : Int32) (x4 : Int32) (h : ia_H) : Option (Int32 × ia_H) := (f_I_stage x1 x2 x3 x4 h).bind fun v1 => (if v1.1 = 0 then (some ((-1), v1.2)) else ((f_Ou_worstStove 303 v1.2).bind fun v2 => (some (v2.1, v2.2))))
theorem g_I_hearth {x1 : Int32} {x2 : Int32} {x3 : Int32} {x4 : Int32} {h : ia_H} (hg : gd_ h) {q : (Int32 × ia_H)} (hm : f_I_hearth x1 x2 x3 x4 h = some q) : gd_ q.2 := by
  obtain ⟨r, h1⟩ := q
  unfold f_I_hearth at hm
  obtain ⟨v1, hv1, hm⟩ := ia_bnd hm
  have gv1 := g_I_stage hg hv1
  by_cases c : v1.1 = 0
  · replace hm := ia_ifp hm c
    cases hm
    exact gv1
  · replace hm := ia_ifn hm c
    obtain ⟨v2, hv2, hm⟩ := ia_bnd hm
    have gv2 := g_Ou_worstStove gv1 (ka_0_4 pk_64) hv2
    cases hm
    exact gv2
theorem t_I_hearth (d : Nat) {x1 : Int32} {x2 : Int32} {x3 : Int32} {x4 : Int32} {h : ia_H} (hg : gd_ h) {q : (Int32 × ia_H)} (hm : f_I_hearth x1 x2 x3 x4 h = some q) : ia_Ev (d + 7) mm_I_hearth [.inr (.inr 64), .inl x1, .inl x2, .inl x3, .inl x4] h (some (.inl q.1)) q.2 := by
  have gq := g_I_hearth hg hm
  refine ia_Ev_intro ok_I_hearth (gd_le hg gq).1 (gd_le hg gq).2 (Nat.le_of_ble_eq_true rfl) (fun K hK hret => ?_)
  obtain ⟨r, h1⟩ := q
  show K 0 [some (.inr (.inr 64)), some (.inl x1), some (.inl x2), some (.inl x3), some (.inl x4)] [] h
  unfold f_I_hearth at hm
  refine ia_go hK ck_I_hearth_0 ?_
  show K 6 [some (.inr (.inr 64)), some (.inl x1), some (.inl x2), some (.inl x3), some (.inl x4)] [.inl x4, .inl x3, .inl x2, .inl x1, .inr (.inr 64)] h
  obtain ⟨v1, hv1, hm⟩ := ia_bnd hm
  have ev1 := t_I_stage (d + 0) hg hv1
  have gv1 := g_I_stage hg hv1
  refine ia_cV hK mk_I_stage lk_0_266 dc_I_hearth_6 64 [.inl x1, .inl x2, .inl x3, .inl x4] [] rfl rfl (Nat.le_of_ble_eq_true rfl) (by decide) rfl (gk_0 hg pk_64) ev1 (gd_nm hg gv1) ?_
  show K 9 [some (.inr (.inr 64)), some (.inl x1), some (.inl x2), some (.inl x3), some (.inl x4)] [.inl v1.1] v1.2
  refine ia_go hK ck_I_hearth_9 ⟨fun c => ?_, fun c => ?_⟩
  · replace hm := ia_ifn hm c
    show K 14 [some (.inr (.inr 64)), some (.inl x1), some (.inl x2), some (.inl x3), some (.inl x4)] [] v1.2
    refine ia_go hK ck_I_hearth_14 ⟨gk_0 gv1 pk_64, gr_0_7 gv1 pk_64, gk_0 gv1 pk_64, gr_0_4 gv1 pk_64, ?_⟩
    show K 22 [some (.inr (.inr 64)), some (.inl x1), some (.inl x2), some (.inl x3), some (.inl x4)] [.inr (.inr 303), .inr (.inr 326)] v1.2
    obtain ⟨v2, hv2, hm⟩ := ia_bnd hm
    have ev2 := t_Ou_worstStove (d + 0) gv1 (ka_0_4 pk_64) hv2
    have gv2 := g_Ou_worstStove gv1 (ka_0_4 pk_64) hv2
    refine ia_cV hK mk_Ou_worstStove lk_0_373 dc_I_hearth_22 326 [.inr (.inr 303)] [] rfl rfl (Nat.le_of_ble_eq_true rfl) (by decide) rfl (gk_5 gv1 (ka_0_7 pk_64)) ev2 (gd_nm gv1 gv2) ?_
    show K 25 [some (.inr (.inr 64)), some (.inl x1), some (.inl x2), some (.inl x3), some (.inl x4)] [.inl v2.1] v2.2
    cases hm
    exact hret 25 _ dc_I_hearth_25
  · replace hm := ia_ifp hm c
    show K 12 [some (.inr (.inr 64)), some (.inl x1), some (.inl x2), some (.inl x3), some (.inl x4)] [] v1.2
    refine ia_go hK ck_I_hearth_12 ?_
    show K 13 [some (.inr (.inr 64)), some (.inl x1), some (.inl x2), some (.inl x3), some (.inl x4)] [.inl (-1)] v1.2
    cases hm
    exact hret 13 _ dc_I_hearth_13
def mm_Wa_pathCells : ia_M := (⟨"IceStreet$Ways", "pathCells", "()J"⟩, prog_12_method_21_code, 4, (some .long), 11, false)
theorem ok_Wa_pathCells : ia_mok mm_Wa_pathCells := ⟨by decide +kernel, by decide +kernel, by decide +kernel, by decide +kernel⟩
theorem mk_Wa_pathCells : ia_mkn mm_Wa_pathCells 1 0 := ⟨ia_tb_in (List.mem_of_getElem? (i := 1422) (by decide +kernel)) rfl, ia_tb_in (List.mem_of_getElem? (i := 141) (by decide +kernel)) rfl, by decide +kernel, by decide +kernel, ⟨ia_tb_in (List.mem_of_getElem? (i := 1421) (by decide +kernel)) rfl, ia_tb_in (List.mem_of_getElem? (i := 45) (by decide +kernel)) rfl⟩⟩
theorem ck_Wa_pathCells_0 : ia_cks 11 4 false prog_12_method_21_code 0 [(.lconst 0, 0, 0, 0, 0), (.lstore_n 1, 0, 0, 0, 0), (.iconst 0, 0, 0, 0, 0), (.istore_n 3, 0, 0, 0, 0)] = true := by decide +kernel
theorem ck_Wa_pathCells_4 : ia_cks 11 4 false prog_12_method_21_code 4 [(.iload_n 3, 0, 0, 0, 0), (.aload_n 0, 0, 0, 0, 0), (.getfield 87, 11, 0, 0, 0), (.if_icmp .ge 21, 0, 0, 0, 0)] = true := by decide +kernel
theorem ck_Wa_pathCells_12 : ia_cks 11 4 false prog_12_method_21_code 12 [(.lload_n 1, 0, 0, 0, 0), (.aload_n 0, 0, 0, 0, 0), (.getfield 9, 11, 3, 3, 1), (.iload_n 3, 0, 0, 0, 0), (.iaload, 0, 0, 0, 0)] = true := by decide +kernel
theorem ck_Wa_pathCells_22 : ia_cks 11 4 false prog_12_method_21_code 22 [(.lor, 0, 0, 0, 0), (.lstore_n 1, 0, 0, 0, 0), (.iinc 3 1, 0, 0, 0, 0), (.goto (-23), 0, 0, 0, 0)] = true := by decide +kernel
theorem ck_Wa_pathCells_30 : ia_cks 11 4 false prog_12_method_21_code 30 [(.lload_n 1, 0, 0, 0, 0)] = true := by decide +kernel
theorem dc_Wa_pathCells_19 : decode prog_12_method_21_code 19 = .ok (.invokestatic 142, 3) := by decide +kernel
theorem dc_Wa_pathCells_31 : decode prog_12_method_21_code 31 = .ok (.lreturn, 1) := by decide +kernel
def l_Wa_pathCells_4 (h : ia_H) (k30 : Int64 → Option Int64) (n : Nat) (y1 : Int64) (x3 : Int32) : Option Int64 := match n with
  | 0 => none
  | n + 1 => if (ia_i h 311 0) ≤ x3 then (k30 y1) else (ia_gd (ia_ib x3 36) ((f_I_bit (ia_i h 312 ((x3).toNatClampNeg)) h).bind fun v2 => (l_Wa_pathCells_4 h k30 n (y1 ||| v2) (x3 + 1))))
theorem tl_Wa_pathCells_4 {d N1 W1 : Nat} {K : ia_K} (hK : ia_isK (d + 1) mm_Wa_pathCells N1 W1 K) {h : ia_H} (hg : gd_ h) {r : Int64} (hret : ∀ (pc : Nat) (lv : ia_L), ia_ret mm_Wa_pathCells pc (some (.inr (.inl r))) → K pc lv ((some (.inr (.inl r))) : Option ia_V).toList h) {k30 : Int64 → Option Int64} (hk30 : ∀ (y1 : Int64), k30 y1 = some r → K 30 [none, some (.inr (.inl y1)), none, none] [] h) : ∀ (n : Nat) (y1 : Int64) (x3 : Int32), l_Wa_pathCells_4 h k30 n y1 x3 = some r → K 4 [some (.inr (.inr 311)), some (.inr (.inl y1)), none, some (.inl x3)] [] h := by
  intro n
  induction n with
  | zero =>
    intro y1 x3 hm
    cases (show (none : Option Int64) = some _ from hm)
  | succ n ih =>
    intro y1 x3 hm
    rw [l_Wa_pathCells_4] at hm
    refine ia_go hK ck_Wa_pathCells_4 ⟨gk_11 hg pk_311, fun c => ?_, fun c => ?_⟩
    · replace hm := ia_ifp hm c
      show K 30 [some (.inr (.inr 311)), some (.inr (.inl y1)), none, some (.inl x3)] [] h
      refine ia_fg hK (lv' := [none, some (.inr (.inl y1)), none, none]) ⟨rfl, trivial⟩ ?_
      exact hk30 y1 hm
    · replace hm := ia_ifn hm c
      show K 12 [some (.inr (.inr 311)), some (.inr (.inl y1)), none, some (.inl x3)] [] h
      obtain ⟨c1, hm⟩ := ia_gd_some hm
      refine ia_go hK ck_Wa_pathCells_12 ⟨gk_11 hg pk_311, gr_11_3 hg pk_311, ga_i100 hg (ka_11_3 pk_311) c1, ?_⟩
      show K 19 [some (.inr (.inr 311)), some (.inr (.inl y1)), none, some (.inl x3)] [.inl (ia_i h 312 ((x3).toNatClampNeg)), .inr (.inl y1)] h
      obtain ⟨v2, hv2, hm⟩ := ia_bnd hm
      have ev2 := t_I_bit (d + 0) hg hv2
      refine ia_cS hK mk_I_bit lk_11_142 dc_Wa_pathCells_19 [.inl (ia_i h 312 ((x3).toNatClampNeg))] [.inr (.inl y1)] rfl rfl (Nat.le_of_ble_eq_true rfl) ev2 ⟨rfl, rfl⟩ ?_
      show K 22 [some (.inr (.inr 311)), some (.inr (.inl y1)), none, some (.inl x3)] [.inr (.inl v2), .inr (.inl y1)] h
      refine ia_go hK ck_Wa_pathCells_22 ?_
      show K 4 [some (.inr (.inr 311)), some (.inr (.inl (y1 ||| v2))), none, some (.inl (x3 + 1))] [] h
      exact ih (y1 ||| v2) (x3 + 1) hm
def f_Wa_pathCells (h : ia_H) : Option Int64 := l_Wa_pathCells_4 h (fun y1 => some y1) fu_ 0 0
theorem t_Wa_pathCells (d : Nat) {h : ia_H} (hg : gd_ h) {r : Int64} (hm : f_Wa_pathCells h = some r) : ia_Ev (d + 1) mm_Wa_pathCells [.inr (.inr 311)] h (some (.inr (.inl r))) h := by
  refine ia_Ev_intro ok_Wa_pathCells (Nat.le_refl _) (Nat.le_refl _) (Nat.le_of_ble_eq_true rfl) (fun K hK hret => ?_)
  show K 0 [some (.inr (.inr 311)), none, none, none] [] h
  unfold f_Wa_pathCells at hm
  refine ia_go hK ck_Wa_pathCells_0 ?_
  show K 4 [some (.inr (.inr 311)), some (.inr (.inl 0)), none, some (.inl 0)] [] h
  refine tl_Wa_pathCells_4 hK hg hret ?_ fu_ 0 0 hm
  · intro y1 hm
    refine ia_go hK ck_Wa_pathCells_30 ?_
    show K 31 [none, some (.inr (.inl y1)), none, none] [.inr (.inl y1)] h
    cases hm
    exact hret 31 _ dc_Wa_pathCells_31
def mm_Wa_shortCells : ia_M := (⟨"IceStreet$Ways", "shortCells", "(LIceStreet$Scene;III)J"⟩, prog_12_method_20_code, 5, (some .long), 11, false)
theorem ok_Wa_shortCells : ia_mok mm_Wa_shortCells := ⟨by decide +kernel, by decide +kernel, by decide +kernel, by decide +kernel⟩
theorem mk_Wa_shortCells : ia_mkn mm_Wa_shortCells 1 4 := ⟨ia_tb_in (List.mem_of_getElem? (i := 1418) (by decide +kernel)) rfl, ia_tb_in (List.mem_of_getElem? (i := 141) (by decide +kernel)) rfl, by decide +kernel, by decide +kernel, ⟨ia_tb_in (List.mem_of_getElem? (i := 1416) (by decide +kernel)) rfl, ia_tb_in (List.mem_of_getElem? (i := 1417) (by decide +kernel)) rfl⟩⟩
theorem ck_Wa_shortCells_0 : ia_cks 11 5 false prog_12_method_20_code 0 [(.aload_n 0, 0, 0, 0, 0), (.aload_n 1, 0, 0, 0, 0), (.iconst 0, 0, 0, 0, 0)] = true := by decide +kernel
theorem ck_Wa_shortCells_6 : ia_cks 11 5 false prog_12_method_20_code 6 [(.aload_n 0, 0, 0, 0, 0), (.iload_n 2, 0, 0, 0, 0), (.iload_n 3, 0, 0, 0, 0), (.iload 4, 0, 0, 0, 0)] = true := by decide +kernel
theorem ck_Wa_shortCells_14 : ia_cks 11 5 false prog_12_method_20_code 14 [(.ifCond .eq 10, 0, 0, 0, 0)] = true := by decide +kernel
theorem ck_Wa_shortCells_17 : ia_cks 11 5 false prog_12_method_20_code 17 [(.aload_n 0, 0, 0, 0, 0)] = true := by decide +kernel
theorem ck_Wa_shortCells_21 : ia_cks 11 5 false prog_12_method_20_code 21 [(.goto 6, 0, 0, 0, 0)] = true := by decide +kernel
theorem dc_Wa_shortCells_3 : decode prog_12_method_20_code 3 = .ok (.invokevirtual 162, 3) := by decide +kernel
theorem dc_Wa_shortCells_11 : decode prog_12_method_20_code 11 = .ok (.invokevirtual 73, 3) := by decide +kernel
theorem dc_Wa_shortCells_24 : decode prog_12_method_20_code 24 = .ok (.ldc2_w 150, 3) := by decide +kernel
theorem dc_Wa_shortCells_27 : decode prog_12_method_20_code 27 = .ok (.lreturn, 1) := by decide +kernel
theorem dc_Wa_shortCells_18 : decode prog_12_method_20_code 18 = .ok (.invokevirtual 187, 3) := by decide +kernel
def f_Wa_shortCells (a1 : Nat) (x2 : Int32) (x3 : Int32) (x4 : Int32) (h : ia_H) : Option (Int64 × ia_H) := (f_Wa_survey a1 0 h).bind fun v1 => ((f_Wa_findShort x2 x3 x4 v1).bind fun v2 => (if v2.1 = 0 then (some ((-1), v2.2)) else ((f_Wa_pathCells v2.2).bind fun v3 => (some (v3, v2.2)))))
theorem g_Wa_shortCells {a1 : Nat} {x2 : Int32} {x3 : Int32} {x4 : Int32} {h : ia_H} (hg : gd_ h) (p1 : (kd_D a1).1 = 9) {q : (Int64 × ia_H)} (hm : f_Wa_shortCells a1 x2 x3 x4 h = some q) : gd_ q.2 := by
  obtain ⟨r, h1⟩ := q
  unfold f_Wa_shortCells at hm
  obtain ⟨v1, hv1, hm⟩ := ia_bnd hm
  have gv1 := g_Wa_survey hg p1 hv1
  obtain ⟨v2, hv2, hm⟩ := ia_bnd hm
  have gv2 := g_Wa_findShort gv1 hv2
  by_cases c : v2.1 = 0
  · replace hm := ia_ifp hm c
    cases hm
    exact gv2
  · replace hm := ia_ifn hm c
    obtain ⟨v3, hv3, hm⟩ := ia_bnd hm
    cases hm
    exact gv2
theorem t_Wa_shortCells (d : Nat) {a1 : Nat} {x2 : Int32} {x3 : Int32} {x4 : Int32} {h : ia_H} (hg : gd_ h) (p1 : (kd_D a1).1 = 9) {q : (Int64 × ia_H)} (hm : f_Wa_shortCells a1 x2 x3 x4 h = some q) : ia_Ev (d + 3) mm_Wa_shortCells [.inr (.inr 311), .inr (.inr a1), .inl x2, .inl x3, .inl x4] h (some (.inr (.inl q.1))) q.2 := by
  have gq := g_Wa_shortCells hg p1 hm
  refine ia_Ev_intro ok_Wa_shortCells (gd_le hg gq).1 (gd_le hg gq).2 (Nat.le_of_ble_eq_true rfl) (fun K hK hret => ?_)
  obtain ⟨r, h1⟩ := q
  show K 0 [some (.inr (.inr 311)), some (.inr (.inr a1)), some (.inl x2), some (.inl x3), some (.inl x4)] [] h
  unfold f_Wa_shortCells at hm
  refine ia_go hK ck_Wa_shortCells_0 ?_
  show K 3 [some (.inr (.inr 311)), some (.inr (.inr a1)), some (.inl x2), some (.inl x3), some (.inl x4)] [.inl 0, .inr (.inr a1), .inr (.inr 311)] h
  obtain ⟨v1, hv1, hm⟩ := ia_bnd hm
  have ev1 := t_Wa_survey (d + 1) hg p1 hv1
  have gv1 := g_Wa_survey hg p1 hv1
  refine ia_cV hK mk_Wa_survey lk_11_162 dc_Wa_shortCells_3 311 [.inr (.inr a1), .inl 0] [] rfl rfl (Nat.le_of_ble_eq_true rfl) (by decide) rfl (gk_11 hg pk_311) ev1 (gd_nm hg gv1) ?_
  show K 6 [some (.inr (.inr 311)), some (.inr (.inr a1)), some (.inl x2), some (.inl x3), some (.inl x4)] [] v1
  refine ia_go hK ck_Wa_shortCells_6 ?_
  show K 11 [some (.inr (.inr 311)), some (.inr (.inr a1)), some (.inl x2), some (.inl x3), some (.inl x4)] [.inl x4, .inl x3, .inl x2, .inr (.inr 311)] v1
  obtain ⟨v2, hv2, hm⟩ := ia_bnd hm
  have ev2 := t_Wa_findShort (d + 0) gv1 hv2
  have gv2 := g_Wa_findShort gv1 hv2
  refine ia_cV hK mk_Wa_findShort lk_11_73 dc_Wa_shortCells_11 311 [.inl x2, .inl x3, .inl x4] [] rfl rfl (Nat.le_of_ble_eq_true rfl) (by decide) rfl (gk_11 gv1 pk_311) ev2 (gd_nm gv1 gv2) ?_
  show K 14 [some (.inr (.inr 311)), some (.inr (.inr a1)), some (.inl x2), some (.inl x3), some (.inl x4)] [.inl v2.1] v2.2
  refine ia_go hK ck_Wa_shortCells_14 ⟨fun c => ?_, fun c => ?_⟩
  · replace hm := ia_ifp hm c
    show K 24 [some (.inr (.inr 311)), some (.inr (.inr a1)), some (.inl x2), some (.inl x3), some (.inl x4)] [] v2.2
    refine ia_ldc2 hK (v := (-1)) (ia_tb_in (List.mem_of_getElem? (i := 1132) (by decide +kernel)) rfl) dc_Wa_shortCells_24 ?_
    show K 27 [some (.inr (.inr 311)), some (.inr (.inr a1)), some (.inl x2), some (.inl x3), some (.inl x4)] [.inr (.inl (-1))] v2.2
    cases hm
    exact hret 27 _ dc_Wa_shortCells_27
  · replace hm := ia_ifn hm c
    show K 17 [some (.inr (.inr 311)), some (.inr (.inr a1)), some (.inl x2), some (.inl x3), some (.inl x4)] [] v2.2
    refine ia_go hK ck_Wa_shortCells_17 ?_
    show K 18 [some (.inr (.inr 311)), some (.inr (.inr a1)), some (.inl x2), some (.inl x3), some (.inl x4)] [.inr (.inr 311)] v2.2
    obtain ⟨v3, hv3, hm⟩ := ia_bnd hm
    have ev3 := t_Wa_pathCells (d + 1) gv2 hv3
    refine ia_cV hK mk_Wa_pathCells lk_11_187 dc_Wa_shortCells_18 311 [] [] rfl rfl (Nat.le_of_ble_eq_true rfl) (by decide) rfl (gk_11 gv2 pk_311) ev3 ⟨rfl, rfl⟩ ?_
    show K 21 [some (.inr (.inr 311)), some (.inr (.inr a1)), some (.inl x2), some (.inl x3), some (.inl x4)] [.inr (.inl v3)] v2.2
    refine ia_go hK ck_Wa_shortCells_21 ?_
    show K 27 [some (.inr (.inr 311)), some (.inr (.inr a1)), some (.inl x2), some (.inl x3), some (.inl x4)] [.inr (.inl v3)] v2.2
    cases hm
    exact hret 27 _ dc_Wa_shortCells_27
def mm_I_branches : ia_M := (⟨"IceStreet", "branches", "(IIIIIIII)J"⟩, prog_1_method_26_code, 10, (some .long), 0, false)
theorem ok_I_branches : ia_mok mm_I_branches := ⟨by decide +kernel, by decide +kernel, by decide +kernel, by decide +kernel⟩
theorem mk_I_branches : ia_mkn mm_I_branches 1 8 := ⟨ia_tb_in (List.mem_of_getElem? (i := 1412) (by decide +kernel)) rfl, ia_tb_in (List.mem_of_getElem? (i := 133) (by decide +kernel)) rfl, by decide +kernel, by decide +kernel, ⟨ia_tb_in (List.mem_of_getElem? (i := 1410) (by decide +kernel)) rfl, ia_tb_in (List.mem_of_getElem? (i := 1411) (by decide +kernel)) rfl⟩⟩
theorem ck_I_branches_0 : ia_cks 0 10 false prog_1_method_26_code 0 [(.iload 8, 0, 0, 0, 0), (.ifCond .lt 35, 0, 0, 0, 0)] = true := by decide +kernel
theorem ck_I_branches_5 : ia_cks 0 10 false prog_1_method_26_code 5 [(.iload 8, 0, 0, 0, 0), (.bipush 30, 0, 0, 0, 0), (.if_icmp .gt 28, 0, 0, 0, 0)] = true := by decide +kernel
theorem ck_I_branches_12 : ia_cks 0 10 false prog_1_method_26_code 12 [(.aload_n 0, 0, 0, 0, 0), (.iload_n 1, 0, 0, 0, 0), (.iload_n 2, 0, 0, 0, 0), (.iload_n 3, 0, 0, 0, 0), (.iload 4, 0, 0, 0, 0)] = true := by decide +kernel
theorem ck_I_branches_21 : ia_cks 0 10 false prog_1_method_26_code 21 [(.ifCond .eq 16, 0, 0, 0, 0)] = true := by decide +kernel
theorem ck_I_branches_24 : ia_cks 0 10 false prog_1_method_26_code 24 [(.aload_n 0, 0, 0, 0, 0), (.iload 5, 0, 0, 0, 0), (.iload 6, 0, 0, 0, 0), (.iload 7, 0, 0, 0, 0)] = true := by decide +kernel
theorem ck_I_branches_34 : ia_cks 0 10 false prog_1_method_26_code 34 [(.ifCond .ne 7, 0, 0, 0, 0)] = true := by decide +kernel
theorem ck_I_branches_41 : ia_cks 0 10 false prog_1_method_26_code 41 [(.iconst 0, 0, 0, 0, 0), (.istore 9, 0, 0, 0, 0)] = true := by decide +kernel
theorem ck_I_branches_44 : ia_cks 0 10 false prog_1_method_26_code 44 [(.iload 9, 0, 0, 0, 0), (.iload 8, 0, 0, 0, 0), (.if_icmp .ge 23, 0, 0, 0, 0)] = true := by decide +kernel
theorem ck_I_branches_51 : ia_cks 0 10 false prog_1_method_26_code 51 [(.aload_n 0, 0, 0, 0, 0), (.getfield 44, 0, 4, 3, 239), (.aload_n 0, 0, 0, 0, 0), (.getfield 44, 0, 4, 3, 239)] = true := by decide +kernel
theorem ck_I_branches_65 : ia_cks 0 10 false prog_1_method_26_code 65 [(.iinc 9 1, 0, 0, 0, 0), (.goto (-24), 0, 0, 0, 0)] = true := by decide +kernel
theorem ck_I_branches_71 : ia_cks 0 10 false prog_1_method_26_code 71 [(.aload_n 0, 0, 0, 0, 0), (.getfield 51, 0, 5, 3, 247), (.aload_n 0, 0, 0, 0, 0), (.getfield 44, 0, 4, 3, 239), (.iload 5, 0, 0, 0, 0), (.iload 6, 0, 0, 0, 0), (.iload 7, 0, 0, 0, 0)] = true := by decide +kernel
theorem dc_I_branches_37 : decode prog_1_method_26_code 37 = .ok (.ldc2_w 319, 3) := by decide +kernel
theorem dc_I_branches_40 : decode prog_1_method_26_code 40 = .ok (.lreturn, 1) := by decide +kernel
theorem dc_I_branches_18 : decode prog_1_method_26_code 18 = .ok (.invokevirtual 266, 3) := by decide +kernel
theorem dc_I_branches_31 : decode prog_1_method_26_code 31 = .ok (.invokevirtual 299, 3) := by decide +kernel
theorem dc_I_branches_59 : decode prog_1_method_26_code 59 = .ok (.invokevirtual 377, 3) := by decide +kernel
theorem dc_I_branches_62 : decode prog_1_method_26_code 62 = .ok (.invokevirtual 380, 3) := by decide +kernel
theorem dc_I_branches_85 : decode prog_1_method_26_code 85 = .ok (.invokevirtual 383, 3) := by decide +kernel
theorem dc_I_branches_88 : decode prog_1_method_26_code 88 = .ok (.lreturn, 1) := by decide +kernel
def l_I_branches_44 (x1 : Int32) (x2 : Int32) (x3 : Int32) (x4 : Int32) (x5 : Int32) (x6 : Int32) (x7 : Int32) (x8 : Int32) (k71 : ia_H → Option (Int64 × ia_H)) (n : Nat) (x9 : Int32) (h : ia_H) : Option (Int64 × ia_H) := match n with
  | 0 => none
  | n + 1 => if x8 ≤ x9 then (k71 h) else ((f_Sc_frost 303 h).bind fun v3 => ((f_Sc_passDay 303 v3 h).bind fun v4 => (l_I_branches_44 x1 x2 x3 x4 x5 x6 x7 x8 k71 n (x9 + 1) v4)))
theorem tl_I_branches_44 {d N1 W1 : Nat} {K : ia_K} (hK : ia_isK (d + 7) mm_I_branches N1 W1 K) {x1 : Int32} {x2 : Int32} {x3 : Int32} {x4 : Int32} {x5 : Int32} {x6 : Int32} {x7 : Int32} {x8 : Int32} {r : Int64} {h1 : ia_H} (hret : ∀ (pc : Nat) (lv : ia_L), ia_ret mm_I_branches pc (some (.inr (.inl r))) → K pc lv ((some (.inr (.inl r))) : Option ia_V).toList h1) {k71 : ia_H → Option (Int64 × ia_H)} (hk71 : ∀ (h : ia_H), gd_ h → k71 h = some (r, h1) → K 71 [some (.inr (.inr 64)), none, none, none, none, some (.inl x5), some (.inl x6), some (.inl x7), none, none] [] h) : ∀ (n : Nat) (x9 : Int32) (h : ia_H), gd_ h → l_I_branches_44 x1 x2 x3 x4 x5 x6 x7 x8 k71 n x9 h = some (r, h1) → K 44 [some (.inr (.inr 64)), none, none, none, none, some (.inl x5), some (.inl x6), some (.inl x7), some (.inl x8), some (.inl x9)] [] h := by
  intro n
  induction n with
  | zero =>
    intro x9 h hg hm
    cases (show (none : Option (Int64 × ia_H)) = some _ from hm)
  | succ n ih =>
    intro x9 h hg hm
    rw [l_I_branches_44] at hm
    refine ia_go hK ck_I_branches_44 ⟨fun c => ?_, fun c => ?_⟩
    · replace hm := ia_ifp hm c
      show K 71 [some (.inr (.inr 64)), none, none, none, none, some (.inl x5), some (.inl x6), some (.inl x7), some (.inl x8), some (.inl x9)] [] h
      refine ia_fg hK (lv' := [some (.inr (.inr 64)), none, none, none, none, some (.inl x5), some (.inl x6), some (.inl x7), none, none]) ⟨rfl, rfl, rfl, rfl, trivial⟩ ?_
      exact hk71 h hg hm
    · replace hm := ia_ifn hm c
      show K 51 [some (.inr (.inr 64)), none, none, none, none, some (.inl x5), some (.inl x6), some (.inl x7), some (.inl x8), some (.inl x9)] [] h
      refine ia_go hK ck_I_branches_51 ⟨gk_0 hg pk_64, gr_0_4 hg pk_64, gk_0 hg pk_64, gr_0_4 hg pk_64, ?_⟩
      show K 59 [some (.inr (.inr 64)), none, none, none, none, some (.inl x5), some (.inl x6), some (.inl x7), some (.inl x8), some (.inl x9)] [.inr (.inr 303), .inr (.inr 303)] h
      obtain ⟨v3, hv3, hm⟩ := ia_bnd hm
      have ev3 := t_Sc_frost (d + 6) hg (ka_0_4 pk_64) hv3
      refine ia_cV hK mk_Sc_frost lk_0_377 dc_I_branches_59 303 [] [.inr (.inr 303)] rfl rfl (Nat.le_of_ble_eq_true rfl) (by decide) rfl (gk_9 hg (ka_0_4 pk_64)) ev3 ⟨rfl, rfl⟩ ?_
      show K 62 [some (.inr (.inr 64)), none, none, none, none, some (.inl x5), some (.inl x6), some (.inl x7), some (.inl x8), some (.inl x9)] [.inl v3, .inr (.inr 303)] h
      obtain ⟨v4, hv4, hm⟩ := ia_bnd hm
      have ev4 := t_Sc_passDay (d + 3) hg (ka_0_4 pk_64) hv4
      have gv4 := g_Sc_passDay hg (ka_0_4 pk_64) hv4
      refine ia_cV hK mk_Sc_passDay lk_0_380 dc_I_branches_62 303 [.inl v3] [] rfl rfl (Nat.le_of_ble_eq_true rfl) (by decide) rfl (gk_9 hg (ka_0_4 pk_64)) ev4 (gd_nm hg gv4) ?_
      show K 65 [some (.inr (.inr 64)), none, none, none, none, some (.inl x5), some (.inl x6), some (.inl x7), some (.inl x8), some (.inl x9)] [] v4
      refine ia_go hK ck_I_branches_65 ?_
      show K 44 [some (.inr (.inr 64)), none, none, none, none, some (.inl x5), some (.inl x6), some (.inl x7), some (.inl x8), some (.inl (x9 + 1))] [] v4
      exact ih (x9 + 1) v4 gv4 hm
theorem gl_I_branches_44 {x1 : Int32} {x2 : Int32} {x3 : Int32} {x4 : Int32} {x5 : Int32} {x6 : Int32} {x7 : Int32} {x8 : Int32} {r : Int64} {h1 : ia_H} {k71 : ia_H → Option (Int64 × ia_H)} (hk71 : ∀ (h : ia_H), gd_ h → k71 h = some (r, h1) → gd_ h1) : ∀ (n : Nat) (x9 : Int32) (h : ia_H), gd_ h → l_I_branches_44 x1 x2 x3 x4 x5 x6 x7 x8 k71 n x9 h = some (r, h1) → gd_ h1 := by
  intro n
  induction n with
  | zero =>
    intro x9 h hg hm
    cases (show (none : Option (Int64 × ia_H)) = some _ from hm)
  | succ n ih =>
    intro x9 h hg hm
    rw [l_I_branches_44] at hm
    by_cases c : x8 ≤ x9
    · replace hm := ia_ifp hm c
      exact hk71 h hg hm
    · replace hm := ia_ifn hm c
      obtain ⟨v3, hv3, hm⟩ := ia_bnd hm
      obtain ⟨v4, hv4, hm⟩ := ia_bnd hm
      have gv4 := g_Sc_passDay hg (ka_0_4 pk_64) hv4
      exact ih (x9 + 1) v4 gv4 hm
def f_I_branches (x1 : Int32) (x2 : Int32) (x3 : Int32) (x4 : Int32) (x5 : Int32) (x6 : Int32) (x7 : Int32) (x8 : Int32) (h : ia_H) : Option (Int64 × ia_H) := if x8 < 0 then (some ((-1), h)) else (if 30 < x8 then (some ((-1), h)) else ((f_I_stage x1 x2 x3 x4 h).bind fun v1 => (if v1.1 = 0 then (some ((-1), v1.2)) else ((f_I_isTrip x5 x6 x7 v1.2).bind fun v2 => (if v2 = 0 then (some ((-1), v1.2)) else (l_I_branches_44 x1 x2 x3 x4 x5 x6 x7 x8 (fun h => (f_Wa_shortCells 303 x5 x6 x7 h).bind fun v5 => (some (v5.1, v5.2))) fu_ 0 v1.2))))))
theorem g_I_branches {x1 : Int32} {x2 : Int32} {x3 : Int32} {x4 : Int32} {x5 : Int32} {x6 : Int32} {x7 : Int32} {x8 : Int32} {h : ia_H} (hg : gd_ h) {q : (Int64 × ia_H)} (hm : f_I_branches x1 x2 x3 x4 x5 x6 x7 x8 h = some q) : gd_ q.2 := by
  obtain ⟨r, h1⟩ := q
  unfold f_I_branches at hm
  by_cases c : x8 < 0
  · replace hm := ia_ifp hm c
    cases hm
    exact hg
  · replace hm := ia_ifn hm c
    by_cases c : 30 < x8
    · replace hm := ia_ifp hm c
      cases hm
      exact hg
    · replace hm := ia_ifn hm c
      obtain ⟨v1, hv1, hm⟩ := ia_bnd hm
      have gv1 := g_I_stage hg hv1
      by_cases c : v1.1 = 0
      · replace hm := ia_ifp hm c
        cases hm
        exact gv1
      · replace hm := ia_ifn hm c
        obtain ⟨v2, hv2, hm⟩ := ia_bnd hm
        by_cases c : v2 = 0
        · replace hm := ia_ifp hm c
          cases hm
          exact gv1
        · replace hm := ia_ifn hm c
          refine gl_I_branches_44 ?_ fu_ 0 v1.2 gv1 hm
          · intro h hg hm
            obtain ⟨v5, hv5, hm⟩ := ia_bnd hm
            have gv5 := g_Wa_shortCells hg (ka_0_4 pk_64) hv5
            cases hm
            exact gv5
theorem t_I_branches (d : Nat) {x1 : Int32} {x2 : Int32} {x3 : Int32} {x4 : Int32} {x5 : Int32} {x6 : Int32} {x7 : Int32} {x8 : Int32} {h : ia_H} (hg : gd_ h) {q : (Int64 × ia_H)} (hm : f_I_branches x1 x2 x3 x4 x5 x6 x7 x8 h = some q) : ia_Ev (d + 7) mm_I_branches [.inr (.inr 64), .inl x1, .inl x2, .inl x3, .inl x4, .inl x5, .inl x6, .inl x7, .inl x8] h (some (.inr (.inl q.1))) q.2 := by
  have gq := g_I_branches hg hm
  refine ia_Ev_intro ok_I_branches (gd_le hg gq).1 (gd_le hg gq).2 (Nat.le_of_ble_eq_true rfl) (fun K hK hret => ?_)
  obtain ⟨r, h1⟩ := q
  show K 0 [some (.inr (.inr 64)), some (.inl x1), some (.inl x2), some (.inl x3), some (.inl x4), some (.inl x5), some (.inl x6), some (.inl x7), some (.inl x8), none] [] h
  unfold f_I_branches at hm
  refine ia_go hK ck_I_branches_0 ⟨fun c => ?_, fun c => ?_⟩
  · replace hm := ia_ifp hm c
    show K 37 [some (.inr (.inr 64)), some (.inl x1), some (.inl x2), some (.inl x3), some (.inl x4), some (.inl x5), some (.inl x6), some (.inl x7), some (.inl x8), none] [] h
    refine ia_ldc2 hK (v := (-1)) (ia_tb_in (List.mem_of_getElem? (i := 1265) (by decide +kernel)) rfl) dc_I_branches_37 ?_
    show K 40 [some (.inr (.inr 64)), some (.inl x1), some (.inl x2), some (.inl x3), some (.inl x4), some (.inl x5), some (.inl x6), some (.inl x7), some (.inl x8), none] [.inr (.inl (-1))] h
    cases hm
    exact hret 40 _ dc_I_branches_40
  · replace hm := ia_ifn hm c
    show K 5 [some (.inr (.inr 64)), some (.inl x1), some (.inl x2), some (.inl x3), some (.inl x4), some (.inl x5), some (.inl x6), some (.inl x7), some (.inl x8), none] [] h
    refine ia_go hK ck_I_branches_5 ⟨fun c => ?_, fun c => ?_⟩
    · replace hm := ia_ifp hm c
      show K 37 [some (.inr (.inr 64)), some (.inl x1), some (.inl x2), some (.inl x3), some (.inl x4), some (.inl x5), some (.inl x6), some (.inl x7), some (.inl x8), none] [] h
      refine ia_ldc2 hK (v := (-1)) (ia_tb_in (List.mem_of_getElem? (i := 1265) (by decide +kernel)) rfl) dc_I_branches_37 ?_
      show K 40 [some (.inr (.inr 64)), some (.inl x1), some (.inl x2), some (.inl x3), some (.inl x4), some (.inl x5), some (.inl x6), some (.inl x7), some (.inl x8), none] [.inr (.inl (-1))] h
      cases hm
      exact hret 40 _ dc_I_branches_40
    · replace hm := ia_ifn hm c
      show K 12 [some (.inr (.inr 64)), some (.inl x1), some (.inl x2), some (.inl x3), some (.inl x4), some (.inl x5), some (.inl x6), some (.inl x7), some (.inl x8), none] [] h
      refine ia_go hK ck_I_branches_12 ?_
      show K 18 [some (.inr (.inr 64)), some (.inl x1), some (.inl x2), some (.inl x3), some (.inl x4), some (.inl x5), some (.inl x6), some (.inl x7), some (.inl x8), none] [.inl x4, .inl x3, .inl x2, .inl x1, .inr (.inr 64)] h
      obtain ⟨v1, hv1, hm⟩ := ia_bnd hm
      have ev1 := t_I_stage (d + 0) hg hv1
      have gv1 := g_I_stage hg hv1
      refine ia_cV hK mk_I_stage lk_0_266 dc_I_branches_18 64 [.inl x1, .inl x2, .inl x3, .inl x4] [] rfl rfl (Nat.le_of_ble_eq_true rfl) (by decide) rfl (gk_0 hg pk_64) ev1 (gd_nm hg gv1) ?_
      show K 21 [some (.inr (.inr 64)), some (.inl x1), some (.inl x2), some (.inl x3), some (.inl x4), some (.inl x5), some (.inl x6), some (.inl x7), some (.inl x8), none] [.inl v1.1] v1.2
      refine ia_go hK ck_I_branches_21 ⟨fun c => ?_, fun c => ?_⟩
      · replace hm := ia_ifp hm c
        show K 37 [some (.inr (.inr 64)), some (.inl x1), some (.inl x2), some (.inl x3), some (.inl x4), some (.inl x5), some (.inl x6), some (.inl x7), some (.inl x8), none] [] v1.2
        refine ia_ldc2 hK (v := (-1)) (ia_tb_in (List.mem_of_getElem? (i := 1265) (by decide +kernel)) rfl) dc_I_branches_37 ?_
        show K 40 [some (.inr (.inr 64)), some (.inl x1), some (.inl x2), some (.inl x3), some (.inl x4), some (.inl x5), some (.inl x6), some (.inl x7), some (.inl x8), none] [.inr (.inl (-1))] v1.2
        cases hm
        exact hret 40 _ dc_I_branches_40
      · replace hm := ia_ifn hm c
        show K 24 [some (.inr (.inr 64)), some (.inl x1), some (.inl x2), some (.inl x3), some (.inl x4), some (.inl x5), some (.inl x6), some (.inl x7), some (.inl x8), none] [] v1.2
        refine ia_go hK ck_I_branches_24 ?_
        show K 31 [some (.inr (.inr 64)), some (.inl x1), some (.inl x2), some (.inl x3), some (.inl x4), some (.inl x5), some (.inl x6), some (.inl x7), some (.inl x8), none] [.inl x7, .inl x6, .inl x5, .inr (.inr 64)] v1.2
        obtain ⟨v2, hv2, hm⟩ := ia_bnd hm
        have ev2 := t_I_isTrip (d + 5) gv1 hv2
        refine ia_cV hK mk_I_isTrip lk_0_299 dc_I_branches_31 64 [.inl x5, .inl x6, .inl x7] [] rfl rfl (Nat.le_of_ble_eq_true rfl) (by decide) rfl (gk_0 gv1 pk_64) ev2 ⟨rfl, rfl⟩ ?_
        show K 34 [some (.inr (.inr 64)), some (.inl x1), some (.inl x2), some (.inl x3), some (.inl x4), some (.inl x5), some (.inl x6), some (.inl x7), some (.inl x8), none] [.inl v2] v1.2
        refine ia_go hK ck_I_branches_34 ⟨fun c => ?_, fun c => ?_⟩
        · replace hm := ia_ifn hm c
          show K 41 [some (.inr (.inr 64)), some (.inl x1), some (.inl x2), some (.inl x3), some (.inl x4), some (.inl x5), some (.inl x6), some (.inl x7), some (.inl x8), none] [] v1.2
          refine ia_go hK ck_I_branches_41 ?_
          show K 44 [some (.inr (.inr 64)), some (.inl x1), some (.inl x2), some (.inl x3), some (.inl x4), some (.inl x5), some (.inl x6), some (.inl x7), some (.inl x8), some (.inl 0)] [] v1.2
          refine ia_fg hK (lv' := [some (.inr (.inr 64)), none, none, none, none, some (.inl x5), some (.inl x6), some (.inl x7), some (.inl x8), some (.inl 0)]) ⟨rfl, rfl, rfl, rfl, rfl, rfl, trivial⟩ ?_
          refine tl_I_branches_44 hK hret ?_ fu_ 0 v1.2 gv1 hm
          · intro h hg hm
            refine ia_go hK ck_I_branches_71 ⟨gk_0 hg pk_64, gr_0_5 hg pk_64, gk_0 hg pk_64, gr_0_4 hg pk_64, ?_⟩
            show K 85 [some (.inr (.inr 64)), none, none, none, none, some (.inl x5), some (.inl x6), some (.inl x7), none, none] [.inl x7, .inl x6, .inl x5, .inr (.inr 303), .inr (.inr 311)] h
            obtain ⟨v5, hv5, hm⟩ := ia_bnd hm
            have ev5 := t_Wa_shortCells (d + 3) hg (ka_0_4 pk_64) hv5
            have gv5 := g_Wa_shortCells hg (ka_0_4 pk_64) hv5
            refine ia_cV hK mk_Wa_shortCells lk_0_383 dc_I_branches_85 311 [.inr (.inr 303), .inl x5, .inl x6, .inl x7] [] rfl rfl (Nat.le_of_ble_eq_true rfl) (by decide) rfl (gk_11 hg (ka_0_5 pk_64)) ev5 (gd_nm hg gv5) ?_
            show K 88 [some (.inr (.inr 64)), none, none, none, none, some (.inl x5), some (.inl x6), some (.inl x7), none, none] [.inr (.inl v5.1)] v5.2
            cases hm
            exact hret 88 _ dc_I_branches_88
        · replace hm := ia_ifp hm c
          show K 37 [some (.inr (.inr 64)), some (.inl x1), some (.inl x2), some (.inl x3), some (.inl x4), some (.inl x5), some (.inl x6), some (.inl x7), some (.inl x8), none] [] v1.2
          refine ia_ldc2 hK (v := (-1)) (ia_tb_in (List.mem_of_getElem? (i := 1265) (by decide +kernel)) rfl) dc_I_branches_37 ?_
          show K 40 [some (.inr (.inr 64)), some (.inl x1), some (.inl x2), some (.inl x3), some (.inl x4), some (.inl x5), some (.inl x6), some (.inl x7), some (.inl x8), none] [.inr (.inl (-1))] v1.2
          cases hm
          exact hret 40 _ dc_I_branches_40
