def mm_M_keepsLuck : ia_M := (⟨"IceStreetModel", "keepsLuck", "(I)V"⟩, prog_14_method_86_code, 5, none, 12, false)
theorem ok_M_keepsLuck : ia_mok mm_M_keepsLuck := ⟨by decide +kernel, by decide +kernel, by decide +kernel, by decide +kernel⟩
theorem mk_M_keepsLuck : ia_mkn mm_M_keepsLuck 1 1 := ⟨ia_tb_in (List.mem_of_getElem? (i := 2051) (by decide +kernel)) rfl, ia_tb_in (List.mem_of_getElem? (i := 146) (by decide +kernel)) rfl, by decide +kernel, by decide +kernel, ⟨ia_tb_in (List.mem_of_getElem? (i := 2050) (by decide +kernel)) rfl, ia_tb_in (List.mem_of_getElem? (i := 111) (by decide +kernel)) rfl⟩⟩
theorem ck_M_keepsLuck_0 : ia_cks 12 5 false prog_14_method_86_code 0 [(.aload_n 0, 0, 0, 0, 0), (.iload_n 1, 0, 0, 0, 0)] = true := by decide +kernel
theorem ck_M_keepsLuck_5 : ia_cks 12 5 false prog_14_method_86_code 5 [(.lstore_n 2, 0, 0, 0, 0), (.lload_n 2, 0, 0, 0, 0), (.aload_n 0, 0, 0, 0, 0), (.getfield 336, 12, 30, 1, 0), (.lcmp, 0, 0, 0, 0), (.ifCond .lt 20, 0, 0, 0, 0)] = true := by decide +kernel
theorem ck_M_keepsLuck_15 : ia_cks 12 5 false prog_14_method_86_code 15 [(.lload_n 2, 0, 0, 0, 0), (.aload_n 0, 0, 0, 0, 0), (.getfield 336, 12, 30, 1, 0), (.lcmp, 0, 0, 0, 0), (.ifCond .ne 12, 0, 0, 0, 0)] = true := by decide +kernel
theorem ck_M_keepsLuck_33 : ia_cks 12 5 false prog_14_method_86_code 33 [(.aload_n 0, 0, 0, 0, 0), (.lload_n 2, 0, 0, 0, 0), (.putfield 336, 12, 30, 1, 0), (.aload_n 0, 0, 0, 0, 0), (.iload_n 1, 0, 0, 0, 0), (.putfield 266, 12, 27, 0, 0), (.iconst 0, 0, 0, 0, 0), (.istore 4, 0, 0, 0, 0)] = true := by decide +kernel
theorem ck_M_keepsLuck_46 : ia_cks 12 5 false prog_14_method_86_code 46 [(.iload 4, 0, 0, 0, 0), (.iload_n 1, 0, 0, 0, 0), (.if_icmp .ge 23, 0, 0, 0, 0)] = true := by decide +kernel
theorem ck_M_keepsLuck_52 : ia_cks 12 5 false prog_14_method_86_code 52 [(.aload_n 0, 0, 0, 0, 0), (.getfield 45, 12, 26, 3, 10), (.iload 4, 0, 0, 0, 0), (.aload_n 0, 0, 0, 0, 0), (.getfield 48, 12, 28, 3, 11), (.iload 4, 0, 0, 0, 0), (.iaload, 0, 0, 0, 0), (.iastore, 0, 0, 0, 0), (.iinc 4 1, 0, 0, 0, 0), (.goto (-23), 0, 0, 0, 0)] = true := by decide +kernel
theorem ck_M_keepsLuck_24 : ia_cks 12 5 false prog_14_method_86_code 24 [(.iload_n 1, 0, 0, 0, 0), (.aload_n 0, 0, 0, 0, 0), (.getfield 266, 12, 27, 0, 0), (.if_icmp .lt 4, 0, 0, 0, 0)] = true := by decide +kernel
theorem dc_M_keepsLuck_2 : decode prog_14_method_86_code 2 = .ok (.invokevirtual 346, 3) := by decide +kernel
theorem dc_M_keepsLuck_32 : decode prog_14_method_86_code 32 = .ok (.return_, 1) := by decide +kernel
theorem dc_M_keepsLuck_72 : decode prog_14_method_86_code 72 = .ok (.return_, 1) := by decide +kernel
def l_M_keepsLuck_46 (x1 : Int32) (k72 : ia_H → Option ia_H) (n : Nat) (x4 : Int32) (h : ia_H) : Option ia_H := match n with
  | 0 => none
  | n + 1 => if x1 ≤ x4 then (k72 h) else (ia_gd (ia_ib x4 9) (ia_gd (ia_ib x4 36) (l_M_keepsLuck_46 x1 k72 n (x4 + 1) (ia_wI h 427 ((x4).toNatClampNeg) (ia_i h 428 ((x4).toNatClampNeg))))))
theorem tl_M_keepsLuck_46 {w : ia_O0} {d N1 W1 : Nat} {K : ia_K} (hK : ia_isK (d + 1) mm_M_keepsLuck N1 W1 K) {x1 : Int32} {h1 : ia_H} (hret : ∀ (pc : Nat) (lv : ia_L), ia_ret mm_M_keepsLuck pc none → K pc lv (none : Option ia_V).toList h1) {k72 : ia_H → Option ia_H} (hk72 : ∀ (h : ia_H), gd_ w h → k72 h = some h1 → K 72 [none, none, none, none, none] [] h) : ∀ (n : Nat) (x4 : Int32) (h : ia_H), gd_ w h → l_M_keepsLuck_46 x1 k72 n x4 h = some h1 → K 46 [some (.inr (.inr 417)), some (.inl x1), none, none, some (.inl x4)] [] h := by
  intro n
  induction n with
  | zero =>
    intro x4 h hg hm
    cases (show (none : Option ia_H) = some _ from hm)
  | succ n ih =>
    intro x4 h hg hm
    rw [l_M_keepsLuck_46] at hm
    refine ia_go hK ck_M_keepsLuck_46 ⟨fun c => ?_, fun c => ?_⟩
    · replace hm := ia_ifp hm c
      show K 72 [some (.inr (.inr 417)), some (.inl x1), none, none, some (.inl x4)] [] h
      refine ia_fg hK (lv' := [none, none, none, none, none]) trivial ?_
      exact hk72 h hg hm
    · replace hm := ia_ifn hm c
      show K 52 [some (.inr (.inr 417)), some (.inl x1), none, none, some (.inl x4)] [] h
      obtain ⟨c2, hm⟩ := ia_gd_some hm
      obtain ⟨c3, hm⟩ := ia_gd_some hm
      refine ia_go hK ck_M_keepsLuck_52 ⟨gk_12 hg pk_417, gr_12_26 hg pk_417, gk_12 hg pk_417, gr_12_28 hg pk_417, ga_i100 hg (ka_12_28 pk_417) c2, ga_s100 hg (ka_12_26 pk_417) c3, ?_⟩
      show K 46 [some (.inr (.inr 417)), some (.inl x1), none, none, some (.inl (x4 + 1))] [] (ia_wI h 427 ((x4).toNatClampNeg) (ia_i h 428 ((x4).toNatClampNeg)))
      exact ih (x4 + 1) (ia_wI h 427 ((x4).toNatClampNeg) (ia_i h 428 ((x4).toNatClampNeg))) (gd_wI hg (kx_100 (ka_12_26 pk_417))) hm
theorem gl_M_keepsLuck_46 {w : ia_O0} {x1 : Int32} {h1 : ia_H} {k72 : ia_H → Option ia_H} (hk72 : ∀ (h : ia_H), gd_ w h → k72 h = some h1 → gd_ w h1) : ∀ (n : Nat) (x4 : Int32) (h : ia_H), gd_ w h → l_M_keepsLuck_46 x1 k72 n x4 h = some h1 → gd_ w h1 := by
  intro n
  induction n with
  | zero =>
    intro x4 h hg hm
    cases (show (none : Option ia_H) = some _ from hm)
  | succ n ih =>
    intro x4 h hg hm
    rw [l_M_keepsLuck_46] at hm
    by_cases c : x1 ≤ x4
    · replace hm := ia_ifp hm c
      exact hk72 h hg hm
    · replace hm := ia_ifn hm c
      obtain ⟨c2, hm⟩ := ia_gd_some hm
      obtain ⟨c3, hm⟩ := ia_gd_some hm
      exact ih (x4 + 1) (ia_wI h 427 ((x4).toNatClampNeg) (ia_i h 428 ((x4).toNatClampNeg))) (gd_wI hg (kx_100 (ka_12_26 pk_417))) hm
def j_M_keepsLuck_33 (x1 : Int32) (y2 : Int64) (h : ia_H) : Option ia_H := l_M_keepsLuck_46 x1 (fun h => some h) fu_ 0 (ia_wI (ia_wL h 417 30 y2) 417 27 x1)
theorem tj_M_keepsLuck_33 {w : ia_O0} {d N1 W1 : Nat} {K : ia_K} (hK : ia_isK (d + 1) mm_M_keepsLuck N1 W1 K) {x1 : Int32} {h1 : ia_H} (hret : ∀ (pc : Nat) (lv : ia_L), ia_ret mm_M_keepsLuck pc none → K pc lv (none : Option ia_V).toList h1) : ∀ (y2 : Int64) (h : ia_H), gd_ w h → j_M_keepsLuck_33 x1 y2 h = some h1 → K 33 [some (.inr (.inr 417)), some (.inl x1), some (.inr (.inl y2)), none, none] [] h := by
  intro y2 h hg hm
  unfold j_M_keepsLuck_33 at hm
  refine ia_go hK ck_M_keepsLuck_33 ⟨gk_12 hg pk_417, gk_12 (gd_wL hg) pk_417, ?_⟩
  show K 46 [some (.inr (.inr 417)), some (.inl x1), some (.inr (.inl y2)), none, some (.inl 0)] [] (ia_wI (ia_wL h 417 30 y2) 417 27 x1)
  refine ia_fg hK (lv' := [some (.inr (.inr 417)), some (.inl x1), none, none, some (.inl 0)]) ⟨rfl, rfl, rfl, trivial⟩ ?_
  refine tl_M_keepsLuck_46 hK hret ?_ fu_ 0 (ia_wI (ia_wL h 417 30 y2) 417 27 x1) (gd_wI (gd_wL hg) (ko_12 pk_417)) hm
  · intro h hg hm
    obtain rfl := Option.some.inj hm
    exact hret 72 _ dc_M_keepsLuck_72
theorem gj_M_keepsLuck_33 {w : ia_O0} {x1 : Int32} {h1 : ia_H} : ∀ (y2 : Int64) (h : ia_H), gd_ w h → j_M_keepsLuck_33 x1 y2 h = some h1 → gd_ w h1 := by
  intro y2 h hg hm
  unfold j_M_keepsLuck_33 at hm
  refine gl_M_keepsLuck_46 ?_ fu_ 0 (ia_wI (ia_wL h 417 30 y2) 417 27 x1) (gd_wI (gd_wL hg) (ko_12 pk_417)) hm
  · intro h hg hm
    obtain rfl := Option.some.inj hm
    exact hg
def f_M_keepsLuck (x1 : Int32) (h : ia_H) : Option ia_H := (f_M_luckOf x1 h).bind fun v1 => (if (lg_cmp v1 (ia_l h 417 30)) < 0 then (some h) else (if (lg_cmp v1 (ia_l h 417 30)) = 0 then (if x1 < (ia_i h 417 27) then (j_M_keepsLuck_33 x1 v1 h) else (some h)) else (j_M_keepsLuck_33 x1 v1 h)))
theorem g_M_keepsLuck {w : ia_O0} {x1 : Int32} {h : ia_H} (hg : gd_ w h) {q : ia_H} (hm : f_M_keepsLuck x1 h = some q) : gd_ w q := by
  obtain ⟨h1, e1⟩ : ∃ x, x = q := ⟨_, rfl⟩
  subst e1
  unfold f_M_keepsLuck at hm
  obtain ⟨v1, hv1, hm⟩ := ia_bnd hm
  by_cases c : (lg_cmp v1 (ia_l h 417 30)) < 0
  · replace hm := ia_ifp hm c
    obtain rfl := Option.some.inj hm
    exact hg
  · replace hm := ia_ifn hm c
    by_cases c : (lg_cmp v1 (ia_l h 417 30)) = 0
    · replace hm := ia_ifp hm c
      by_cases c : x1 < (ia_i h 417 27)
      · replace hm := ia_ifp hm c
        exact gj_M_keepsLuck_33 v1 h hg hm
      · replace hm := ia_ifn hm c
        obtain rfl := Option.some.inj hm
        exact hg
    · replace hm := ia_ifn hm c
      exact gj_M_keepsLuck_33 v1 h hg hm
theorem t_M_keepsLuck {w : ia_O0} (d : Nat) {x1 : Int32} {h : ia_H} (hg : gd_ w h) {q : ia_H} (hm : f_M_keepsLuck x1 h = some q) : ia_Ev (d + 1) mm_M_keepsLuck [.inr (.inr 417), .inl x1] h none q := by
  have gq := g_M_keepsLuck hg hm
  refine ia_Ev_intro ok_M_keepsLuck (gd_le hg gq).1 (gd_le hg gq).2 (Nat.le_of_ble_eq_true rfl) (fun K hK hret => ?_)
  obtain ⟨h1, e1⟩ : ∃ x, x = q := ⟨_, rfl⟩
  subst e1
  show K 0 [some (.inr (.inr 417)), some (.inl x1), none, none, none] [] h
  unfold f_M_keepsLuck at hm
  refine ia_go hK ck_M_keepsLuck_0 ?_
  show K 2 [some (.inr (.inr 417)), some (.inl x1), none, none, none] [.inl x1, .inr (.inr 417)] h
  obtain ⟨v1, hv1, hm⟩ := ia_bnd hm
  have ev1 := t_M_luckOf (d + 0) hg hv1
  refine ia_cV hK mk_M_luckOf lk_12_346 dc_M_keepsLuck_2 417 [.inl x1] [] rfl rfl (Nat.le_of_ble_eq_true rfl) (by decide) rfl (gk_12 hg pk_417) ev1 ⟨rfl, rfl⟩ ?_
  show K 5 [some (.inr (.inr 417)), some (.inl x1), none, none, none] [.inr (.inl v1)] h
  refine ia_go hK ck_M_keepsLuck_5 ⟨gk_12 hg pk_417, fun c => ?_, fun c => ?_⟩
  · replace hm := ia_ifp hm c
    show K 32 [some (.inr (.inr 417)), some (.inl x1), some (.inr (.inl v1)), none, none] [] h
    obtain rfl := Option.some.inj hm
    exact hret 32 _ dc_M_keepsLuck_32
  · replace hm := ia_ifn hm c
    show K 15 [some (.inr (.inr 417)), some (.inl x1), some (.inr (.inl v1)), none, none] [] h
    refine ia_go hK ck_M_keepsLuck_15 ⟨gk_12 hg pk_417, fun c => ?_, fun c => ?_⟩
    · replace hm := ia_ifn hm c
      show K 33 [some (.inr (.inr 417)), some (.inl x1), some (.inr (.inl v1)), none, none] [] h
      exact tj_M_keepsLuck_33 hK hret v1 h hg hm
    · replace hm := ia_ifp hm c
      show K 24 [some (.inr (.inr 417)), some (.inl x1), some (.inr (.inl v1)), none, none] [] h
      refine ia_go hK ck_M_keepsLuck_24 ⟨gk_12 hg pk_417, fun c => ?_, fun c => ?_⟩
      · replace hm := ia_ifp hm c
        show K 33 [some (.inr (.inr 417)), some (.inl x1), some (.inr (.inl v1)), none, none] [] h
        exact tj_M_keepsLuck_33 hK hret v1 h hg hm
      · replace hm := ia_ifn hm c
        show K 32 [some (.inr (.inr 417)), some (.inl x1), some (.inr (.inl v1)), none, none] [] h
        obtain rfl := Option.some.inj hm
        exact hret 32 _ dc_M_keepsLuck_32
def mm_M_luckyWay : ia_M := (⟨"IceStreetModel", "luckyWay", "(III)V"⟩, prog_14_method_85_code, 8, none, 12, false)
theorem ok_M_luckyWay : ia_mok mm_M_luckyWay := ⟨by decide +kernel, by decide +kernel, by decide +kernel, by decide +kernel⟩
theorem mk_M_luckyWay : ia_mkn mm_M_luckyWay 1 3 := ⟨ia_tb_in (List.mem_of_getElem? (i := 2042) (by decide +kernel)) rfl, ia_tb_in (List.mem_of_getElem? (i := 146) (by decide +kernel)) rfl, by decide +kernel, by decide +kernel, ⟨ia_tb_in (List.mem_of_getElem? (i := 2041) (by decide +kernel)) rfl, ia_tb_in (List.mem_of_getElem? (i := 109) (by decide +kernel)) rfl⟩⟩
theorem ck_M_luckyWay_0 : ia_cks 12 8 false prog_14_method_85_code 0 [(.aload_n 0, 0, 0, 0, 0), (.iload_n 2, 0, 0, 0, 0), (.iload_n 3, 0, 0, 0, 0), (.iconst (-1), 0, 0, 0, 0), (.iconst 0, 0, 0, 0, 0)] = true := by decide +kernel
theorem ck_M_luckyWay_8 : ia_cks 12 8 false prog_14_method_85_code 8 [(.aload_n 0, 0, 0, 0, 0), (.iconst 0, 0, 0, 0, 0), (.putfield 266, 12, 27, 0, 0), (.aload_n 0, 0, 0, 0, 0)] = true := by decide +kernel
theorem ck_M_luckyWay_17 : ia_cks 12 8 false prog_14_method_85_code 17 [(.putfield 336, 12, 30, 1, 0), (.iconst 1, 0, 0, 0, 0), (.istore 4, 0, 0, 0, 0), (.aload_n 0, 0, 0, 0, 0), (.getfield 48, 12, 28, 3, 11), (.iconst 0, 0, 0, 0, 0), (.iload_n 1, 0, 0, 0, 0), (.iastore, 0, 0, 0, 0), (.aload_n 0, 0, 0, 0, 0), (.getfield 51, 12, 29, 3, 12), (.iconst 0, 0, 0, 0, 0), (.iconst (-1), 0, 0, 0, 0), (.iastore, 0, 0, 0, 0)] = true := by decide +kernel
theorem ck_M_luckyWay_37 : ia_cks 12 8 false prog_14_method_85_code 37 [(.iload 4, 0, 0, 0, 0), (.ifCond .le 152, 0, 0, 0, 0)] = true := by decide +kernel
theorem ck_M_luckyWay_42 : ia_cks 12 8 false prog_14_method_85_code 42 [(.aload_n 0, 0, 0, 0, 0), (.getfield 48, 12, 28, 3, 11), (.iload 4, 0, 0, 0, 0), (.iconst 1, 0, 0, 0, 0), (.isub, 0, 0, 0, 0), (.iaload, 0, 0, 0, 0), (.istore 5, 0, 0, 0, 0), (.aload_n 0, 0, 0, 0, 0), (.getfield 51, 12, 29, 3, 12), (.iload 4, 0, 0, 0, 0), (.iconst 1, 0, 0, 0, 0), (.isub, 0, 0, 0, 0), (.dup2, 0, 0, 0, 0), (.iaload, 0, 0, 0, 0), (.iconst 1, 0, 0, 0, 0), (.iadd, 0, 0, 0, 0), (.iastore, 0, 0, 0, 0), (.aload_n 0, 0, 0, 0, 0), (.getfield 51, 12, 29, 3, 12), (.iload 4, 0, 0, 0, 0), (.iconst 1, 0, 0, 0, 0), (.isub, 0, 0, 0, 0), (.iaload, 0, 0, 0, 0), (.istore 6, 0, 0, 0, 0), (.iload 6, 0, 0, 0, 0), (.iconst 3, 0, 0, 0, 0), (.if_icmp .gt 16, 0, 0, 0, 0)] = true := by decide +kernel
theorem ck_M_luckyWay_96 : ia_cks 12 8 false prog_14_method_85_code 96 [(.iinc 4 (-1), 0, 0, 0, 0), (.goto (-62), 0, 0, 0, 0)] = true := by decide +kernel
theorem ck_M_luckyWay_83 : ia_cks 12 8 false prog_14_method_85_code 83 [(.iload 5, 0, 0, 0, 0), (.iload_n 2, 0, 0, 0, 0), (.if_icmp .eq 10, 0, 0, 0, 0)] = true := by decide +kernel
theorem ck_M_luckyWay_89 : ia_cks 12 8 false prog_14_method_85_code 89 [(.iload 4, 0, 0, 0, 0), (.bipush 8, 0, 0, 0, 0), (.if_icmp .ne 9, 0, 0, 0, 0)] = true := by decide +kernel
theorem ck_M_luckyWay_102 : ia_cks 12 8 false prog_14_method_85_code 102 [(.aload_n 0, 0, 0, 0, 0), (.aload_n 0, 0, 0, 0, 0), (.getfield 201, 12, 14, 0, 0), (.iload 5, 0, 0, 0, 0), (.iload 6, 0, 0, 0, 0)] = true := by decide +kernel
theorem ck_M_luckyWay_114 : ia_cks 12 8 false prog_14_method_85_code 114 [(.istore 7, 0, 0, 0, 0), (.iload 7, 0, 0, 0, 0), (.ifCond .lt (-81), 0, 0, 0, 0)] = true := by decide +kernel
theorem ck_M_luckyWay_121 : ia_cks 12 8 false prog_14_method_85_code 121 [(.aload_n 0, 0, 0, 0, 0), (.getfield 42, 12, 25, 3, 9), (.iload 7, 0, 0, 0, 0), (.baload, 101, 0, 0, 0), (.ifCond .eq (-91), 0, 0, 0, 0)] = true := by decide +kernel
theorem ck_M_luckyWay_131 : ia_cks 12 8 false prog_14_method_85_code 131 [(.aload_n 0, 0, 0, 0, 0), (.iload 5, 0, 0, 0, 0), (.iload 7, 0, 0, 0, 0)] = true := by decide +kernel
theorem ck_M_luckyWay_139 : ia_cks 12 8 false prog_14_method_85_code 139 [(.ifCond .gt (-102), 0, 0, 0, 0)] = true := by decide +kernel
theorem ck_M_luckyWay_142 : ia_cks 12 8 false prog_14_method_85_code 142 [(.aload_n 0, 0, 0, 0, 0), (.iload 7, 0, 0, 0, 0), (.iload 4, 0, 0, 0, 0)] = true := by decide +kernel
theorem ck_M_luckyWay_150 : ia_cks 12 8 false prog_14_method_85_code 150 [(.ifCond .eq 6, 0, 0, 0, 0)] = true := by decide +kernel
theorem ck_M_luckyWay_156 : ia_cks 12 8 false prog_14_method_85_code 156 [(.aload_n 0, 0, 0, 0, 0), (.getfield 48, 12, 28, 3, 11), (.iload 4, 0, 0, 0, 0), (.iload 7, 0, 0, 0, 0), (.iastore, 0, 0, 0, 0), (.aload_n 0, 0, 0, 0, 0), (.getfield 51, 12, 29, 3, 12), (.iload 4, 0, 0, 0, 0), (.iconst (-1), 0, 0, 0, 0), (.iastore, 0, 0, 0, 0), (.iinc 4 1, 0, 0, 0, 0), (.iload 7, 0, 0, 0, 0), (.iload_n 2, 0, 0, 0, 0), (.if_icmp .ne 9, 0, 0, 0, 0)] = true := by decide +kernel
theorem ck_M_luckyWay_188 : ia_cks 12 8 false prog_14_method_85_code 188 [(.goto (-151), 0, 0, 0, 0)] = true := by decide +kernel
theorem ck_M_luckyWay_182 : ia_cks 12 8 false prog_14_method_85_code 182 [(.aload_n 0, 0, 0, 0, 0), (.iload 4, 0, 0, 0, 0)] = true := by decide +kernel
theorem ck_M_luckyWay_153 : ia_cks 12 8 false prog_14_method_85_code 153 [(.goto (-116), 0, 0, 0, 0)] = true := by decide +kernel
theorem dc_M_luckyWay_5 : decode prog_14_method_85_code 5 = .ok (.invokevirtual 262, 3) := by decide +kernel
theorem dc_M_luckyWay_14 : decode prog_14_method_85_code 14 = .ok (.ldc2_w 334, 3) := by decide +kernel
theorem dc_M_luckyWay_111 : decode prog_14_method_85_code 111 = .ok (.invokevirtual 186, 3) := by decide +kernel
theorem dc_M_luckyWay_136 : decode prog_14_method_85_code 136 = .ok (.invokevirtual 259, 3) := by decide +kernel
theorem dc_M_luckyWay_147 : decode prog_14_method_85_code 147 = .ok (.invokevirtual 340, 3) := by decide +kernel
theorem dc_M_luckyWay_185 : decode prog_14_method_85_code 185 = .ok (.invokevirtual 343, 3) := by decide +kernel
theorem dc_M_luckyWay_191 : decode prog_14_method_85_code 191 = .ok (.return_, 1) := by decide +kernel
def l_M_luckyWay_37 (x1 : Int32) (x2 : Int32) (x3 : Int32) (k191 : ia_H → Option ia_H) (n : Nat) (x4 : Int32) (h : ia_H) : Option ia_H := match n with
  | 0 => none
  | n + 1 => if x4 ≤ 0 then (k191 h) else (ia_gd (ia_ib (x4 - 1) 9) (ia_gd (ia_ib (x4 - 1) 9) (ia_gd (ia_ib (x4 - 1) 9) (ia_gd (ia_ib (x4 - 1) 9) (if 3 < (ia_i (ia_wI h 429 ((x4 - 1).toNatClampNeg) ((ia_i h 429 ((x4 - 1).toNatClampNeg)) + 1)) 429 ((x4 - 1).toNatClampNeg)) then (l_M_luckyWay_37 x1 x2 x3 k191 n (x4 + (-1)) (ia_wI h 429 ((x4 - 1).toNatClampNeg) ((ia_i h 429 ((x4 - 1).toNatClampNeg)) + 1))) else (if (ia_i h 428 ((x4 - 1).toNatClampNeg)) = x2 then (l_M_luckyWay_37 x1 x2 x3 k191 n (x4 + (-1)) (ia_wI h 429 ((x4 - 1).toNatClampNeg) ((ia_i h 429 ((x4 - 1).toNatClampNeg)) + 1))) else (if x4 = 8 then (l_M_luckyWay_37 x1 x2 x3 k191 n (x4 + (-1)) (ia_wI h 429 ((x4 - 1).toNatClampNeg) ((ia_i h 429 ((x4 - 1).toNatClampNeg)) + 1))) else ((f_M_beside (ia_i (ia_wI h 429 ((x4 - 1).toNatClampNeg) ((ia_i h 429 ((x4 - 1).toNatClampNeg)) + 1)) 417 14) (ia_i h 428 ((x4 - 1).toNatClampNeg)) (ia_i (ia_wI h 429 ((x4 - 1).toNatClampNeg) ((ia_i h 429 ((x4 - 1).toNatClampNeg)) + 1)) 429 ((x4 - 1).toNatClampNeg)) (ia_wI h 429 ((x4 - 1).toNatClampNeg) ((ia_i h 429 ((x4 - 1).toNatClampNeg)) + 1))).bind fun v6 => (if v6 < 0 then (l_M_luckyWay_37 x1 x2 x3 k191 n x4 (ia_wI h 429 ((x4 - 1).toNatClampNeg) ((ia_i h 429 ((x4 - 1).toNatClampNeg)) + 1))) else (ia_gd (ia_ib v6 36) (if (ia_i (ia_wI h 429 ((x4 - 1).toNatClampNeg) ((ia_i h 429 ((x4 - 1).toNatClampNeg)) + 1)) 426 ((v6).toNatClampNeg)) = 0 then (l_M_luckyWay_37 x1 x2 x3 k191 n x4 (ia_wI h 429 ((x4 - 1).toNatClampNeg) ((ia_i h 429 ((x4 - 1).toNatClampNeg)) + 1))) else ((f_M_against (ia_i h 428 ((x4 - 1).toNatClampNeg)) v6 (ia_wI h 429 ((x4 - 1).toNatClampNeg) ((ia_i h 429 ((x4 - 1).toNatClampNeg)) + 1))).bind fun v8 => (if 0 < v8 then (l_M_luckyWay_37 x1 x2 x3 k191 n x4 (ia_wI h 429 ((x4 - 1).toNatClampNeg) ((ia_i h 429 ((x4 - 1).toNatClampNeg)) + 1))) else ((f_M_isOn v6 x4 (ia_wI h 429 ((x4 - 1).toNatClampNeg) ((ia_i h 429 ((x4 - 1).toNatClampNeg)) + 1))).bind fun v9 => (if v9 = 0 then (ia_gd (ia_ib x4 9) (ia_gd (ia_ib x4 9) (if v6 = x2 then ((f_M_keepsLuck (x4 + 1) (ia_wI (ia_wI (ia_wI h 429 ((x4 - 1).toNatClampNeg) ((ia_i h 429 ((x4 - 1).toNatClampNeg)) + 1)) 428 ((x4).toNatClampNeg) v6) 429 ((x4).toNatClampNeg) (-1))).bind fun v12 => (l_M_luckyWay_37 x1 x2 x3 k191 n (x4 + 1) v12)) else (l_M_luckyWay_37 x1 x2 x3 k191 n (x4 + 1) (ia_wI (ia_wI (ia_wI h 429 ((x4 - 1).toNatClampNeg) ((ia_i h 429 ((x4 - 1).toNatClampNeg)) + 1)) 428 ((x4).toNatClampNeg) v6) 429 ((x4).toNatClampNeg) (-1)))))) else (l_M_luckyWay_37 x1 x2 x3 k191 n x4 (ia_wI h 429 ((x4 - 1).toNatClampNeg) ((ia_i h 429 ((x4 - 1).toNatClampNeg)) + 1))))))))))))))))))
theorem tl_M_luckyWay_37 {w : ia_O0} {d N1 W1 : Nat} {K : ia_K} (hK : ia_isK (d + 6) mm_M_luckyWay N1 W1 K) {x1 : Int32} {x2 : Int32} {x3 : Int32} {h1 : ia_H} (hret : ∀ (pc : Nat) (lv : ia_L), ia_ret mm_M_luckyWay pc none → K pc lv (none : Option ia_V).toList h1) {k191 : ia_H → Option ia_H} (hk191 : ∀ (h : ia_H), gd_ w h → k191 h = some h1 → K 191 [none, none, none, none, none, none, none, none] [] h) : ∀ (n : Nat) (x4 : Int32) (h : ia_H), gd_ w h → l_M_luckyWay_37 x1 x2 x3 k191 n x4 h = some h1 → K 37 [some (.inr (.inr 417)), none, some (.inl x2), none, some (.inl x4), none, none, none] [] h := by
  intro n
  induction n with
  | zero =>
    intro x4 h hg hm
    cases (show (none : Option ia_H) = some _ from hm)
  | succ n ih =>
    intro x4 h hg hm
    rw [l_M_luckyWay_37] at hm
    refine ia_go hK ck_M_luckyWay_37 ⟨fun c => ?_, fun c => ?_⟩
    · replace hm := ia_ifp hm c
      show K 191 [some (.inr (.inr 417)), none, some (.inl x2), none, some (.inl x4), none, none, none] [] h
      refine ia_fg hK (lv' := [none, none, none, none, none, none, none, none]) trivial ?_
      exact hk191 h hg hm
    · replace hm := ia_ifn hm c
      show K 42 [some (.inr (.inr 417)), none, some (.inl x2), none, some (.inl x4), none, none, none] [] h
      obtain ⟨c2, hm⟩ := ia_gd_some hm
      obtain ⟨c3, hm⟩ := ia_gd_some hm
      obtain ⟨c4, hm⟩ := ia_gd_some hm
      obtain ⟨c5, hm⟩ := ia_gd_some hm
      refine ia_go hK ck_M_luckyWay_42 ⟨gk_12 hg pk_417, gr_12_28 hg pk_417, ga_i100 hg (ka_12_28 pk_417) c2, gk_12 hg pk_417, gr_12_29 hg pk_417, ga_i100 hg (ka_12_29 pk_417) c3, ga_s100 hg (ka_12_29 pk_417) c4, gk_12 (gd_wI hg (kx_100 (ka_12_29 pk_417))) pk_417, gr_12_29 (gd_wI hg (kx_100 (ka_12_29 pk_417))) pk_417, ga_i100 (gd_wI hg (kx_100 (ka_12_29 pk_417))) (ka_12_29 pk_417) c5, fun c => ?_, fun c => ?_⟩
      · replace hm := ia_ifp hm c
        show K 96 [some (.inr (.inr 417)), none, some (.inl x2), none, some (.inl x4), some (.inl (ia_i h 428 ((x4 - 1).toNatClampNeg))), some (.inl (ia_i (ia_wI h 429 ((x4 - 1).toNatClampNeg) ((ia_i h 429 ((x4 - 1).toNatClampNeg)) + 1)) 429 ((x4 - 1).toNatClampNeg))), none] [] (ia_wI h 429 ((x4 - 1).toNatClampNeg) ((ia_i h 429 ((x4 - 1).toNatClampNeg)) + 1))
        refine ia_go hK ck_M_luckyWay_96 ?_
        show K 37 [some (.inr (.inr 417)), none, some (.inl x2), none, some (.inl (x4 + (-1))), some (.inl (ia_i h 428 ((x4 - 1).toNatClampNeg))), some (.inl (ia_i (ia_wI h 429 ((x4 - 1).toNatClampNeg) ((ia_i h 429 ((x4 - 1).toNatClampNeg)) + 1)) 429 ((x4 - 1).toNatClampNeg))), none] [] (ia_wI h 429 ((x4 - 1).toNatClampNeg) ((ia_i h 429 ((x4 - 1).toNatClampNeg)) + 1))
        refine ia_fg hK (lv' := [some (.inr (.inr 417)), none, some (.inl x2), none, some (.inl (x4 + (-1))), none, none, none]) ⟨rfl, rfl, rfl, trivial⟩ ?_
        exact ih (x4 + (-1)) (ia_wI h 429 ((x4 - 1).toNatClampNeg) ((ia_i h 429 ((x4 - 1).toNatClampNeg)) + 1)) (gd_wI hg (kx_100 (ka_12_29 pk_417))) hm
      · replace hm := ia_ifn hm c
        show K 83 [some (.inr (.inr 417)), none, some (.inl x2), none, some (.inl x4), some (.inl (ia_i h 428 ((x4 - 1).toNatClampNeg))), some (.inl (ia_i (ia_wI h 429 ((x4 - 1).toNatClampNeg) ((ia_i h 429 ((x4 - 1).toNatClampNeg)) + 1)) 429 ((x4 - 1).toNatClampNeg))), none] [] (ia_wI h 429 ((x4 - 1).toNatClampNeg) ((ia_i h 429 ((x4 - 1).toNatClampNeg)) + 1))
        refine ia_go hK ck_M_luckyWay_83 ⟨fun c => ?_, fun c => ?_⟩
        · replace hm := ia_ifp hm c
          show K 96 [some (.inr (.inr 417)), none, some (.inl x2), none, some (.inl x4), some (.inl (ia_i h 428 ((x4 - 1).toNatClampNeg))), some (.inl (ia_i (ia_wI h 429 ((x4 - 1).toNatClampNeg) ((ia_i h 429 ((x4 - 1).toNatClampNeg)) + 1)) 429 ((x4 - 1).toNatClampNeg))), none] [] (ia_wI h 429 ((x4 - 1).toNatClampNeg) ((ia_i h 429 ((x4 - 1).toNatClampNeg)) + 1))
          refine ia_go hK ck_M_luckyWay_96 ?_
          show K 37 [some (.inr (.inr 417)), none, some (.inl x2), none, some (.inl (x4 + (-1))), some (.inl (ia_i h 428 ((x4 - 1).toNatClampNeg))), some (.inl (ia_i (ia_wI h 429 ((x4 - 1).toNatClampNeg) ((ia_i h 429 ((x4 - 1).toNatClampNeg)) + 1)) 429 ((x4 - 1).toNatClampNeg))), none] [] (ia_wI h 429 ((x4 - 1).toNatClampNeg) ((ia_i h 429 ((x4 - 1).toNatClampNeg)) + 1))
          refine ia_fg hK (lv' := [some (.inr (.inr 417)), none, some (.inl x2), none, some (.inl (x4 + (-1))), none, none, none]) ⟨rfl, rfl, rfl, trivial⟩ ?_
          exact ih (x4 + (-1)) (ia_wI h 429 ((x4 - 1).toNatClampNeg) ((ia_i h 429 ((x4 - 1).toNatClampNeg)) + 1)) (gd_wI hg (kx_100 (ka_12_29 pk_417))) hm
        · replace hm := ia_ifn hm c
          show K 89 [some (.inr (.inr 417)), none, some (.inl x2), none, some (.inl x4), some (.inl (ia_i h 428 ((x4 - 1).toNatClampNeg))), some (.inl (ia_i (ia_wI h 429 ((x4 - 1).toNatClampNeg) ((ia_i h 429 ((x4 - 1).toNatClampNeg)) + 1)) 429 ((x4 - 1).toNatClampNeg))), none] [] (ia_wI h 429 ((x4 - 1).toNatClampNeg) ((ia_i h 429 ((x4 - 1).toNatClampNeg)) + 1))
          refine ia_go hK ck_M_luckyWay_89 ⟨fun c => ?_, fun c => ?_⟩
          · replace hm := ia_ifn hm c
            show K 102 [some (.inr (.inr 417)), none, some (.inl x2), none, some (.inl x4), some (.inl (ia_i h 428 ((x4 - 1).toNatClampNeg))), some (.inl (ia_i (ia_wI h 429 ((x4 - 1).toNatClampNeg) ((ia_i h 429 ((x4 - 1).toNatClampNeg)) + 1)) 429 ((x4 - 1).toNatClampNeg))), none] [] (ia_wI h 429 ((x4 - 1).toNatClampNeg) ((ia_i h 429 ((x4 - 1).toNatClampNeg)) + 1))
            refine ia_go hK ck_M_luckyWay_102 ⟨gk_12 (gd_wI hg (kx_100 (ka_12_29 pk_417))) pk_417, ?_⟩
            show K 111 [some (.inr (.inr 417)), none, some (.inl x2), none, some (.inl x4), some (.inl (ia_i h 428 ((x4 - 1).toNatClampNeg))), some (.inl (ia_i (ia_wI h 429 ((x4 - 1).toNatClampNeg) ((ia_i h 429 ((x4 - 1).toNatClampNeg)) + 1)) 429 ((x4 - 1).toNatClampNeg))), none] [.inl (ia_i (ia_wI h 429 ((x4 - 1).toNatClampNeg) ((ia_i h 429 ((x4 - 1).toNatClampNeg)) + 1)) 429 ((x4 - 1).toNatClampNeg)), .inl (ia_i h 428 ((x4 - 1).toNatClampNeg)), .inl (ia_i (ia_wI h 429 ((x4 - 1).toNatClampNeg) ((ia_i h 429 ((x4 - 1).toNatClampNeg)) + 1)) 417 14), .inr (.inr 417)] (ia_wI h 429 ((x4 - 1).toNatClampNeg) ((ia_i h 429 ((x4 - 1).toNatClampNeg)) + 1))
            obtain ⟨v6, hv6, hm⟩ := ia_bnd hm
            have ev6 := t_M_beside (d + 5) (gd_wI hg (kx_100 (ka_12_29 pk_417))) hv6
            refine ia_cV hK mk_M_beside lk_12_186 dc_M_luckyWay_111 417 [.inl (ia_i (ia_wI h 429 ((x4 - 1).toNatClampNeg) ((ia_i h 429 ((x4 - 1).toNatClampNeg)) + 1)) 417 14), .inl (ia_i h 428 ((x4 - 1).toNatClampNeg)), .inl (ia_i (ia_wI h 429 ((x4 - 1).toNatClampNeg) ((ia_i h 429 ((x4 - 1).toNatClampNeg)) + 1)) 429 ((x4 - 1).toNatClampNeg))] [] rfl rfl (Nat.le_of_ble_eq_true rfl) (by decide) rfl (gk_12 (gd_wI hg (kx_100 (ka_12_29 pk_417))) pk_417) ev6 ⟨rfl, rfl⟩ ?_
            show K 114 [some (.inr (.inr 417)), none, some (.inl x2), none, some (.inl x4), some (.inl (ia_i h 428 ((x4 - 1).toNatClampNeg))), some (.inl (ia_i (ia_wI h 429 ((x4 - 1).toNatClampNeg) ((ia_i h 429 ((x4 - 1).toNatClampNeg)) + 1)) 429 ((x4 - 1).toNatClampNeg))), none] [.inl v6] (ia_wI h 429 ((x4 - 1).toNatClampNeg) ((ia_i h 429 ((x4 - 1).toNatClampNeg)) + 1))
            refine ia_go hK ck_M_luckyWay_114 ⟨fun c => ?_, fun c => ?_⟩
            · replace hm := ia_ifp hm c
              show K 37 [some (.inr (.inr 417)), none, some (.inl x2), none, some (.inl x4), some (.inl (ia_i h 428 ((x4 - 1).toNatClampNeg))), some (.inl (ia_i (ia_wI h 429 ((x4 - 1).toNatClampNeg) ((ia_i h 429 ((x4 - 1).toNatClampNeg)) + 1)) 429 ((x4 - 1).toNatClampNeg))), some (.inl v6)] [] (ia_wI h 429 ((x4 - 1).toNatClampNeg) ((ia_i h 429 ((x4 - 1).toNatClampNeg)) + 1))
              refine ia_fg hK (lv' := [some (.inr (.inr 417)), none, some (.inl x2), none, some (.inl x4), none, none, none]) ⟨rfl, rfl, rfl, trivial⟩ ?_
              exact ih x4 (ia_wI h 429 ((x4 - 1).toNatClampNeg) ((ia_i h 429 ((x4 - 1).toNatClampNeg)) + 1)) (gd_wI hg (kx_100 (ka_12_29 pk_417))) hm
            · replace hm := ia_ifn hm c
              show K 121 [some (.inr (.inr 417)), none, some (.inl x2), none, some (.inl x4), some (.inl (ia_i h 428 ((x4 - 1).toNatClampNeg))), some (.inl (ia_i (ia_wI h 429 ((x4 - 1).toNatClampNeg) ((ia_i h 429 ((x4 - 1).toNatClampNeg)) + 1)) 429 ((x4 - 1).toNatClampNeg))), some (.inl v6)] [] (ia_wI h 429 ((x4 - 1).toNatClampNeg) ((ia_i h 429 ((x4 - 1).toNatClampNeg)) + 1))
              obtain ⟨c7, hm⟩ := ia_gd_some hm
              refine ia_go hK ck_M_luckyWay_121 ⟨gk_12 (gd_wI hg (kx_100 (ka_12_29 pk_417))) pk_417, gr_12_25 (gd_wI hg (kx_100 (ka_12_29 pk_417))) pk_417, ga_s101 (gd_wI hg (kx_100 (ka_12_29 pk_417))) (ka_12_25 pk_417) c7, fun c => ?_, fun c => ?_⟩
              · replace hm := ia_ifp hm c
                show K 37 [some (.inr (.inr 417)), none, some (.inl x2), none, some (.inl x4), some (.inl (ia_i h 428 ((x4 - 1).toNatClampNeg))), some (.inl (ia_i (ia_wI h 429 ((x4 - 1).toNatClampNeg) ((ia_i h 429 ((x4 - 1).toNatClampNeg)) + 1)) 429 ((x4 - 1).toNatClampNeg))), some (.inl v6)] [] (ia_wI h 429 ((x4 - 1).toNatClampNeg) ((ia_i h 429 ((x4 - 1).toNatClampNeg)) + 1))
                refine ia_fg hK (lv' := [some (.inr (.inr 417)), none, some (.inl x2), none, some (.inl x4), none, none, none]) ⟨rfl, rfl, rfl, trivial⟩ ?_
                exact ih x4 (ia_wI h 429 ((x4 - 1).toNatClampNeg) ((ia_i h 429 ((x4 - 1).toNatClampNeg)) + 1)) (gd_wI hg (kx_100 (ka_12_29 pk_417))) hm
              · replace hm := ia_ifn hm c
                show K 131 [some (.inr (.inr 417)), none, some (.inl x2), none, some (.inl x4), some (.inl (ia_i h 428 ((x4 - 1).toNatClampNeg))), some (.inl (ia_i (ia_wI h 429 ((x4 - 1).toNatClampNeg) ((ia_i h 429 ((x4 - 1).toNatClampNeg)) + 1)) 429 ((x4 - 1).toNatClampNeg))), some (.inl v6)] [] (ia_wI h 429 ((x4 - 1).toNatClampNeg) ((ia_i h 429 ((x4 - 1).toNatClampNeg)) + 1))
                refine ia_go hK ck_M_luckyWay_131 ?_
                show K 136 [some (.inr (.inr 417)), none, some (.inl x2), none, some (.inl x4), some (.inl (ia_i h 428 ((x4 - 1).toNatClampNeg))), some (.inl (ia_i (ia_wI h 429 ((x4 - 1).toNatClampNeg) ((ia_i h 429 ((x4 - 1).toNatClampNeg)) + 1)) 429 ((x4 - 1).toNatClampNeg))), some (.inl v6)] [.inl v6, .inl (ia_i h 428 ((x4 - 1).toNatClampNeg)), .inr (.inr 417)] (ia_wI h 429 ((x4 - 1).toNatClampNeg) ((ia_i h 429 ((x4 - 1).toNatClampNeg)) + 1))
                obtain ⟨v8, hv8, hm⟩ := ia_bnd hm
                have ev8 := t_M_against (d + 5) (gd_wI hg (kx_100 (ka_12_29 pk_417))) hv8
                refine ia_cV hK mk_M_against lk_12_259 dc_M_luckyWay_136 417 [.inl (ia_i h 428 ((x4 - 1).toNatClampNeg)), .inl v6] [] rfl rfl (Nat.le_of_ble_eq_true rfl) (by decide) rfl (gk_12 (gd_wI hg (kx_100 (ka_12_29 pk_417))) pk_417) ev8 ⟨rfl, rfl⟩ ?_
                show K 139 [some (.inr (.inr 417)), none, some (.inl x2), none, some (.inl x4), some (.inl (ia_i h 428 ((x4 - 1).toNatClampNeg))), some (.inl (ia_i (ia_wI h 429 ((x4 - 1).toNatClampNeg) ((ia_i h 429 ((x4 - 1).toNatClampNeg)) + 1)) 429 ((x4 - 1).toNatClampNeg))), some (.inl v6)] [.inl v8] (ia_wI h 429 ((x4 - 1).toNatClampNeg) ((ia_i h 429 ((x4 - 1).toNatClampNeg)) + 1))
                refine ia_go hK ck_M_luckyWay_139 ⟨fun c => ?_, fun c => ?_⟩
                · replace hm := ia_ifp hm c
                  show K 37 [some (.inr (.inr 417)), none, some (.inl x2), none, some (.inl x4), some (.inl (ia_i h 428 ((x4 - 1).toNatClampNeg))), some (.inl (ia_i (ia_wI h 429 ((x4 - 1).toNatClampNeg) ((ia_i h 429 ((x4 - 1).toNatClampNeg)) + 1)) 429 ((x4 - 1).toNatClampNeg))), some (.inl v6)] [] (ia_wI h 429 ((x4 - 1).toNatClampNeg) ((ia_i h 429 ((x4 - 1).toNatClampNeg)) + 1))
                  refine ia_fg hK (lv' := [some (.inr (.inr 417)), none, some (.inl x2), none, some (.inl x4), none, none, none]) ⟨rfl, rfl, rfl, trivial⟩ ?_
                  exact ih x4 (ia_wI h 429 ((x4 - 1).toNatClampNeg) ((ia_i h 429 ((x4 - 1).toNatClampNeg)) + 1)) (gd_wI hg (kx_100 (ka_12_29 pk_417))) hm
                · replace hm := ia_ifn hm c
                  show K 142 [some (.inr (.inr 417)), none, some (.inl x2), none, some (.inl x4), some (.inl (ia_i h 428 ((x4 - 1).toNatClampNeg))), some (.inl (ia_i (ia_wI h 429 ((x4 - 1).toNatClampNeg) ((ia_i h 429 ((x4 - 1).toNatClampNeg)) + 1)) 429 ((x4 - 1).toNatClampNeg))), some (.inl v6)] [] (ia_wI h 429 ((x4 - 1).toNatClampNeg) ((ia_i h 429 ((x4 - 1).toNatClampNeg)) + 1))
                  refine ia_go hK ck_M_luckyWay_142 ?_
                  show K 147 [some (.inr (.inr 417)), none, some (.inl x2), none, some (.inl x4), some (.inl (ia_i h 428 ((x4 - 1).toNatClampNeg))), some (.inl (ia_i (ia_wI h 429 ((x4 - 1).toNatClampNeg) ((ia_i h 429 ((x4 - 1).toNatClampNeg)) + 1)) 429 ((x4 - 1).toNatClampNeg))), some (.inl v6)] [.inl x4, .inl v6, .inr (.inr 417)] (ia_wI h 429 ((x4 - 1).toNatClampNeg) ((ia_i h 429 ((x4 - 1).toNatClampNeg)) + 1))
                  obtain ⟨v9, hv9, hm⟩ := ia_bnd hm
                  have ev9 := t_M_isOn (d + 5) (gd_wI hg (kx_100 (ka_12_29 pk_417))) hv9
                  refine ia_cV hK mk_M_isOn lk_12_340 dc_M_luckyWay_147 417 [.inl v6, .inl x4] [] rfl rfl (Nat.le_of_ble_eq_true rfl) (by decide) rfl (gk_12 (gd_wI hg (kx_100 (ka_12_29 pk_417))) pk_417) ev9 ⟨rfl, rfl⟩ ?_
                  show K 150 [some (.inr (.inr 417)), none, some (.inl x2), none, some (.inl x4), some (.inl (ia_i h 428 ((x4 - 1).toNatClampNeg))), some (.inl (ia_i (ia_wI h 429 ((x4 - 1).toNatClampNeg) ((ia_i h 429 ((x4 - 1).toNatClampNeg)) + 1)) 429 ((x4 - 1).toNatClampNeg))), some (.inl v6)] [.inl v9] (ia_wI h 429 ((x4 - 1).toNatClampNeg) ((ia_i h 429 ((x4 - 1).toNatClampNeg)) + 1))
                  refine ia_go hK ck_M_luckyWay_150 ⟨fun c => ?_, fun c => ?_⟩
                  · replace hm := ia_ifp hm c
                    show K 156 [some (.inr (.inr 417)), none, some (.inl x2), none, some (.inl x4), some (.inl (ia_i h 428 ((x4 - 1).toNatClampNeg))), some (.inl (ia_i (ia_wI h 429 ((x4 - 1).toNatClampNeg) ((ia_i h 429 ((x4 - 1).toNatClampNeg)) + 1)) 429 ((x4 - 1).toNatClampNeg))), some (.inl v6)] [] (ia_wI h 429 ((x4 - 1).toNatClampNeg) ((ia_i h 429 ((x4 - 1).toNatClampNeg)) + 1))
                    obtain ⟨c10, hm⟩ := ia_gd_some hm
                    obtain ⟨c11, hm⟩ := ia_gd_some hm
                    refine ia_go hK ck_M_luckyWay_156 ⟨gk_12 (gd_wI hg (kx_100 (ka_12_29 pk_417))) pk_417, gr_12_28 (gd_wI hg (kx_100 (ka_12_29 pk_417))) pk_417, ga_s100 (gd_wI hg (kx_100 (ka_12_29 pk_417))) (ka_12_28 pk_417) c10, gk_12 (gd_wI (gd_wI hg (kx_100 (ka_12_29 pk_417))) (kx_100 (ka_12_28 pk_417))) pk_417, gr_12_29 (gd_wI (gd_wI hg (kx_100 (ka_12_29 pk_417))) (kx_100 (ka_12_28 pk_417))) pk_417, ga_s100 (gd_wI (gd_wI hg (kx_100 (ka_12_29 pk_417))) (kx_100 (ka_12_28 pk_417))) (ka_12_29 pk_417) c11, fun c => ?_, fun c => ?_⟩
                    · replace hm := ia_ifn hm c
                      show K 188 [some (.inr (.inr 417)), none, some (.inl x2), none, some (.inl (x4 + 1)), some (.inl (ia_i h 428 ((x4 - 1).toNatClampNeg))), some (.inl (ia_i (ia_wI h 429 ((x4 - 1).toNatClampNeg) ((ia_i h 429 ((x4 - 1).toNatClampNeg)) + 1)) 429 ((x4 - 1).toNatClampNeg))), some (.inl v6)] [] (ia_wI (ia_wI (ia_wI h 429 ((x4 - 1).toNatClampNeg) ((ia_i h 429 ((x4 - 1).toNatClampNeg)) + 1)) 428 ((x4).toNatClampNeg) v6) 429 ((x4).toNatClampNeg) (-1))
                      refine ia_go hK ck_M_luckyWay_188 ?_
                      show K 37 [some (.inr (.inr 417)), none, some (.inl x2), none, some (.inl (x4 + 1)), some (.inl (ia_i h 428 ((x4 - 1).toNatClampNeg))), some (.inl (ia_i (ia_wI h 429 ((x4 - 1).toNatClampNeg) ((ia_i h 429 ((x4 - 1).toNatClampNeg)) + 1)) 429 ((x4 - 1).toNatClampNeg))), some (.inl v6)] [] (ia_wI (ia_wI (ia_wI h 429 ((x4 - 1).toNatClampNeg) ((ia_i h 429 ((x4 - 1).toNatClampNeg)) + 1)) 428 ((x4).toNatClampNeg) v6) 429 ((x4).toNatClampNeg) (-1))
                      refine ia_fg hK (lv' := [some (.inr (.inr 417)), none, some (.inl x2), none, some (.inl (x4 + 1)), none, none, none]) ⟨rfl, rfl, rfl, trivial⟩ ?_
                      exact ih (x4 + 1) (ia_wI (ia_wI (ia_wI h 429 ((x4 - 1).toNatClampNeg) ((ia_i h 429 ((x4 - 1).toNatClampNeg)) + 1)) 428 ((x4).toNatClampNeg) v6) 429 ((x4).toNatClampNeg) (-1)) (gd_wI (gd_wI (gd_wI hg (kx_100 (ka_12_29 pk_417))) (kx_100 (ka_12_28 pk_417))) (kx_100 (ka_12_29 pk_417))) hm
                    · replace hm := ia_ifp hm c
                      show K 182 [some (.inr (.inr 417)), none, some (.inl x2), none, some (.inl (x4 + 1)), some (.inl (ia_i h 428 ((x4 - 1).toNatClampNeg))), some (.inl (ia_i (ia_wI h 429 ((x4 - 1).toNatClampNeg) ((ia_i h 429 ((x4 - 1).toNatClampNeg)) + 1)) 429 ((x4 - 1).toNatClampNeg))), some (.inl v6)] [] (ia_wI (ia_wI (ia_wI h 429 ((x4 - 1).toNatClampNeg) ((ia_i h 429 ((x4 - 1).toNatClampNeg)) + 1)) 428 ((x4).toNatClampNeg) v6) 429 ((x4).toNatClampNeg) (-1))
                      refine ia_go hK ck_M_luckyWay_182 ?_
                      show K 185 [some (.inr (.inr 417)), none, some (.inl x2), none, some (.inl (x4 + 1)), some (.inl (ia_i h 428 ((x4 - 1).toNatClampNeg))), some (.inl (ia_i (ia_wI h 429 ((x4 - 1).toNatClampNeg) ((ia_i h 429 ((x4 - 1).toNatClampNeg)) + 1)) 429 ((x4 - 1).toNatClampNeg))), some (.inl v6)] [.inl (x4 + 1), .inr (.inr 417)] (ia_wI (ia_wI (ia_wI h 429 ((x4 - 1).toNatClampNeg) ((ia_i h 429 ((x4 - 1).toNatClampNeg)) + 1)) 428 ((x4).toNatClampNeg) v6) 429 ((x4).toNatClampNeg) (-1))
                      obtain ⟨v12, hv12, hm⟩ := ia_bnd hm
                      have ev12 := t_M_keepsLuck (d + 4) (gd_wI (gd_wI (gd_wI hg (kx_100 (ka_12_29 pk_417))) (kx_100 (ka_12_28 pk_417))) (kx_100 (ka_12_29 pk_417))) hv12
                      have gv12 := g_M_keepsLuck (gd_wI (gd_wI (gd_wI hg (kx_100 (ka_12_29 pk_417))) (kx_100 (ka_12_28 pk_417))) (kx_100 (ka_12_29 pk_417))) hv12
                      refine ia_cV hK mk_M_keepsLuck lk_12_343 dc_M_luckyWay_185 417 [.inl (x4 + 1)] [] rfl rfl (Nat.le_of_ble_eq_true rfl) (by decide) rfl (gk_12 (gd_wI (gd_wI (gd_wI hg (kx_100 (ka_12_29 pk_417))) (kx_100 (ka_12_28 pk_417))) (kx_100 (ka_12_29 pk_417))) pk_417) ev12 (gd_nm (gd_wI (gd_wI (gd_wI hg (kx_100 (ka_12_29 pk_417))) (kx_100 (ka_12_28 pk_417))) (kx_100 (ka_12_29 pk_417))) gv12) ?_
                      show K 188 [some (.inr (.inr 417)), none, some (.inl x2), none, some (.inl (x4 + 1)), some (.inl (ia_i h 428 ((x4 - 1).toNatClampNeg))), some (.inl (ia_i (ia_wI h 429 ((x4 - 1).toNatClampNeg) ((ia_i h 429 ((x4 - 1).toNatClampNeg)) + 1)) 429 ((x4 - 1).toNatClampNeg))), some (.inl v6)] [] v12
                      refine ia_go hK ck_M_luckyWay_188 ?_
                      show K 37 [some (.inr (.inr 417)), none, some (.inl x2), none, some (.inl (x4 + 1)), some (.inl (ia_i h 428 ((x4 - 1).toNatClampNeg))), some (.inl (ia_i (ia_wI h 429 ((x4 - 1).toNatClampNeg) ((ia_i h 429 ((x4 - 1).toNatClampNeg)) + 1)) 429 ((x4 - 1).toNatClampNeg))), some (.inl v6)] [] v12
                      refine ia_fg hK (lv' := [some (.inr (.inr 417)), none, some (.inl x2), none, some (.inl (x4 + 1)), none, none, none]) ⟨rfl, rfl, rfl, trivial⟩ ?_
                      exact ih (x4 + 1) v12 gv12 hm
                  · replace hm := ia_ifn hm c
                    show K 153 [some (.inr (.inr 417)), none, some (.inl x2), none, some (.inl x4), some (.inl (ia_i h 428 ((x4 - 1).toNatClampNeg))), some (.inl (ia_i (ia_wI h 429 ((x4 - 1).toNatClampNeg) ((ia_i h 429 ((x4 - 1).toNatClampNeg)) + 1)) 429 ((x4 - 1).toNatClampNeg))), some (.inl v6)] [] (ia_wI h 429 ((x4 - 1).toNatClampNeg) ((ia_i h 429 ((x4 - 1).toNatClampNeg)) + 1))
                    refine ia_go hK ck_M_luckyWay_153 ?_
                    show K 37 [some (.inr (.inr 417)), none, some (.inl x2), none, some (.inl x4), some (.inl (ia_i h 428 ((x4 - 1).toNatClampNeg))), some (.inl (ia_i (ia_wI h 429 ((x4 - 1).toNatClampNeg) ((ia_i h 429 ((x4 - 1).toNatClampNeg)) + 1)) 429 ((x4 - 1).toNatClampNeg))), some (.inl v6)] [] (ia_wI h 429 ((x4 - 1).toNatClampNeg) ((ia_i h 429 ((x4 - 1).toNatClampNeg)) + 1))
                    refine ia_fg hK (lv' := [some (.inr (.inr 417)), none, some (.inl x2), none, some (.inl x4), none, none, none]) ⟨rfl, rfl, rfl, trivial⟩ ?_
                    exact ih x4 (ia_wI h 429 ((x4 - 1).toNatClampNeg) ((ia_i h 429 ((x4 - 1).toNatClampNeg)) + 1)) (gd_wI hg (kx_100 (ka_12_29 pk_417))) hm
          · replace hm := ia_ifp hm c
            show K 96 [some (.inr (.inr 417)), none, some (.inl x2), none, some (.inl x4), some (.inl (ia_i h 428 ((x4 - 1).toNatClampNeg))), some (.inl (ia_i (ia_wI h 429 ((x4 - 1).toNatClampNeg) ((ia_i h 429 ((x4 - 1).toNatClampNeg)) + 1)) 429 ((x4 - 1).toNatClampNeg))), none] [] (ia_wI h 429 ((x4 - 1).toNatClampNeg) ((ia_i h 429 ((x4 - 1).toNatClampNeg)) + 1))
            refine ia_go hK ck_M_luckyWay_96 ?_
            show K 37 [some (.inr (.inr 417)), none, some (.inl x2), none, some (.inl (x4 + (-1))), some (.inl (ia_i h 428 ((x4 - 1).toNatClampNeg))), some (.inl (ia_i (ia_wI h 429 ((x4 - 1).toNatClampNeg) ((ia_i h 429 ((x4 - 1).toNatClampNeg)) + 1)) 429 ((x4 - 1).toNatClampNeg))), none] [] (ia_wI h 429 ((x4 - 1).toNatClampNeg) ((ia_i h 429 ((x4 - 1).toNatClampNeg)) + 1))
            refine ia_fg hK (lv' := [some (.inr (.inr 417)), none, some (.inl x2), none, some (.inl (x4 + (-1))), none, none, none]) ⟨rfl, rfl, rfl, trivial⟩ ?_
            exact ih (x4 + (-1)) (ia_wI h 429 ((x4 - 1).toNatClampNeg) ((ia_i h 429 ((x4 - 1).toNatClampNeg)) + 1)) (gd_wI hg (kx_100 (ka_12_29 pk_417))) hm
theorem gl_M_luckyWay_37 {w : ia_O0} {x1 : Int32} {x2 : Int32} {x3 : Int32} {h1 : ia_H} {k191 : ia_H → Option ia_H} (hk191 : ∀ (h : ia_H), gd_ w h → k191 h = some h1 → gd_ w h1) : ∀ (n : Nat) (x4 : Int32) (h : ia_H), gd_ w h → l_M_luckyWay_37 x1 x2 x3 k191 n x4 h = some h1 → gd_ w h1 := by
  intro n
  induction n with
  | zero =>
    intro x4 h hg hm
    cases (show (none : Option ia_H) = some _ from hm)
  | succ n ih =>
    intro x4 h hg hm
    rw [l_M_luckyWay_37] at hm
    by_cases c : x4 ≤ 0
    · replace hm := ia_ifp hm c
      exact hk191 h hg hm
    · replace hm := ia_ifn hm c
      obtain ⟨c2, hm⟩ := ia_gd_some hm
      obtain ⟨c3, hm⟩ := ia_gd_some hm
      obtain ⟨c4, hm⟩ := ia_gd_some hm
      obtain ⟨c5, hm⟩ := ia_gd_some hm
      by_cases c : 3 < (ia_i (ia_wI h 429 ((x4 - 1).toNatClampNeg) ((ia_i h 429 ((x4 - 1).toNatClampNeg)) + 1)) 429 ((x4 - 1).toNatClampNeg))
      · replace hm := ia_ifp hm c
        exact ih (x4 + (-1)) (ia_wI h 429 ((x4 - 1).toNatClampNeg) ((ia_i h 429 ((x4 - 1).toNatClampNeg)) + 1)) (gd_wI hg (kx_100 (ka_12_29 pk_417))) hm
      · replace hm := ia_ifn hm c
        by_cases c : (ia_i h 428 ((x4 - 1).toNatClampNeg)) = x2
        · replace hm := ia_ifp hm c
          exact ih (x4 + (-1)) (ia_wI h 429 ((x4 - 1).toNatClampNeg) ((ia_i h 429 ((x4 - 1).toNatClampNeg)) + 1)) (gd_wI hg (kx_100 (ka_12_29 pk_417))) hm
        · replace hm := ia_ifn hm c
          by_cases c : x4 = 8
          · replace hm := ia_ifp hm c
            exact ih (x4 + (-1)) (ia_wI h 429 ((x4 - 1).toNatClampNeg) ((ia_i h 429 ((x4 - 1).toNatClampNeg)) + 1)) (gd_wI hg (kx_100 (ka_12_29 pk_417))) hm
          · replace hm := ia_ifn hm c
            obtain ⟨v6, hv6, hm⟩ := ia_bnd hm
            by_cases c : v6 < 0
            · replace hm := ia_ifp hm c
              exact ih x4 (ia_wI h 429 ((x4 - 1).toNatClampNeg) ((ia_i h 429 ((x4 - 1).toNatClampNeg)) + 1)) (gd_wI hg (kx_100 (ka_12_29 pk_417))) hm
            · replace hm := ia_ifn hm c
              obtain ⟨c7, hm⟩ := ia_gd_some hm
              by_cases c : (ia_i (ia_wI h 429 ((x4 - 1).toNatClampNeg) ((ia_i h 429 ((x4 - 1).toNatClampNeg)) + 1)) 426 ((v6).toNatClampNeg)) = 0
              · replace hm := ia_ifp hm c
                exact ih x4 (ia_wI h 429 ((x4 - 1).toNatClampNeg) ((ia_i h 429 ((x4 - 1).toNatClampNeg)) + 1)) (gd_wI hg (kx_100 (ka_12_29 pk_417))) hm
              · replace hm := ia_ifn hm c
                obtain ⟨v8, hv8, hm⟩ := ia_bnd hm
                by_cases c : 0 < v8
                · replace hm := ia_ifp hm c
                  exact ih x4 (ia_wI h 429 ((x4 - 1).toNatClampNeg) ((ia_i h 429 ((x4 - 1).toNatClampNeg)) + 1)) (gd_wI hg (kx_100 (ka_12_29 pk_417))) hm
                · replace hm := ia_ifn hm c
                  obtain ⟨v9, hv9, hm⟩ := ia_bnd hm
                  by_cases c : v9 = 0
                  · replace hm := ia_ifp hm c
                    obtain ⟨c10, hm⟩ := ia_gd_some hm
                    obtain ⟨c11, hm⟩ := ia_gd_some hm
                    by_cases c : v6 = x2
                    · replace hm := ia_ifp hm c
                      obtain ⟨v12, hv12, hm⟩ := ia_bnd hm
                      have gv12 := g_M_keepsLuck (gd_wI (gd_wI (gd_wI hg (kx_100 (ka_12_29 pk_417))) (kx_100 (ka_12_28 pk_417))) (kx_100 (ka_12_29 pk_417))) hv12
                      exact ih (x4 + 1) v12 gv12 hm
                    · replace hm := ia_ifn hm c
                      exact ih (x4 + 1) (ia_wI (ia_wI (ia_wI h 429 ((x4 - 1).toNatClampNeg) ((ia_i h 429 ((x4 - 1).toNatClampNeg)) + 1)) 428 ((x4).toNatClampNeg) v6) 429 ((x4).toNatClampNeg) (-1)) (gd_wI (gd_wI (gd_wI hg (kx_100 (ka_12_29 pk_417))) (kx_100 (ka_12_28 pk_417))) (kx_100 (ka_12_29 pk_417))) hm
                  · replace hm := ia_ifn hm c
                    exact ih x4 (ia_wI h 429 ((x4 - 1).toNatClampNeg) ((ia_i h 429 ((x4 - 1).toNatClampNeg)) + 1)) (gd_wI hg (kx_100 (ka_12_29 pk_417))) hm
def f_M_luckyWay (x1 : Int32) (x2 : Int32) (x3 : Int32) (h : ia_H) : Option ia_H := (f_M_measures x2 x3 (-1) 0 h).bind fun v1 => (l_M_luckyWay_37 x1 x2 x3 (fun h => some h) fu_ 1 (ia_wI (ia_wI (ia_wL (ia_wI v1 417 27 0) 417 30 (-1)) 428 0 x1) 429 0 (-1)))
theorem g_M_luckyWay {w : ia_O0} {x1 : Int32} {x2 : Int32} {x3 : Int32} {h : ia_H} (hg : gd_ w h) {q : ia_H} (hm : f_M_luckyWay x1 x2 x3 h = some q) : gd_ w q := by
  obtain ⟨h1, e1⟩ : ∃ x, x = q := ⟨_, rfl⟩
  subst e1
  unfold f_M_luckyWay at hm
  obtain ⟨v1, hv1, hm⟩ := ia_bnd hm
  have gv1 := g_M_measures hg hv1
  refine gl_M_luckyWay_37 ?_ fu_ 1 (ia_wI (ia_wI (ia_wL (ia_wI v1 417 27 0) 417 30 (-1)) 428 0 x1) 429 0 (-1)) (gd_wI (gd_wI (gd_wL (gd_wI gv1 (ko_12 pk_417))) (kx_100 (ka_12_28 pk_417))) (kx_100 (ka_12_29 pk_417))) hm
  · intro h hg hm
    obtain rfl := Option.some.inj hm
    exact hg
theorem t_M_luckyWay {w : ia_O0} (d : Nat) {x1 : Int32} {x2 : Int32} {x3 : Int32} {h : ia_H} (hg : gd_ w h) {q : ia_H} (hm : f_M_luckyWay x1 x2 x3 h = some q) : ia_Ev (d + 6) mm_M_luckyWay [.inr (.inr 417), .inl x1, .inl x2, .inl x3] h none q := by
  have gq := g_M_luckyWay hg hm
  refine ia_Ev_intro ok_M_luckyWay (gd_le hg gq).1 (gd_le hg gq).2 (Nat.le_of_ble_eq_true rfl) (fun K hK hret => ?_)
  obtain ⟨h1, e1⟩ : ∃ x, x = q := ⟨_, rfl⟩
  subst e1
  show K 0 [some (.inr (.inr 417)), some (.inl x1), some (.inl x2), some (.inl x3), none, none, none, none] [] h
  unfold f_M_luckyWay at hm
  refine ia_go hK ck_M_luckyWay_0 ?_
  show K 5 [some (.inr (.inr 417)), some (.inl x1), some (.inl x2), some (.inl x3), none, none, none, none] [.inl 0, .inl (-1), .inl x3, .inl x2, .inr (.inr 417)] h
  obtain ⟨v1, hv1, hm⟩ := ia_bnd hm
  have ev1 := t_M_measures (d + 0) hg hv1
  have gv1 := g_M_measures hg hv1
  refine ia_cV hK mk_M_measures lk_12_262 dc_M_luckyWay_5 417 [.inl x2, .inl x3, .inl (-1), .inl 0] [] rfl rfl (Nat.le_of_ble_eq_true rfl) (by decide) rfl (gk_12 hg pk_417) ev1 (gd_nm hg gv1) ?_
  show K 8 [some (.inr (.inr 417)), some (.inl x1), some (.inl x2), some (.inl x3), none, none, none, none] [] v1
  refine ia_go hK ck_M_luckyWay_8 ⟨gk_12 gv1 pk_417, ?_⟩
  show K 14 [some (.inr (.inr 417)), some (.inl x1), some (.inl x2), some (.inl x3), none, none, none, none] [.inr (.inr 417)] (ia_wI v1 417 27 0)
  refine ia_ldc2 hK (v := (-1)) (ia_tb_in (List.mem_of_getElem? (i := 2043) (by decide +kernel)) rfl) dc_M_luckyWay_14 ?_
  show K 17 [some (.inr (.inr 417)), some (.inl x1), some (.inl x2), some (.inl x3), none, none, none, none] [.inr (.inl (-1)), .inr (.inr 417)] (ia_wI v1 417 27 0)
  refine ia_go hK ck_M_luckyWay_17 ⟨gk_12 (gd_wI gv1 (ko_12 pk_417)) pk_417, gk_12 (gd_wL (gd_wI gv1 (ko_12 pk_417))) pk_417, gr_12_28 (gd_wL (gd_wI gv1 (ko_12 pk_417))) pk_417, ga_s100 (gd_wL (gd_wI gv1 (ko_12 pk_417))) (ka_12_28 pk_417) (by decide), gk_12 (gd_wI (gd_wL (gd_wI gv1 (ko_12 pk_417))) (kx_100 (ka_12_28 pk_417))) pk_417, gr_12_29 (gd_wI (gd_wL (gd_wI gv1 (ko_12 pk_417))) (kx_100 (ka_12_28 pk_417))) pk_417, ga_s100 (gd_wI (gd_wL (gd_wI gv1 (ko_12 pk_417))) (kx_100 (ka_12_28 pk_417))) (ka_12_29 pk_417) (by decide), ?_⟩
  show K 37 [some (.inr (.inr 417)), some (.inl x1), some (.inl x2), some (.inl x3), some (.inl 1), none, none, none] [] (ia_wI (ia_wI (ia_wL (ia_wI v1 417 27 0) 417 30 (-1)) 428 0 x1) 429 0 (-1))
  refine ia_fg hK (lv' := [some (.inr (.inr 417)), none, some (.inl x2), none, some (.inl 1), none, none, none]) ⟨rfl, rfl, rfl, trivial⟩ ?_
  refine tl_M_luckyWay_37 hK hret ?_ fu_ 1 (ia_wI (ia_wI (ia_wL (ia_wI v1 417 27 0) 417 30 (-1)) 428 0 x1) 429 0 (-1)) (gd_wI (gd_wI (gd_wL (gd_wI gv1 (ko_12 pk_417))) (kx_100 (ka_12_28 pk_417))) (kx_100 (ka_12_29 pk_417))) hm
  · intro h hg hm
    obtain rfl := Option.some.inj hm
    exact hret 191 _ dc_M_luckyWay_191
def mm_M_way : ia_M := (⟨"IceStreetModel", "way", "(IIIIIIIII)I"⟩, prog_14_method_87_code, 13, (some .int), 12, false)
theorem ok_M_way : ia_mok mm_M_way := ⟨by decide +kernel, by decide +kernel, by decide +kernel, by decide +kernel⟩
theorem mk_M_way : ia_mkn mm_M_way 1 9 := ⟨ia_tb_in (List.mem_of_getElem? (i := 2035) (by decide +kernel)) rfl, ia_tb_in (List.mem_of_getElem? (i := 146) (by decide +kernel)) rfl, by decide +kernel, by decide +kernel, ⟨ia_tb_in (List.mem_of_getElem? (i := 2033) (by decide +kernel)) rfl, ia_tb_in (List.mem_of_getElem? (i := 2034) (by decide +kernel)) rfl⟩⟩
theorem ck_M_way_0 : ia_cks 12 13 false prog_14_method_87_code 0 [(.iload 5, 0, 0, 0, 0)] = true := by decide +kernel
theorem ck_M_way_5 : ia_cks 12 13 false prog_14_method_87_code 5 [(.ifCond .eq 29, 0, 0, 0, 0)] = true := by decide +kernel
theorem ck_M_way_34 : ia_cks 12 13 false prog_14_method_87_code 34 [(.iconst (-1), 0, 0, 0, 0)] = true := by decide +kernel
theorem ck_M_way_8 : ia_cks 12 13 false prog_14_method_87_code 8 [(.iload 8, 0, 0, 0, 0), (.iconst 0, 0, 0, 0, 0), (.iconst 2, 0, 0, 0, 0)] = true := by decide +kernel
theorem ck_M_way_15 : ia_cks 12 13 false prog_14_method_87_code 15 [(.ifCond .eq 19, 0, 0, 0, 0)] = true := by decide +kernel
theorem ck_M_way_18 : ia_cks 12 13 false prog_14_method_87_code 18 [(.aload_n 0, 0, 0, 0, 0), (.iload_n 1, 0, 0, 0, 0), (.iload_n 2, 0, 0, 0, 0), (.iload_n 3, 0, 0, 0, 0), (.iload 4, 0, 0, 0, 0), (.iload 6, 0, 0, 0, 0), (.iload 7, 0, 0, 0, 0)] = true := by decide +kernel
theorem ck_M_way_31 : ia_cks 12 13 false prog_14_method_87_code 31 [(.ifCond .ne 5, 0, 0, 0, 0)] = true := by decide +kernel
theorem ck_M_way_36 : ia_cks 12 13 false prog_14_method_87_code 36 [(.iconst 0, 0, 0, 0, 0), (.istore 10, 0, 0, 0, 0), (.iload 8, 0, 0, 0, 0), (.iconst 2, 0, 0, 0, 0), (.if_icmp .ne 16, 0, 0, 0, 0)] = true := by decide +kernel
theorem ck_M_way_58 : ia_cks 12 13 false prog_14_method_87_code 58 [(.iload 8, 0, 0, 0, 0), (.iconst 1, 0, 0, 0, 0), (.if_icmp .ne 52, 0, 0, 0, 0)] = true := by decide +kernel
theorem ck_M_way_113 : ia_cks 12 13 false prog_14_method_87_code 113 [(.aload_n 0, 0, 0, 0, 0), (.iload 6, 0, 0, 0, 0), (.iload 7, 0, 0, 0, 0), (.iload 5, 0, 0, 0, 0)] = true := by decide +kernel
theorem ck_M_way_123 : ia_cks 12 13 false prog_14_method_87_code 123 [(.ifCond .ne 5, 0, 0, 0, 0)] = true := by decide +kernel
theorem ck_M_way_128 : ia_cks 12 13 false prog_14_method_87_code 128 [(.aload_n 0, 0, 0, 0, 0), (.getfield 266, 12, 27, 0, 0), (.ifCond .ne 5, 0, 0, 0, 0)] = true := by decide +kernel
theorem ck_M_way_137 : ia_cks 12 13 false prog_14_method_87_code 137 [(.iload 9, 0, 0, 0, 0), (.ifCond .ne 10, 0, 0, 0, 0)] = true := by decide +kernel
theorem ck_M_way_149 : ia_cks 12 13 false prog_14_method_87_code 149 [(.iload 9, 0, 0, 0, 0), (.iconst 1, 0, 0, 0, 0), (.if_icmp .ne 8, 0, 0, 0, 0)] = true := by decide +kernel
theorem ck_M_way_160 : ia_cks 12 13 false prog_14_method_87_code 160 [(.iload 9, 0, 0, 0, 0), (.bipush 10, 0, 0, 0, 0), (.bipush 9, 0, 0, 0, 0), (.aload_n 0, 0, 0, 0, 0), (.getfield 266, 12, 27, 0, 0), (.iadd, 0, 0, 0, 0)] = true := by decide +kernel
theorem ck_M_way_174 : ia_cks 12 13 false prog_14_method_87_code 174 [(.ifCond .eq 16, 0, 0, 0, 0)] = true := by decide +kernel
theorem ck_M_way_190 : ia_cks 12 13 false prog_14_method_87_code 190 [(.iconst (-1), 0, 0, 0, 0)] = true := by decide +kernel
theorem ck_M_way_177 : ia_cks 12 13 false prog_14_method_87_code 177 [(.aload_n 0, 0, 0, 0, 0), (.getfield 45, 12, 26, 3, 10), (.iload 9, 0, 0, 0, 0), (.bipush 10, 0, 0, 0, 0), (.isub, 0, 0, 0, 0), (.iaload, 0, 0, 0, 0), (.goto 4, 0, 0, 0, 0)] = true := by decide +kernel
theorem ck_M_way_155 : ia_cks 12 13 false prog_14_method_87_code 155 [(.iload 10, 0, 0, 0, 0), (.goto 34, 0, 0, 0, 0)] = true := by decide +kernel
theorem ck_M_way_142 : ia_cks 12 13 false prog_14_method_87_code 142 [(.aload_n 0, 0, 0, 0, 0), (.getfield 266, 12, 27, 0, 0), (.goto 45, 0, 0, 0, 0)] = true := by decide +kernel
theorem ck_M_way_135 : ia_cks 12 13 false prog_14_method_87_code 135 [(.iconst (-1), 0, 0, 0, 0)] = true := by decide +kernel
theorem ck_M_way_126 : ia_cks 12 13 false prog_14_method_87_code 126 [(.iconst (-1), 0, 0, 0, 0)] = true := by decide +kernel
theorem ck_M_way_64 : ia_cks 12 13 false prog_14_method_87_code 64 [(.aload_n 0, 0, 0, 0, 0), (.iload 6, 0, 0, 0, 0), (.iload 7, 0, 0, 0, 0), (.iload 5, 0, 0, 0, 0), (.iconst (-1), 0, 0, 0, 0)] = true := by decide +kernel
theorem ck_M_way_75 : ia_cks 12 13 false prog_14_method_87_code 75 [(.ifCond .eq 38, 0, 0, 0, 0)] = true := by decide +kernel
theorem ck_M_way_78 : ia_cks 12 13 false prog_14_method_87_code 78 [(.aload_n 0, 0, 0, 0, 0), (.iload 6, 0, 0, 0, 0), (.iload 7, 0, 0, 0, 0), (.sipush 20000, 0, 0, 0, 0)] = true := by decide +kernel
theorem ck_M_way_89 : ia_cks 12 13 false prog_14_method_87_code 89 [(.istore 11, 0, 0, 0, 0), (.iload 11, 0, 0, 0, 0), (.iload 5, 0, 0, 0, 0), (.isub, 0, 0, 0, 0), (.istore 10, 0, 0, 0, 0), (.aload_n 0, 0, 0, 0, 0), (.iload 6, 0, 0, 0, 0), (.iload 7, 0, 0, 0, 0), (.iload 11, 0, 0, 0, 0)] = true := by decide +kernel
theorem ck_M_way_108 : ia_cks 12 13 false prog_14_method_87_code 108 [(.istore 12, 0, 0, 0, 0), (.goto 18, 0, 0, 0, 0)] = true := by decide +kernel
theorem ck_M_way_45 : ia_cks 12 13 false prog_14_method_87_code 45 [(.aload_n 0, 0, 0, 0, 0), (.iload 6, 0, 0, 0, 0), (.iload 7, 0, 0, 0, 0), (.iload 5, 0, 0, 0, 0)] = true := by decide +kernel
theorem ck_M_way_55 : ia_cks 12 13 false prog_14_method_87_code 55 [(.goto 73, 0, 0, 0, 0)] = true := by decide +kernel
theorem dc_M_way_2 : decode prog_14_method_87_code 2 = .ok (.invokestatic 349, 3) := by decide +kernel
theorem dc_M_way_35 : decode prog_14_method_87_code 35 = .ok (.ireturn, 1) := by decide +kernel
theorem dc_M_way_12 : decode prog_14_method_87_code 12 = .ok (.invokestatic 116, 3) := by decide +kernel
theorem dc_M_way_28 : decode prog_14_method_87_code 28 = .ok (.invokevirtual 325, 3) := by decide +kernel
theorem dc_M_way_120 : decode prog_14_method_87_code 120 = .ok (.invokevirtual 287, 3) := by decide +kernel
theorem dc_M_way_171 : decode prog_14_method_87_code 171 = .ok (.invokestatic 116, 3) := by decide +kernel
theorem dc_M_way_191 : decode prog_14_method_87_code 191 = .ok (.ireturn, 1) := by decide +kernel
theorem dc_M_way_136 : decode prog_14_method_87_code 136 = .ok (.ireturn, 1) := by decide +kernel
theorem dc_M_way_127 : decode prog_14_method_87_code 127 = .ok (.ireturn, 1) := by decide +kernel
theorem dc_M_way_72 : decode prog_14_method_87_code 72 = .ok (.invokevirtual 269, 3) := by decide +kernel
theorem dc_M_way_86 : decode prog_14_method_87_code 86 = .ok (.invokevirtual 329, 3) := by decide +kernel
theorem dc_M_way_105 : decode prog_14_method_87_code 105 = .ok (.invokevirtual 287, 3) := by decide +kernel
theorem dc_M_way_52 : decode prog_14_method_87_code 52 = .ok (.invokevirtual 352, 3) := by decide +kernel
def j_M_way_128 (x1 : Int32) (x2 : Int32) (x3 : Int32) (x4 : Int32) (x5 : Int32) (x6 : Int32) (x7 : Int32) (x8 : Int32) (x9 : Int32) (x10 : Int32) (h : ia_H) : Option (Int32 × ia_H) := if (ia_i h 417 27) = 0 then (some ((-1), h)) else (if x9 = 0 then (some (ia_i h 417 27, h)) else (if x9 = 1 then (some (x10, h)) else ((f_M_isIn x9 10 (9 + (ia_i h 417 27)) h).bind fun v5 => (if v5 = 0 then (some ((-1), h)) else (ia_gd (ia_ib (x9 - 10) 36) (some (ia_i h 427 ((x9 - 10).toNatClampNeg), h)))))))
theorem tj_M_way_128 {w : ia_O0} {d N1 W1 : Nat} {K : ia_K} (hK : ia_isK (d + 12) mm_M_way N1 W1 K) {x1 : Int32} {x2 : Int32} {x3 : Int32} {x4 : Int32} {x5 : Int32} {x6 : Int32} {x7 : Int32} {x8 : Int32} {x9 : Int32} {r : Int32} {h1 : ia_H} (hret : ∀ (pc : Nat) (lv : ia_L), ia_ret mm_M_way pc (some (.inl r)) → K pc lv ((some (.inl r)) : Option ia_V).toList h1) : ∀ (x10 : Int32) (h : ia_H), gd_ w h → j_M_way_128 x1 x2 x3 x4 x5 x6 x7 x8 x9 x10 h = some (r, h1) → K 128 [some (.inr (.inr 417)), none, none, none, none, none, none, none, none, some (.inl x9), some (.inl x10), none, none] [] h := by
  intro x10 h hg hm
  unfold j_M_way_128 at hm
  refine ia_go hK ck_M_way_128 ⟨gk_12 hg pk_417, fun c => ?_, fun c => ?_⟩
  · replace hm := ia_ifn hm c
    show K 137 [some (.inr (.inr 417)), none, none, none, none, none, none, none, none, some (.inl x9), some (.inl x10), none, none] [] h
    refine ia_go hK ck_M_way_137 ⟨fun c => ?_, fun c => ?_⟩
    · replace hm := ia_ifn hm c
      show K 149 [some (.inr (.inr 417)), none, none, none, none, none, none, none, none, some (.inl x9), some (.inl x10), none, none] [] h
      refine ia_go hK ck_M_way_149 ⟨fun c => ?_, fun c => ?_⟩
      · replace hm := ia_ifn hm c
        show K 160 [some (.inr (.inr 417)), none, none, none, none, none, none, none, none, some (.inl x9), some (.inl x10), none, none] [] h
        refine ia_go hK ck_M_way_160 ⟨gk_12 hg pk_417, ?_⟩
        show K 171 [some (.inr (.inr 417)), none, none, none, none, none, none, none, none, some (.inl x9), some (.inl x10), none, none] [.inl (9 + (ia_i h 417 27)), .inl 10, .inl x9] h
        obtain ⟨v5, hv5, hm⟩ := ia_bnd hm
        have ev5 := t_M_isIn (d + 11) hg hv5
        refine ia_cS hK mk_M_isIn lk_12_116 dc_M_way_171 [.inl x9, .inl 10, .inl (9 + (ia_i h 417 27))] [] rfl rfl (Nat.le_of_ble_eq_true rfl) ev5 ⟨rfl, rfl⟩ ?_
        show K 174 [some (.inr (.inr 417)), none, none, none, none, none, none, none, none, some (.inl x9), some (.inl x10), none, none] [.inl v5] h
        refine ia_go hK ck_M_way_174 ⟨fun c => ?_, fun c => ?_⟩
        · replace hm := ia_ifp hm c
          show K 190 [some (.inr (.inr 417)), none, none, none, none, none, none, none, none, some (.inl x9), some (.inl x10), none, none] [] h
          refine ia_go hK ck_M_way_190 ?_
          show K 191 [some (.inr (.inr 417)), none, none, none, none, none, none, none, none, some (.inl x9), some (.inl x10), none, none] [.inl (-1)] h
          obtain ⟨rfl, rfl⟩ := Prod.mk.inj (Option.some.inj hm)
          exact hret 191 _ dc_M_way_191
        · replace hm := ia_ifn hm c
          show K 177 [some (.inr (.inr 417)), none, none, none, none, none, none, none, none, some (.inl x9), some (.inl x10), none, none] [] h
          obtain ⟨c6, hm⟩ := ia_gd_some hm
          refine ia_go hK ck_M_way_177 ⟨gk_12 hg pk_417, gr_12_26 hg pk_417, ga_i100 hg (ka_12_26 pk_417) c6, ?_⟩
          show K 191 [some (.inr (.inr 417)), none, none, none, none, none, none, none, none, some (.inl x9), some (.inl x10), none, none] [.inl (ia_i h 427 ((x9 - 10).toNatClampNeg))] h
          obtain ⟨rfl, rfl⟩ := Prod.mk.inj (Option.some.inj hm)
          exact hret 191 _ dc_M_way_191
      · replace hm := ia_ifp hm c
        show K 155 [some (.inr (.inr 417)), none, none, none, none, none, none, none, none, some (.inl x9), some (.inl x10), none, none] [] h
        refine ia_go hK ck_M_way_155 ?_
        show K 191 [some (.inr (.inr 417)), none, none, none, none, none, none, none, none, some (.inl x9), some (.inl x10), none, none] [.inl x10] h
        obtain ⟨rfl, rfl⟩ := Prod.mk.inj (Option.some.inj hm)
        exact hret 191 _ dc_M_way_191
    · replace hm := ia_ifp hm c
      show K 142 [some (.inr (.inr 417)), none, none, none, none, none, none, none, none, some (.inl x9), some (.inl x10), none, none] [] h
      refine ia_go hK ck_M_way_142 ⟨gk_12 hg pk_417, ?_⟩
      show K 191 [some (.inr (.inr 417)), none, none, none, none, none, none, none, none, some (.inl x9), some (.inl x10), none, none] [.inl (ia_i h 417 27)] h
      obtain ⟨rfl, rfl⟩ := Prod.mk.inj (Option.some.inj hm)
      exact hret 191 _ dc_M_way_191
  · replace hm := ia_ifp hm c
    show K 135 [some (.inr (.inr 417)), none, none, none, none, none, none, none, none, some (.inl x9), some (.inl x10), none, none] [] h
    refine ia_go hK ck_M_way_135 ?_
    show K 136 [some (.inr (.inr 417)), none, none, none, none, none, none, none, none, some (.inl x9), some (.inl x10), none, none] [.inl (-1)] h
    obtain ⟨rfl, rfl⟩ := Prod.mk.inj (Option.some.inj hm)
    exact hret 136 _ dc_M_way_136
theorem gj_M_way_128 {w : ia_O0} {x1 : Int32} {x2 : Int32} {x3 : Int32} {x4 : Int32} {x5 : Int32} {x6 : Int32} {x7 : Int32} {x8 : Int32} {x9 : Int32} {r : Int32} {h1 : ia_H} : ∀ (x10 : Int32) (h : ia_H), gd_ w h → j_M_way_128 x1 x2 x3 x4 x5 x6 x7 x8 x9 x10 h = some (r, h1) → gd_ w h1 := by
  intro x10 h hg hm
  unfold j_M_way_128 at hm
  by_cases c : (ia_i h 417 27) = 0
  · replace hm := ia_ifp hm c
    obtain ⟨rfl, rfl⟩ := Prod.mk.inj (Option.some.inj hm)
    exact hg
  · replace hm := ia_ifn hm c
    by_cases c : x9 = 0
    · replace hm := ia_ifp hm c
      obtain ⟨rfl, rfl⟩ := Prod.mk.inj (Option.some.inj hm)
      exact hg
    · replace hm := ia_ifn hm c
      by_cases c : x9 = 1
      · replace hm := ia_ifp hm c
        obtain ⟨rfl, rfl⟩ := Prod.mk.inj (Option.some.inj hm)
        exact hg
      · replace hm := ia_ifn hm c
        obtain ⟨v5, hv5, hm⟩ := ia_bnd hm
        by_cases c : v5 = 0
        · replace hm := ia_ifp hm c
          obtain ⟨rfl, rfl⟩ := Prod.mk.inj (Option.some.inj hm)
          exact hg
        · replace hm := ia_ifn hm c
          obtain ⟨c6, hm⟩ := ia_gd_some hm
          obtain ⟨rfl, rfl⟩ := Prod.mk.inj (Option.some.inj hm)
          exact hg
def j_M_way_113 (x1 : Int32) (x2 : Int32) (x3 : Int32) (x4 : Int32) (x5 : Int32) (x6 : Int32) (x7 : Int32) (x8 : Int32) (x9 : Int32) (x10 : Int32) (h : ia_H) : Option (Int32 × ia_H) := (f_M_shortWay x6 x7 x5 h).bind fun v4 => (if v4.1 = 0 then (some ((-1), v4.2)) else (j_M_way_128 x1 x2 x3 x4 x5 x6 x7 x8 x9 x10 v4.2))
theorem tj_M_way_113 {w : ia_O0} {d N1 W1 : Nat} {K : ia_K} (hK : ia_isK (d + 12) mm_M_way N1 W1 K) {x1 : Int32} {x2 : Int32} {x3 : Int32} {x4 : Int32} {x5 : Int32} {x6 : Int32} {x7 : Int32} {x8 : Int32} {x9 : Int32} {r : Int32} {h1 : ia_H} (hret : ∀ (pc : Nat) (lv : ia_L), ia_ret mm_M_way pc (some (.inl r)) → K pc lv ((some (.inl r)) : Option ia_V).toList h1) : ∀ (x10 : Int32) (h : ia_H), gd_ w h → j_M_way_113 x1 x2 x3 x4 x5 x6 x7 x8 x9 x10 h = some (r, h1) → K 113 [some (.inr (.inr 417)), none, none, none, none, some (.inl x5), some (.inl x6), some (.inl x7), none, some (.inl x9), some (.inl x10), none, none] [] h := by
  intro x10 h hg hm
  unfold j_M_way_113 at hm
  refine ia_go hK ck_M_way_113 ?_
  show K 120 [some (.inr (.inr 417)), none, none, none, none, some (.inl x5), some (.inl x6), some (.inl x7), none, some (.inl x9), some (.inl x10), none, none] [.inl x5, .inl x7, .inl x6, .inr (.inr 417)] h
  obtain ⟨v4, hv4, hm⟩ := ia_bnd hm
  have ev4 := t_M_shortWay (d + 4) hg hv4
  have gv4 := g_M_shortWay hg hv4
  refine ia_cV hK mk_M_shortWay lk_12_287 dc_M_way_120 417 [.inl x6, .inl x7, .inl x5] [] rfl rfl (Nat.le_of_ble_eq_true rfl) (by decide) rfl (gk_12 hg pk_417) ev4 (gd_nm hg gv4) ?_
  show K 123 [some (.inr (.inr 417)), none, none, none, none, some (.inl x5), some (.inl x6), some (.inl x7), none, some (.inl x9), some (.inl x10), none, none] [.inl v4.1] v4.2
  refine ia_go hK ck_M_way_123 ⟨fun c => ?_, fun c => ?_⟩
  · replace hm := ia_ifn hm c
    show K 128 [some (.inr (.inr 417)), none, none, none, none, some (.inl x5), some (.inl x6), some (.inl x7), none, some (.inl x9), some (.inl x10), none, none] [] v4.2
    refine ia_fg hK (lv' := [some (.inr (.inr 417)), none, none, none, none, none, none, none, none, some (.inl x9), some (.inl x10), none, none]) ⟨rfl, rfl, rfl, trivial⟩ ?_
    exact tj_M_way_128 hK hret x10 v4.2 gv4 hm
  · replace hm := ia_ifp hm c
    show K 126 [some (.inr (.inr 417)), none, none, none, none, some (.inl x5), some (.inl x6), some (.inl x7), none, some (.inl x9), some (.inl x10), none, none] [] v4.2
    refine ia_go hK ck_M_way_126 ?_
    show K 127 [some (.inr (.inr 417)), none, none, none, none, some (.inl x5), some (.inl x6), some (.inl x7), none, some (.inl x9), some (.inl x10), none, none] [.inl (-1)] v4.2
    obtain ⟨rfl, rfl⟩ := Prod.mk.inj (Option.some.inj hm)
    exact hret 127 _ dc_M_way_127
theorem gj_M_way_113 {w : ia_O0} {x1 : Int32} {x2 : Int32} {x3 : Int32} {x4 : Int32} {x5 : Int32} {x6 : Int32} {x7 : Int32} {x8 : Int32} {x9 : Int32} {r : Int32} {h1 : ia_H} : ∀ (x10 : Int32) (h : ia_H), gd_ w h → j_M_way_113 x1 x2 x3 x4 x5 x6 x7 x8 x9 x10 h = some (r, h1) → gd_ w h1 := by
  intro x10 h hg hm
  unfold j_M_way_113 at hm
  obtain ⟨v4, hv4, hm⟩ := ia_bnd hm
  have gv4 := g_M_shortWay hg hv4
  by_cases c : v4.1 = 0
  · replace hm := ia_ifp hm c
    obtain ⟨rfl, rfl⟩ := Prod.mk.inj (Option.some.inj hm)
    exact gv4
  · replace hm := ia_ifn hm c
    exact gj_M_way_128 x10 v4.2 gv4 hm
def f_M_way (x1 : Int32) (x2 : Int32) (x3 : Int32) (x4 : Int32) (x5 : Int32) (x6 : Int32) (x7 : Int32) (x8 : Int32) (x9 : Int32) (h : ia_H) : Option (Int32 × ia_H) := (f_M_isLoad x5 h).bind fun v1 => (if v1 = 0 then (some ((-1), h)) else ((f_M_isIn x8 0 2 h).bind fun v2 => (if v2 = 0 then (some ((-1), h)) else ((f_M_areWays x1 x2 x3 x4 x6 x7 h).bind fun v3 => (if v3.1 = 0 then (some ((-1), v3.2)) else (if x8 = 2 then ((f_M_luckyWay x6 x7 x5 v3.2).bind fun v10 => (j_M_way_128 x1 x2 x3 x4 x5 x6 x7 x8 x9 0 v10)) else (if x8 = 1 then ((f_M_isWay x6 x7 x5 (-1) v3.2).bind fun v7 => (if v7.1 = 0 then (j_M_way_113 x1 x2 x3 x4 x5 x6 x7 x8 x9 0 v7.2) else ((f_M_greatestLoad x6 x7 20000 v7.2).bind fun v8 => ((f_M_shortWay x6 x7 v8.1 v8.2).bind fun v9 => (j_M_way_128 x1 x2 x3 x4 x5 x6 x7 x8 x9 (v8.1 - x5) v9.2))))) else (j_M_way_113 x1 x2 x3 x4 x5 x6 x7 x8 x9 0 v3.2))))))))
theorem g_M_way {w : ia_O0} {x1 : Int32} {x2 : Int32} {x3 : Int32} {x4 : Int32} {x5 : Int32} {x6 : Int32} {x7 : Int32} {x8 : Int32} {x9 : Int32} {h : ia_H} (hg : gd_ w h) {q : (Int32 × ia_H)} (hm : f_M_way x1 x2 x3 x4 x5 x6 x7 x8 x9 h = some q) : gd_ w q.2 := by
  obtain ⟨r, h1⟩ := q
  unfold f_M_way at hm
  obtain ⟨v1, hv1, hm⟩ := ia_bnd hm
  by_cases c : v1 = 0
  · replace hm := ia_ifp hm c
    obtain ⟨rfl, rfl⟩ := Prod.mk.inj (Option.some.inj hm)
    exact hg
  · replace hm := ia_ifn hm c
    obtain ⟨v2, hv2, hm⟩ := ia_bnd hm
    by_cases c : v2 = 0
    · replace hm := ia_ifp hm c
      obtain ⟨rfl, rfl⟩ := Prod.mk.inj (Option.some.inj hm)
      exact hg
    · replace hm := ia_ifn hm c
      obtain ⟨v3, hv3, hm⟩ := ia_bnd hm
      have gv3 := g_M_areWays hg hv3
      by_cases c : v3.1 = 0
      · replace hm := ia_ifp hm c
        obtain ⟨rfl, rfl⟩ := Prod.mk.inj (Option.some.inj hm)
        exact gv3
      · replace hm := ia_ifn hm c
        by_cases c : x8 = 2
        · replace hm := ia_ifp hm c
          obtain ⟨v10, hv10, hm⟩ := ia_bnd hm
          have gv10 := g_M_luckyWay gv3 hv10
          exact gj_M_way_128 0 v10 gv10 hm
        · replace hm := ia_ifn hm c
          by_cases c : x8 = 1
          · replace hm := ia_ifp hm c
            obtain ⟨v7, hv7, hm⟩ := ia_bnd hm
            have gv7 := g_M_isWay gv3 hv7
            by_cases c : v7.1 = 0
            · replace hm := ia_ifp hm c
              exact gj_M_way_113 0 v7.2 gv7 hm
            · replace hm := ia_ifn hm c
              obtain ⟨v8, hv8, hm⟩ := ia_bnd hm
              have gv8 := g_M_greatestLoad gv7 hv8
              obtain ⟨v9, hv9, hm⟩ := ia_bnd hm
              have gv9 := g_M_shortWay gv8 hv9
              exact gj_M_way_128 (v8.1 - x5) v9.2 gv9 hm
          · replace hm := ia_ifn hm c
            exact gj_M_way_113 0 v3.2 gv3 hm
theorem t_M_way {w : ia_O0} (d : Nat) {x1 : Int32} {x2 : Int32} {x3 : Int32} {x4 : Int32} {x5 : Int32} {x6 : Int32} {x7 : Int32} {x8 : Int32} {x9 : Int32} {h : ia_H} (hg : gd_ w h) {q : (Int32 × ia_H)} (hm : f_M_way x1 x2 x3 x4 x5 x6 x7 x8 x9 h = some q) : ia_Ev (d + 12) mm_M_way [.inr (.inr 417), .inl x1, .inl x2, .inl x3, .inl x4, .inl x5, .inl x6, .inl x7, .inl x8, .inl x9] h (some (.inl q.1)) q.2 := by
  have gq := g_M_way hg hm
  refine ia_Ev_intro ok_M_way (gd_le hg gq).1 (gd_le hg gq).2 (Nat.le_of_ble_eq_true rfl) (fun K hK hret => ?_)
  obtain ⟨r, h1⟩ := q
  show K 0 [some (.inr (.inr 417)), some (.inl x1), some (.inl x2), some (.inl x3), some (.inl x4), some (.inl x5), some (.inl x6), some (.inl x7), some (.inl x8), some (.inl x9), none, none, none] [] h
  unfold f_M_way at hm
  refine ia_go hK ck_M_way_0 ?_
  show K 2 [some (.inr (.inr 417)), some (.inl x1), some (.inl x2), some (.inl x3), some (.inl x4), some (.inl x5), some (.inl x6), some (.inl x7), some (.inl x8), some (.inl x9), none, none, none] [.inl x5] h
  obtain ⟨v1, hv1, hm⟩ := ia_bnd hm
  have ev1 := t_M_isLoad (d + 10) hg hv1
  refine ia_cS hK mk_M_isLoad lk_12_349 dc_M_way_2 [.inl x5] [] rfl rfl (Nat.le_of_ble_eq_true rfl) ev1 ⟨rfl, rfl⟩ ?_
  show K 5 [some (.inr (.inr 417)), some (.inl x1), some (.inl x2), some (.inl x3), some (.inl x4), some (.inl x5), some (.inl x6), some (.inl x7), some (.inl x8), some (.inl x9), none, none, none] [.inl v1] h
  refine ia_go hK ck_M_way_5 ⟨fun c => ?_, fun c => ?_⟩
  · replace hm := ia_ifp hm c
    show K 34 [some (.inr (.inr 417)), some (.inl x1), some (.inl x2), some (.inl x3), some (.inl x4), some (.inl x5), some (.inl x6), some (.inl x7), some (.inl x8), some (.inl x9), none, none, none] [] h
    refine ia_go hK ck_M_way_34 ?_
    show K 35 [some (.inr (.inr 417)), some (.inl x1), some (.inl x2), some (.inl x3), some (.inl x4), some (.inl x5), some (.inl x6), some (.inl x7), some (.inl x8), some (.inl x9), none, none, none] [.inl (-1)] h
    obtain ⟨rfl, rfl⟩ := Prod.mk.inj (Option.some.inj hm)
    exact hret 35 _ dc_M_way_35
  · replace hm := ia_ifn hm c
    show K 8 [some (.inr (.inr 417)), some (.inl x1), some (.inl x2), some (.inl x3), some (.inl x4), some (.inl x5), some (.inl x6), some (.inl x7), some (.inl x8), some (.inl x9), none, none, none] [] h
    refine ia_go hK ck_M_way_8 ?_
    show K 12 [some (.inr (.inr 417)), some (.inl x1), some (.inl x2), some (.inl x3), some (.inl x4), some (.inl x5), some (.inl x6), some (.inl x7), some (.inl x8), some (.inl x9), none, none, none] [.inl 2, .inl 0, .inl x8] h
    obtain ⟨v2, hv2, hm⟩ := ia_bnd hm
    have ev2 := t_M_isIn (d + 11) hg hv2
    refine ia_cS hK mk_M_isIn lk_12_116 dc_M_way_12 [.inl x8, .inl 0, .inl 2] [] rfl rfl (Nat.le_of_ble_eq_true rfl) ev2 ⟨rfl, rfl⟩ ?_
    show K 15 [some (.inr (.inr 417)), some (.inl x1), some (.inl x2), some (.inl x3), some (.inl x4), some (.inl x5), some (.inl x6), some (.inl x7), some (.inl x8), some (.inl x9), none, none, none] [.inl v2] h
    refine ia_go hK ck_M_way_15 ⟨fun c => ?_, fun c => ?_⟩
    · replace hm := ia_ifp hm c
      show K 34 [some (.inr (.inr 417)), some (.inl x1), some (.inl x2), some (.inl x3), some (.inl x4), some (.inl x5), some (.inl x6), some (.inl x7), some (.inl x8), some (.inl x9), none, none, none] [] h
      refine ia_go hK ck_M_way_34 ?_
      show K 35 [some (.inr (.inr 417)), some (.inl x1), some (.inl x2), some (.inl x3), some (.inl x4), some (.inl x5), some (.inl x6), some (.inl x7), some (.inl x8), some (.inl x9), none, none, none] [.inl (-1)] h
      obtain ⟨rfl, rfl⟩ := Prod.mk.inj (Option.some.inj hm)
      exact hret 35 _ dc_M_way_35
    · replace hm := ia_ifn hm c
      show K 18 [some (.inr (.inr 417)), some (.inl x1), some (.inl x2), some (.inl x3), some (.inl x4), some (.inl x5), some (.inl x6), some (.inl x7), some (.inl x8), some (.inl x9), none, none, none] [] h
      refine ia_go hK ck_M_way_18 ?_
      show K 28 [some (.inr (.inr 417)), some (.inl x1), some (.inl x2), some (.inl x3), some (.inl x4), some (.inl x5), some (.inl x6), some (.inl x7), some (.inl x8), some (.inl x9), none, none, none] [.inl x7, .inl x6, .inl x4, .inl x3, .inl x2, .inl x1, .inr (.inr 417)] h
      obtain ⟨v3, hv3, hm⟩ := ia_bnd hm
      have ev3 := t_M_areWays (d + 0) hg hv3
      have gv3 := g_M_areWays hg hv3
      refine ia_cV hK mk_M_areWays lk_12_325 dc_M_way_28 417 [.inl x1, .inl x2, .inl x3, .inl x4, .inl x6, .inl x7] [] rfl rfl (Nat.le_of_ble_eq_true rfl) (by decide) rfl (gk_12 hg pk_417) ev3 (gd_nm hg gv3) ?_
      show K 31 [some (.inr (.inr 417)), some (.inl x1), some (.inl x2), some (.inl x3), some (.inl x4), some (.inl x5), some (.inl x6), some (.inl x7), some (.inl x8), some (.inl x9), none, none, none] [.inl v3.1] v3.2
      refine ia_go hK ck_M_way_31 ⟨fun c => ?_, fun c => ?_⟩
      · replace hm := ia_ifn hm c
        show K 36 [some (.inr (.inr 417)), some (.inl x1), some (.inl x2), some (.inl x3), some (.inl x4), some (.inl x5), some (.inl x6), some (.inl x7), some (.inl x8), some (.inl x9), none, none, none] [] v3.2
        refine ia_go hK ck_M_way_36 ⟨fun c => ?_, fun c => ?_⟩
        · replace hm := ia_ifn hm c
          show K 58 [some (.inr (.inr 417)), some (.inl x1), some (.inl x2), some (.inl x3), some (.inl x4), some (.inl x5), some (.inl x6), some (.inl x7), some (.inl x8), some (.inl x9), some (.inl 0), none, none] [] v3.2
          refine ia_go hK ck_M_way_58 ⟨fun c => ?_, fun c => ?_⟩
          · replace hm := ia_ifn hm c
            show K 113 [some (.inr (.inr 417)), some (.inl x1), some (.inl x2), some (.inl x3), some (.inl x4), some (.inl x5), some (.inl x6), some (.inl x7), some (.inl x8), some (.inl x9), some (.inl 0), none, none] [] v3.2
            refine ia_fg hK (lv' := [some (.inr (.inr 417)), none, none, none, none, some (.inl x5), some (.inl x6), some (.inl x7), none, some (.inl x9), some (.inl 0), none, none]) ⟨rfl, rfl, rfl, rfl, rfl, rfl, trivial⟩ ?_
            exact tj_M_way_113 hK hret 0 v3.2 gv3 hm
          · replace hm := ia_ifp hm c
            show K 64 [some (.inr (.inr 417)), some (.inl x1), some (.inl x2), some (.inl x3), some (.inl x4), some (.inl x5), some (.inl x6), some (.inl x7), some (.inl x8), some (.inl x9), some (.inl 0), none, none] [] v3.2
            refine ia_go hK ck_M_way_64 ?_
            show K 72 [some (.inr (.inr 417)), some (.inl x1), some (.inl x2), some (.inl x3), some (.inl x4), some (.inl x5), some (.inl x6), some (.inl x7), some (.inl x8), some (.inl x9), some (.inl 0), none, none] [.inl (-1), .inl x5, .inl x7, .inl x6, .inr (.inr 417)] v3.2
            obtain ⟨v7, hv7, hm⟩ := ia_bnd hm
            have ev7 := t_M_isWay (d + 5) gv3 hv7
            have gv7 := g_M_isWay gv3 hv7
            refine ia_cV hK mk_M_isWay lk_12_269 dc_M_way_72 417 [.inl x6, .inl x7, .inl x5, .inl (-1)] [] rfl rfl (Nat.le_of_ble_eq_true rfl) (by decide) rfl (gk_12 gv3 pk_417) ev7 (gd_nm gv3 gv7) ?_
            show K 75 [some (.inr (.inr 417)), some (.inl x1), some (.inl x2), some (.inl x3), some (.inl x4), some (.inl x5), some (.inl x6), some (.inl x7), some (.inl x8), some (.inl x9), some (.inl 0), none, none] [.inl v7.1] v7.2
            refine ia_go hK ck_M_way_75 ⟨fun c => ?_, fun c => ?_⟩
            · replace hm := ia_ifp hm c
              show K 113 [some (.inr (.inr 417)), some (.inl x1), some (.inl x2), some (.inl x3), some (.inl x4), some (.inl x5), some (.inl x6), some (.inl x7), some (.inl x8), some (.inl x9), some (.inl 0), none, none] [] v7.2
              refine ia_fg hK (lv' := [some (.inr (.inr 417)), none, none, none, none, some (.inl x5), some (.inl x6), some (.inl x7), none, some (.inl x9), some (.inl 0), none, none]) ⟨rfl, rfl, rfl, rfl, rfl, rfl, trivial⟩ ?_
              exact tj_M_way_113 hK hret 0 v7.2 gv7 hm
            · replace hm := ia_ifn hm c
              show K 78 [some (.inr (.inr 417)), some (.inl x1), some (.inl x2), some (.inl x3), some (.inl x4), some (.inl x5), some (.inl x6), some (.inl x7), some (.inl x8), some (.inl x9), some (.inl 0), none, none] [] v7.2
              refine ia_go hK ck_M_way_78 ?_
              show K 86 [some (.inr (.inr 417)), some (.inl x1), some (.inl x2), some (.inl x3), some (.inl x4), some (.inl x5), some (.inl x6), some (.inl x7), some (.inl x8), some (.inl x9), some (.inl 0), none, none] [.inl 20000, .inl x7, .inl x6, .inr (.inr 417)] v7.2
              obtain ⟨v8, hv8, hm⟩ := ia_bnd hm
              have ev8 := t_M_greatestLoad (d + 4) gv7 hv8
              have gv8 := g_M_greatestLoad gv7 hv8
              refine ia_cV hK mk_M_greatestLoad lk_12_329 dc_M_way_86 417 [.inl x6, .inl x7, .inl 20000] [] rfl rfl (Nat.le_of_ble_eq_true rfl) (by decide) rfl (gk_12 gv7 pk_417) ev8 (gd_nm gv7 gv8) ?_
              show K 89 [some (.inr (.inr 417)), some (.inl x1), some (.inl x2), some (.inl x3), some (.inl x4), some (.inl x5), some (.inl x6), some (.inl x7), some (.inl x8), some (.inl x9), some (.inl 0), none, none] [.inl v8.1] v8.2
              refine ia_go hK ck_M_way_89 ?_
              show K 105 [some (.inr (.inr 417)), some (.inl x1), some (.inl x2), some (.inl x3), some (.inl x4), some (.inl x5), some (.inl x6), some (.inl x7), some (.inl x8), some (.inl x9), some (.inl (v8.1 - x5)), some (.inl v8.1), none] [.inl v8.1, .inl x7, .inl x6, .inr (.inr 417)] v8.2
              obtain ⟨v9, hv9, hm⟩ := ia_bnd hm
              have ev9 := t_M_shortWay (d + 4) gv8 hv9
              have gv9 := g_M_shortWay gv8 hv9
              refine ia_cV hK mk_M_shortWay lk_12_287 dc_M_way_105 417 [.inl x6, .inl x7, .inl v8.1] [] rfl rfl (Nat.le_of_ble_eq_true rfl) (by decide) rfl (gk_12 gv8 pk_417) ev9 (gd_nm gv8 gv9) ?_
              show K 108 [some (.inr (.inr 417)), some (.inl x1), some (.inl x2), some (.inl x3), some (.inl x4), some (.inl x5), some (.inl x6), some (.inl x7), some (.inl x8), some (.inl x9), some (.inl (v8.1 - x5)), some (.inl v8.1), none] [.inl v9.1] v9.2
              refine ia_go hK ck_M_way_108 ?_
              show K 128 [some (.inr (.inr 417)), some (.inl x1), some (.inl x2), some (.inl x3), some (.inl x4), some (.inl x5), some (.inl x6), some (.inl x7), some (.inl x8), some (.inl x9), some (.inl (v8.1 - x5)), some (.inl v8.1), some (.inl v9.1)] [] v9.2
              refine ia_fg hK (lv' := [some (.inr (.inr 417)), none, none, none, none, none, none, none, none, some (.inl x9), some (.inl (v8.1 - x5)), none, none]) ⟨rfl, rfl, rfl, trivial⟩ ?_
              exact tj_M_way_128 hK hret (v8.1 - x5) v9.2 gv9 hm
        · replace hm := ia_ifp hm c
          show K 45 [some (.inr (.inr 417)), some (.inl x1), some (.inl x2), some (.inl x3), some (.inl x4), some (.inl x5), some (.inl x6), some (.inl x7), some (.inl x8), some (.inl x9), some (.inl 0), none, none] [] v3.2
          refine ia_go hK ck_M_way_45 ?_
          show K 52 [some (.inr (.inr 417)), some (.inl x1), some (.inl x2), some (.inl x3), some (.inl x4), some (.inl x5), some (.inl x6), some (.inl x7), some (.inl x8), some (.inl x9), some (.inl 0), none, none] [.inl x5, .inl x7, .inl x6, .inr (.inr 417)] v3.2
          obtain ⟨v10, hv10, hm⟩ := ia_bnd hm
          have ev10 := t_M_luckyWay (d + 5) gv3 hv10
          have gv10 := g_M_luckyWay gv3 hv10
          refine ia_cV hK mk_M_luckyWay lk_12_352 dc_M_way_52 417 [.inl x6, .inl x7, .inl x5] [] rfl rfl (Nat.le_of_ble_eq_true rfl) (by decide) rfl (gk_12 gv3 pk_417) ev10 (gd_nm gv3 gv10) ?_
          show K 55 [some (.inr (.inr 417)), some (.inl x1), some (.inl x2), some (.inl x3), some (.inl x4), some (.inl x5), some (.inl x6), some (.inl x7), some (.inl x8), some (.inl x9), some (.inl 0), none, none] [] v10
          refine ia_go hK ck_M_way_55 ?_
          show K 128 [some (.inr (.inr 417)), some (.inl x1), some (.inl x2), some (.inl x3), some (.inl x4), some (.inl x5), some (.inl x6), some (.inl x7), some (.inl x8), some (.inl x9), some (.inl 0), none, none] [] v10
          refine ia_fg hK (lv' := [some (.inr (.inr 417)), none, none, none, none, none, none, none, none, some (.inl x9), some (.inl 0), none, none]) ⟨rfl, rfl, rfl, trivial⟩ ?_
          exact tj_M_way_128 hK hret 0 v10 gv10 hm
      · replace hm := ia_ifp hm c
        show K 34 [some (.inr (.inr 417)), some (.inl x1), some (.inl x2), some (.inl x3), some (.inl x4), some (.inl x5), some (.inl x6), some (.inl x7), some (.inl x8), some (.inl x9), none, none, none] [] v3.2
        refine ia_go hK ck_M_way_34 ?_
        show K 35 [some (.inr (.inr 417)), some (.inl x1), some (.inl x2), some (.inl x3), some (.inl x4), some (.inl x5), some (.inl x6), some (.inl x7), some (.inl x8), some (.inl x9), none, none, none] [.inl (-1)] v3.2
        obtain ⟨rfl, rfl⟩ := Prod.mk.inj (Option.some.inj hm)
        exact hret 35 _ dc_M_way_35
def mm_M_luck : ia_M := (⟨"IceStreetModel", "luck", "(IIIIIII)J"⟩, prog_14_method_88_code, 8, (some .long), 12, false)
theorem ok_M_luck : ia_mok mm_M_luck := ⟨by decide +kernel, by decide +kernel, by decide +kernel, by decide +kernel⟩
theorem mk_M_luck : ia_mkn mm_M_luck 1 7 := ⟨ia_tb_in (List.mem_of_getElem? (i := 2060) (by decide +kernel)) rfl, ia_tb_in (List.mem_of_getElem? (i := 146) (by decide +kernel)) rfl, by decide +kernel, by decide +kernel, ⟨ia_tb_in (List.mem_of_getElem? (i := 2058) (by decide +kernel)) rfl, ia_tb_in (List.mem_of_getElem? (i := 2059) (by decide +kernel)) rfl⟩⟩
theorem ck_M_luck_0 : ia_cks 12 8 false prog_14_method_88_code 0 [(.iload 5, 0, 0, 0, 0)] = true := by decide +kernel
theorem ck_M_luck_5 : ia_cks 12 8 false prog_14_method_88_code 5 [(.ifCond .eq 19, 0, 0, 0, 0)] = true := by decide +kernel
theorem ck_M_luck_8 : ia_cks 12 8 false prog_14_method_88_code 8 [(.aload_n 0, 0, 0, 0, 0), (.iload_n 1, 0, 0, 0, 0), (.iload_n 2, 0, 0, 0, 0), (.iload_n 3, 0, 0, 0, 0), (.iload 4, 0, 0, 0, 0), (.iload 6, 0, 0, 0, 0), (.iload 7, 0, 0, 0, 0)] = true := by decide +kernel
theorem ck_M_luck_21 : ia_cks 12 8 false prog_14_method_88_code 21 [(.ifCond .ne 7, 0, 0, 0, 0)] = true := by decide +kernel
theorem ck_M_luck_28 : ia_cks 12 8 false prog_14_method_88_code 28 [(.aload_n 0, 0, 0, 0, 0), (.iload 6, 0, 0, 0, 0), (.iload 7, 0, 0, 0, 0), (.iload 5, 0, 0, 0, 0)] = true := by decide +kernel
theorem ck_M_luck_38 : ia_cks 12 8 false prog_14_method_88_code 38 [(.aload_n 0, 0, 0, 0, 0), (.getfield 336, 12, 30, 1, 0)] = true := by decide +kernel
theorem dc_M_luck_2 : decode prog_14_method_88_code 2 = .ok (.invokestatic 349, 3) := by decide +kernel
theorem dc_M_luck_24 : decode prog_14_method_88_code 24 = .ok (.ldc2_w 334, 3) := by decide +kernel
theorem dc_M_luck_27 : decode prog_14_method_88_code 27 = .ok (.lreturn, 1) := by decide +kernel
theorem dc_M_luck_18 : decode prog_14_method_88_code 18 = .ok (.invokevirtual 325, 3) := by decide +kernel
theorem dc_M_luck_35 : decode prog_14_method_88_code 35 = .ok (.invokevirtual 352, 3) := by decide +kernel
theorem dc_M_luck_42 : decode prog_14_method_88_code 42 = .ok (.lreturn, 1) := by decide +kernel
def f_M_luck (x1 : Int32) (x2 : Int32) (x3 : Int32) (x4 : Int32) (x5 : Int32) (x6 : Int32) (x7 : Int32) (h : ia_H) : Option (Int64 × ia_H) := (f_M_isLoad x5 h).bind fun v1 => (if v1 = 0 then (some ((-1), h)) else ((f_M_areWays x1 x2 x3 x4 x6 x7 h).bind fun v2 => (if v2.1 = 0 then (some ((-1), v2.2)) else ((f_M_luckyWay x6 x7 x5 v2.2).bind fun v3 => (some (ia_l v3 417 30, v3))))))
theorem g_M_luck {w : ia_O0} {x1 : Int32} {x2 : Int32} {x3 : Int32} {x4 : Int32} {x5 : Int32} {x6 : Int32} {x7 : Int32} {h : ia_H} (hg : gd_ w h) {q : (Int64 × ia_H)} (hm : f_M_luck x1 x2 x3 x4 x5 x6 x7 h = some q) : gd_ w q.2 := by
  obtain ⟨r, h1⟩ := q
  unfold f_M_luck at hm
  obtain ⟨v1, hv1, hm⟩ := ia_bnd hm
  by_cases c : v1 = 0
  · replace hm := ia_ifp hm c
    obtain ⟨rfl, rfl⟩ := Prod.mk.inj (Option.some.inj hm)
    exact hg
  · replace hm := ia_ifn hm c
    obtain ⟨v2, hv2, hm⟩ := ia_bnd hm
    have gv2 := g_M_areWays hg hv2
    by_cases c : v2.1 = 0
    · replace hm := ia_ifp hm c
      obtain ⟨rfl, rfl⟩ := Prod.mk.inj (Option.some.inj hm)
      exact gv2
    · replace hm := ia_ifn hm c
      obtain ⟨v3, hv3, hm⟩ := ia_bnd hm
      have gv3 := g_M_luckyWay gv2 hv3
      obtain ⟨rfl, rfl⟩ := Prod.mk.inj (Option.some.inj hm)
      exact gv3
theorem t_M_luck {w : ia_O0} (d : Nat) {x1 : Int32} {x2 : Int32} {x3 : Int32} {x4 : Int32} {x5 : Int32} {x6 : Int32} {x7 : Int32} {h : ia_H} (hg : gd_ w h) {q : (Int64 × ia_H)} (hm : f_M_luck x1 x2 x3 x4 x5 x6 x7 h = some q) : ia_Ev (d + 12) mm_M_luck [.inr (.inr 417), .inl x1, .inl x2, .inl x3, .inl x4, .inl x5, .inl x6, .inl x7] h (some (.inr (.inl q.1))) q.2 := by
  have gq := g_M_luck hg hm
  refine ia_Ev_intro ok_M_luck (gd_le hg gq).1 (gd_le hg gq).2 (Nat.le_of_ble_eq_true rfl) (fun K hK hret => ?_)
  obtain ⟨r, h1⟩ := q
  show K 0 [some (.inr (.inr 417)), some (.inl x1), some (.inl x2), some (.inl x3), some (.inl x4), some (.inl x5), some (.inl x6), some (.inl x7)] [] h
  unfold f_M_luck at hm
  refine ia_go hK ck_M_luck_0 ?_
  show K 2 [some (.inr (.inr 417)), some (.inl x1), some (.inl x2), some (.inl x3), some (.inl x4), some (.inl x5), some (.inl x6), some (.inl x7)] [.inl x5] h
  obtain ⟨v1, hv1, hm⟩ := ia_bnd hm
  have ev1 := t_M_isLoad (d + 10) hg hv1
  refine ia_cS hK mk_M_isLoad lk_12_349 dc_M_luck_2 [.inl x5] [] rfl rfl (Nat.le_of_ble_eq_true rfl) ev1 ⟨rfl, rfl⟩ ?_
  show K 5 [some (.inr (.inr 417)), some (.inl x1), some (.inl x2), some (.inl x3), some (.inl x4), some (.inl x5), some (.inl x6), some (.inl x7)] [.inl v1] h
  refine ia_go hK ck_M_luck_5 ⟨fun c => ?_, fun c => ?_⟩
  · replace hm := ia_ifp hm c
    show K 24 [some (.inr (.inr 417)), some (.inl x1), some (.inl x2), some (.inl x3), some (.inl x4), some (.inl x5), some (.inl x6), some (.inl x7)] [] h
    refine ia_ldc2 hK (v := (-1)) (ia_tb_in (List.mem_of_getElem? (i := 2043) (by decide +kernel)) rfl) dc_M_luck_24 ?_
    show K 27 [some (.inr (.inr 417)), some (.inl x1), some (.inl x2), some (.inl x3), some (.inl x4), some (.inl x5), some (.inl x6), some (.inl x7)] [.inr (.inl (-1))] h
    obtain ⟨rfl, rfl⟩ := Prod.mk.inj (Option.some.inj hm)
    exact hret 27 _ dc_M_luck_27
  · replace hm := ia_ifn hm c
    show K 8 [some (.inr (.inr 417)), some (.inl x1), some (.inl x2), some (.inl x3), some (.inl x4), some (.inl x5), some (.inl x6), some (.inl x7)] [] h
    refine ia_go hK ck_M_luck_8 ?_
    show K 18 [some (.inr (.inr 417)), some (.inl x1), some (.inl x2), some (.inl x3), some (.inl x4), some (.inl x5), some (.inl x6), some (.inl x7)] [.inl x7, .inl x6, .inl x4, .inl x3, .inl x2, .inl x1, .inr (.inr 417)] h
    obtain ⟨v2, hv2, hm⟩ := ia_bnd hm
    have ev2 := t_M_areWays (d + 0) hg hv2
    have gv2 := g_M_areWays hg hv2
    refine ia_cV hK mk_M_areWays lk_12_325 dc_M_luck_18 417 [.inl x1, .inl x2, .inl x3, .inl x4, .inl x6, .inl x7] [] rfl rfl (Nat.le_of_ble_eq_true rfl) (by decide) rfl (gk_12 hg pk_417) ev2 (gd_nm hg gv2) ?_
    show K 21 [some (.inr (.inr 417)), some (.inl x1), some (.inl x2), some (.inl x3), some (.inl x4), some (.inl x5), some (.inl x6), some (.inl x7)] [.inl v2.1] v2.2
    refine ia_go hK ck_M_luck_21 ⟨fun c => ?_, fun c => ?_⟩
    · replace hm := ia_ifn hm c
      show K 28 [some (.inr (.inr 417)), some (.inl x1), some (.inl x2), some (.inl x3), some (.inl x4), some (.inl x5), some (.inl x6), some (.inl x7)] [] v2.2
      refine ia_go hK ck_M_luck_28 ?_
      show K 35 [some (.inr (.inr 417)), some (.inl x1), some (.inl x2), some (.inl x3), some (.inl x4), some (.inl x5), some (.inl x6), some (.inl x7)] [.inl x5, .inl x7, .inl x6, .inr (.inr 417)] v2.2
      obtain ⟨v3, hv3, hm⟩ := ia_bnd hm
      have ev3 := t_M_luckyWay (d + 5) gv2 hv3
      have gv3 := g_M_luckyWay gv2 hv3
      refine ia_cV hK mk_M_luckyWay lk_12_352 dc_M_luck_35 417 [.inl x6, .inl x7, .inl x5] [] rfl rfl (Nat.le_of_ble_eq_true rfl) (by decide) rfl (gk_12 gv2 pk_417) ev3 (gd_nm gv2 gv3) ?_
      show K 38 [some (.inr (.inr 417)), some (.inl x1), some (.inl x2), some (.inl x3), some (.inl x4), some (.inl x5), some (.inl x6), some (.inl x7)] [] v3
      refine ia_go hK ck_M_luck_38 ⟨gk_12 gv3 pk_417, ?_⟩
      show K 42 [some (.inr (.inr 417)), some (.inl x1), some (.inl x2), some (.inl x3), some (.inl x4), some (.inl x5), some (.inl x6), some (.inl x7)] [.inr (.inl (ia_l v3 417 30))] v3
      obtain ⟨rfl, rfl⟩ := Prod.mk.inj (Option.some.inj hm)
      exact hret 42 _ dc_M_luck_42
    · replace hm := ia_ifp hm c
      show K 24 [some (.inr (.inr 417)), some (.inl x1), some (.inl x2), some (.inl x3), some (.inl x4), some (.inl x5), some (.inl x6), some (.inl x7)] [] v2.2
      refine ia_ldc2 hK (v := (-1)) (ia_tb_in (List.mem_of_getElem? (i := 2043) (by decide +kernel)) rfl) dc_M_luck_24 ?_
      show K 27 [some (.inr (.inr 417)), some (.inl x1), some (.inl x2), some (.inl x3), some (.inl x4), some (.inl x5), some (.inl x6), some (.inl x7)] [.inr (.inl (-1))] v2.2
      obtain ⟨rfl, rfl⟩ := Prod.mk.inj (Option.some.inj hm)
      exact hret 27 _ dc_M_luck_27
def mm_M_from : ia_M := (⟨"IceStreetModel", "from", "(IIIIII)J"⟩, prog_14_method_89_code, 10, (some .long), 12, false)
theorem ok_M_from : ia_mok mm_M_from := ⟨by decide +kernel, by decide +kernel, by decide +kernel, by decide +kernel⟩
theorem mk_M_from : ia_mkn mm_M_from 1 6 := ⟨ia_tb_in (List.mem_of_getElem? (i := 2064) (by decide +kernel)) rfl, ia_tb_in (List.mem_of_getElem? (i := 146) (by decide +kernel)) rfl, by decide +kernel, by decide +kernel, ⟨ia_tb_in (List.mem_of_getElem? (i := 2062) (by decide +kernel)) rfl, ia_tb_in (List.mem_of_getElem? (i := 2063) (by decide +kernel)) rfl⟩⟩
theorem ck_M_from_0 : ia_cks 12 10 false prog_14_method_89_code 0 [(.iload 5, 0, 0, 0, 0)] = true := by decide +kernel
theorem ck_M_from_5 : ia_cks 12 10 false prog_14_method_89_code 5 [(.ifCond .eq 17, 0, 0, 0, 0)] = true := by decide +kernel
theorem ck_M_from_8 : ia_cks 12 10 false prog_14_method_89_code 8 [(.aload_n 0, 0, 0, 0, 0), (.iload_n 1, 0, 0, 0, 0), (.iload_n 2, 0, 0, 0, 0), (.iload_n 3, 0, 0, 0, 0), (.iload 4, 0, 0, 0, 0), (.iload 6, 0, 0, 0, 0)] = true := by decide +kernel
theorem ck_M_from_19 : ia_cks 12 10 false prog_14_method_89_code 19 [(.ifCond .ne 7, 0, 0, 0, 0)] = true := by decide +kernel
theorem ck_M_from_26 : ia_cks 12 10 false prog_14_method_89_code 26 [(.lconst 0, 0, 0, 0, 0), (.lstore 7, 0, 0, 0, 0), (.iconst 0, 0, 0, 0, 0), (.istore 9, 0, 0, 0, 0)] = true := by decide +kernel
theorem ck_M_from_32 : ia_cks 12 10 false prog_14_method_89_code 32 [(.iload 9, 0, 0, 0, 0), (.aload_n 0, 0, 0, 0, 0)] = true := by decide +kernel
theorem ck_M_from_38 : ia_cks 12 10 false prog_14_method_89_code 38 [(.if_icmp .ge 36, 0, 0, 0, 0)] = true := by decide +kernel
theorem ck_M_from_41 : ia_cks 12 10 false prog_14_method_89_code 41 [(.lload 7, 0, 0, 0, 0), (.aload_n 0, 0, 0, 0, 0), (.iload 6, 0, 0, 0, 0), (.iload 9, 0, 0, 0, 0), (.iload 5, 0, 0, 0, 0), (.iconst (-1), 0, 0, 0, 0)] = true := by decide +kernel
theorem ck_M_from_54 : ia_cks 12 10 false prog_14_method_89_code 54 [(.ifCond .eq 10, 0, 0, 0, 0)] = true := by decide +kernel
theorem ck_M_from_64 : ia_cks 12 10 false prog_14_method_89_code 64 [(.lconst 0, 0, 0, 0, 0)] = true := by decide +kernel
theorem ck_M_from_65 : ia_cks 12 10 false prog_14_method_89_code 65 [(.lor, 0, 0, 0, 0), (.lstore 7, 0, 0, 0, 0), (.iinc 9 1, 0, 0, 0, 0), (.goto (-39), 0, 0, 0, 0)] = true := by decide +kernel
theorem ck_M_from_57 : ia_cks 12 10 false prog_14_method_89_code 57 [(.lconst 1, 0, 0, 0, 0), (.iload 9, 0, 0, 0, 0), (.lshl, 0, 0, 0, 0), (.goto 4, 0, 0, 0, 0)] = true := by decide +kernel
theorem ck_M_from_74 : ia_cks 12 10 false prog_14_method_89_code 74 [(.lload 7, 0, 0, 0, 0)] = true := by decide +kernel
theorem dc_M_from_2 : decode prog_14_method_89_code 2 = .ok (.invokestatic 349, 3) := by decide +kernel
theorem dc_M_from_22 : decode prog_14_method_89_code 22 = .ok (.ldc2_w 334, 3) := by decide +kernel
theorem dc_M_from_25 : decode prog_14_method_89_code 25 = .ok (.lreturn, 1) := by decide +kernel
theorem dc_M_from_16 : decode prog_14_method_89_code 16 = .ok (.invokevirtual 321, 3) := by decide +kernel
theorem dc_M_from_35 : decode prog_14_method_89_code 35 = .ok (.invokevirtual 234, 3) := by decide +kernel
theorem dc_M_from_51 : decode prog_14_method_89_code 51 = .ok (.invokevirtual 269, 3) := by decide +kernel
theorem dc_M_from_76 : decode prog_14_method_89_code 76 = .ok (.lreturn, 1) := by decide +kernel
def j_M_from_65 (x1 : Int32) (x2 : Int32) (x3 : Int32) (x4 : Int32) (x5 : Int32) (x6 : Int32) (kr : Int64 → Int32 → ia_H → Option (Int64 × ia_H)) (k74 : Int64 → ia_H → Option (Int64 × ia_H)) (x9 : Int32) (z0 : Int64) (z1 : Int64) (h : ia_H) : Option (Int64 × ia_H) := kr (z0 ||| z1) (x9 + 1) h
theorem tj_M_from_65 {w : ia_O0} {d N1 W1 : Nat} {K : ia_K} (hK : ia_isK (d + 12) mm_M_from N1 W1 K) {x1 : Int32} {x2 : Int32} {x3 : Int32} {x4 : Int32} {x5 : Int32} {x6 : Int32} {r : Int64} {h1 : ia_H} (hret : ∀ (pc : Nat) (lv : ia_L), ia_ret mm_M_from pc (some (.inr (.inl r))) → K pc lv ((some (.inr (.inl r))) : Option ia_V).toList h1) {kr : Int64 → Int32 → ia_H → Option (Int64 × ia_H)} {k74 : Int64 → ia_H → Option (Int64 × ia_H)} (hkr : ∀ (y7 : Int64) (x9 : Int32) (h : ia_H), gd_ w h → kr y7 x9 h = some (r, h1) → K 32 [some (.inr (.inr 417)), none, none, none, none, some (.inl x5), some (.inl x6), some (.inr (.inl y7)), none, some (.inl x9)] [] h) (hk74 : ∀ (y7 : Int64) (h : ia_H), gd_ w h → k74 y7 h = some (r, h1) → K 74 [none, none, none, none, none, none, none, some (.inr (.inl y7)), none, none] [] h) : ∀ (x9 : Int32) (z0 : Int64) (z1 : Int64) (h : ia_H), gd_ w h → j_M_from_65 x1 x2 x3 x4 x5 x6 kr k74 x9 z0 z1 h = some (r, h1) → K 65 [some (.inr (.inr 417)), none, none, none, none, some (.inl x5), some (.inl x6), none, none, some (.inl x9)] [.inr (.inl z1), .inr (.inl z0)] h := by
  intro x9 z0 z1 h hg hm
  unfold j_M_from_65 at hm
  refine ia_go hK ck_M_from_65 ?_
  show K 32 [some (.inr (.inr 417)), none, none, none, none, some (.inl x5), some (.inl x6), some (.inr (.inl (z0 ||| z1))), none, some (.inl (x9 + 1))] [] h
  exact hkr (z0 ||| z1) (x9 + 1) h hg hm
theorem gj_M_from_65 {w : ia_O0} {x1 : Int32} {x2 : Int32} {x3 : Int32} {x4 : Int32} {x5 : Int32} {x6 : Int32} {r : Int64} {h1 : ia_H} {kr : Int64 → Int32 → ia_H → Option (Int64 × ia_H)} {k74 : Int64 → ia_H → Option (Int64 × ia_H)} (hkr : ∀ (y7 : Int64) (x9 : Int32) (h : ia_H), gd_ w h → kr y7 x9 h = some (r, h1) → gd_ w h1) (hk74 : ∀ (y7 : Int64) (h : ia_H), gd_ w h → k74 y7 h = some (r, h1) → gd_ w h1) : ∀ (x9 : Int32) (z0 : Int64) (z1 : Int64) (h : ia_H), gd_ w h → j_M_from_65 x1 x2 x3 x4 x5 x6 kr k74 x9 z0 z1 h = some (r, h1) → gd_ w h1 := by
  intro x9 z0 z1 h hg hm
  unfold j_M_from_65 at hm
  exact hkr (z0 ||| z1) (x9 + 1) h hg hm
def l_M_from_32 (x1 : Int32) (x2 : Int32) (x3 : Int32) (x4 : Int32) (x5 : Int32) (x6 : Int32) (k74 : Int64 → ia_H → Option (Int64 × ia_H)) (n : Nat) (y7 : Int64) (x9 : Int32) (h : ia_H) : Option (Int64 × ia_H) := match n with
  | 0 => none
  | n + 1 => (f_M_cells h).bind fun v3 => (if v3 ≤ x9 then (k74 y7 h) else ((f_M_isWay x6 x9 x5 (-1) h).bind fun v4 => (if v4.1 = 0 then (j_M_from_65 x1 x2 x3 x4 x5 x6 (l_M_from_32 x1 x2 x3 x4 x5 x6 k74 n) k74 x9 y7 0 v4.2) else (j_M_from_65 x1 x2 x3 x4 x5 x6 (l_M_from_32 x1 x2 x3 x4 x5 x6 k74 n) k74 x9 y7 (1 <<< (x9.toInt64 &&& 63)) v4.2))))
theorem tl_M_from_32 {w : ia_O0} {d N1 W1 : Nat} {K : ia_K} (hK : ia_isK (d + 12) mm_M_from N1 W1 K) {x1 : Int32} {x2 : Int32} {x3 : Int32} {x4 : Int32} {x5 : Int32} {x6 : Int32} {r : Int64} {h1 : ia_H} (hret : ∀ (pc : Nat) (lv : ia_L), ia_ret mm_M_from pc (some (.inr (.inl r))) → K pc lv ((some (.inr (.inl r))) : Option ia_V).toList h1) {k74 : Int64 → ia_H → Option (Int64 × ia_H)} (hk74 : ∀ (y7 : Int64) (h : ia_H), gd_ w h → k74 y7 h = some (r, h1) → K 74 [none, none, none, none, none, none, none, some (.inr (.inl y7)), none, none] [] h) : ∀ (n : Nat) (y7 : Int64) (x9 : Int32) (h : ia_H), gd_ w h → l_M_from_32 x1 x2 x3 x4 x5 x6 k74 n y7 x9 h = some (r, h1) → K 32 [some (.inr (.inr 417)), none, none, none, none, some (.inl x5), some (.inl x6), some (.inr (.inl y7)), none, some (.inl x9)] [] h := by
  intro n
  induction n with
  | zero =>
    intro y7 x9 h hg hm
    cases (show (none : Option (Int64 × ia_H)) = some _ from hm)
  | succ n ih =>
    intro y7 x9 h hg hm
    rw [l_M_from_32] at hm
    refine ia_go hK ck_M_from_32 ?_
    show K 35 [some (.inr (.inr 417)), none, none, none, none, some (.inl x5), some (.inl x6), some (.inr (.inl y7)), none, some (.inl x9)] [.inr (.inr 417), .inl x9] h
    obtain ⟨v3, hv3, hm⟩ := ia_bnd hm
    have ev3 := t_M_cells (d + 11) hg hv3
    refine ia_cV hK mk_M_cells lk_12_234 dc_M_from_35 417 [] [.inl x9] rfl rfl (Nat.le_of_ble_eq_true rfl) (by decide) rfl (gk_12 hg pk_417) ev3 ⟨rfl, rfl⟩ ?_
    show K 38 [some (.inr (.inr 417)), none, none, none, none, some (.inl x5), some (.inl x6), some (.inr (.inl y7)), none, some (.inl x9)] [.inl v3, .inl x9] h
    refine ia_go hK ck_M_from_38 ⟨fun c => ?_, fun c => ?_⟩
    · replace hm := ia_ifp hm c
      show K 74 [some (.inr (.inr 417)), none, none, none, none, some (.inl x5), some (.inl x6), some (.inr (.inl y7)), none, some (.inl x9)] [] h
      refine ia_fg hK (lv' := [none, none, none, none, none, none, none, some (.inr (.inl y7)), none, none]) ⟨rfl, trivial⟩ ?_
      exact hk74 y7 h hg hm
    · replace hm := ia_ifn hm c
      show K 41 [some (.inr (.inr 417)), none, none, none, none, some (.inl x5), some (.inl x6), some (.inr (.inl y7)), none, some (.inl x9)] [] h
      refine ia_go hK ck_M_from_41 ?_
      show K 51 [some (.inr (.inr 417)), none, none, none, none, some (.inl x5), some (.inl x6), some (.inr (.inl y7)), none, some (.inl x9)] [.inl (-1), .inl x5, .inl x9, .inl x6, .inr (.inr 417), .inr (.inl y7)] h
      obtain ⟨v4, hv4, hm⟩ := ia_bnd hm
      have ev4 := t_M_isWay (d + 5) hg hv4
      have gv4 := g_M_isWay hg hv4
      refine ia_cV hK mk_M_isWay lk_12_269 dc_M_from_51 417 [.inl x6, .inl x9, .inl x5, .inl (-1)] [.inr (.inl y7)] rfl rfl (Nat.le_of_ble_eq_true rfl) (by decide) rfl (gk_12 hg pk_417) ev4 (gd_nm hg gv4) ?_
      show K 54 [some (.inr (.inr 417)), none, none, none, none, some (.inl x5), some (.inl x6), some (.inr (.inl y7)), none, some (.inl x9)] [.inl v4.1, .inr (.inl y7)] v4.2
      refine ia_go hK ck_M_from_54 ⟨fun c => ?_, fun c => ?_⟩
      · replace hm := ia_ifp hm c
        show K 64 [some (.inr (.inr 417)), none, none, none, none, some (.inl x5), some (.inl x6), some (.inr (.inl y7)), none, some (.inl x9)] [.inr (.inl y7)] v4.2
        refine ia_go hK ck_M_from_64 ?_
        show K 65 [some (.inr (.inr 417)), none, none, none, none, some (.inl x5), some (.inl x6), some (.inr (.inl y7)), none, some (.inl x9)] [.inr (.inl 0), .inr (.inl y7)] v4.2
        refine ia_fg hK (lv' := [some (.inr (.inr 417)), none, none, none, none, some (.inl x5), some (.inl x6), none, none, some (.inl x9)]) ⟨rfl, rfl, rfl, rfl, trivial⟩ ?_
        exact tj_M_from_65 hK hret ih hk74 x9 y7 0 v4.2 gv4 hm
      · replace hm := ia_ifn hm c
        show K 57 [some (.inr (.inr 417)), none, none, none, none, some (.inl x5), some (.inl x6), some (.inr (.inl y7)), none, some (.inl x9)] [.inr (.inl y7)] v4.2
        refine ia_go hK ck_M_from_57 ?_
        show K 65 [some (.inr (.inr 417)), none, none, none, none, some (.inl x5), some (.inl x6), some (.inr (.inl y7)), none, some (.inl x9)] [.inr (.inl (1 <<< (x9.toInt64 &&& 63))), .inr (.inl y7)] v4.2
        refine ia_fg hK (lv' := [some (.inr (.inr 417)), none, none, none, none, some (.inl x5), some (.inl x6), none, none, some (.inl x9)]) ⟨rfl, rfl, rfl, rfl, trivial⟩ ?_
        exact tj_M_from_65 hK hret ih hk74 x9 y7 (1 <<< (x9.toInt64 &&& 63)) v4.2 gv4 hm
theorem gl_M_from_32 {w : ia_O0} {x1 : Int32} {x2 : Int32} {x3 : Int32} {x4 : Int32} {x5 : Int32} {x6 : Int32} {r : Int64} {h1 : ia_H} {k74 : Int64 → ia_H → Option (Int64 × ia_H)} (hk74 : ∀ (y7 : Int64) (h : ia_H), gd_ w h → k74 y7 h = some (r, h1) → gd_ w h1) : ∀ (n : Nat) (y7 : Int64) (x9 : Int32) (h : ia_H), gd_ w h → l_M_from_32 x1 x2 x3 x4 x5 x6 k74 n y7 x9 h = some (r, h1) → gd_ w h1 := by
  intro n
  induction n with
  | zero =>
    intro y7 x9 h hg hm
    cases (show (none : Option (Int64 × ia_H)) = some _ from hm)
  | succ n ih =>
    intro y7 x9 h hg hm
    rw [l_M_from_32] at hm
    obtain ⟨v3, hv3, hm⟩ := ia_bnd hm
    by_cases c : v3 ≤ x9
    · replace hm := ia_ifp hm c
      exact hk74 y7 h hg hm
    · replace hm := ia_ifn hm c
      obtain ⟨v4, hv4, hm⟩ := ia_bnd hm
      have gv4 := g_M_isWay hg hv4
      by_cases c : v4.1 = 0
      · replace hm := ia_ifp hm c
        exact gj_M_from_65 ih hk74 x9 y7 0 v4.2 gv4 hm
      · replace hm := ia_ifn hm c
        exact gj_M_from_65 ih hk74 x9 y7 (1 <<< (x9.toInt64 &&& 63)) v4.2 gv4 hm
def f_M_from (x1 : Int32) (x2 : Int32) (x3 : Int32) (x4 : Int32) (x5 : Int32) (x6 : Int32) (h : ia_H) : Option (Int64 × ia_H) := (f_M_isLoad x5 h).bind fun v1 => (if v1 = 0 then (some ((-1), h)) else ((f_M_isIce x1 x2 x3 x4 x6 h).bind fun v2 => (if v2.1 = 0 then (some ((-1), v2.2)) else (l_M_from_32 x1 x2 x3 x4 x5 x6 (fun y7 h => some (y7, h)) fu_ 0 0 v2.2))))
theorem g_M_from {w : ia_O0} {x1 : Int32} {x2 : Int32} {x3 : Int32} {x4 : Int32} {x5 : Int32} {x6 : Int32} {h : ia_H} (hg : gd_ w h) {q : (Int64 × ia_H)} (hm : f_M_from x1 x2 x3 x4 x5 x6 h = some q) : gd_ w q.2 := by
  obtain ⟨r, h1⟩ := q
  unfold f_M_from at hm
  obtain ⟨v1, hv1, hm⟩ := ia_bnd hm
  by_cases c : v1 = 0
  · replace hm := ia_ifp hm c
    obtain ⟨rfl, rfl⟩ := Prod.mk.inj (Option.some.inj hm)
    exact hg
  · replace hm := ia_ifn hm c
    obtain ⟨v2, hv2, hm⟩ := ia_bnd hm
    have gv2 := g_M_isIce hg hv2
    by_cases c : v2.1 = 0
    · replace hm := ia_ifp hm c
      obtain ⟨rfl, rfl⟩ := Prod.mk.inj (Option.some.inj hm)
      exact gv2
    · replace hm := ia_ifn hm c
      refine gl_M_from_32 ?_ fu_ 0 0 v2.2 gv2 hm
      · intro y7 h hg hm
        obtain ⟨rfl, rfl⟩ := Prod.mk.inj (Option.some.inj hm)
        exact hg
theorem t_M_from {w : ia_O0} (d : Nat) {x1 : Int32} {x2 : Int32} {x3 : Int32} {x4 : Int32} {x5 : Int32} {x6 : Int32} {h : ia_H} (hg : gd_ w h) {q : (Int64 × ia_H)} (hm : f_M_from x1 x2 x3 x4 x5 x6 h = some q) : ia_Ev (d + 12) mm_M_from [.inr (.inr 417), .inl x1, .inl x2, .inl x3, .inl x4, .inl x5, .inl x6] h (some (.inr (.inl q.1))) q.2 := by
  have gq := g_M_from hg hm
  refine ia_Ev_intro ok_M_from (gd_le hg gq).1 (gd_le hg gq).2 (Nat.le_of_ble_eq_true rfl) (fun K hK hret => ?_)
  obtain ⟨r, h1⟩ := q
  show K 0 [some (.inr (.inr 417)), some (.inl x1), some (.inl x2), some (.inl x3), some (.inl x4), some (.inl x5), some (.inl x6), none, none, none] [] h
  unfold f_M_from at hm
  refine ia_go hK ck_M_from_0 ?_
  show K 2 [some (.inr (.inr 417)), some (.inl x1), some (.inl x2), some (.inl x3), some (.inl x4), some (.inl x5), some (.inl x6), none, none, none] [.inl x5] h
  obtain ⟨v1, hv1, hm⟩ := ia_bnd hm
  have ev1 := t_M_isLoad (d + 10) hg hv1
  refine ia_cS hK mk_M_isLoad lk_12_349 dc_M_from_2 [.inl x5] [] rfl rfl (Nat.le_of_ble_eq_true rfl) ev1 ⟨rfl, rfl⟩ ?_
  show K 5 [some (.inr (.inr 417)), some (.inl x1), some (.inl x2), some (.inl x3), some (.inl x4), some (.inl x5), some (.inl x6), none, none, none] [.inl v1] h
  refine ia_go hK ck_M_from_5 ⟨fun c => ?_, fun c => ?_⟩
  · replace hm := ia_ifp hm c
    show K 22 [some (.inr (.inr 417)), some (.inl x1), some (.inl x2), some (.inl x3), some (.inl x4), some (.inl x5), some (.inl x6), none, none, none] [] h
    refine ia_ldc2 hK (v := (-1)) (ia_tb_in (List.mem_of_getElem? (i := 2043) (by decide +kernel)) rfl) dc_M_from_22 ?_
    show K 25 [some (.inr (.inr 417)), some (.inl x1), some (.inl x2), some (.inl x3), some (.inl x4), some (.inl x5), some (.inl x6), none, none, none] [.inr (.inl (-1))] h
    obtain ⟨rfl, rfl⟩ := Prod.mk.inj (Option.some.inj hm)
    exact hret 25 _ dc_M_from_25
  · replace hm := ia_ifn hm c
    show K 8 [some (.inr (.inr 417)), some (.inl x1), some (.inl x2), some (.inl x3), some (.inl x4), some (.inl x5), some (.inl x6), none, none, none] [] h
    refine ia_go hK ck_M_from_8 ?_
    show K 16 [some (.inr (.inr 417)), some (.inl x1), some (.inl x2), some (.inl x3), some (.inl x4), some (.inl x5), some (.inl x6), none, none, none] [.inl x6, .inl x4, .inl x3, .inl x2, .inl x1, .inr (.inr 417)] h
    obtain ⟨v2, hv2, hm⟩ := ia_bnd hm
    have ev2 := t_M_isIce (d + 0) hg hv2
    have gv2 := g_M_isIce hg hv2
    refine ia_cV hK mk_M_isIce lk_12_321 dc_M_from_16 417 [.inl x1, .inl x2, .inl x3, .inl x4, .inl x6] [] rfl rfl (Nat.le_of_ble_eq_true rfl) (by decide) rfl (gk_12 hg pk_417) ev2 (gd_nm hg gv2) ?_
    show K 19 [some (.inr (.inr 417)), some (.inl x1), some (.inl x2), some (.inl x3), some (.inl x4), some (.inl x5), some (.inl x6), none, none, none] [.inl v2.1] v2.2
    refine ia_go hK ck_M_from_19 ⟨fun c => ?_, fun c => ?_⟩
    · replace hm := ia_ifn hm c
      show K 26 [some (.inr (.inr 417)), some (.inl x1), some (.inl x2), some (.inl x3), some (.inl x4), some (.inl x5), some (.inl x6), none, none, none] [] v2.2
      refine ia_go hK ck_M_from_26 ?_
      show K 32 [some (.inr (.inr 417)), some (.inl x1), some (.inl x2), some (.inl x3), some (.inl x4), some (.inl x5), some (.inl x6), some (.inr (.inl 0)), none, some (.inl 0)] [] v2.2
      refine ia_fg hK (lv' := [some (.inr (.inr 417)), none, none, none, none, some (.inl x5), some (.inl x6), some (.inr (.inl 0)), none, some (.inl 0)]) ⟨rfl, rfl, rfl, rfl, rfl, trivial⟩ ?_
      refine tl_M_from_32 hK hret ?_ fu_ 0 0 v2.2 gv2 hm
      · intro y7 h hg hm
        refine ia_go hK ck_M_from_74 ?_
        show K 76 [none, none, none, none, none, none, none, some (.inr (.inl y7)), none, none] [.inr (.inl y7)] h
        obtain ⟨rfl, rfl⟩ := Prod.mk.inj (Option.some.inj hm)
        exact hret 76 _ dc_M_from_76
    · replace hm := ia_ifp hm c
      show K 22 [some (.inr (.inr 417)), some (.inl x1), some (.inl x2), some (.inl x3), some (.inl x4), some (.inl x5), some (.inl x6), none, none, none] [] v2.2
      refine ia_ldc2 hK (v := (-1)) (ia_tb_in (List.mem_of_getElem? (i := 2043) (by decide +kernel)) rfl) dc_M_from_22 ?_
      show K 25 [some (.inr (.inr 417)), some (.inl x1), some (.inl x2), some (.inl x3), some (.inl x4), some (.inl x5), some (.inl x6), none, none, none] [.inr (.inl (-1))] v2.2
      obtain ⟨rfl, rfl⟩ := Prod.mk.inj (Option.some.inj hm)
      exact hret 25 _ dc_M_from_25
def mm_M_part : ia_M := (⟨"IceStreetModel", "part", "(IIIIIZ)J"⟩, prog_14_method_90_code, 12, (some .long), 12, false)
theorem ok_M_part : ia_mok mm_M_part := ⟨by decide +kernel, by decide +kernel, by decide +kernel, by decide +kernel⟩
theorem mk_M_part : ia_mkn mm_M_part 1 6 := ⟨ia_tb_in (List.mem_of_getElem? (i := 2068) (by decide +kernel)) rfl, ia_tb_in (List.mem_of_getElem? (i := 146) (by decide +kernel)) rfl, by decide +kernel, by decide +kernel, ⟨ia_tb_in (List.mem_of_getElem? (i := 2066) (by decide +kernel)) rfl, ia_tb_in (List.mem_of_getElem? (i := 2067) (by decide +kernel)) rfl⟩⟩
theorem ck_M_part_0 : ia_cks 12 12 false prog_14_method_90_code 0 [(.aload_n 0, 0, 0, 0, 0), (.iload_n 1, 0, 0, 0, 0), (.iload_n 2, 0, 0, 0, 0), (.iload_n 3, 0, 0, 0, 0), (.iload 4, 0, 0, 0, 0), (.iload 5, 0, 0, 0, 0)] = true := by decide +kernel
theorem ck_M_part_11 : ia_cks 12 12 false prog_14_method_90_code 11 [(.ifCond .ne 7, 0, 0, 0, 0)] = true := by decide +kernel
theorem ck_M_part_18 : ia_cks 12 12 false prog_14_method_90_code 18 [(.aload_n 0, 0, 0, 0, 0), (.iload 5, 0, 0, 0, 0)] = true := by decide +kernel
theorem ck_M_part_24 : ia_cks 12 12 false prog_14_method_90_code 24 [(.lstore 7, 0, 0, 0, 0), (.lconst 0, 0, 0, 0, 0), (.lstore 9, 0, 0, 0, 0), (.iconst 0, 0, 0, 0, 0), (.istore 11, 0, 0, 0, 0)] = true := by decide +kernel
theorem ck_M_part_32 : ia_cks 12 12 false prog_14_method_90_code 32 [(.iload 11, 0, 0, 0, 0), (.aload_n 0, 0, 0, 0, 0), (.getfield 7, 12, 0, 3, 1), (.aload_n 0, 0, 0, 0, 0), (.getfield 201, 12, 14, 0, 0), (.iconst 4, 0, 0, 0, 0), (.iadd, 0, 0, 0, 0), (.iaload, 0, 0, 0, 0), (.if_icmp .ge 74, 0, 0, 0, 0)] = true := by decide +kernel
theorem ck_M_part_48 : ia_cks 12 12 false prog_14_method_90_code 48 [(.aload_n 0, 0, 0, 0, 0), (.iload 11, 0, 0, 0, 0)] = true := by decide +kernel
theorem ck_M_part_54 : ia_cks 12 12 false prog_14_method_90_code 54 [(.ifCond .eq 59, 0, 0, 0, 0)] = true := by decide +kernel
theorem ck_M_part_113 : ia_cks 12 12 false prog_14_method_90_code 113 [(.iinc 11 1, 0, 0, 0, 0), (.goto (-84), 0, 0, 0, 0)] = true := by decide +kernel
theorem ck_M_part_57 : ia_cks 12 12 false prog_14_method_90_code 57 [(.lload 7, 0, 0, 0, 0), (.aload_n 0, 0, 0, 0, 0), (.getfield 23, 12, 13, 3, 5), (.bipush 72, 0, 0, 0, 0), (.iload 11, 0, 0, 0, 0), (.iadd, 0, 0, 0, 0), (.iaload, 0, 0, 0, 0), (.lshr, 0, 0, 0, 0), (.lconst 1, 0, 0, 0, 0), (.land, 0, 0, 0, 0), (.lconst 1, 0, 0, 0, 0), (.lcmp, 0, 0, 0, 0), (.ifCond .ne 39, 0, 0, 0, 0)] = true := by decide +kernel
theorem ck_M_part_77 : ia_cks 12 12 false prog_14_method_90_code 77 [(.lload 9, 0, 0, 0, 0), (.aload_n 0, 0, 0, 0, 0), (.getfield 7, 12, 0, 3, 1), (.aload_n 0, 0, 0, 0, 0), (.getfield 219, 12, 15, 0, 0), (.iconst 3, 0, 0, 0, 0), (.iadd, 0, 0, 0, 0), (.iaload, 0, 0, 0, 0), (.aload_n 0, 0, 0, 0, 0), (.getfield 23, 12, 13, 3, 5), (.aload_n 0, 0, 0, 0, 0), (.getfield 23, 12, 13, 3, 5), (.bipush 72, 0, 0, 0, 0), (.iload 11, 0, 0, 0, 0), (.iadd, 0, 0, 0, 0), (.iaload, 0, 0, 0, 0), (.iaload, 0, 0, 0, 0), (.imul, 0, 0, 0, 0), (.bipush 10, 0, 0, 0, 0), (.idiv, 0, 0, 0, 0), (.i2l, 0, 0, 0, 0), (.ladd, 0, 0, 0, 0), (.lstore 9, 0, 0, 0, 0), (.iinc 11 1, 0, 0, 0, 0), (.goto (-84), 0, 0, 0, 0)] = true := by decide +kernel
theorem ck_M_part_119 : ia_cks 12 12 false prog_14_method_90_code 119 [(.iload 6, 0, 0, 0, 0), (.ifCond .eq 8, 0, 0, 0, 0)] = true := by decide +kernel
theorem ck_M_part_129 : ia_cks 12 12 false prog_14_method_90_code 129 [(.lload 7, 0, 0, 0, 0)] = true := by decide +kernel
theorem ck_M_part_124 : ia_cks 12 12 false prog_14_method_90_code 124 [(.lload 9, 0, 0, 0, 0), (.goto 5, 0, 0, 0, 0)] = true := by decide +kernel
theorem dc_M_part_8 : decode prog_14_method_90_code 8 = .ok (.invokevirtual 321, 3) := by decide +kernel
theorem dc_M_part_21 : decode prog_14_method_90_code 21 = .ok (.invokevirtual 305, 3) := by decide +kernel
theorem dc_M_part_51 : decode prog_14_method_90_code 51 = .ok (.invokevirtual 222, 3) := by decide +kernel
theorem dc_M_part_131 : decode prog_14_method_90_code 131 = .ok (.lreturn, 1) := by decide +kernel
theorem dc_M_part_14 : decode prog_14_method_90_code 14 = .ok (.ldc2_w 334, 3) := by decide +kernel
theorem dc_M_part_17 : decode prog_14_method_90_code 17 = .ok (.lreturn, 1) := by decide +kernel
def l_M_part_32 (x1 : Int32) (x2 : Int32) (x3 : Int32) (x4 : Int32) (x5 : Int32) (x6 : Int32) (k119 : Int64 → Int64 → ia_H → Option (Int64 × ia_H)) (n : Nat) (y7 : Int64) (y9 : Int64) (x11 : Int32) (h : ia_H) : Option (Int64 × ia_H) := match n with
  | 0 => none
  | n + 1 => ia_gd (ia_ib ((ia_i h 417 14) + 4) 6528) (if (ia_i h 418 (((ia_i h 417 14) + 4).toNatClampNeg)) ≤ x11 then (k119 y7 y9 h) else ((f_M_stands x11 h).bind fun v4 => (if v4 = 0 then (l_M_part_32 x1 x2 x3 x4 x5 x6 k119 n y7 y9 (x11 + 1) h) else (ia_gd (ia_ib (72 + x11) 1120) (if (lg_cmp ((y7 >>> ((ia_i h 422 ((72 + x11).toNatClampNeg)).toInt64 &&& 63)) &&& 1) 1) = 0 then (ia_gd (ia_ib ((ia_i h 417 15) + 3) 6528) (ia_gd (ia_ib (72 + x11) 1120) (ia_gd (ia_ib (ia_i h 422 ((72 + x11).toNatClampNeg)) 1120) (l_M_part_32 x1 x2 x3 x4 x5 x6 k119 n y7 (y9 + ((((ia_i h 418 (((ia_i h 417 15) + 3).toNatClampNeg)) * (ia_i h 422 ((ia_i h 422 ((72 + x11).toNatClampNeg)).toNatClampNeg))) / 10).toInt64)) (x11 + 1) h)))) else (l_M_part_32 x1 x2 x3 x4 x5 x6 k119 n y7 y9 (x11 + 1) h))))))
theorem tl_M_part_32 {w : ia_O0} {d N1 W1 : Nat} {K : ia_K} (hK : ia_isK (d + 12) mm_M_part N1 W1 K) {x1 : Int32} {x2 : Int32} {x3 : Int32} {x4 : Int32} {x5 : Int32} {x6 : Int32} {r : Int64} {h1 : ia_H} (hret : ∀ (pc : Nat) (lv : ia_L), ia_ret mm_M_part pc (some (.inr (.inl r))) → K pc lv ((some (.inr (.inl r))) : Option ia_V).toList h1) {k119 : Int64 → Int64 → ia_H → Option (Int64 × ia_H)} (hk119 : ∀ (y7 : Int64) (y9 : Int64) (h : ia_H), gd_ w h → k119 y7 y9 h = some (r, h1) → K 119 [none, none, none, none, none, none, some (.inl x6), some (.inr (.inl y7)), none, some (.inr (.inl y9)), none, none] [] h) : ∀ (n : Nat) (y7 : Int64) (y9 : Int64) (x11 : Int32) (h : ia_H), gd_ w h → l_M_part_32 x1 x2 x3 x4 x5 x6 k119 n y7 y9 x11 h = some (r, h1) → K 32 [some (.inr (.inr 417)), none, none, none, none, none, some (.inl x6), some (.inr (.inl y7)), none, some (.inr (.inl y9)), none, some (.inl x11)] [] h := by
  intro n
  induction n with
  | zero =>
    intro y7 y9 x11 h hg hm
    cases (show (none : Option (Int64 × ia_H)) = some _ from hm)
  | succ n ih =>
    intro y7 y9 x11 h hg hm
    rw [l_M_part_32] at hm
    obtain ⟨c3, hm⟩ := ia_gd_some hm
    refine ia_go hK ck_M_part_32 ⟨gk_12 hg pk_417, gr_12_0 hg pk_417, gk_12 hg pk_417, ga_i100 hg (ka_12_0 pk_417) c3, fun c => ?_, fun c => ?_⟩
    · replace hm := ia_ifp hm c
      show K 119 [some (.inr (.inr 417)), none, none, none, none, none, some (.inl x6), some (.inr (.inl y7)), none, some (.inr (.inl y9)), none, some (.inl x11)] [] h
      refine ia_fg hK (lv' := [none, none, none, none, none, none, some (.inl x6), some (.inr (.inl y7)), none, some (.inr (.inl y9)), none, none]) ⟨rfl, rfl, rfl, trivial⟩ ?_
      exact hk119 y7 y9 h hg hm
    · replace hm := ia_ifn hm c
      show K 48 [some (.inr (.inr 417)), none, none, none, none, none, some (.inl x6), some (.inr (.inl y7)), none, some (.inr (.inl y9)), none, some (.inl x11)] [] h
      refine ia_go hK ck_M_part_48 ?_
      show K 51 [some (.inr (.inr 417)), none, none, none, none, none, some (.inl x6), some (.inr (.inl y7)), none, some (.inr (.inl y9)), none, some (.inl x11)] [.inl x11, .inr (.inr 417)] h
      obtain ⟨v4, hv4, hm⟩ := ia_bnd hm
      have ev4 := t_M_stands (d + 9) hg hv4
      refine ia_cV hK mk_M_stands lk_12_222 dc_M_part_51 417 [.inl x11] [] rfl rfl (Nat.le_of_ble_eq_true rfl) (by decide) rfl (gk_12 hg pk_417) ev4 ⟨rfl, rfl⟩ ?_
      show K 54 [some (.inr (.inr 417)), none, none, none, none, none, some (.inl x6), some (.inr (.inl y7)), none, some (.inr (.inl y9)), none, some (.inl x11)] [.inl v4] h
      refine ia_go hK ck_M_part_54 ⟨fun c => ?_, fun c => ?_⟩
      · replace hm := ia_ifp hm c
        show K 113 [some (.inr (.inr 417)), none, none, none, none, none, some (.inl x6), some (.inr (.inl y7)), none, some (.inr (.inl y9)), none, some (.inl x11)] [] h
        refine ia_go hK ck_M_part_113 ?_
        show K 32 [some (.inr (.inr 417)), none, none, none, none, none, some (.inl x6), some (.inr (.inl y7)), none, some (.inr (.inl y9)), none, some (.inl (x11 + 1))] [] h
        exact ih y7 y9 (x11 + 1) h hg hm
      · replace hm := ia_ifn hm c
        show K 57 [some (.inr (.inr 417)), none, none, none, none, none, some (.inl x6), some (.inr (.inl y7)), none, some (.inr (.inl y9)), none, some (.inl x11)] [] h
        obtain ⟨c5, hm⟩ := ia_gd_some hm
        refine ia_go hK ck_M_part_57 ⟨gk_12 hg pk_417, gr_12_13 hg pk_417, ga_i100 hg (ka_12_13 pk_417) c5, fun c => ?_, fun c => ?_⟩
        · replace hm := ia_ifn hm c
          show K 113 [some (.inr (.inr 417)), none, none, none, none, none, some (.inl x6), some (.inr (.inl y7)), none, some (.inr (.inl y9)), none, some (.inl x11)] [] h
          refine ia_go hK ck_M_part_113 ?_
          show K 32 [some (.inr (.inr 417)), none, none, none, none, none, some (.inl x6), some (.inr (.inl y7)), none, some (.inr (.inl y9)), none, some (.inl (x11 + 1))] [] h
          exact ih y7 y9 (x11 + 1) h hg hm
        · replace hm := ia_ifp hm c
          show K 77 [some (.inr (.inr 417)), none, none, none, none, none, some (.inl x6), some (.inr (.inl y7)), none, some (.inr (.inl y9)), none, some (.inl x11)] [] h
          obtain ⟨c6, hm⟩ := ia_gd_some hm
          obtain ⟨c7, hm⟩ := ia_gd_some hm
          obtain ⟨c8, hm⟩ := ia_gd_some hm
          refine ia_go hK ck_M_part_77 ⟨gk_12 hg pk_417, gr_12_0 hg pk_417, gk_12 hg pk_417, ga_i100 hg (ka_12_0 pk_417) c6, gk_12 hg pk_417, gr_12_13 hg pk_417, gk_12 hg pk_417, gr_12_13 hg pk_417, ga_i100 hg (ka_12_13 pk_417) c7, ga_i100 hg (ka_12_13 pk_417) c8, (by decide), ?_⟩
          show K 32 [some (.inr (.inr 417)), none, none, none, none, none, some (.inl x6), some (.inr (.inl y7)), none, some (.inr (.inl (y9 + ((((ia_i h 418 (((ia_i h 417 15) + 3).toNatClampNeg)) * (ia_i h 422 ((ia_i h 422 ((72 + x11).toNatClampNeg)).toNatClampNeg))) / 10).toInt64)))), none, some (.inl (x11 + 1))] [] h
          exact ih y7 (y9 + ((((ia_i h 418 (((ia_i h 417 15) + 3).toNatClampNeg)) * (ia_i h 422 ((ia_i h 422 ((72 + x11).toNatClampNeg)).toNatClampNeg))) / 10).toInt64)) (x11 + 1) h hg hm
theorem gl_M_part_32 {w : ia_O0} {x1 : Int32} {x2 : Int32} {x3 : Int32} {x4 : Int32} {x5 : Int32} {x6 : Int32} {r : Int64} {h1 : ia_H} {k119 : Int64 → Int64 → ia_H → Option (Int64 × ia_H)} (hk119 : ∀ (y7 : Int64) (y9 : Int64) (h : ia_H), gd_ w h → k119 y7 y9 h = some (r, h1) → gd_ w h1) : ∀ (n : Nat) (y7 : Int64) (y9 : Int64) (x11 : Int32) (h : ia_H), gd_ w h → l_M_part_32 x1 x2 x3 x4 x5 x6 k119 n y7 y9 x11 h = some (r, h1) → gd_ w h1 := by
  intro n
  induction n with
  | zero =>
    intro y7 y9 x11 h hg hm
    cases (show (none : Option (Int64 × ia_H)) = some _ from hm)
  | succ n ih =>
    intro y7 y9 x11 h hg hm
    rw [l_M_part_32] at hm
    obtain ⟨c3, hm⟩ := ia_gd_some hm
    by_cases c : (ia_i h 418 (((ia_i h 417 14) + 4).toNatClampNeg)) ≤ x11
    · replace hm := ia_ifp hm c
      exact hk119 y7 y9 h hg hm
    · replace hm := ia_ifn hm c
      obtain ⟨v4, hv4, hm⟩ := ia_bnd hm
      by_cases c : v4 = 0
      · replace hm := ia_ifp hm c
        exact ih y7 y9 (x11 + 1) h hg hm
      · replace hm := ia_ifn hm c
        obtain ⟨c5, hm⟩ := ia_gd_some hm
        by_cases c : (lg_cmp ((y7 >>> ((ia_i h 422 ((72 + x11).toNatClampNeg)).toInt64 &&& 63)) &&& 1) 1) = 0
        · replace hm := ia_ifp hm c
          obtain ⟨c6, hm⟩ := ia_gd_some hm
          obtain ⟨c7, hm⟩ := ia_gd_some hm
          obtain ⟨c8, hm⟩ := ia_gd_some hm
          exact ih y7 (y9 + ((((ia_i h 418 (((ia_i h 417 15) + 3).toNatClampNeg)) * (ia_i h 422 ((ia_i h 422 ((72 + x11).toNatClampNeg)).toNatClampNeg))) / 10).toInt64)) (x11 + 1) h hg hm
        · replace hm := ia_ifn hm c
          exact ih y7 y9 (x11 + 1) h hg hm
def f_M_part (x1 : Int32) (x2 : Int32) (x3 : Int32) (x4 : Int32) (x5 : Int32) (x6 : Int32) (h : ia_H) : Option (Int64 × ia_H) := (f_M_isIce x1 x2 x3 x4 x5 h).bind fun v1 => (if v1.1 = 0 then (some ((-1), v1.2)) else ((f_M_partOf x5 v1.2).bind fun v2 => (l_M_part_32 x1 x2 x3 x4 x5 x6 (fun y7 y9 h => if x6 = 0 then (some (y7, h)) else (some (y9, h))) fu_ v2 0 0 v1.2)))
theorem g_M_part {w : ia_O0} {x1 : Int32} {x2 : Int32} {x3 : Int32} {x4 : Int32} {x5 : Int32} {x6 : Int32} {h : ia_H} (hg : gd_ w h) {q : (Int64 × ia_H)} (hm : f_M_part x1 x2 x3 x4 x5 x6 h = some q) : gd_ w q.2 := by
  obtain ⟨r, h1⟩ := q
  unfold f_M_part at hm
  obtain ⟨v1, hv1, hm⟩ := ia_bnd hm
  have gv1 := g_M_isIce hg hv1
  by_cases c : v1.1 = 0
  · replace hm := ia_ifp hm c
    obtain ⟨rfl, rfl⟩ := Prod.mk.inj (Option.some.inj hm)
    exact gv1
  · replace hm := ia_ifn hm c
    obtain ⟨v2, hv2, hm⟩ := ia_bnd hm
    refine gl_M_part_32 ?_ fu_ v2 0 0 v1.2 gv1 hm
    · intro y7 y9 h hg hm
      by_cases c : x6 = 0
      · replace hm := ia_ifp hm c
        obtain ⟨rfl, rfl⟩ := Prod.mk.inj (Option.some.inj hm)
        exact hg
      · replace hm := ia_ifn hm c
        obtain ⟨rfl, rfl⟩ := Prod.mk.inj (Option.some.inj hm)
        exact hg
theorem t_M_part {w : ia_O0} (d : Nat) {x1 : Int32} {x2 : Int32} {x3 : Int32} {x4 : Int32} {x5 : Int32} {x6 : Int32} {h : ia_H} (hg : gd_ w h) {q : (Int64 × ia_H)} (hm : f_M_part x1 x2 x3 x4 x5 x6 h = some q) : ia_Ev (d + 12) mm_M_part [.inr (.inr 417), .inl x1, .inl x2, .inl x3, .inl x4, .inl x5, .inl x6] h (some (.inr (.inl q.1))) q.2 := by
  have gq := g_M_part hg hm
  refine ia_Ev_intro ok_M_part (gd_le hg gq).1 (gd_le hg gq).2 (Nat.le_of_ble_eq_true rfl) (fun K hK hret => ?_)
  obtain ⟨r, h1⟩ := q
  show K 0 [some (.inr (.inr 417)), some (.inl x1), some (.inl x2), some (.inl x3), some (.inl x4), some (.inl x5), some (.inl x6), none, none, none, none, none] [] h
  unfold f_M_part at hm
  refine ia_go hK ck_M_part_0 ?_
  show K 8 [some (.inr (.inr 417)), some (.inl x1), some (.inl x2), some (.inl x3), some (.inl x4), some (.inl x5), some (.inl x6), none, none, none, none, none] [.inl x5, .inl x4, .inl x3, .inl x2, .inl x1, .inr (.inr 417)] h
  obtain ⟨v1, hv1, hm⟩ := ia_bnd hm
  have ev1 := t_M_isIce (d + 0) hg hv1
  have gv1 := g_M_isIce hg hv1
  refine ia_cV hK mk_M_isIce lk_12_321 dc_M_part_8 417 [.inl x1, .inl x2, .inl x3, .inl x4, .inl x5] [] rfl rfl (Nat.le_of_ble_eq_true rfl) (by decide) rfl (gk_12 hg pk_417) ev1 (gd_nm hg gv1) ?_
  show K 11 [some (.inr (.inr 417)), some (.inl x1), some (.inl x2), some (.inl x3), some (.inl x4), some (.inl x5), some (.inl x6), none, none, none, none, none] [.inl v1.1] v1.2
  refine ia_go hK ck_M_part_11 ⟨fun c => ?_, fun c => ?_⟩
  · replace hm := ia_ifn hm c
    show K 18 [some (.inr (.inr 417)), some (.inl x1), some (.inl x2), some (.inl x3), some (.inl x4), some (.inl x5), some (.inl x6), none, none, none, none, none] [] v1.2
    refine ia_go hK ck_M_part_18 ?_
    show K 21 [some (.inr (.inr 417)), some (.inl x1), some (.inl x2), some (.inl x3), some (.inl x4), some (.inl x5), some (.inl x6), none, none, none, none, none] [.inl x5, .inr (.inr 417)] v1.2
    obtain ⟨v2, hv2, hm⟩ := ia_bnd hm
    have ev2 := t_M_partOf (d + 8) gv1 hv2
    refine ia_cV hK mk_M_partOf lk_12_305 dc_M_part_21 417 [.inl x5] [] rfl rfl (Nat.le_of_ble_eq_true rfl) (by decide) rfl (gk_12 gv1 pk_417) ev2 ⟨rfl, rfl⟩ ?_
    show K 24 [some (.inr (.inr 417)), some (.inl x1), some (.inl x2), some (.inl x3), some (.inl x4), some (.inl x5), some (.inl x6), none, none, none, none, none] [.inr (.inl v2)] v1.2
    refine ia_go hK ck_M_part_24 ?_
    show K 32 [some (.inr (.inr 417)), some (.inl x1), some (.inl x2), some (.inl x3), some (.inl x4), some (.inl x5), some (.inl x6), some (.inr (.inl v2)), none, some (.inr (.inl 0)), none, some (.inl 0)] [] v1.2
    refine ia_fg hK (lv' := [some (.inr (.inr 417)), none, none, none, none, none, some (.inl x6), some (.inr (.inl v2)), none, some (.inr (.inl 0)), none, some (.inl 0)]) ⟨rfl, rfl, rfl, rfl, rfl, trivial⟩ ?_
    refine tl_M_part_32 hK hret ?_ fu_ v2 0 0 v1.2 gv1 hm
    · intro y7 y9 h hg hm
      refine ia_go hK ck_M_part_119 ⟨fun c => ?_, fun c => ?_⟩
      · replace hm := ia_ifp hm c
        show K 129 [none, none, none, none, none, none, some (.inl x6), some (.inr (.inl y7)), none, some (.inr (.inl y9)), none, none] [] h
        refine ia_go hK ck_M_part_129 ?_
        show K 131 [none, none, none, none, none, none, some (.inl x6), some (.inr (.inl y7)), none, some (.inr (.inl y9)), none, none] [.inr (.inl y7)] h
        obtain ⟨rfl, rfl⟩ := Prod.mk.inj (Option.some.inj hm)
        exact hret 131 _ dc_M_part_131
      · replace hm := ia_ifn hm c
        show K 124 [none, none, none, none, none, none, some (.inl x6), some (.inr (.inl y7)), none, some (.inr (.inl y9)), none, none] [] h
        refine ia_go hK ck_M_part_124 ?_
        show K 131 [none, none, none, none, none, none, some (.inl x6), some (.inr (.inl y7)), none, some (.inr (.inl y9)), none, none] [.inr (.inl y9)] h
        obtain ⟨rfl, rfl⟩ := Prod.mk.inj (Option.some.inj hm)
        exact hret 131 _ dc_M_part_131
  · replace hm := ia_ifp hm c
    show K 14 [some (.inr (.inr 417)), some (.inl x1), some (.inl x2), some (.inl x3), some (.inl x4), some (.inl x5), some (.inl x6), none, none, none, none, none] [] v1.2
    refine ia_ldc2 hK (v := (-1)) (ia_tb_in (List.mem_of_getElem? (i := 2043) (by decide +kernel)) rfl) dc_M_part_14 ?_
    show K 17 [some (.inr (.inr 417)), some (.inl x1), some (.inl x2), some (.inl x3), some (.inl x4), some (.inl x5), some (.inl x6), none, none, none, none, none] [.inr (.inl (-1))] v1.2
    obtain ⟨rfl, rfl⟩ := Prod.mk.inj (Option.some.inj hm)
    exact hret 17 _ dc_M_part_17
def mm_M_isStanding : ia_M := (⟨"IceStreetModel", "isStanding", "(IIIII)Z"⟩, prog_14_method_91_code, 6, (some .boolean), 12, false)
theorem ok_M_isStanding : ia_mok mm_M_isStanding := ⟨by decide +kernel, by decide +kernel, by decide +kernel, by decide +kernel⟩
theorem mk_M_isStanding : ia_mkn mm_M_isStanding 1 5 := ⟨ia_tb_in (List.mem_of_getElem? (i := 2076) (by decide +kernel)) rfl, ia_tb_in (List.mem_of_getElem? (i := 146) (by decide +kernel)) rfl, by decide +kernel, by decide +kernel, ⟨ia_tb_in (List.mem_of_getElem? (i := 2075) (by decide +kernel)) rfl, ia_tb_in (List.mem_of_getElem? (i := 113) (by decide +kernel)) rfl⟩⟩
theorem ck_M_isStanding_0 : ia_cks 12 6 false prog_14_method_91_code 0 [(.aload_n 0, 0, 0, 0, 0), (.iload_n 1, 0, 0, 0, 0), (.iload_n 2, 0, 0, 0, 0), (.iload_n 3, 0, 0, 0, 0), (.iload 4, 0, 0, 0, 0)] = true := by decide +kernel
theorem ck_M_isStanding_9 : ia_cks 12 6 false prog_14_method_91_code 9 [(.ifCond .eq 16, 0, 0, 0, 0)] = true := by decide +kernel
theorem ck_M_isStanding_25 : ia_cks 12 6 false prog_14_method_91_code 25 [(.iconst 0, 0, 0, 0, 0)] = true := by decide +kernel
theorem ck_M_isStanding_12 : ia_cks 12 6 false prog_14_method_91_code 12 [(.aload_n 0, 0, 0, 0, 0), (.iload 5, 0, 0, 0, 0)] = true := by decide +kernel
theorem ck_M_isStanding_18 : ia_cks 12 6 false prog_14_method_91_code 18 [(.ifCond .eq 7, 0, 0, 0, 0)] = true := by decide +kernel
theorem ck_M_isStanding_21 : ia_cks 12 6 false prog_14_method_91_code 21 [(.iconst 1, 0, 0, 0, 0), (.goto 4, 0, 0, 0, 0)] = true := by decide +kernel
theorem dc_M_isStanding_6 : decode prog_14_method_91_code 6 = .ok (.invokevirtual 309, 3) := by decide +kernel
theorem dc_M_isStanding_26 : decode prog_14_method_91_code 26 = .ok (.ireturn, 1) := by decide +kernel
theorem dc_M_isStanding_15 : decode prog_14_method_91_code 15 = .ok (.invokevirtual 222, 3) := by decide +kernel
def f_M_isStanding (x1 : Int32) (x2 : Int32) (x3 : Int32) (x4 : Int32) (x5 : Int32) (h : ia_H) : Option (Int32 × ia_H) := (f_M_isState x1 x2 x3 x4 h).bind fun v1 => (if v1.1 = 0 then (some (0, v1.2)) else ((f_M_stands x5 v1.2).bind fun v2 => (if v2 = 0 then (some (0, v1.2)) else (some (1, v1.2)))))
theorem g_M_isStanding {w : ia_O0} {x1 : Int32} {x2 : Int32} {x3 : Int32} {x4 : Int32} {x5 : Int32} {h : ia_H} (hg : gd_ w h) {q : (Int32 × ia_H)} (hm : f_M_isStanding x1 x2 x3 x4 x5 h = some q) : gd_ w q.2 := by
  obtain ⟨r, h1⟩ := q
  unfold f_M_isStanding at hm
  obtain ⟨v1, hv1, hm⟩ := ia_bnd hm
  have gv1 := g_M_isState hg hv1
  by_cases c : v1.1 = 0
  · replace hm := ia_ifp hm c
    obtain ⟨rfl, rfl⟩ := Prod.mk.inj (Option.some.inj hm)
    exact gv1
  · replace hm := ia_ifn hm c
    obtain ⟨v2, hv2, hm⟩ := ia_bnd hm
    by_cases c : v2 = 0
    · replace hm := ia_ifp hm c
      obtain ⟨rfl, rfl⟩ := Prod.mk.inj (Option.some.inj hm)
      exact gv1
    · replace hm := ia_ifn hm c
      obtain ⟨rfl, rfl⟩ := Prod.mk.inj (Option.some.inj hm)
      exact gv1
theorem t_M_isStanding {w : ia_O0} (d : Nat) {x1 : Int32} {x2 : Int32} {x3 : Int32} {x4 : Int32} {x5 : Int32} {h : ia_H} (hg : gd_ w h) {q : (Int32 × ia_H)} (hm : f_M_isStanding x1 x2 x3 x4 x5 h = some q) : ia_Ev (d + 11) mm_M_isStanding [.inr (.inr 417), .inl x1, .inl x2, .inl x3, .inl x4, .inl x5] h (some (.inl q.1)) q.2 := by
  have gq := g_M_isStanding hg hm
  refine ia_Ev_intro ok_M_isStanding (gd_le hg gq).1 (gd_le hg gq).2 (Nat.le_of_ble_eq_true rfl) (fun K hK hret => ?_)
  obtain ⟨r, h1⟩ := q
  show K 0 [some (.inr (.inr 417)), some (.inl x1), some (.inl x2), some (.inl x3), some (.inl x4), some (.inl x5)] [] h
  unfold f_M_isStanding at hm
  refine ia_go hK ck_M_isStanding_0 ?_
  show K 6 [some (.inr (.inr 417)), some (.inl x1), some (.inl x2), some (.inl x3), some (.inl x4), some (.inl x5)] [.inl x4, .inl x3, .inl x2, .inl x1, .inr (.inr 417)] h
  obtain ⟨v1, hv1, hm⟩ := ia_bnd hm
  have ev1 := t_M_isState (d + 0) hg hv1
  have gv1 := g_M_isState hg hv1
  refine ia_cV hK mk_M_isState lk_12_309 dc_M_isStanding_6 417 [.inl x1, .inl x2, .inl x3, .inl x4] [] rfl rfl (Nat.le_of_ble_eq_true rfl) (by decide) rfl (gk_12 hg pk_417) ev1 (gd_nm hg gv1) ?_
  show K 9 [some (.inr (.inr 417)), some (.inl x1), some (.inl x2), some (.inl x3), some (.inl x4), some (.inl x5)] [.inl v1.1] v1.2
  refine ia_go hK ck_M_isStanding_9 ⟨fun c => ?_, fun c => ?_⟩
  · replace hm := ia_ifp hm c
    show K 25 [some (.inr (.inr 417)), some (.inl x1), some (.inl x2), some (.inl x3), some (.inl x4), some (.inl x5)] [] v1.2
    refine ia_go hK ck_M_isStanding_25 ?_
    show K 26 [some (.inr (.inr 417)), some (.inl x1), some (.inl x2), some (.inl x3), some (.inl x4), some (.inl x5)] [.inl 0] v1.2
    obtain ⟨rfl, rfl⟩ := Prod.mk.inj (Option.some.inj hm)
    exact hret 26 _ ⟨Or.inl rfl, dc_M_isStanding_26⟩
  · replace hm := ia_ifn hm c
    show K 12 [some (.inr (.inr 417)), some (.inl x1), some (.inl x2), some (.inl x3), some (.inl x4), some (.inl x5)] [] v1.2
    refine ia_go hK ck_M_isStanding_12 ?_
    show K 15 [some (.inr (.inr 417)), some (.inl x1), some (.inl x2), some (.inl x3), some (.inl x4), some (.inl x5)] [.inl x5, .inr (.inr 417)] v1.2
    obtain ⟨v2, hv2, hm⟩ := ia_bnd hm
    have ev2 := t_M_stands (d + 8) gv1 hv2
    refine ia_cV hK mk_M_stands lk_12_222 dc_M_isStanding_15 417 [.inl x5] [] rfl rfl (Nat.le_of_ble_eq_true rfl) (by decide) rfl (gk_12 gv1 pk_417) ev2 ⟨rfl, rfl⟩ ?_
    show K 18 [some (.inr (.inr 417)), some (.inl x1), some (.inl x2), some (.inl x3), some (.inl x4), some (.inl x5)] [.inl v2] v1.2
    refine ia_go hK ck_M_isStanding_18 ⟨fun c => ?_, fun c => ?_⟩
    · replace hm := ia_ifp hm c
      show K 25 [some (.inr (.inr 417)), some (.inl x1), some (.inl x2), some (.inl x3), some (.inl x4), some (.inl x5)] [] v1.2
      refine ia_go hK ck_M_isStanding_25 ?_
      show K 26 [some (.inr (.inr 417)), some (.inl x1), some (.inl x2), some (.inl x3), some (.inl x4), some (.inl x5)] [.inl 0] v1.2
      obtain ⟨rfl, rfl⟩ := Prod.mk.inj (Option.some.inj hm)
      exact hret 26 _ ⟨Or.inl rfl, dc_M_isStanding_26⟩
    · replace hm := ia_ifn hm c
      show K 21 [some (.inr (.inr 417)), some (.inl x1), some (.inl x2), some (.inl x3), some (.inl x4), some (.inl x5)] [] v1.2
      refine ia_go hK ck_M_isStanding_21 ?_
      show K 26 [some (.inr (.inr 417)), some (.inl x1), some (.inl x2), some (.inl x3), some (.inl x4), some (.inl x5)] [.inl 1] v1.2
      obtain ⟨rfl, rfl⟩ := Prod.mk.inj (Option.some.inj hm)
      exact hret 26 _ ⟨Or.inr rfl, dc_M_isStanding_26⟩
def mm_M_holdsFor : ia_M := (⟨"IceStreetModel", "holdsFor", "(I)I"⟩, prog_14_method_92_code, 3, (some .int), 12, false)
theorem ok_M_holdsFor : ia_mok mm_M_holdsFor := ⟨by decide +kernel, by decide +kernel, by decide +kernel, by decide +kernel⟩
theorem mk_M_holdsFor : ia_mkn mm_M_holdsFor 1 1 := ⟨ia_tb_in (List.mem_of_getElem? (i := 2080) (by decide +kernel)) rfl, ia_tb_in (List.mem_of_getElem? (i := 146) (by decide +kernel)) rfl, by decide +kernel, by decide +kernel, ⟨ia_tb_in (List.mem_of_getElem? (i := 2079) (by decide +kernel)) rfl, ia_tb_in (List.mem_of_getElem? (i := 114) (by decide +kernel)) rfl⟩⟩
theorem ck_M_holdsFor_0 : ia_cks 12 3 false prog_14_method_92_code 0 [(.aload_n 0, 0, 0, 0, 0), (.iload_n 1, 0, 0, 0, 0)] = true := by decide +kernel
theorem ck_M_holdsFor_5 : ia_cks 12 3 false prog_14_method_92_code 5 [(.ifCond .ne 5, 0, 0, 0, 0)] = true := by decide +kernel
theorem ck_M_holdsFor_10 : ia_cks 12 3 false prog_14_method_92_code 10 [(.iconst 1, 0, 0, 0, 0), (.istore_n 2, 0, 0, 0, 0)] = true := by decide +kernel
theorem ck_M_holdsFor_12 : ia_cks 12 3 false prog_14_method_92_code 12 [(.iload_n 2, 0, 0, 0, 0), (.bipush 60, 0, 0, 0, 0), (.if_icmp .gt 23, 0, 0, 0, 0)] = true := by decide +kernel
theorem ck_M_holdsFor_18 : ia_cks 12 3 false prog_14_method_92_code 18 [(.aload_n 0, 0, 0, 0, 0)] = true := by decide +kernel
theorem ck_M_holdsFor_22 : ia_cks 12 3 false prog_14_method_92_code 22 [(.aload_n 0, 0, 0, 0, 0), (.iload_n 1, 0, 0, 0, 0)] = true := by decide +kernel
theorem ck_M_holdsFor_27 : ia_cks 12 3 false prog_14_method_92_code 27 [(.ifCond .ne 5, 0, 0, 0, 0)] = true := by decide +kernel
theorem ck_M_holdsFor_32 : ia_cks 12 3 false prog_14_method_92_code 32 [(.iinc 2 1, 0, 0, 0, 0), (.goto (-23), 0, 0, 0, 0)] = true := by decide +kernel
theorem ck_M_holdsFor_30 : ia_cks 12 3 false prog_14_method_92_code 30 [(.iload_n 2, 0, 0, 0, 0)] = true := by decide +kernel
theorem ck_M_holdsFor_38 : ia_cks 12 3 false prog_14_method_92_code 38 [(.bipush 61, 0, 0, 0, 0)] = true := by decide +kernel
theorem ck_M_holdsFor_8 : ia_cks 12 3 false prog_14_method_92_code 8 [(.iconst 0, 0, 0, 0, 0)] = true := by decide +kernel
theorem dc_M_holdsFor_2 : decode prog_14_method_92_code 2 = .ok (.invokevirtual 222, 3) := by decide +kernel
theorem dc_M_holdsFor_19 : decode prog_14_method_92_code 19 = .ok (.invokevirtual 290, 3) := by decide +kernel
theorem dc_M_holdsFor_24 : decode prog_14_method_92_code 24 = .ok (.invokevirtual 222, 3) := by decide +kernel
theorem dc_M_holdsFor_31 : decode prog_14_method_92_code 31 = .ok (.ireturn, 1) := by decide +kernel
theorem dc_M_holdsFor_40 : decode prog_14_method_92_code 40 = .ok (.ireturn, 1) := by decide +kernel
theorem dc_M_holdsFor_9 : decode prog_14_method_92_code 9 = .ok (.ireturn, 1) := by decide +kernel
def l_M_holdsFor_12 (x1 : Int32) (k30 : Int32 → ia_H → Option (Int32 × ia_H)) (k38 : ia_H → Option (Int32 × ia_H)) (n : Nat) (x2 : Int32) (h : ia_H) : Option (Int32 × ia_H) := match n with
  | 0 => none
  | n + 1 => if 60 < x2 then (k38 h) else ((f_M_aDay h).bind fun v2 => ((f_M_stands x1 v2).bind fun v3 => (if v3 = 0 then (k30 x2 v2) else (l_M_holdsFor_12 x1 k30 k38 n (x2 + 1) v2))))
theorem tl_M_holdsFor_12 {w : ia_O0} {d N1 W1 : Nat} {K : ia_K} (hK : ia_isK (d + 8) mm_M_holdsFor N1 W1 K) {x1 : Int32} {r : Int32} {h1 : ia_H} (hret : ∀ (pc : Nat) (lv : ia_L), ia_ret mm_M_holdsFor pc (some (.inl r)) → K pc lv ((some (.inl r)) : Option ia_V).toList h1) {k30 : Int32 → ia_H → Option (Int32 × ia_H)} {k38 : ia_H → Option (Int32 × ia_H)} (hk30 : ∀ (x2 : Int32) (h : ia_H), gd_ w h → k30 x2 h = some (r, h1) → K 30 [none, none, some (.inl x2)] [] h) (hk38 : ∀ (h : ia_H), gd_ w h → k38 h = some (r, h1) → K 38 [none, none, none] [] h) : ∀ (n : Nat) (x2 : Int32) (h : ia_H), gd_ w h → l_M_holdsFor_12 x1 k30 k38 n x2 h = some (r, h1) → K 12 [some (.inr (.inr 417)), some (.inl x1), some (.inl x2)] [] h := by
  intro n
  induction n with
  | zero =>
    intro x2 h hg hm
    cases (show (none : Option (Int32 × ia_H)) = some _ from hm)
  | succ n ih =>
    intro x2 h hg hm
    rw [l_M_holdsFor_12] at hm
    refine ia_go hK ck_M_holdsFor_12 ⟨fun c => ?_, fun c => ?_⟩
    · replace hm := ia_ifp hm c
      show K 38 [some (.inr (.inr 417)), some (.inl x1), some (.inl x2)] [] h
      refine ia_fg hK (lv' := [none, none, none]) trivial ?_
      exact hk38 h hg hm
    · replace hm := ia_ifn hm c
      show K 18 [some (.inr (.inr 417)), some (.inl x1), some (.inl x2)] [] h
      refine ia_go hK ck_M_holdsFor_18 ?_
      show K 19 [some (.inr (.inr 417)), some (.inl x1), some (.inl x2)] [.inr (.inr 417)] h
      obtain ⟨v2, hv2, hm⟩ := ia_bnd hm
      have ev2 := t_M_aDay (d + 0) hg hv2
      have gv2 := g_M_aDay hg hv2
      refine ia_cV hK mk_M_aDay lk_12_290 dc_M_holdsFor_19 417 [] [] rfl rfl (Nat.le_of_ble_eq_true rfl) (by decide) rfl (gk_12 hg pk_417) ev2 (gd_nm hg gv2) ?_
      show K 22 [some (.inr (.inr 417)), some (.inl x1), some (.inl x2)] [] v2
      refine ia_go hK ck_M_holdsFor_22 ?_
      show K 24 [some (.inr (.inr 417)), some (.inl x1), some (.inl x2)] [.inl x1, .inr (.inr 417)] v2
      obtain ⟨v3, hv3, hm⟩ := ia_bnd hm
      have ev3 := t_M_stands (d + 5) gv2 hv3
      refine ia_cV hK mk_M_stands lk_12_222 dc_M_holdsFor_24 417 [.inl x1] [] rfl rfl (Nat.le_of_ble_eq_true rfl) (by decide) rfl (gk_12 gv2 pk_417) ev3 ⟨rfl, rfl⟩ ?_
      show K 27 [some (.inr (.inr 417)), some (.inl x1), some (.inl x2)] [.inl v3] v2
      refine ia_go hK ck_M_holdsFor_27 ⟨fun c => ?_, fun c => ?_⟩
      · replace hm := ia_ifn hm c
        show K 32 [some (.inr (.inr 417)), some (.inl x1), some (.inl x2)] [] v2
        refine ia_go hK ck_M_holdsFor_32 ?_
        show K 12 [some (.inr (.inr 417)), some (.inl x1), some (.inl (x2 + 1))] [] v2
        exact ih (x2 + 1) v2 gv2 hm
      · replace hm := ia_ifp hm c
        show K 30 [some (.inr (.inr 417)), some (.inl x1), some (.inl x2)] [] v2
        refine ia_fg hK (lv' := [none, none, some (.inl x2)]) ⟨rfl, trivial⟩ ?_
        exact hk30 x2 v2 gv2 hm
theorem gl_M_holdsFor_12 {w : ia_O0} {x1 : Int32} {r : Int32} {h1 : ia_H} {k30 : Int32 → ia_H → Option (Int32 × ia_H)} {k38 : ia_H → Option (Int32 × ia_H)} (hk30 : ∀ (x2 : Int32) (h : ia_H), gd_ w h → k30 x2 h = some (r, h1) → gd_ w h1) (hk38 : ∀ (h : ia_H), gd_ w h → k38 h = some (r, h1) → gd_ w h1) : ∀ (n : Nat) (x2 : Int32) (h : ia_H), gd_ w h → l_M_holdsFor_12 x1 k30 k38 n x2 h = some (r, h1) → gd_ w h1 := by
  intro n
  induction n with
  | zero =>
    intro x2 h hg hm
    cases (show (none : Option (Int32 × ia_H)) = some _ from hm)
  | succ n ih =>
    intro x2 h hg hm
    rw [l_M_holdsFor_12] at hm
    by_cases c : 60 < x2
    · replace hm := ia_ifp hm c
      exact hk38 h hg hm
    · replace hm := ia_ifn hm c
      obtain ⟨v2, hv2, hm⟩ := ia_bnd hm
      have gv2 := g_M_aDay hg hv2
      obtain ⟨v3, hv3, hm⟩ := ia_bnd hm
      by_cases c : v3 = 0
      · replace hm := ia_ifp hm c
        exact hk30 x2 v2 gv2 hm
      · replace hm := ia_ifn hm c
        exact ih (x2 + 1) v2 gv2 hm
def f_M_holdsFor (x1 : Int32) (h : ia_H) : Option (Int32 × ia_H) := (f_M_stands x1 h).bind fun v1 => (if v1 = 0 then (some (0, h)) else (l_M_holdsFor_12 x1 (fun x2 h => some (x2, h)) (fun h => some (61, h)) fu_ 1 h))
theorem g_M_holdsFor {w : ia_O0} {x1 : Int32} {h : ia_H} (hg : gd_ w h) {q : (Int32 × ia_H)} (hm : f_M_holdsFor x1 h = some q) : gd_ w q.2 := by
  obtain ⟨r, h1⟩ := q
  unfold f_M_holdsFor at hm
  obtain ⟨v1, hv1, hm⟩ := ia_bnd hm
  by_cases c : v1 = 0
  · replace hm := ia_ifp hm c
    obtain ⟨rfl, rfl⟩ := Prod.mk.inj (Option.some.inj hm)
    exact hg
  · replace hm := ia_ifn hm c
    refine gl_M_holdsFor_12 ?_ ?_ fu_ 1 h hg hm
    · intro x2 h hg hm
      obtain ⟨rfl, rfl⟩ := Prod.mk.inj (Option.some.inj hm)
      exact hg
    · intro h hg hm
      obtain ⟨rfl, rfl⟩ := Prod.mk.inj (Option.some.inj hm)
      exact hg
theorem t_M_holdsFor {w : ia_O0} (d : Nat) {x1 : Int32} {h : ia_H} (hg : gd_ w h) {q : (Int32 × ia_H)} (hm : f_M_holdsFor x1 h = some q) : ia_Ev (d + 8) mm_M_holdsFor [.inr (.inr 417), .inl x1] h (some (.inl q.1)) q.2 := by
  have gq := g_M_holdsFor hg hm
  refine ia_Ev_intro ok_M_holdsFor (gd_le hg gq).1 (gd_le hg gq).2 (Nat.le_of_ble_eq_true rfl) (fun K hK hret => ?_)
  obtain ⟨r, h1⟩ := q
  show K 0 [some (.inr (.inr 417)), some (.inl x1), none] [] h
  unfold f_M_holdsFor at hm
  refine ia_go hK ck_M_holdsFor_0 ?_
  show K 2 [some (.inr (.inr 417)), some (.inl x1), none] [.inl x1, .inr (.inr 417)] h
  obtain ⟨v1, hv1, hm⟩ := ia_bnd hm
  have ev1 := t_M_stands (d + 5) hg hv1
  refine ia_cV hK mk_M_stands lk_12_222 dc_M_holdsFor_2 417 [.inl x1] [] rfl rfl (Nat.le_of_ble_eq_true rfl) (by decide) rfl (gk_12 hg pk_417) ev1 ⟨rfl, rfl⟩ ?_
  show K 5 [some (.inr (.inr 417)), some (.inl x1), none] [.inl v1] h
  refine ia_go hK ck_M_holdsFor_5 ⟨fun c => ?_, fun c => ?_⟩
  · replace hm := ia_ifn hm c
    show K 10 [some (.inr (.inr 417)), some (.inl x1), none] [] h
    refine ia_go hK ck_M_holdsFor_10 ?_
    show K 12 [some (.inr (.inr 417)), some (.inl x1), some (.inl 1)] [] h
    refine tl_M_holdsFor_12 hK hret ?_ ?_ fu_ 1 h hg hm
    · intro x2 h hg hm
      refine ia_go hK ck_M_holdsFor_30 ?_
      show K 31 [none, none, some (.inl x2)] [.inl x2] h
      obtain ⟨rfl, rfl⟩ := Prod.mk.inj (Option.some.inj hm)
      exact hret 31 _ dc_M_holdsFor_31
    · intro h hg hm
      refine ia_go hK ck_M_holdsFor_38 ?_
      show K 40 [none, none, none] [.inl 61] h
      obtain ⟨rfl, rfl⟩ := Prod.mk.inj (Option.some.inj hm)
      exact hret 40 _ dc_M_holdsFor_40
  · replace hm := ia_ifp hm c
    show K 8 [some (.inr (.inr 417)), some (.inl x1), none] [] h
    refine ia_go hK ck_M_holdsFor_8 ?_
    show K 9 [some (.inr (.inr 417)), some (.inl x1), none] [.inl 0] h
    obtain ⟨rfl, rfl⟩ := Prod.mk.inj (Option.some.inj hm)
    exact hret 9 _ dc_M_holdsFor_9
def mm_M_holds : ia_M := (⟨"IceStreetModel", "holds", "(IIIII)I"⟩, prog_14_method_93_code, 6, (some .int), 12, false)
theorem ok_M_holds : ia_mok mm_M_holds := ⟨by decide +kernel, by decide +kernel, by decide +kernel, by decide +kernel⟩
theorem mk_M_holds : ia_mkn mm_M_holds 1 5 := ⟨ia_tb_in (List.mem_of_getElem? (i := 2072) (by decide +kernel)) rfl, ia_tb_in (List.mem_of_getElem? (i := 146) (by decide +kernel)) rfl, by decide +kernel, by decide +kernel, ⟨ia_tb_in (List.mem_of_getElem? (i := 2070) (by decide +kernel)) rfl, ia_tb_in (List.mem_of_getElem? (i := 2071) (by decide +kernel)) rfl⟩⟩
theorem ck_M_holds_0 : ia_cks 12 6 false prog_14_method_93_code 0 [(.aload_n 0, 0, 0, 0, 0), (.iload_n 1, 0, 0, 0, 0), (.iload_n 2, 0, 0, 0, 0), (.iload_n 3, 0, 0, 0, 0), (.iload 4, 0, 0, 0, 0), (.iload 5, 0, 0, 0, 0)] = true := by decide +kernel
theorem ck_M_holds_11 : ia_cks 12 6 false prog_14_method_93_code 11 [(.ifCond .eq 12, 0, 0, 0, 0)] = true := by decide +kernel
theorem ck_M_holds_23 : ia_cks 12 6 false prog_14_method_93_code 23 [(.iconst (-1), 0, 0, 0, 0)] = true := by decide +kernel
theorem ck_M_holds_14 : ia_cks 12 6 false prog_14_method_93_code 14 [(.aload_n 0, 0, 0, 0, 0), (.iload 5, 0, 0, 0, 0)] = true := by decide +kernel
theorem ck_M_holds_20 : ia_cks 12 6 false prog_14_method_93_code 20 [(.goto 4, 0, 0, 0, 0)] = true := by decide +kernel
theorem dc_M_holds_8 : decode prog_14_method_93_code 8 = .ok (.invokevirtual 356, 3) := by decide +kernel
theorem dc_M_holds_24 : decode prog_14_method_93_code 24 = .ok (.ireturn, 1) := by decide +kernel
theorem dc_M_holds_17 : decode prog_14_method_93_code 17 = .ok (.invokevirtual 359, 3) := by decide +kernel
def f_M_holds (x1 : Int32) (x2 : Int32) (x3 : Int32) (x4 : Int32) (x5 : Int32) (h : ia_H) : Option (Int32 × ia_H) := (f_M_isStanding x1 x2 x3 x4 x5 h).bind fun v1 => (if v1.1 = 0 then (some ((-1), v1.2)) else ((f_M_holdsFor x5 v1.2).bind fun v2 => (some (v2.1, v2.2))))
theorem g_M_holds {w : ia_O0} {x1 : Int32} {x2 : Int32} {x3 : Int32} {x4 : Int32} {x5 : Int32} {h : ia_H} (hg : gd_ w h) {q : (Int32 × ia_H)} (hm : f_M_holds x1 x2 x3 x4 x5 h = some q) : gd_ w q.2 := by
  obtain ⟨r, h1⟩ := q
  unfold f_M_holds at hm
  obtain ⟨v1, hv1, hm⟩ := ia_bnd hm
  have gv1 := g_M_isStanding hg hv1
  by_cases c : v1.1 = 0
  · replace hm := ia_ifp hm c
    obtain ⟨rfl, rfl⟩ := Prod.mk.inj (Option.some.inj hm)
    exact gv1
  · replace hm := ia_ifn hm c
    obtain ⟨v2, hv2, hm⟩ := ia_bnd hm
    have gv2 := g_M_holdsFor gv1 hv2
    obtain ⟨rfl, rfl⟩ := Prod.mk.inj (Option.some.inj hm)
    exact gv2
theorem t_M_holds {w : ia_O0} (d : Nat) {x1 : Int32} {x2 : Int32} {x3 : Int32} {x4 : Int32} {x5 : Int32} {h : ia_H} (hg : gd_ w h) {q : (Int32 × ia_H)} (hm : f_M_holds x1 x2 x3 x4 x5 h = some q) : ia_Ev (d + 12) mm_M_holds [.inr (.inr 417), .inl x1, .inl x2, .inl x3, .inl x4, .inl x5] h (some (.inl q.1)) q.2 := by
  have gq := g_M_holds hg hm
  refine ia_Ev_intro ok_M_holds (gd_le hg gq).1 (gd_le hg gq).2 (Nat.le_of_ble_eq_true rfl) (fun K hK hret => ?_)
  obtain ⟨r, h1⟩ := q
  show K 0 [some (.inr (.inr 417)), some (.inl x1), some (.inl x2), some (.inl x3), some (.inl x4), some (.inl x5)] [] h
  unfold f_M_holds at hm
  refine ia_go hK ck_M_holds_0 ?_
  show K 8 [some (.inr (.inr 417)), some (.inl x1), some (.inl x2), some (.inl x3), some (.inl x4), some (.inl x5)] [.inl x5, .inl x4, .inl x3, .inl x2, .inl x1, .inr (.inr 417)] h
  obtain ⟨v1, hv1, hm⟩ := ia_bnd hm
  have ev1 := t_M_isStanding (d + 0) hg hv1
  have gv1 := g_M_isStanding hg hv1
  refine ia_cV hK mk_M_isStanding lk_12_356 dc_M_holds_8 417 [.inl x1, .inl x2, .inl x3, .inl x4, .inl x5] [] rfl rfl (Nat.le_of_ble_eq_true rfl) (by decide) rfl (gk_12 hg pk_417) ev1 (gd_nm hg gv1) ?_
  show K 11 [some (.inr (.inr 417)), some (.inl x1), some (.inl x2), some (.inl x3), some (.inl x4), some (.inl x5)] [.inl v1.1] v1.2
  refine ia_go hK ck_M_holds_11 ⟨fun c => ?_, fun c => ?_⟩
  · replace hm := ia_ifp hm c
    show K 23 [some (.inr (.inr 417)), some (.inl x1), some (.inl x2), some (.inl x3), some (.inl x4), some (.inl x5)] [] v1.2
    refine ia_go hK ck_M_holds_23 ?_
    show K 24 [some (.inr (.inr 417)), some (.inl x1), some (.inl x2), some (.inl x3), some (.inl x4), some (.inl x5)] [.inl (-1)] v1.2
    obtain ⟨rfl, rfl⟩ := Prod.mk.inj (Option.some.inj hm)
    exact hret 24 _ dc_M_holds_24
  · replace hm := ia_ifn hm c
    show K 14 [some (.inr (.inr 417)), some (.inl x1), some (.inl x2), some (.inl x3), some (.inl x4), some (.inl x5)] [] v1.2
    refine ia_go hK ck_M_holds_14 ?_
    show K 17 [some (.inr (.inr 417)), some (.inl x1), some (.inl x2), some (.inl x3), some (.inl x4), some (.inl x5)] [.inl x5, .inr (.inr 417)] v1.2
    obtain ⟨v2, hv2, hm⟩ := ia_bnd hm
    have ev2 := t_M_holdsFor (d + 3) gv1 hv2
    have gv2 := g_M_holdsFor gv1 hv2
    refine ia_cV hK mk_M_holdsFor lk_12_359 dc_M_holds_17 417 [.inl x5] [] rfl rfl (Nat.le_of_ble_eq_true rfl) (by decide) rfl (gk_12 gv1 pk_417) ev2 (gd_nm gv1 gv2) ?_
    show K 20 [some (.inr (.inr 417)), some (.inl x1), some (.inl x2), some (.inl x3), some (.inl x4), some (.inl x5)] [.inl v2.1] v2.2
    refine ia_go hK ck_M_holds_20 ?_
    show K 24 [some (.inr (.inr 417)), some (.inl x1), some (.inl x2), some (.inl x3), some (.inl x4), some (.inl x5)] [.inl v2.1] v2.2
    obtain ⟨rfl, rfl⟩ := Prod.mk.inj (Option.some.inj hm)
    exact hret 24 _ dc_M_holds_24
def mm_M_isFair : ia_M := (⟨"IceStreetModel", "isFair", "(IIII)Z"⟩, prog_14_method_94_code, 9, (some .boolean), 12, false)
theorem ok_M_isFair : ia_mok mm_M_isFair := ⟨by decide +kernel, by decide +kernel, by decide +kernel, by decide +kernel⟩
theorem mk_M_isFair : ia_mkn mm_M_isFair 1 4 := ⟨ia_tb_in (List.mem_of_getElem? (i := 2088) (by decide +kernel)) rfl, ia_tb_in (List.mem_of_getElem? (i := 146) (by decide +kernel)) rfl, by decide +kernel, by decide +kernel, ⟨ia_tb_in (List.mem_of_getElem? (i := 2087) (by decide +kernel)) rfl, ia_tb_in (List.mem_of_getElem? (i := 115) (by decide +kernel)) rfl⟩⟩
theorem ck_M_isFair_0 : ia_cks 12 9 false prog_14_method_94_code 0 [(.aload_n 0, 0, 0, 0, 0), (.getfield 7, 12, 0, 3, 1), (.aload_n 0, 0, 0, 0, 0), (.getfield 201, 12, 14, 0, 0), (.iconst 0, 0, 0, 0, 0), (.iadd, 0, 0, 0, 0), (.iaload, 0, 0, 0, 0), (.istore 5, 0, 0, 0, 0), (.iload_n 1, 0, 0, 0, 0), (.iload 5, 0, 0, 0, 0), (.irem, 0, 0, 0, 0), (.iload_n 2, 0, 0, 0, 0), (.iadd, 0, 0, 0, 0), (.iload 5, 0, 0, 0, 0), (.if_icmp .gt 23, 0, 0, 0, 0)] = true := by decide +kernel
theorem ck_M_isFair_44 : ia_cks 12 9 false prog_14_method_94_code 44 [(.iconst 0, 0, 0, 0, 0)] = true := by decide +kernel
theorem ck_M_isFair_24 : ia_cks 12 9 false prog_14_method_94_code 24 [(.iload_n 1, 0, 0, 0, 0), (.iload 5, 0, 0, 0, 0), (.idiv, 0, 0, 0, 0), (.iload_n 3, 0, 0, 0, 0), (.iadd, 0, 0, 0, 0), (.aload_n 0, 0, 0, 0, 0), (.getfield 7, 12, 0, 3, 1), (.aload_n 0, 0, 0, 0, 0), (.getfield 201, 12, 14, 0, 0), (.iconst 1, 0, 0, 0, 0), (.iadd, 0, 0, 0, 0), (.iaload, 0, 0, 0, 0), (.if_icmp .le 5, 0, 0, 0, 0)] = true := by decide +kernel
theorem ck_M_isFair_46 : ia_cks 12 9 false prog_14_method_94_code 46 [(.iconst 1, 0, 0, 0, 0), (.istore 6, 0, 0, 0, 0), (.iconst 0, 0, 0, 0, 0), (.istore 7, 0, 0, 0, 0)] = true := by decide +kernel
theorem ck_M_isFair_52 : ia_cks 12 9 false prog_14_method_94_code 52 [(.iload 7, 0, 0, 0, 0), (.iload_n 2, 0, 0, 0, 0), (.iload_n 3, 0, 0, 0, 0), (.imul, 0, 0, 0, 0), (.if_icmp .ge 65, 0, 0, 0, 0)] = true := by decide +kernel
theorem ck_M_isFair_60 : ia_cks 12 9 false prog_14_method_94_code 60 [(.iload 6, 0, 0, 0, 0), (.ifCond .eq 60, 0, 0, 0, 0)] = true := by decide +kernel
theorem ck_M_isFair_65 : ia_cks 12 9 false prog_14_method_94_code 65 [(.iload_n 1, 0, 0, 0, 0), (.iload 7, 0, 0, 0, 0), (.iload_n 2, 0, 0, 0, 0), (.idiv, 0, 0, 0, 0), (.iload 5, 0, 0, 0, 0), (.imul, 0, 0, 0, 0), (.iadd, 0, 0, 0, 0), (.iload 7, 0, 0, 0, 0), (.iload_n 2, 0, 0, 0, 0), (.irem, 0, 0, 0, 0), (.iadd, 0, 0, 0, 0), (.istore 8, 0, 0, 0, 0), (.aload_n 0, 0, 0, 0, 0), (.iload 8, 0, 0, 0, 0)] = true := by decide +kernel
theorem ck_M_isFair_87 : ia_cks 12 9 false prog_14_method_94_code 87 [(.ifCond .ge 26, 0, 0, 0, 0)] = true := by decide +kernel
theorem ck_M_isFair_113 : ia_cks 12 9 false prog_14_method_94_code 113 [(.iconst 0, 0, 0, 0, 0), (.istore 6, 0, 0, 0, 0), (.iinc 7 1, 0, 0, 0, 0), (.goto (-67), 0, 0, 0, 0)] = true := by decide +kernel
theorem ck_M_isFair_90 : ia_cks 12 9 false prog_14_method_94_code 90 [(.aload_n 0, 0, 0, 0, 0), (.iload 8, 0, 0, 0, 0)] = true := by decide +kernel
theorem ck_M_isFair_96 : ia_cks 12 9 false prog_14_method_94_code 96 [(.iload 4, 0, 0, 0, 0), (.aload_n 0, 0, 0, 0, 0), (.iload 8, 0, 0, 0, 0), (.iconst (-1), 0, 0, 0, 0)] = true := by decide +kernel
theorem ck_M_isFair_105 : ia_cks 12 9 false prog_14_method_94_code 105 [(.iadd, 0, 0, 0, 0), (.if_icmp .lt 7, 0, 0, 0, 0)] = true := by decide +kernel
theorem ck_M_isFair_109 : ia_cks 12 9 false prog_14_method_94_code 109 [(.iconst 1, 0, 0, 0, 0), (.goto 4, 0, 0, 0, 0)] = true := by decide +kernel
theorem ck_M_isFair_114 : ia_cks 12 9 false prog_14_method_94_code 114 [(.istore 6, 0, 0, 0, 0), (.iinc 7 1, 0, 0, 0, 0), (.goto (-67), 0, 0, 0, 0)] = true := by decide +kernel
theorem ck_M_isFair_122 : ia_cks 12 9 false prog_14_method_94_code 122 [(.iload 6, 0, 0, 0, 0)] = true := by decide +kernel
theorem dc_M_isFair_45 : decode prog_14_method_94_code 45 = .ok (.ireturn, 1) := by decide +kernel
theorem dc_M_isFair_84 : decode prog_14_method_94_code 84 = .ok (.invokevirtual 210, 3) := by decide +kernel
theorem dc_M_isFair_93 : decode prog_14_method_94_code 93 = .ok (.invokevirtual 228, 3) := by decide +kernel
theorem dc_M_isFair_102 : decode prog_14_method_94_code 102 = .ok (.invokevirtual 225, 3) := by decide +kernel
theorem dc_M_isFair_124 : decode prog_14_method_94_code 124 = .ok (.ireturn, 1) := by decide +kernel
def l_M_isFair_52 (x1 : Int32) (x2 : Int32) (x3 : Int32) (x4 : Int32) (h : ia_H) (k122 : Int32 → Option Int32) (n : Nat) (x5 : Int32) (x6 : Int32) (x7 : Int32) : Option Int32 := match n with
  | 0 => none
  | n + 1 => if (x2 * x3) ≤ x7 then (k122 x6) else (if x6 = 0 then (k122 x6) else (ia_gd (ia_nz x2) (ia_gd (ia_nz x2) ((f_M_shopIn ((x1 + ((x7 / x2) * x5)) + (x7 - x7 / x2 * x2)) h).bind fun v7 => (if 0 ≤ v7 then (l_M_isFair_52 x1 x2 x3 x4 h k122 n x5 0 (x7 + 1)) else ((f_M_bears ((x1 + ((x7 / x2) * x5)) + (x7 - x7 / x2 * x2)) h).bind fun v8 => ((f_M_loadOf ((x1 + ((x7 / x2) * x5)) + (x7 - x7 / x2 * x2)) (-1) h).bind fun v9 => (if v8 < (x4 + v9) then (l_M_isFair_52 x1 x2 x3 x4 h k122 n x5 0 (x7 + 1)) else (l_M_isFair_52 x1 x2 x3 x4 h k122 n x5 1 (x7 + 1))))))))))
theorem tl_M_isFair_52 {w : ia_O0} {d N1 W1 : Nat} {K : ia_K} (hK : ia_isK (d + 4) mm_M_isFair N1 W1 K) {x1 : Int32} {x2 : Int32} {x3 : Int32} {x4 : Int32} {h : ia_H} (hg : gd_ w h) {r : Int32} (hret : ∀ (pc : Nat) (lv : ia_L), ia_ret mm_M_isFair pc (some (.inl r)) → K pc lv ((some (.inl r)) : Option ia_V).toList h) {k122 : Int32 → Option Int32} (hk122 : ∀ (x6 : Int32), k122 x6 = some r → K 122 [none, none, none, none, none, none, some (.inl x6), none, none] [] h) : ∀ (n : Nat) (x5 : Int32) (x6 : Int32) (x7 : Int32), l_M_isFair_52 x1 x2 x3 x4 h k122 n x5 x6 x7 = some r → K 52 [some (.inr (.inr 417)), some (.inl x1), some (.inl x2), some (.inl x3), some (.inl x4), some (.inl x5), some (.inl x6), some (.inl x7), none] [] h := by
  intro n
  induction n with
  | zero =>
    intro x5 x6 x7 hm
    cases (show (none : Option Int32) = some _ from hm)
  | succ n ih =>
    intro x5 x6 x7 hm
    rw [l_M_isFair_52] at hm
    refine ia_go hK ck_M_isFair_52 ⟨fun c => ?_, fun c => ?_⟩
    · replace hm := ia_ifp hm c
      show K 122 [some (.inr (.inr 417)), some (.inl x1), some (.inl x2), some (.inl x3), some (.inl x4), some (.inl x5), some (.inl x6), some (.inl x7), none] [] h
      refine ia_fg hK (lv' := [none, none, none, none, none, none, some (.inl x6), none, none]) ⟨rfl, trivial⟩ ?_
      exact hk122 x6 hm
    · replace hm := ia_ifn hm c
      show K 60 [some (.inr (.inr 417)), some (.inl x1), some (.inl x2), some (.inl x3), some (.inl x4), some (.inl x5), some (.inl x6), some (.inl x7), none] [] h
      refine ia_go hK ck_M_isFair_60 ⟨fun c => ?_, fun c => ?_⟩
      · replace hm := ia_ifp hm c
        show K 122 [some (.inr (.inr 417)), some (.inl x1), some (.inl x2), some (.inl x3), some (.inl x4), some (.inl x5), some (.inl x6), some (.inl x7), none] [] h
        refine ia_fg hK (lv' := [none, none, none, none, none, none, some (.inl x6), none, none]) ⟨rfl, trivial⟩ ?_
        exact hk122 x6 hm
      · replace hm := ia_ifn hm c
        show K 65 [some (.inr (.inr 417)), some (.inl x1), some (.inl x2), some (.inl x3), some (.inl x4), some (.inl x5), some (.inl x6), some (.inl x7), none] [] h
        obtain ⟨c5, hm⟩ := ia_gd_some hm
        obtain ⟨c6, hm⟩ := ia_gd_some hm
        refine ia_go hK ck_M_isFair_65 ⟨ia_nz_spec c5, ia_nz_spec c6, ?_⟩
        show K 84 [some (.inr (.inr 417)), some (.inl x1), some (.inl x2), some (.inl x3), some (.inl x4), some (.inl x5), some (.inl x6), some (.inl x7), some (.inl ((x1 + ((x7 / x2) * x5)) + (x7 - x7 / x2 * x2)))] [.inl ((x1 + ((x7 / x2) * x5)) + (x7 - x7 / x2 * x2)), .inr (.inr 417)] h
        obtain ⟨v7, hv7, hm⟩ := ia_bnd hm
        have ev7 := t_M_shopIn (d + 3) hg hv7
        refine ia_cV hK mk_M_shopIn lk_12_210 dc_M_isFair_84 417 [.inl ((x1 + ((x7 / x2) * x5)) + (x7 - x7 / x2 * x2))] [] rfl rfl (Nat.le_of_ble_eq_true rfl) (by decide) rfl (gk_12 hg pk_417) ev7 ⟨rfl, rfl⟩ ?_
        show K 87 [some (.inr (.inr 417)), some (.inl x1), some (.inl x2), some (.inl x3), some (.inl x4), some (.inl x5), some (.inl x6), some (.inl x7), some (.inl ((x1 + ((x7 / x2) * x5)) + (x7 - x7 / x2 * x2)))] [.inl v7] h
        refine ia_go hK ck_M_isFair_87 ⟨fun c => ?_, fun c => ?_⟩
        · replace hm := ia_ifp hm c
          show K 113 [some (.inr (.inr 417)), some (.inl x1), some (.inl x2), some (.inl x3), some (.inl x4), some (.inl x5), some (.inl x6), some (.inl x7), some (.inl ((x1 + ((x7 / x2) * x5)) + (x7 - x7 / x2 * x2)))] [] h
          refine ia_go hK ck_M_isFair_113 ?_
          show K 52 [some (.inr (.inr 417)), some (.inl x1), some (.inl x2), some (.inl x3), some (.inl x4), some (.inl x5), some (.inl 0), some (.inl (x7 + 1)), some (.inl ((x1 + ((x7 / x2) * x5)) + (x7 - x7 / x2 * x2)))] [] h
          refine ia_fg hK (lv' := [some (.inr (.inr 417)), some (.inl x1), some (.inl x2), some (.inl x3), some (.inl x4), some (.inl x5), some (.inl 0), some (.inl (x7 + 1)), none]) ⟨rfl, rfl, rfl, rfl, rfl, rfl, rfl, rfl, trivial⟩ ?_
          exact ih x5 0 (x7 + 1) hm
        · replace hm := ia_ifn hm c
          show K 90 [some (.inr (.inr 417)), some (.inl x1), some (.inl x2), some (.inl x3), some (.inl x4), some (.inl x5), some (.inl x6), some (.inl x7), some (.inl ((x1 + ((x7 / x2) * x5)) + (x7 - x7 / x2 * x2)))] [] h
          refine ia_go hK ck_M_isFair_90 ?_
          show K 93 [some (.inr (.inr 417)), some (.inl x1), some (.inl x2), some (.inl x3), some (.inl x4), some (.inl x5), some (.inl x6), some (.inl x7), some (.inl ((x1 + ((x7 / x2) * x5)) + (x7 - x7 / x2 * x2)))] [.inl ((x1 + ((x7 / x2) * x5)) + (x7 - x7 / x2 * x2)), .inr (.inr 417)] h
          obtain ⟨v8, hv8, hm⟩ := ia_bnd hm
          have ev8 := t_M_bears (d + 3) hg hv8
          refine ia_cV hK mk_M_bears lk_12_228 dc_M_isFair_93 417 [.inl ((x1 + ((x7 / x2) * x5)) + (x7 - x7 / x2 * x2))] [] rfl rfl (Nat.le_of_ble_eq_true rfl) (by decide) rfl (gk_12 hg pk_417) ev8 ⟨rfl, rfl⟩ ?_
          show K 96 [some (.inr (.inr 417)), some (.inl x1), some (.inl x2), some (.inl x3), some (.inl x4), some (.inl x5), some (.inl x6), some (.inl x7), some (.inl ((x1 + ((x7 / x2) * x5)) + (x7 - x7 / x2 * x2)))] [.inl v8] h
          refine ia_go hK ck_M_isFair_96 ?_
          show K 102 [some (.inr (.inr 417)), some (.inl x1), some (.inl x2), some (.inl x3), some (.inl x4), some (.inl x5), some (.inl x6), some (.inl x7), some (.inl ((x1 + ((x7 / x2) * x5)) + (x7 - x7 / x2 * x2)))] [.inl (-1), .inl ((x1 + ((x7 / x2) * x5)) + (x7 - x7 / x2 * x2)), .inr (.inr 417), .inl x4, .inl v8] h
          obtain ⟨v9, hv9, hm⟩ := ia_bnd hm
          have ev9 := t_M_loadOf (d + 0) hg hv9
          refine ia_cV hK mk_M_loadOf lk_12_225 dc_M_isFair_102 417 [.inl ((x1 + ((x7 / x2) * x5)) + (x7 - x7 / x2 * x2)), .inl (-1)] [.inl x4, .inl v8] rfl rfl (Nat.le_of_ble_eq_true rfl) (by decide) rfl (gk_12 hg pk_417) ev9 ⟨rfl, rfl⟩ ?_
          show K 105 [some (.inr (.inr 417)), some (.inl x1), some (.inl x2), some (.inl x3), some (.inl x4), some (.inl x5), some (.inl x6), some (.inl x7), some (.inl ((x1 + ((x7 / x2) * x5)) + (x7 - x7 / x2 * x2)))] [.inl v9, .inl x4, .inl v8] h
          refine ia_go hK ck_M_isFair_105 ⟨fun c => ?_, fun c => ?_⟩
          · replace hm := ia_ifp hm c
            show K 113 [some (.inr (.inr 417)), some (.inl x1), some (.inl x2), some (.inl x3), some (.inl x4), some (.inl x5), some (.inl x6), some (.inl x7), some (.inl ((x1 + ((x7 / x2) * x5)) + (x7 - x7 / x2 * x2)))] [] h
            refine ia_go hK ck_M_isFair_113 ?_
            show K 52 [some (.inr (.inr 417)), some (.inl x1), some (.inl x2), some (.inl x3), some (.inl x4), some (.inl x5), some (.inl 0), some (.inl (x7 + 1)), some (.inl ((x1 + ((x7 / x2) * x5)) + (x7 - x7 / x2 * x2)))] [] h
            refine ia_fg hK (lv' := [some (.inr (.inr 417)), some (.inl x1), some (.inl x2), some (.inl x3), some (.inl x4), some (.inl x5), some (.inl 0), some (.inl (x7 + 1)), none]) ⟨rfl, rfl, rfl, rfl, rfl, rfl, rfl, rfl, trivial⟩ ?_
            exact ih x5 0 (x7 + 1) hm
          · replace hm := ia_ifn hm c
            show K 109 [some (.inr (.inr 417)), some (.inl x1), some (.inl x2), some (.inl x3), some (.inl x4), some (.inl x5), some (.inl x6), some (.inl x7), some (.inl ((x1 + ((x7 / x2) * x5)) + (x7 - x7 / x2 * x2)))] [] h
            refine ia_go hK ck_M_isFair_109 ?_
            show K 114 [some (.inr (.inr 417)), some (.inl x1), some (.inl x2), some (.inl x3), some (.inl x4), some (.inl x5), some (.inl x6), some (.inl x7), some (.inl ((x1 + ((x7 / x2) * x5)) + (x7 - x7 / x2 * x2)))] [.inl 1] h
            refine ia_go hK ck_M_isFair_114 ?_
            show K 52 [some (.inr (.inr 417)), some (.inl x1), some (.inl x2), some (.inl x3), some (.inl x4), some (.inl x5), some (.inl 1), some (.inl (x7 + 1)), some (.inl ((x1 + ((x7 / x2) * x5)) + (x7 - x7 / x2 * x2)))] [] h
            refine ia_fg hK (lv' := [some (.inr (.inr 417)), some (.inl x1), some (.inl x2), some (.inl x3), some (.inl x4), some (.inl x5), some (.inl 1), some (.inl (x7 + 1)), none]) ⟨rfl, rfl, rfl, rfl, rfl, rfl, rfl, rfl, trivial⟩ ?_
            exact ih x5 1 (x7 + 1) hm
def f_M_isFair (x1 : Int32) (x2 : Int32) (x3 : Int32) (x4 : Int32) (h : ia_H) : Option Int32 := ia_gd (ia_ib ((ia_i h 417 14) + 0) 6528) (ia_gd (ia_nz (ia_i h 418 (((ia_i h 417 14) + 0).toNatClampNeg))) (if (ia_i h 418 (((ia_i h 417 14) + 0).toNatClampNeg)) < ((x1 - x1 / (ia_i h 418 (((ia_i h 417 14) + 0).toNatClampNeg)) * (ia_i h 418 (((ia_i h 417 14) + 0).toNatClampNeg))) + x2) then (some 0) else (ia_gd (ia_nz (ia_i h 418 (((ia_i h 417 14) + 0).toNatClampNeg))) (ia_gd (ia_ib ((ia_i h 417 14) + 1) 6528) (if ((x1 / (ia_i h 418 (((ia_i h 417 14) + 0).toNatClampNeg))) + x3) ≤ (ia_i h 418 (((ia_i h 417 14) + 1).toNatClampNeg)) then (l_M_isFair_52 x1 x2 x3 x4 h (fun x6 => ia_gd (ia_z1 x6) (some x6)) fu_ (ia_i h 418 (((ia_i h 417 14) + 0).toNatClampNeg)) 1 0) else (some 0))))))
theorem t_M_isFair {w : ia_O0} (d : Nat) {x1 : Int32} {x2 : Int32} {x3 : Int32} {x4 : Int32} {h : ia_H} (hg : gd_ w h) {r : Int32} (hm : f_M_isFair x1 x2 x3 x4 h = some r) : ia_Ev (d + 4) mm_M_isFair [.inr (.inr 417), .inl x1, .inl x2, .inl x3, .inl x4] h (some (.inl r)) h := by
  refine ia_Ev_intro ok_M_isFair (Nat.le_refl _) (Nat.le_refl _) (Nat.le_of_ble_eq_true rfl) (fun K hK hret => ?_)
  show K 0 [some (.inr (.inr 417)), some (.inl x1), some (.inl x2), some (.inl x3), some (.inl x4), none, none, none, none] [] h
  unfold f_M_isFair at hm
  obtain ⟨c1, hm⟩ := ia_gd_some hm
  obtain ⟨c2, hm⟩ := ia_gd_some hm
  refine ia_go hK ck_M_isFair_0 ⟨gk_12 hg pk_417, gr_12_0 hg pk_417, gk_12 hg pk_417, ga_i100 hg (ka_12_0 pk_417) c1, ia_nz_spec c2, fun c => ?_, fun c => ?_⟩
  · replace hm := ia_ifp hm c
    show K 44 [some (.inr (.inr 417)), some (.inl x1), some (.inl x2), some (.inl x3), some (.inl x4), some (.inl (ia_i h 418 (((ia_i h 417 14) + 0).toNatClampNeg))), none, none, none] [] h
    refine ia_go hK ck_M_isFair_44 ?_
    show K 45 [some (.inr (.inr 417)), some (.inl x1), some (.inl x2), some (.inl x3), some (.inl x4), some (.inl (ia_i h 418 (((ia_i h 417 14) + 0).toNatClampNeg))), none, none, none] [.inl 0] h
    obtain rfl := Option.some.inj hm
    exact hret 45 _ ⟨Or.inl rfl, dc_M_isFair_45⟩
  · replace hm := ia_ifn hm c
    show K 24 [some (.inr (.inr 417)), some (.inl x1), some (.inl x2), some (.inl x3), some (.inl x4), some (.inl (ia_i h 418 (((ia_i h 417 14) + 0).toNatClampNeg))), none, none, none] [] h
    obtain ⟨c3, hm⟩ := ia_gd_some hm
    obtain ⟨c4, hm⟩ := ia_gd_some hm
    refine ia_go hK ck_M_isFair_24 ⟨ia_nz_spec c3, gk_12 hg pk_417, gr_12_0 hg pk_417, gk_12 hg pk_417, ga_i100 hg (ka_12_0 pk_417) c4, fun c => ?_, fun c => ?_⟩
    · replace hm := ia_ifp hm c
      show K 46 [some (.inr (.inr 417)), some (.inl x1), some (.inl x2), some (.inl x3), some (.inl x4), some (.inl (ia_i h 418 (((ia_i h 417 14) + 0).toNatClampNeg))), none, none, none] [] h
      refine ia_go hK ck_M_isFair_46 ?_
      show K 52 [some (.inr (.inr 417)), some (.inl x1), some (.inl x2), some (.inl x3), some (.inl x4), some (.inl (ia_i h 418 (((ia_i h 417 14) + 0).toNatClampNeg))), some (.inl 1), some (.inl 0), none] [] h
      refine tl_M_isFair_52 hK hg hret ?_ fu_ (ia_i h 418 (((ia_i h 417 14) + 0).toNatClampNeg)) 1 0 hm
      · intro x6 hm
        refine ia_go hK ck_M_isFair_122 ?_
        show K 124 [none, none, none, none, none, none, some (.inl x6), none, none] [.inl x6] h
        obtain ⟨c10, hm⟩ := ia_gd_some hm
        obtain rfl := Option.some.inj hm
        exact hret 124 _ ⟨ia_z1_spec c10, dc_M_isFair_124⟩
    · replace hm := ia_ifn hm c
      show K 44 [some (.inr (.inr 417)), some (.inl x1), some (.inl x2), some (.inl x3), some (.inl x4), some (.inl (ia_i h 418 (((ia_i h 417 14) + 0).toNatClampNeg))), none, none, none] [] h
      refine ia_go hK ck_M_isFair_44 ?_
      show K 45 [some (.inr (.inr 417)), some (.inl x1), some (.inl x2), some (.inl x3), some (.inl x4), some (.inl (ia_i h 418 (((ia_i h 417 14) + 0).toNatClampNeg))), none, none, none] [.inl 0] h
      obtain rfl := Option.some.inj hm
      exact hret 45 _ ⟨Or.inl rfl, dc_M_isFair_45⟩
