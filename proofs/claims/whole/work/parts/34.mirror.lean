def mm_M_cellsLine : ia_M := (⟨"IceStreetModel", "cellsLine", "(I)V"⟩, prog_14_method_22_code, 4, none, 12, false)
theorem ok_M_cellsLine : ia_mok mm_M_cellsLine := ⟨by decide +kernel, by decide +kernel, by decide +kernel, by decide +kernel⟩
theorem mk_M_cellsLine : ia_mkn mm_M_cellsLine 1 1 := ⟨ia_tb_in (List.mem_of_getElem? (i := 1808) (by decide +kernel)) rfl, ia_tb_in (List.mem_of_getElem? (i := 146) (by decide +kernel)) rfl, by decide +kernel, by decide +kernel, ⟨ia_tb_in (List.mem_of_getElem? (i := 1807) (by decide +kernel)) rfl, ia_tb_in (List.mem_of_getElem? (i := 64) (by decide +kernel)) rfl⟩⟩
theorem ck_M_cellsLine_0 : ia_cks 12 4 false prog_14_method_22_code 0 [(.iconst 1, 0, 0, 0, 0), (.istore_n 2, 0, 0, 0, 0)] = true := by decide +kernel
theorem ck_M_cellsLine_2 : ia_cks 12 4 false prog_14_method_22_code 2 [(.aload_n 0, 0, 0, 0, 0), (.getfield 109, 12, 8, 0, 0), (.ifCond .ne 38, 0, 0, 0, 0)] = true := by decide +kernel
theorem ck_M_cellsLine_9 : ia_cks 12 4 false prog_14_method_22_code 9 [(.iload_n 2, 0, 0, 0, 0), (.ifCond .ne 11, 0, 0, 0, 0)] = true := by decide +kernel
theorem ck_M_cellsLine_21 : ia_cks 12 4 false prog_14_method_22_code 21 [(.aload_n 0, 0, 0, 0, 0)] = true := by decide +kernel
theorem ck_M_cellsLine_25 : ia_cks 12 4 false prog_14_method_22_code 25 [(.istore_n 3, 0, 0, 0, 0), (.iload_n 3, 0, 0, 0, 0), (.ifCond .lt 12, 0, 0, 0, 0)] = true := by decide +kernel
theorem ck_M_cellsLine_39 : ia_cks 12 4 false prog_14_method_22_code 39 [(.iconst 0, 0, 0, 0, 0), (.istore_n 2, 0, 0, 0, 0), (.goto (-39), 0, 0, 0, 0)] = true := by decide +kernel
theorem ck_M_cellsLine_30 : ia_cks 12 4 false prog_14_method_22_code 30 [(.aload_n 0, 0, 0, 0, 0), (.getfield 17, 12, 10, 3, 3), (.iload_n 1, 0, 0, 0, 0), (.iload_n 3, 0, 0, 0, 0), (.iadd, 0, 0, 0, 0), (.iconst 1, 0, 0, 0, 0), (.iastore, 0, 0, 0, 0), (.iconst 0, 0, 0, 0, 0), (.istore_n 2, 0, 0, 0, 0), (.goto (-39), 0, 0, 0, 0)] = true := by decide +kernel
theorem ck_M_cellsLine_13 : ia_cks 12 4 false prog_14_method_22_code 13 [(.aload_n 0, 0, 0, 0, 0), (.getfield 90, 12, 5, 0, 0), (.iconst 1, 0, 0, 0, 0), (.if_icmp .ne 26, 0, 0, 0, 0)] = true := by decide +kernel
theorem dc_M_cellsLine_22 : decode prog_14_method_22_code 22 = .ok (.invokevirtual 134, 3) := by decide +kernel
theorem dc_M_cellsLine_44 : decode prog_14_method_22_code 44 = .ok (.return_, 1) := by decide +kernel
def j_M_cellsLine_21 (x1 : Int32) (kr : Int32 → ia_H → Option ia_H) (k44 : ia_H → Option ia_H) (h : ia_H) : Option ia_H := (f_M_cellOf h).bind fun v1 => (if v1.1 < 0 then (kr 0 v1.2) else (ia_gd (ia_ib (x1 + v1.1) 260) (kr 0 (ia_wI v1.2 420 ((x1 + v1.1).toNatClampNeg) 1))))
theorem tj_M_cellsLine_21 {w : ia_O0} {d N1 W1 : Nat} {K : ia_K} (hK : ia_isK (d + 6) mm_M_cellsLine N1 W1 K) {x1 : Int32} {h1 : ia_H} (hret : ∀ (pc : Nat) (lv : ia_L), ia_ret mm_M_cellsLine pc none → K pc lv (none : Option ia_V).toList h1) {kr : Int32 → ia_H → Option ia_H} {k44 : ia_H → Option ia_H} (hkr : ∀ (x2 : Int32) (h : ia_H), gd_ w h → kr x2 h = some h1 → K 2 [some (.inr (.inr 417)), some (.inl x1), some (.inl x2), none] [] h) (hk44 : ∀ (h : ia_H), gd_ w h → k44 h = some h1 → K 44 [none, none, none, none] [] h) : ∀ (h : ia_H), gd_ w h → j_M_cellsLine_21 x1 kr k44 h = some h1 → K 21 [some (.inr (.inr 417)), some (.inl x1), none, none] [] h := by
  intro h hg hm
  unfold j_M_cellsLine_21 at hm
  refine ia_go hK ck_M_cellsLine_21 ?_
  show K 22 [some (.inr (.inr 417)), some (.inl x1), none, none] [.inr (.inr 417)] h
  obtain ⟨v1, hv1, hm⟩ := ia_bnd hm
  have ev1 := t_M_cellOf (d + 0) hg hv1
  have gv1 := g_M_cellOf hg hv1
  refine ia_cV hK mk_M_cellOf lk_12_134 dc_M_cellsLine_22 417 [] [] rfl rfl (Nat.le_of_ble_eq_true rfl) (by decide) rfl (gk_12 hg pk_417) ev1 (gd_nm hg gv1) ?_
  show K 25 [some (.inr (.inr 417)), some (.inl x1), none, none] [.inl v1.1] v1.2
  refine ia_go hK ck_M_cellsLine_25 ⟨fun c => ?_, fun c => ?_⟩
  · replace hm := ia_ifp hm c
    show K 39 [some (.inr (.inr 417)), some (.inl x1), none, some (.inl v1.1)] [] v1.2
    refine ia_go hK ck_M_cellsLine_39 ?_
    show K 2 [some (.inr (.inr 417)), some (.inl x1), some (.inl 0), some (.inl v1.1)] [] v1.2
    refine ia_fg hK (lv' := [some (.inr (.inr 417)), some (.inl x1), some (.inl 0), none]) ⟨rfl, rfl, rfl, trivial⟩ ?_
    exact hkr 0 v1.2 gv1 hm
  · replace hm := ia_ifn hm c
    show K 30 [some (.inr (.inr 417)), some (.inl x1), none, some (.inl v1.1)] [] v1.2
    obtain ⟨c2, hm⟩ := ia_gd_some hm
    refine ia_go hK ck_M_cellsLine_30 ⟨gk_12 gv1 pk_417, gr_12_10 gv1 pk_417, ga_s100 gv1 (ka_12_10 pk_417) c2, ?_⟩
    show K 2 [some (.inr (.inr 417)), some (.inl x1), some (.inl 0), some (.inl v1.1)] [] (ia_wI v1.2 420 ((x1 + v1.1).toNatClampNeg) 1)
    refine ia_fg hK (lv' := [some (.inr (.inr 417)), some (.inl x1), some (.inl 0), none]) ⟨rfl, rfl, rfl, trivial⟩ ?_
    exact hkr 0 (ia_wI v1.2 420 ((x1 + v1.1).toNatClampNeg) 1) (gd_wI gv1 (kx_100 (ka_12_10 pk_417))) hm
theorem gj_M_cellsLine_21 {w : ia_O0} {x1 : Int32} {h1 : ia_H} {kr : Int32 → ia_H → Option ia_H} {k44 : ia_H → Option ia_H} (hkr : ∀ (x2 : Int32) (h : ia_H), gd_ w h → kr x2 h = some h1 → gd_ w h1) (hk44 : ∀ (h : ia_H), gd_ w h → k44 h = some h1 → gd_ w h1) : ∀ (h : ia_H), gd_ w h → j_M_cellsLine_21 x1 kr k44 h = some h1 → gd_ w h1 := by
  intro h hg hm
  unfold j_M_cellsLine_21 at hm
  obtain ⟨v1, hv1, hm⟩ := ia_bnd hm
  have gv1 := g_M_cellOf hg hv1
  by_cases c : v1.1 < 0
  · replace hm := ia_ifp hm c
    exact hkr 0 v1.2 gv1 hm
  · replace hm := ia_ifn hm c
    obtain ⟨c2, hm⟩ := ia_gd_some hm
    exact hkr 0 (ia_wI v1.2 420 ((x1 + v1.1).toNatClampNeg) 1) (gd_wI gv1 (kx_100 (ka_12_10 pk_417))) hm
def l_M_cellsLine_2 (x1 : Int32) (k44 : ia_H → Option ia_H) (n : Nat) (x2 : Int32) (h : ia_H) : Option ia_H := match n with
  | 0 => none
  | n + 1 => if (ia_i h 417 8) = 0 then (if x2 = 0 then (if (ia_i h 417 5) = 1 then (j_M_cellsLine_21 x1 (l_M_cellsLine_2 x1 k44 n) k44 h) else (k44 h)) else (j_M_cellsLine_21 x1 (l_M_cellsLine_2 x1 k44 n) k44 h)) else (k44 h)
theorem tl_M_cellsLine_2 {w : ia_O0} {d N1 W1 : Nat} {K : ia_K} (hK : ia_isK (d + 6) mm_M_cellsLine N1 W1 K) {x1 : Int32} {h1 : ia_H} (hret : ∀ (pc : Nat) (lv : ia_L), ia_ret mm_M_cellsLine pc none → K pc lv (none : Option ia_V).toList h1) {k44 : ia_H → Option ia_H} (hk44 : ∀ (h : ia_H), gd_ w h → k44 h = some h1 → K 44 [none, none, none, none] [] h) : ∀ (n : Nat) (x2 : Int32) (h : ia_H), gd_ w h → l_M_cellsLine_2 x1 k44 n x2 h = some h1 → K 2 [some (.inr (.inr 417)), some (.inl x1), some (.inl x2), none] [] h := by
  intro n
  induction n with
  | zero =>
    intro x2 h hg hm
    cases (show (none : Option ia_H) = some _ from hm)
  | succ n ih =>
    intro x2 h hg hm
    rw [l_M_cellsLine_2] at hm
    refine ia_go hK ck_M_cellsLine_2 ⟨gk_12 hg pk_417, fun c => ?_, fun c => ?_⟩
    · replace hm := ia_ifn hm c
      show K 44 [some (.inr (.inr 417)), some (.inl x1), some (.inl x2), none] [] h
      refine ia_fg hK (lv' := [none, none, none, none]) trivial ?_
      exact hk44 h hg hm
    · replace hm := ia_ifp hm c
      show K 9 [some (.inr (.inr 417)), some (.inl x1), some (.inl x2), none] [] h
      refine ia_go hK ck_M_cellsLine_9 ⟨fun c => ?_, fun c => ?_⟩
      · replace hm := ia_ifn hm c
        show K 21 [some (.inr (.inr 417)), some (.inl x1), some (.inl x2), none] [] h
        refine ia_fg hK (lv' := [some (.inr (.inr 417)), some (.inl x1), none, none]) ⟨rfl, rfl, trivial⟩ ?_
        exact tj_M_cellsLine_21 hK hret ih hk44 h hg hm
      · replace hm := ia_ifp hm c
        show K 13 [some (.inr (.inr 417)), some (.inl x1), some (.inl x2), none] [] h
        refine ia_go hK ck_M_cellsLine_13 ⟨gk_12 hg pk_417, fun c => ?_, fun c => ?_⟩
        · replace hm := ia_ifn hm c
          show K 44 [some (.inr (.inr 417)), some (.inl x1), some (.inl x2), none] [] h
          refine ia_fg hK (lv' := [none, none, none, none]) trivial ?_
          exact hk44 h hg hm
        · replace hm := ia_ifp hm c
          show K 21 [some (.inr (.inr 417)), some (.inl x1), some (.inl x2), none] [] h
          refine ia_fg hK (lv' := [some (.inr (.inr 417)), some (.inl x1), none, none]) ⟨rfl, rfl, trivial⟩ ?_
          exact tj_M_cellsLine_21 hK hret ih hk44 h hg hm
theorem gl_M_cellsLine_2 {w : ia_O0} {x1 : Int32} {h1 : ia_H} {k44 : ia_H → Option ia_H} (hk44 : ∀ (h : ia_H), gd_ w h → k44 h = some h1 → gd_ w h1) : ∀ (n : Nat) (x2 : Int32) (h : ia_H), gd_ w h → l_M_cellsLine_2 x1 k44 n x2 h = some h1 → gd_ w h1 := by
  intro n
  induction n with
  | zero =>
    intro x2 h hg hm
    cases (show (none : Option ia_H) = some _ from hm)
  | succ n ih =>
    intro x2 h hg hm
    rw [l_M_cellsLine_2] at hm
    by_cases c : (ia_i h 417 8) = 0
    · replace hm := ia_ifp hm c
      by_cases c : x2 = 0
      · replace hm := ia_ifp hm c
        by_cases c : (ia_i h 417 5) = 1
        · replace hm := ia_ifp hm c
          exact gj_M_cellsLine_21 ih hk44 h hg hm
        · replace hm := ia_ifn hm c
          exact hk44 h hg hm
      · replace hm := ia_ifn hm c
        exact gj_M_cellsLine_21 ih hk44 h hg hm
    · replace hm := ia_ifn hm c
      exact hk44 h hg hm
def f_M_cellsLine (x1 : Int32) (h : ia_H) : Option ia_H := l_M_cellsLine_2 x1 (fun h => some h) fu_ 1 h
theorem g_M_cellsLine {w : ia_O0} {x1 : Int32} {h : ia_H} (hg : gd_ w h) {q : ia_H} (hm : f_M_cellsLine x1 h = some q) : gd_ w q := by
  obtain ⟨h1, e1⟩ : ∃ x, x = q := ⟨_, rfl⟩
  subst e1
  unfold f_M_cellsLine at hm
  refine gl_M_cellsLine_2 ?_ fu_ 1 h hg hm
  · intro h hg hm
    obtain rfl := Option.some.inj hm
    exact hg
theorem t_M_cellsLine {w : ia_O0} (d : Nat) {x1 : Int32} {h : ia_H} (hg : gd_ w h) {q : ia_H} (hm : f_M_cellsLine x1 h = some q) : ia_Ev (d + 6) mm_M_cellsLine [.inr (.inr 417), .inl x1] h none q := by
  have gq := g_M_cellsLine hg hm
  refine ia_Ev_intro ok_M_cellsLine (gd_le hg gq).1 (gd_le hg gq).2 (Nat.le_of_ble_eq_true rfl) (fun K hK hret => ?_)
  obtain ⟨h1, e1⟩ : ∃ x, x = q := ⟨_, rfl⟩
  subst e1
  show K 0 [some (.inr (.inr 417)), some (.inl x1), none, none] [] h
  unfold f_M_cellsLine at hm
  refine ia_go hK ck_M_cellsLine_0 ?_
  show K 2 [some (.inr (.inr 417)), some (.inl x1), some (.inl 1), none] [] h
  refine tl_M_cellsLine_2 hK hret ?_ fu_ 1 h hg hm
  · intro h hg hm
    obtain rfl := Option.some.inj hm
    exact hret 44 _ dc_M_cellsLine_44
def mm_M_shopLine : ia_M := (⟨"IceStreetModel", "shopLine", "(I)V"⟩, prog_14_method_20_code, 7, none, 12, false)
theorem ok_M_shopLine : ia_mok mm_M_shopLine := ⟨by decide +kernel, by decide +kernel, by decide +kernel, by decide +kernel⟩
theorem mk_M_shopLine : ia_mkn mm_M_shopLine 1 1 := ⟨ia_tb_in (List.mem_of_getElem? (i := 1812) (by decide +kernel)) rfl, ia_tb_in (List.mem_of_getElem? (i := 146) (by decide +kernel)) rfl, by decide +kernel, by decide +kernel, ⟨ia_tb_in (List.mem_of_getElem? (i := 1811) (by decide +kernel)) rfl, ia_tb_in (List.mem_of_getElem? (i := 65) (by decide +kernel)) rfl⟩⟩
theorem ck_M_shopLine_0 : ia_cks 12 7 false prog_14_method_20_code 0 [(.aload_n 0, 0, 0, 0, 0), (.getfield 17, 12, 10, 3, 3), (.iconst 4, 0, 0, 0, 0), (.iaload, 0, 0, 0, 0), (.bipush 6, 0, 0, 0, 0), (.if_icmp .lt 9, 0, 0, 0, 0)] = true := by decide +kernel
theorem ck_M_shopLine_17 : ia_cks 12 7 false prog_14_method_20_code 17 [(.aload_n 0, 0, 0, 0, 0)] = true := by decide +kernel
theorem ck_M_shopLine_21 : ia_cks 12 7 false prog_14_method_20_code 21 [(.istore_n 2, 0, 0, 0, 0), (.aload_n 0, 0, 0, 0, 0), (.iconst 1, 0, 0, 0, 0), (.bipush 99, 0, 0, 0, 0)] = true := by decide +kernel
theorem ck_M_shopLine_29 : ia_cks 12 7 false prog_14_method_20_code 29 [(.istore_n 3, 0, 0, 0, 0), (.aload_n 0, 0, 0, 0, 0), (.iconst 0, 0, 0, 0, 0), (.bipush 9, 0, 0, 0, 0)] = true := by decide +kernel
theorem ck_M_shopLine_37 : ia_cks 12 7 false prog_14_method_20_code 37 [(.istore 4, 0, 0, 0, 0), (.aload_n 0, 0, 0, 0, 0), (.iconst 0, 0, 0, 0, 0), (.bipush 99, 0, 0, 0, 0)] = true := by decide +kernel
theorem ck_M_shopLine_46 : ia_cks 12 7 false prog_14_method_20_code 46 [(.istore 5, 0, 0, 0, 0), (.aload_n 0, 0, 0, 0, 0), (.getfield 17, 12, 10, 3, 3), (.iconst 4, 0, 0, 0, 0), (.iaload, 0, 0, 0, 0), (.bipush 6, 0, 0, 0, 0), (.if_icmp .ge 57, 0, 0, 0, 0)] = true := by decide +kernel
theorem ck_M_shopLine_113 : ia_cks 12 7 false prog_14_method_20_code 113 [(.aload_n 0, 0, 0, 0, 0), (.getfield 17, 12, 10, 3, 3), (.iconst 4, 0, 0, 0, 0), (.dup2, 0, 0, 0, 0), (.iaload, 0, 0, 0, 0), (.iconst 1, 0, 0, 0, 0), (.iadd, 0, 0, 0, 0), (.iastore, 0, 0, 0, 0)] = true := by decide +kernel
theorem ck_M_shopLine_59 : ia_cks 12 7 false prog_14_method_20_code 59 [(.sipush 236, 0, 0, 0, 0), (.iconst 4, 0, 0, 0, 0), (.aload_n 0, 0, 0, 0, 0), (.getfield 17, 12, 10, 3, 3), (.iconst 4, 0, 0, 0, 0), (.iaload, 0, 0, 0, 0), (.imul, 0, 0, 0, 0), (.iadd, 0, 0, 0, 0), (.istore 6, 0, 0, 0, 0), (.aload_n 0, 0, 0, 0, 0), (.getfield 17, 12, 10, 3, 3), (.iload 6, 0, 0, 0, 0), (.iload_n 2, 0, 0, 0, 0), (.iastore, 0, 0, 0, 0), (.aload_n 0, 0, 0, 0, 0), (.getfield 17, 12, 10, 3, 3), (.iload 6, 0, 0, 0, 0), (.iconst 1, 0, 0, 0, 0), (.iadd, 0, 0, 0, 0), (.iload_n 3, 0, 0, 0, 0), (.iastore, 0, 0, 0, 0), (.aload_n 0, 0, 0, 0, 0), (.getfield 17, 12, 10, 3, 3), (.iload 6, 0, 0, 0, 0), (.iconst 2, 0, 0, 0, 0), (.iadd, 0, 0, 0, 0), (.iload 4, 0, 0, 0, 0), (.iastore, 0, 0, 0, 0), (.aload_n 0, 0, 0, 0, 0), (.getfield 17, 12, 10, 3, 3), (.iload 6, 0, 0, 0, 0), (.iconst 3, 0, 0, 0, 0), (.iadd, 0, 0, 0, 0), (.iload 5, 0, 0, 0, 0), (.iastore, 0, 0, 0, 0)] = true := by decide +kernel
theorem ck_M_shopLine_11 : ia_cks 12 7 false prog_14_method_20_code 11 [(.aload_n 0, 0, 0, 0, 0), (.iconst 3, 0, 0, 0, 0), (.iload_n 1, 0, 0, 0, 0)] = true := by decide +kernel
theorem dc_M_shopLine_18 : decode prog_14_method_20_code 18 = .ok (.invokevirtual 134, 3) := by decide +kernel
theorem dc_M_shopLine_26 : decode prog_14_method_20_code 26 = .ok (.invokevirtual 127, 3) := by decide +kernel
theorem dc_M_shopLine_34 : decode prog_14_method_20_code 34 = .ok (.invokevirtual 127, 3) := by decide +kernel
theorem dc_M_shopLine_43 : decode prog_14_method_20_code 43 = .ok (.invokevirtual 127, 3) := by decide +kernel
theorem dc_M_shopLine_123 : decode prog_14_method_20_code 123 = .ok (.return_, 1) := by decide +kernel
theorem dc_M_shopLine_14 : decode prog_14_method_20_code 14 = .ok (.invokevirtual 120, 3) := by decide +kernel
def j_M_shopLine_113 (x1 : Int32) (h : ia_H) : Option ia_H := some (ia_wI h 420 4 ((ia_i h 420 4) + 1))
theorem tj_M_shopLine_113 {w : ia_O0} {d N1 W1 : Nat} {K : ia_K} (hK : ia_isK (d + 6) mm_M_shopLine N1 W1 K) {x1 : Int32} {h1 : ia_H} (hret : ∀ (pc : Nat) (lv : ia_L), ia_ret mm_M_shopLine pc none → K pc lv (none : Option ia_V).toList h1) : ∀ (h : ia_H), gd_ w h → j_M_shopLine_113 x1 h = some h1 → K 113 [some (.inr (.inr 417)), none, none, none, none, none, none] [] h := by
  intro h hg hm
  unfold j_M_shopLine_113 at hm
  refine ia_go hK ck_M_shopLine_113 ⟨gk_12 hg pk_417, gr_12_10 hg pk_417, ga_i100 hg (ka_12_10 pk_417) (by decide), ga_s100 hg (ka_12_10 pk_417) (by decide), ?_⟩
  show K 123 [some (.inr (.inr 417)), none, none, none, none, none, none] [] (ia_wI h 420 4 ((ia_i h 420 4) + 1))
  obtain rfl := Option.some.inj hm
  exact hret 123 _ dc_M_shopLine_123
theorem gj_M_shopLine_113 {w : ia_O0} {x1 : Int32} {h1 : ia_H} : ∀ (h : ia_H), gd_ w h → j_M_shopLine_113 x1 h = some h1 → gd_ w h1 := by
  intro h hg hm
  unfold j_M_shopLine_113 at hm
  obtain rfl := Option.some.inj hm
  exact (gd_wI hg (kx_100 (ka_12_10 pk_417)))
def j_M_shopLine_17 (x1 : Int32) (h : ia_H) : Option ia_H := (f_M_cellOf h).bind fun v1 => ((f_M_numbered 1 99 v1.2).bind fun v2 => ((f_M_numbered 0 9 v2.2).bind fun v3 => ((f_M_numbered 0 99 v3.2).bind fun v4 => (if 6 ≤ (ia_i v4.2 420 4) then (j_M_shopLine_113 x1 v4.2) else (ia_gd (ia_ib (236 + (4 * (ia_i v4.2 420 4))) 260) (ia_gd (ia_ib ((236 + (4 * (ia_i v4.2 420 4))) + 1) 260) (ia_gd (ia_ib ((236 + (4 * (ia_i v4.2 420 4))) + 2) 260) (ia_gd (ia_ib ((236 + (4 * (ia_i v4.2 420 4))) + 3) 260) (j_M_shopLine_113 x1 (ia_wI (ia_wI (ia_wI (ia_wI v4.2 420 ((236 + (4 * (ia_i v4.2 420 4))).toNatClampNeg) v1.1) 420 (((236 + (4 * (ia_i v4.2 420 4))) + 1).toNatClampNeg) v2.1) 420 (((236 + (4 * (ia_i v4.2 420 4))) + 2).toNatClampNeg) v3.1) 420 (((236 + (4 * (ia_i v4.2 420 4))) + 3).toNatClampNeg) v4.1))))))))))
theorem tj_M_shopLine_17 {w : ia_O0} {d N1 W1 : Nat} {K : ia_K} (hK : ia_isK (d + 6) mm_M_shopLine N1 W1 K) {x1 : Int32} {h1 : ia_H} (hret : ∀ (pc : Nat) (lv : ia_L), ia_ret mm_M_shopLine pc none → K pc lv (none : Option ia_V).toList h1) : ∀ (h : ia_H), gd_ w h → j_M_shopLine_17 x1 h = some h1 → K 17 [some (.inr (.inr 417)), none, none, none, none, none, none] [] h := by
  intro h hg hm
  unfold j_M_shopLine_17 at hm
  refine ia_go hK ck_M_shopLine_17 ?_
  show K 18 [some (.inr (.inr 417)), none, none, none, none, none, none] [.inr (.inr 417)] h
  obtain ⟨v1, hv1, hm⟩ := ia_bnd hm
  have ev1 := t_M_cellOf (d + 0) hg hv1
  have gv1 := g_M_cellOf hg hv1
  refine ia_cV hK mk_M_cellOf lk_12_134 dc_M_shopLine_18 417 [] [] rfl rfl (Nat.le_of_ble_eq_true rfl) (by decide) rfl (gk_12 hg pk_417) ev1 (gd_nm hg gv1) ?_
  show K 21 [some (.inr (.inr 417)), none, none, none, none, none, none] [.inl v1.1] v1.2
  refine ia_go hK ck_M_shopLine_21 ?_
  show K 26 [some (.inr (.inr 417)), none, some (.inl v1.1), none, none, none, none] [.inl 99, .inl 1, .inr (.inr 417)] v1.2
  obtain ⟨v2, hv2, hm⟩ := ia_bnd hm
  have ev2 := t_M_numbered (d + 1) gv1 hv2
  have gv2 := g_M_numbered gv1 hv2
  refine ia_cV hK mk_M_numbered lk_12_127 dc_M_shopLine_26 417 [.inl 1, .inl 99] [] rfl rfl (Nat.le_of_ble_eq_true rfl) (by decide) rfl (gk_12 gv1 pk_417) ev2 (gd_nm gv1 gv2) ?_
  show K 29 [some (.inr (.inr 417)), none, some (.inl v1.1), none, none, none, none] [.inl v2.1] v2.2
  refine ia_go hK ck_M_shopLine_29 ?_
  show K 34 [some (.inr (.inr 417)), none, some (.inl v1.1), some (.inl v2.1), none, none, none] [.inl 9, .inl 0, .inr (.inr 417)] v2.2
  obtain ⟨v3, hv3, hm⟩ := ia_bnd hm
  have ev3 := t_M_numbered (d + 1) gv2 hv3
  have gv3 := g_M_numbered gv2 hv3
  refine ia_cV hK mk_M_numbered lk_12_127 dc_M_shopLine_34 417 [.inl 0, .inl 9] [] rfl rfl (Nat.le_of_ble_eq_true rfl) (by decide) rfl (gk_12 gv2 pk_417) ev3 (gd_nm gv2 gv3) ?_
  show K 37 [some (.inr (.inr 417)), none, some (.inl v1.1), some (.inl v2.1), none, none, none] [.inl v3.1] v3.2
  refine ia_go hK ck_M_shopLine_37 ?_
  show K 43 [some (.inr (.inr 417)), none, some (.inl v1.1), some (.inl v2.1), some (.inl v3.1), none, none] [.inl 99, .inl 0, .inr (.inr 417)] v3.2
  obtain ⟨v4, hv4, hm⟩ := ia_bnd hm
  have ev4 := t_M_numbered (d + 1) gv3 hv4
  have gv4 := g_M_numbered gv3 hv4
  refine ia_cV hK mk_M_numbered lk_12_127 dc_M_shopLine_43 417 [.inl 0, .inl 99] [] rfl rfl (Nat.le_of_ble_eq_true rfl) (by decide) rfl (gk_12 gv3 pk_417) ev4 (gd_nm gv3 gv4) ?_
  show K 46 [some (.inr (.inr 417)), none, some (.inl v1.1), some (.inl v2.1), some (.inl v3.1), none, none] [.inl v4.1] v4.2
  refine ia_go hK ck_M_shopLine_46 ⟨gk_12 gv4 pk_417, gr_12_10 gv4 pk_417, ga_i100 gv4 (ka_12_10 pk_417) (by decide), fun c => ?_, fun c => ?_⟩
  · replace hm := ia_ifp hm c
    show K 113 [some (.inr (.inr 417)), none, some (.inl v1.1), some (.inl v2.1), some (.inl v3.1), some (.inl v4.1), none] [] v4.2
    refine ia_fg hK (lv' := [some (.inr (.inr 417)), none, none, none, none, none, none]) ⟨rfl, trivial⟩ ?_
    exact tj_M_shopLine_113 hK hret v4.2 gv4 hm
  · replace hm := ia_ifn hm c
    show K 59 [some (.inr (.inr 417)), none, some (.inl v1.1), some (.inl v2.1), some (.inl v3.1), some (.inl v4.1), none] [] v4.2
    obtain ⟨c5, hm⟩ := ia_gd_some hm
    obtain ⟨c6, hm⟩ := ia_gd_some hm
    obtain ⟨c7, hm⟩ := ia_gd_some hm
    obtain ⟨c8, hm⟩ := ia_gd_some hm
    refine ia_go hK ck_M_shopLine_59 ⟨gk_12 gv4 pk_417, gr_12_10 gv4 pk_417, ga_i100 gv4 (ka_12_10 pk_417) (by decide), gk_12 gv4 pk_417, gr_12_10 gv4 pk_417, ga_s100 gv4 (ka_12_10 pk_417) c5, gk_12 (gd_wI gv4 (kx_100 (ka_12_10 pk_417))) pk_417, gr_12_10 (gd_wI gv4 (kx_100 (ka_12_10 pk_417))) pk_417, ga_s100 (gd_wI gv4 (kx_100 (ka_12_10 pk_417))) (ka_12_10 pk_417) c6, gk_12 (gd_wI (gd_wI gv4 (kx_100 (ka_12_10 pk_417))) (kx_100 (ka_12_10 pk_417))) pk_417, gr_12_10 (gd_wI (gd_wI gv4 (kx_100 (ka_12_10 pk_417))) (kx_100 (ka_12_10 pk_417))) pk_417, ga_s100 (gd_wI (gd_wI gv4 (kx_100 (ka_12_10 pk_417))) (kx_100 (ka_12_10 pk_417))) (ka_12_10 pk_417) c7, gk_12 (gd_wI (gd_wI (gd_wI gv4 (kx_100 (ka_12_10 pk_417))) (kx_100 (ka_12_10 pk_417))) (kx_100 (ka_12_10 pk_417))) pk_417, gr_12_10 (gd_wI (gd_wI (gd_wI gv4 (kx_100 (ka_12_10 pk_417))) (kx_100 (ka_12_10 pk_417))) (kx_100 (ka_12_10 pk_417))) pk_417, ga_s100 (gd_wI (gd_wI (gd_wI gv4 (kx_100 (ka_12_10 pk_417))) (kx_100 (ka_12_10 pk_417))) (kx_100 (ka_12_10 pk_417))) (ka_12_10 pk_417) c8, ?_⟩
    show K 113 [some (.inr (.inr 417)), none, some (.inl v1.1), some (.inl v2.1), some (.inl v3.1), some (.inl v4.1), some (.inl (236 + (4 * (ia_i v4.2 420 4))))] [] (ia_wI (ia_wI (ia_wI (ia_wI v4.2 420 ((236 + (4 * (ia_i v4.2 420 4))).toNatClampNeg) v1.1) 420 (((236 + (4 * (ia_i v4.2 420 4))) + 1).toNatClampNeg) v2.1) 420 (((236 + (4 * (ia_i v4.2 420 4))) + 2).toNatClampNeg) v3.1) 420 (((236 + (4 * (ia_i v4.2 420 4))) + 3).toNatClampNeg) v4.1)
    refine ia_fg hK (lv' := [some (.inr (.inr 417)), none, none, none, none, none, none]) ⟨rfl, trivial⟩ ?_
    exact tj_M_shopLine_113 hK hret (ia_wI (ia_wI (ia_wI (ia_wI v4.2 420 ((236 + (4 * (ia_i v4.2 420 4))).toNatClampNeg) v1.1) 420 (((236 + (4 * (ia_i v4.2 420 4))) + 1).toNatClampNeg) v2.1) 420 (((236 + (4 * (ia_i v4.2 420 4))) + 2).toNatClampNeg) v3.1) 420 (((236 + (4 * (ia_i v4.2 420 4))) + 3).toNatClampNeg) v4.1) (gd_wI (gd_wI (gd_wI (gd_wI gv4 (kx_100 (ka_12_10 pk_417))) (kx_100 (ka_12_10 pk_417))) (kx_100 (ka_12_10 pk_417))) (kx_100 (ka_12_10 pk_417))) hm
theorem gj_M_shopLine_17 {w : ia_O0} {x1 : Int32} {h1 : ia_H} : ∀ (h : ia_H), gd_ w h → j_M_shopLine_17 x1 h = some h1 → gd_ w h1 := by
  intro h hg hm
  unfold j_M_shopLine_17 at hm
  obtain ⟨v1, hv1, hm⟩ := ia_bnd hm
  have gv1 := g_M_cellOf hg hv1
  obtain ⟨v2, hv2, hm⟩ := ia_bnd hm
  have gv2 := g_M_numbered gv1 hv2
  obtain ⟨v3, hv3, hm⟩ := ia_bnd hm
  have gv3 := g_M_numbered gv2 hv3
  obtain ⟨v4, hv4, hm⟩ := ia_bnd hm
  have gv4 := g_M_numbered gv3 hv4
  by_cases c : 6 ≤ (ia_i v4.2 420 4)
  · replace hm := ia_ifp hm c
    exact gj_M_shopLine_113 v4.2 gv4 hm
  · replace hm := ia_ifn hm c
    obtain ⟨c5, hm⟩ := ia_gd_some hm
    obtain ⟨c6, hm⟩ := ia_gd_some hm
    obtain ⟨c7, hm⟩ := ia_gd_some hm
    obtain ⟨c8, hm⟩ := ia_gd_some hm
    exact gj_M_shopLine_113 (ia_wI (ia_wI (ia_wI (ia_wI v4.2 420 ((236 + (4 * (ia_i v4.2 420 4))).toNatClampNeg) v1.1) 420 (((236 + (4 * (ia_i v4.2 420 4))) + 1).toNatClampNeg) v2.1) 420 (((236 + (4 * (ia_i v4.2 420 4))) + 2).toNatClampNeg) v3.1) 420 (((236 + (4 * (ia_i v4.2 420 4))) + 3).toNatClampNeg) v4.1) (gd_wI (gd_wI (gd_wI (gd_wI gv4 (kx_100 (ka_12_10 pk_417))) (kx_100 (ka_12_10 pk_417))) (kx_100 (ka_12_10 pk_417))) (kx_100 (ka_12_10 pk_417))) hm
def f_M_shopLine (x1 : Int32) (h : ia_H) : Option ia_H := if (ia_i h 420 4) < 6 then (j_M_shopLine_17 x1 h) else ((f_M_also 3 x1 h).bind fun v9 => (j_M_shopLine_17 x1 v9))
theorem g_M_shopLine {w : ia_O0} {x1 : Int32} {h : ia_H} (hg : gd_ w h) {q : ia_H} (hm : f_M_shopLine x1 h = some q) : gd_ w q := by
  obtain ⟨h1, e1⟩ : ∃ x, x = q := ⟨_, rfl⟩
  subst e1
  unfold f_M_shopLine at hm
  by_cases c : (ia_i h 420 4) < 6
  · replace hm := ia_ifp hm c
    exact gj_M_shopLine_17 h hg hm
  · replace hm := ia_ifn hm c
    obtain ⟨v9, hv9, hm⟩ := ia_bnd hm
    have gv9 := g_M_also hg hv9
    exact gj_M_shopLine_17 v9 gv9 hm
theorem t_M_shopLine {w : ia_O0} (d : Nat) {x1 : Int32} {h : ia_H} (hg : gd_ w h) {q : ia_H} (hm : f_M_shopLine x1 h = some q) : ia_Ev (d + 6) mm_M_shopLine [.inr (.inr 417), .inl x1] h none q := by
  have gq := g_M_shopLine hg hm
  refine ia_Ev_intro ok_M_shopLine (gd_le hg gq).1 (gd_le hg gq).2 (Nat.le_of_ble_eq_true rfl) (fun K hK hret => ?_)
  obtain ⟨h1, e1⟩ : ∃ x, x = q := ⟨_, rfl⟩
  subst e1
  show K 0 [some (.inr (.inr 417)), some (.inl x1), none, none, none, none, none] [] h
  unfold f_M_shopLine at hm
  refine ia_go hK ck_M_shopLine_0 ⟨gk_12 hg pk_417, gr_12_10 hg pk_417, ga_i100 hg (ka_12_10 pk_417) (by decide), fun c => ?_, fun c => ?_⟩
  · replace hm := ia_ifp hm c
    show K 17 [some (.inr (.inr 417)), some (.inl x1), none, none, none, none, none] [] h
    refine ia_fg hK (lv' := [some (.inr (.inr 417)), none, none, none, none, none, none]) ⟨rfl, trivial⟩ ?_
    exact tj_M_shopLine_17 hK hret h hg hm
  · replace hm := ia_ifn hm c
    show K 11 [some (.inr (.inr 417)), some (.inl x1), none, none, none, none, none] [] h
    refine ia_go hK ck_M_shopLine_11 ?_
    show K 14 [some (.inr (.inr 417)), some (.inl x1), none, none, none, none, none] [.inl x1, .inl 3, .inr (.inr 417)] h
    obtain ⟨v9, hv9, hm⟩ := ia_bnd hm
    have ev9 := t_M_also (d + 5) hg hv9
    have gv9 := g_M_also hg hv9
    refine ia_cV hK mk_M_also lk_12_120 dc_M_shopLine_14 417 [.inl 3, .inl x1] [] rfl rfl (Nat.le_of_ble_eq_true rfl) (by decide) rfl (gk_12 hg pk_417) ev9 (gd_nm hg gv9) ?_
    show K 17 [some (.inr (.inr 417)), some (.inl x1), none, none, none, none, none] [] v9
    refine ia_fg hK (lv' := [some (.inr (.inr 417)), none, none, none, none, none, none]) ⟨rfl, trivial⟩ ?_
    exact tj_M_shopLine_17 hK hret v9 gv9 hm
def mm_M_endsLine : ia_M := (⟨"IceStreetModel", "endsLine", "()V"⟩, prog_14_method_18_code, 1, none, 12, false)
theorem ok_M_endsLine : ia_mok mm_M_endsLine := ⟨by decide +kernel, by decide +kernel, by decide +kernel, by decide +kernel⟩
theorem mk_M_endsLine : ia_mkn mm_M_endsLine 1 0 := ⟨ia_tb_in (List.mem_of_getElem? (i := 1816) (by decide +kernel)) rfl, ia_tb_in (List.mem_of_getElem? (i := 146) (by decide +kernel)) rfl, by decide +kernel, by decide +kernel, ⟨ia_tb_in (List.mem_of_getElem? (i := 1815) (by decide +kernel)) rfl, ia_tb_in (List.mem_of_getElem? (i := 66) (by decide +kernel)) rfl⟩⟩
theorem ck_M_endsLine_0 : ia_cks 12 1 false prog_14_method_18_code 0 [(.aload_n 0, 0, 0, 0, 0), (.getfield 109, 12, 8, 0, 0), (.ifCond .ne 18, 0, 0, 0, 0)] = true := by decide +kernel
theorem ck_M_endsLine_22 : ia_cks 12 1 false prog_14_method_18_code 22 [(.aload_n 0, 0, 0, 0, 0)] = true := by decide +kernel
theorem ck_M_endsLine_7 : ia_cks 12 1 false prog_14_method_18_code 7 [(.aload_n 0, 0, 0, 0, 0), (.getfield 90, 12, 5, 0, 0), (.iconst 2, 0, 0, 0, 0), (.if_icmp .ne 10, 0, 0, 0, 0)] = true := by decide +kernel
theorem ck_M_endsLine_15 : ia_cks 12 1 false prog_14_method_18_code 15 [(.aload_n 0, 0, 0, 0, 0)] = true := by decide +kernel
theorem ck_M_endsLine_19 : ia_cks 12 1 false prog_14_method_18_code 19 [(.goto 7, 0, 0, 0, 0)] = true := by decide +kernel
theorem dc_M_endsLine_23 : decode prog_14_method_18_code 23 = .ok (.invokevirtual 113, 3) := by decide +kernel
theorem dc_M_endsLine_26 : decode prog_14_method_18_code 26 = .ok (.return_, 1) := by decide +kernel
theorem dc_M_endsLine_16 : decode prog_14_method_18_code 16 = .ok (.invokevirtual 124, 3) := by decide +kernel
def j_M_endsLine_22 (h : ia_H) : Option ia_H := (f_M_ends h).bind fun v1 => (some v1)
theorem tj_M_endsLine_22 {w : ia_O0} {d N1 W1 : Nat} {K : ia_K} (hK : ia_isK (d + 4) mm_M_endsLine N1 W1 K) {h1 : ia_H} (hret : ∀ (pc : Nat) (lv : ia_L), ia_ret mm_M_endsLine pc none → K pc lv (none : Option ia_V).toList h1) : ∀ (h : ia_H), gd_ w h → j_M_endsLine_22 h = some h1 → K 22 [some (.inr (.inr 417))] [] h := by
  intro h hg hm
  unfold j_M_endsLine_22 at hm
  refine ia_go hK ck_M_endsLine_22 ?_
  show K 23 [some (.inr (.inr 417))] [.inr (.inr 417)] h
  obtain ⟨v1, hv1, hm⟩ := ia_bnd hm
  have ev1 := t_M_ends (d + 3) hg hv1
  have gv1 := g_M_ends hg hv1
  refine ia_cV hK mk_M_ends lk_12_113 dc_M_endsLine_23 417 [] [] rfl rfl (Nat.le_of_ble_eq_true rfl) (by decide) rfl (gk_12 hg pk_417) ev1 (gd_nm hg gv1) ?_
  show K 26 [some (.inr (.inr 417))] [] v1
  obtain rfl := Option.some.inj hm
  exact hret 26 _ dc_M_endsLine_26
theorem gj_M_endsLine_22 {w : ia_O0} {h1 : ia_H} : ∀ (h : ia_H), gd_ w h → j_M_endsLine_22 h = some h1 → gd_ w h1 := by
  intro h hg hm
  unfold j_M_endsLine_22 at hm
  obtain ⟨v1, hv1, hm⟩ := ia_bnd hm
  have gv1 := g_M_ends hg hv1
  obtain rfl := Option.some.inj hm
  exact gv1
def f_M_endsLine (h : ia_H) : Option ia_H := if (ia_i h 417 8) = 0 then (if (ia_i h 417 5) = 2 then ((f_M_advance h).bind fun v2 => (some v2)) else (j_M_endsLine_22 h)) else (j_M_endsLine_22 h)
theorem g_M_endsLine {w : ia_O0} {h : ia_H} (hg : gd_ w h) {q : ia_H} (hm : f_M_endsLine h = some q) : gd_ w q := by
  obtain ⟨h1, e1⟩ : ∃ x, x = q := ⟨_, rfl⟩
  subst e1
  unfold f_M_endsLine at hm
  by_cases c : (ia_i h 417 8) = 0
  · replace hm := ia_ifp hm c
    by_cases c : (ia_i h 417 5) = 2
    · replace hm := ia_ifp hm c
      obtain ⟨v2, hv2, hm⟩ := ia_bnd hm
      have gv2 := g_M_advance hg hv2
      obtain rfl := Option.some.inj hm
      exact gv2
    · replace hm := ia_ifn hm c
      exact gj_M_endsLine_22 h hg hm
  · replace hm := ia_ifn hm c
    exact gj_M_endsLine_22 h hg hm
theorem t_M_endsLine {w : ia_O0} (d : Nat) {h : ia_H} (hg : gd_ w h) {q : ia_H} (hm : f_M_endsLine h = some q) : ia_Ev (d + 4) mm_M_endsLine [.inr (.inr 417)] h none q := by
  have gq := g_M_endsLine hg hm
  refine ia_Ev_intro ok_M_endsLine (gd_le hg gq).1 (gd_le hg gq).2 (Nat.le_of_ble_eq_true rfl) (fun K hK hret => ?_)
  obtain ⟨h1, e1⟩ : ∃ x, x = q := ⟨_, rfl⟩
  subst e1
  show K 0 [some (.inr (.inr 417))] [] h
  unfold f_M_endsLine at hm
  refine ia_go hK ck_M_endsLine_0 ⟨gk_12 hg pk_417, fun c => ?_, fun c => ?_⟩
  · replace hm := ia_ifn hm c
    show K 22 [some (.inr (.inr 417))] [] h
    exact tj_M_endsLine_22 hK hret h hg hm
  · replace hm := ia_ifp hm c
    show K 7 [some (.inr (.inr 417))] [] h
    refine ia_go hK ck_M_endsLine_7 ⟨gk_12 hg pk_417, fun c => ?_, fun c => ?_⟩
    · replace hm := ia_ifn hm c
      show K 22 [some (.inr (.inr 417))] [] h
      exact tj_M_endsLine_22 hK hret h hg hm
    · replace hm := ia_ifp hm c
      show K 15 [some (.inr (.inr 417))] [] h
      refine ia_go hK ck_M_endsLine_15 ?_
      show K 16 [some (.inr (.inr 417))] [.inr (.inr 417)] h
      obtain ⟨v2, hv2, hm⟩ := ia_bnd hm
      have ev2 := t_M_advance (d + 0) hg hv2
      have gv2 := g_M_advance hg hv2
      refine ia_cV hK mk_M_advance lk_12_124 dc_M_endsLine_16 417 [] [] rfl rfl (Nat.le_of_ble_eq_true rfl) (by decide) rfl (gk_12 hg pk_417) ev2 (gd_nm hg gv2) ?_
      show K 19 [some (.inr (.inr 417))] [] v2
      refine ia_go hK ck_M_endsLine_19 ?_
      show K 26 [some (.inr (.inr 417))] [] v2
      obtain rfl := Option.some.inj hm
      exact hret 26 _ dc_M_endsLine_26
def mm_M_lakeLine : ia_M := (⟨"IceStreetModel", "lakeLine", "()V"⟩, prog_14_method_23_code, 5, none, 12, false)
theorem ok_M_lakeLine : ia_mok mm_M_lakeLine := ⟨by decide +kernel, by decide +kernel, by decide +kernel, by decide +kernel⟩
theorem mk_M_lakeLine : ia_mkn mm_M_lakeLine 1 0 := ⟨ia_tb_in (List.mem_of_getElem? (i := 1772) (by decide +kernel)) rfl, ia_tb_in (List.mem_of_getElem? (i := 146) (by decide +kernel)) rfl, by decide +kernel, by decide +kernel, ⟨ia_tb_in (List.mem_of_getElem? (i := 1771) (by decide +kernel)) rfl, ia_tb_in (List.mem_of_getElem? (i := 55) (by decide +kernel)) rfl⟩⟩
theorem ck_M_lakeLine_0 : ia_cks 12 5 false prog_14_method_23_code 0 [(.aload_n 0, 0, 0, 0, 0), (.getfield 87, 12, 4, 0, 0), (.istore_n 1, 0, 0, 0, 0), (.aload_n 0, 0, 0, 0, 0), (.iconst 1, 0, 0, 0, 0), (.bipush 10, 0, 0, 0, 0)] = true := by decide +kernel
theorem ck_M_lakeLine_12 : ia_cks 12 5 false prog_14_method_23_code 12 [(.istore_n 2, 0, 0, 0, 0), (.iload_n 2, 0, 0, 0, 0), (.iconst 1, 0, 0, 0, 0), (.if_icmp .ne 29, 0, 0, 0, 0)] = true := by decide +kernel
theorem ck_M_lakeLine_44 : ia_cks 12 5 false prog_14_method_23_code 44 [(.iload_n 2, 0, 0, 0, 0), (.iconst 2, 0, 0, 0, 0), (.if_icmp .ne 38, 0, 0, 0, 0)] = true := by decide +kernel
theorem ck_M_lakeLine_84 : ia_cks 12 5 false prog_14_method_23_code 84 [(.iload_n 2, 0, 0, 0, 0), (.iconst 3, 0, 0, 0, 0), (.iconst 5, 0, 0, 0, 0)] = true := by decide +kernel
theorem ck_M_lakeLine_90 : ia_cks 12 5 false prog_14_method_23_code 90 [(.ifCond .eq 62, 0, 0, 0, 0)] = true := by decide +kernel
theorem ck_M_lakeLine_152 : ia_cks 12 5 false prog_14_method_23_code 152 [(.iload_n 2, 0, 0, 0, 0), (.bipush 6, 0, 0, 0, 0), (.if_icmp .ne 7, 0, 0, 0, 0)] = true := by decide +kernel
theorem ck_M_lakeLine_162 : ia_cks 12 5 false prog_14_method_23_code 162 [(.iload_n 2, 0, 0, 0, 0), (.bipush 7, 0, 0, 0, 0), (.if_icmp .ne 7, 0, 0, 0, 0)] = true := by decide +kernel
theorem ck_M_lakeLine_172 : ia_cks 12 5 false prog_14_method_23_code 172 [(.iload_n 2, 0, 0, 0, 0), (.bipush 8, 0, 0, 0, 0), (.if_icmp .ne 16, 0, 0, 0, 0)] = true := by decide +kernel
theorem ck_M_lakeLine_191 : ia_cks 12 5 false prog_14_method_23_code 191 [(.iload_n 2, 0, 0, 0, 0), (.bipush 9, 0, 0, 0, 0), (.if_icmp .ne 9, 0, 0, 0, 0)] = true := by decide +kernel
theorem ck_M_lakeLine_203 : ia_cks 12 5 false prog_14_method_23_code 203 [(.iload_n 2, 0, 0, 0, 0), (.bipush 10, 0, 0, 0, 0), (.if_icmp .ne 8, 0, 0, 0, 0)] = true := by decide +kernel
theorem ck_M_lakeLine_214 : ia_cks 12 5 false prog_14_method_23_code 214 [(.aload_n 0, 0, 0, 0, 0)] = true := by decide +kernel
theorem ck_M_lakeLine_209 : ia_cks 12 5 false prog_14_method_23_code 209 [(.aload_n 0, 0, 0, 0, 0), (.iload_n 1, 0, 0, 0, 0)] = true := by decide +kernel
theorem ck_M_lakeLine_197 : ia_cks 12 5 false prog_14_method_23_code 197 [(.aload_n 0, 0, 0, 0, 0), (.bipush 116, 0, 0, 0, 0)] = true := by decide +kernel
theorem ck_M_lakeLine_178 : ia_cks 12 5 false prog_14_method_23_code 178 [(.aload_n 0, 0, 0, 0, 0), (.getfield 17, 12, 10, 3, 3), (.iconst 2, 0, 0, 0, 0), (.aload_n 0, 0, 0, 0, 0), (.iconst 1, 0, 0, 0, 0), (.bipush 99, 0, 0, 0, 0)] = true := by decide +kernel
theorem ck_M_lakeLine_190 : ia_cks 12 5 false prog_14_method_23_code 190 [(.iastore, 0, 0, 0, 0)] = true := by decide +kernel
theorem ck_M_lakeLine_168 : ia_cks 12 5 false prog_14_method_23_code 168 [(.aload_n 0, 0, 0, 0, 0)] = true := by decide +kernel
theorem ck_M_lakeLine_158 : ia_cks 12 5 false prog_14_method_23_code 158 [(.aload_n 0, 0, 0, 0, 0)] = true := by decide +kernel
theorem ck_M_lakeLine_93 : ia_cks 12 5 false prog_14_method_23_code 93 [(.aload_n 0, 0, 0, 0, 0)] = true := by decide +kernel
theorem ck_M_lakeLine_97 : ia_cks 12 5 false prog_14_method_23_code 97 [(.istore_n 3, 0, 0, 0, 0), (.aload_n 0, 0, 0, 0, 0), (.iconst 0, 0, 0, 0, 0), (.iload_n 2, 0, 0, 0, 0), (.iconst 3, 0, 0, 0, 0), (.if_icmp .ne 8, 0, 0, 0, 0)] = true := by decide +kernel
theorem ck_M_lakeLine_110 : ia_cks 12 5 false prog_14_method_23_code 110 [(.bipush 9, 0, 0, 0, 0)] = true := by decide +kernel
theorem ck_M_lakeLine_115 : ia_cks 12 5 false prog_14_method_23_code 115 [(.istore 4, 0, 0, 0, 0), (.iload_n 3, 0, 0, 0, 0), (.ifCond .lt 34, 0, 0, 0, 0)] = true := by decide +kernel
theorem ck_M_lakeLine_121 : ia_cks 12 5 false prog_14_method_23_code 121 [(.aload_n 0, 0, 0, 0, 0), (.getfield 17, 12, 10, 3, 3), (.iload_n 2, 0, 0, 0, 0), (.iconst 3, 0, 0, 0, 0), (.if_icmp .ne 8, 0, 0, 0, 0)] = true := by decide +kernel
theorem ck_M_lakeLine_135 : ia_cks 12 5 false prog_14_method_23_code 135 [(.iload_n 2, 0, 0, 0, 0), (.iconst 4, 0, 0, 0, 0), (.if_icmp .ne 8, 0, 0, 0, 0)] = true := by decide +kernel
theorem ck_M_lakeLine_145 : ia_cks 12 5 false prog_14_method_23_code 145 [(.bipush 80, 0, 0, 0, 0)] = true := by decide +kernel
theorem ck_M_lakeLine_147 : ia_cks 12 5 false prog_14_method_23_code 147 [(.iload_n 3, 0, 0, 0, 0), (.iadd, 0, 0, 0, 0), (.iload 4, 0, 0, 0, 0), (.iastore, 0, 0, 0, 0)] = true := by decide +kernel
theorem ck_M_lakeLine_140 : ia_cks 12 5 false prog_14_method_23_code 140 [(.bipush 44, 0, 0, 0, 0), (.goto 5, 0, 0, 0, 0)] = true := by decide +kernel
theorem ck_M_lakeLine_130 : ia_cks 12 5 false prog_14_method_23_code 130 [(.bipush 8, 0, 0, 0, 0), (.goto 15, 0, 0, 0, 0)] = true := by decide +kernel
theorem ck_M_lakeLine_105 : ia_cks 12 5 false prog_14_method_23_code 105 [(.bipush 99, 0, 0, 0, 0), (.goto 5, 0, 0, 0, 0)] = true := by decide +kernel
theorem ck_M_lakeLine_49 : ia_cks 12 5 false prog_14_method_23_code 49 [(.aload_n 0, 0, 0, 0, 0), (.iconst 0, 0, 0, 0, 0), (.bipush 99, 0, 0, 0, 0)] = true := by decide +kernel
theorem ck_M_lakeLine_56 : ia_cks 12 5 false prog_14_method_23_code 56 [(.istore_n 3, 0, 0, 0, 0), (.iconst 0, 0, 0, 0, 0), (.istore 4, 0, 0, 0, 0)] = true := by decide +kernel
theorem ck_M_lakeLine_60 : ia_cks 12 5 false prog_14_method_23_code 60 [(.iload 4, 0, 0, 0, 0), (.bipush 36, 0, 0, 0, 0), (.if_icmp .ge 20, 0, 0, 0, 0)] = true := by decide +kernel
theorem ck_M_lakeLine_67 : ia_cks 12 5 false prog_14_method_23_code 67 [(.aload_n 0, 0, 0, 0, 0), (.getfield 17, 12, 10, 3, 3), (.bipush 8, 0, 0, 0, 0), (.iload 4, 0, 0, 0, 0), (.iadd, 0, 0, 0, 0), (.iload_n 3, 0, 0, 0, 0), (.iastore, 0, 0, 0, 0), (.iinc 4 1, 0, 0, 0, 0), (.goto (-21), 0, 0, 0, 0)] = true := by decide +kernel
theorem ck_M_lakeLine_18 : ia_cks 12 5 false prog_14_method_23_code 18 [(.aload_n 0, 0, 0, 0, 0), (.getfield 17, 12, 10, 3, 3), (.iconst 0, 0, 0, 0, 0), (.aload_n 0, 0, 0, 0, 0), (.iconst 2, 0, 0, 0, 0), (.bipush 6, 0, 0, 0, 0)] = true := by decide +kernel
theorem ck_M_lakeLine_30 : ia_cks 12 5 false prog_14_method_23_code 30 [(.iastore, 0, 0, 0, 0), (.aload_n 0, 0, 0, 0, 0), (.getfield 17, 12, 10, 3, 3), (.iconst 1, 0, 0, 0, 0), (.aload_n 0, 0, 0, 0, 0), (.iconst 2, 0, 0, 0, 0), (.bipush 6, 0, 0, 0, 0)] = true := by decide +kernel
theorem ck_M_lakeLine_43 : ia_cks 12 5 false prog_14_method_23_code 43 [(.iastore, 0, 0, 0, 0)] = true := by decide +kernel
theorem dc_M_lakeLine_9 : decode prog_14_method_23_code 9 = .ok (.invokevirtual 144, 3) := by decide +kernel
theorem dc_M_lakeLine_87 : decode prog_14_method_23_code 87 = .ok (.invokestatic 116, 3) := by decide +kernel
theorem dc_M_lakeLine_215 : decode prog_14_method_23_code 215 = .ok (.invokevirtual 160, 3) := by decide +kernel
theorem dc_M_lakeLine_218 : decode prog_14_method_23_code 218 = .ok (.return_, 1) := by decide +kernel
theorem dc_M_lakeLine_211 : decode prog_14_method_23_code 211 = .ok (.invokevirtual 157, 3) := by decide +kernel
theorem dc_M_lakeLine_200 : decode prog_14_method_23_code 200 = .ok (.invokevirtual 153, 3) := by decide +kernel
theorem dc_M_lakeLine_187 : decode prog_14_method_23_code 187 = .ok (.invokevirtual 127, 3) := by decide +kernel
theorem dc_M_lakeLine_169 : decode prog_14_method_23_code 169 = .ok (.invokevirtual 150, 3) := by decide +kernel
theorem dc_M_lakeLine_159 : decode prog_14_method_23_code 159 = .ok (.invokevirtual 147, 3) := by decide +kernel
theorem dc_M_lakeLine_94 : decode prog_14_method_23_code 94 = .ok (.invokevirtual 134, 3) := by decide +kernel
theorem dc_M_lakeLine_112 : decode prog_14_method_23_code 112 = .ok (.invokevirtual 127, 3) := by decide +kernel
theorem dc_M_lakeLine_53 : decode prog_14_method_23_code 53 = .ok (.invokevirtual 127, 3) := by decide +kernel
theorem dc_M_lakeLine_27 : decode prog_14_method_23_code 27 = .ok (.invokevirtual 127, 3) := by decide +kernel
theorem dc_M_lakeLine_40 : decode prog_14_method_23_code 40 = .ok (.invokevirtual 127, 3) := by decide +kernel
def j_M_lakeLine_214 (h : ia_H) : Option ia_H := (f_M_endsLine h).bind fun v3 => (some v3)
theorem tj_M_lakeLine_214 {w : ia_O0} {d N1 W1 : Nat} {K : ia_K} (hK : ia_isK (d + 8) mm_M_lakeLine N1 W1 K) {h1 : ia_H} (hret : ∀ (pc : Nat) (lv : ia_L), ia_ret mm_M_lakeLine pc none → K pc lv (none : Option ia_V).toList h1) : ∀ (h : ia_H), gd_ w h → j_M_lakeLine_214 h = some h1 → K 214 [some (.inr (.inr 417)), none, none, none, none] [] h := by
  intro h hg hm
  unfold j_M_lakeLine_214 at hm
  refine ia_go hK ck_M_lakeLine_214 ?_
  show K 215 [some (.inr (.inr 417)), none, none, none, none] [.inr (.inr 417)] h
  obtain ⟨v3, hv3, hm⟩ := ia_bnd hm
  have ev3 := t_M_endsLine (d + 3) hg hv3
  have gv3 := g_M_endsLine hg hv3
  refine ia_cV hK mk_M_endsLine lk_12_160 dc_M_lakeLine_215 417 [] [] rfl rfl (Nat.le_of_ble_eq_true rfl) (by decide) rfl (gk_12 hg pk_417) ev3 (gd_nm hg gv3) ?_
  show K 218 [some (.inr (.inr 417)), none, none, none, none] [] v3
  obtain rfl := Option.some.inj hm
  exact hret 218 _ dc_M_lakeLine_218
theorem gj_M_lakeLine_214 {w : ia_O0} {h1 : ia_H} : ∀ (h : ia_H), gd_ w h → j_M_lakeLine_214 h = some h1 → gd_ w h1 := by
  intro h hg hm
  unfold j_M_lakeLine_214 at hm
  obtain ⟨v3, hv3, hm⟩ := ia_bnd hm
  have gv3 := g_M_endsLine hg hv3
  obtain rfl := Option.some.inj hm
  exact gv3
def j_M_lakeLine_203 (x1 : Int32) (x2 : Int32) (h : ia_H) : Option ia_H := if x2 = 10 then ((f_M_shopLine x1 h).bind fun v4 => (j_M_lakeLine_214 v4)) else (j_M_lakeLine_214 h)
theorem tj_M_lakeLine_203 {w : ia_O0} {d N1 W1 : Nat} {K : ia_K} (hK : ia_isK (d + 8) mm_M_lakeLine N1 W1 K) {h1 : ia_H} (hret : ∀ (pc : Nat) (lv : ia_L), ia_ret mm_M_lakeLine pc none → K pc lv (none : Option ia_V).toList h1) : ∀ (x1 : Int32) (x2 : Int32) (h : ia_H), gd_ w h → j_M_lakeLine_203 x1 x2 h = some h1 → K 203 [some (.inr (.inr 417)), some (.inl x1), some (.inl x2), none, none] [] h := by
  intro x1 x2 h hg hm
  unfold j_M_lakeLine_203 at hm
  refine ia_go hK ck_M_lakeLine_203 ⟨fun c => ?_, fun c => ?_⟩
  · replace hm := ia_ifn hm c
    show K 214 [some (.inr (.inr 417)), some (.inl x1), some (.inl x2), none, none] [] h
    refine ia_fg hK (lv' := [some (.inr (.inr 417)), none, none, none, none]) ⟨rfl, trivial⟩ ?_
    exact tj_M_lakeLine_214 hK hret h hg hm
  · replace hm := ia_ifp hm c
    show K 209 [some (.inr (.inr 417)), some (.inl x1), some (.inl x2), none, none] [] h
    refine ia_go hK ck_M_lakeLine_209 ?_
    show K 211 [some (.inr (.inr 417)), some (.inl x1), some (.inl x2), none, none] [.inl x1, .inr (.inr 417)] h
    obtain ⟨v4, hv4, hm⟩ := ia_bnd hm
    have ev4 := t_M_shopLine (d + 1) hg hv4
    have gv4 := g_M_shopLine hg hv4
    refine ia_cV hK mk_M_shopLine lk_12_157 dc_M_lakeLine_211 417 [.inl x1] [] rfl rfl (Nat.le_of_ble_eq_true rfl) (by decide) rfl (gk_12 hg pk_417) ev4 (gd_nm hg gv4) ?_
    show K 214 [some (.inr (.inr 417)), some (.inl x1), some (.inl x2), none, none] [] v4
    refine ia_fg hK (lv' := [some (.inr (.inr 417)), none, none, none, none]) ⟨rfl, trivial⟩ ?_
    exact tj_M_lakeLine_214 hK hret v4 gv4 hm
theorem gj_M_lakeLine_203 {w : ia_O0} {h1 : ia_H} : ∀ (x1 : Int32) (x2 : Int32) (h : ia_H), gd_ w h → j_M_lakeLine_203 x1 x2 h = some h1 → gd_ w h1 := by
  intro x1 x2 h hg hm
  unfold j_M_lakeLine_203 at hm
  by_cases c : x2 = 10
  · replace hm := ia_ifp hm c
    obtain ⟨v4, hv4, hm⟩ := ia_bnd hm
    have gv4 := g_M_shopLine hg hv4
    exact gj_M_lakeLine_214 v4 gv4 hm
  · replace hm := ia_ifn hm c
    exact gj_M_lakeLine_214 h hg hm
def j_M_lakeLine_191 (x1 : Int32) (x2 : Int32) (h : ia_H) : Option ia_H := if x2 = 9 then ((f_M_cellsLine 116 h).bind fun v5 => (j_M_lakeLine_203 x1 x2 v5)) else (j_M_lakeLine_203 x1 x2 h)
theorem tj_M_lakeLine_191 {w : ia_O0} {d N1 W1 : Nat} {K : ia_K} (hK : ia_isK (d + 8) mm_M_lakeLine N1 W1 K) {h1 : ia_H} (hret : ∀ (pc : Nat) (lv : ia_L), ia_ret mm_M_lakeLine pc none → K pc lv (none : Option ia_V).toList h1) : ∀ (x1 : Int32) (x2 : Int32) (h : ia_H), gd_ w h → j_M_lakeLine_191 x1 x2 h = some h1 → K 191 [some (.inr (.inr 417)), some (.inl x1), some (.inl x2), none, none] [] h := by
  intro x1 x2 h hg hm
  unfold j_M_lakeLine_191 at hm
  refine ia_go hK ck_M_lakeLine_191 ⟨fun c => ?_, fun c => ?_⟩
  · replace hm := ia_ifn hm c
    show K 203 [some (.inr (.inr 417)), some (.inl x1), some (.inl x2), none, none] [] h
    exact tj_M_lakeLine_203 hK hret x1 x2 h hg hm
  · replace hm := ia_ifp hm c
    show K 197 [some (.inr (.inr 417)), some (.inl x1), some (.inl x2), none, none] [] h
    refine ia_go hK ck_M_lakeLine_197 ?_
    show K 200 [some (.inr (.inr 417)), some (.inl x1), some (.inl x2), none, none] [.inl 116, .inr (.inr 417)] h
    obtain ⟨v5, hv5, hm⟩ := ia_bnd hm
    have ev5 := t_M_cellsLine (d + 1) hg hv5
    have gv5 := g_M_cellsLine hg hv5
    refine ia_cV hK mk_M_cellsLine lk_12_153 dc_M_lakeLine_200 417 [.inl 116] [] rfl rfl (Nat.le_of_ble_eq_true rfl) (by decide) rfl (gk_12 hg pk_417) ev5 (gd_nm hg gv5) ?_
    show K 203 [some (.inr (.inr 417)), some (.inl x1), some (.inl x2), none, none] [] v5
    exact tj_M_lakeLine_203 hK hret x1 x2 v5 gv5 hm
theorem gj_M_lakeLine_191 {w : ia_O0} {h1 : ia_H} : ∀ (x1 : Int32) (x2 : Int32) (h : ia_H), gd_ w h → j_M_lakeLine_191 x1 x2 h = some h1 → gd_ w h1 := by
  intro x1 x2 h hg hm
  unfold j_M_lakeLine_191 at hm
  by_cases c : x2 = 9
  · replace hm := ia_ifp hm c
    obtain ⟨v5, hv5, hm⟩ := ia_bnd hm
    have gv5 := g_M_cellsLine hg hv5
    exact gj_M_lakeLine_203 x1 x2 v5 gv5 hm
  · replace hm := ia_ifn hm c
    exact gj_M_lakeLine_203 x1 x2 h hg hm
def j_M_lakeLine_172 (x1 : Int32) (x2 : Int32) (h : ia_H) : Option ia_H := if x2 = 8 then ((f_M_numbered 1 99 h).bind fun v6 => (j_M_lakeLine_191 x1 x2 (ia_wI v6.2 420 2 v6.1))) else (j_M_lakeLine_191 x1 x2 h)
theorem tj_M_lakeLine_172 {w : ia_O0} {d N1 W1 : Nat} {K : ia_K} (hK : ia_isK (d + 8) mm_M_lakeLine N1 W1 K) {h1 : ia_H} (hret : ∀ (pc : Nat) (lv : ia_L), ia_ret mm_M_lakeLine pc none → K pc lv (none : Option ia_V).toList h1) : ∀ (x1 : Int32) (x2 : Int32) (h : ia_H), gd_ w h → j_M_lakeLine_172 x1 x2 h = some h1 → K 172 [some (.inr (.inr 417)), some (.inl x1), some (.inl x2), none, none] [] h := by
  intro x1 x2 h hg hm
  unfold j_M_lakeLine_172 at hm
  refine ia_go hK ck_M_lakeLine_172 ⟨fun c => ?_, fun c => ?_⟩
  · replace hm := ia_ifn hm c
    show K 191 [some (.inr (.inr 417)), some (.inl x1), some (.inl x2), none, none] [] h
    exact tj_M_lakeLine_191 hK hret x1 x2 h hg hm
  · replace hm := ia_ifp hm c
    show K 178 [some (.inr (.inr 417)), some (.inl x1), some (.inl x2), none, none] [] h
    refine ia_go hK ck_M_lakeLine_178 ⟨gk_12 hg pk_417, gr_12_10 hg pk_417, ?_⟩
    show K 187 [some (.inr (.inr 417)), some (.inl x1), some (.inl x2), none, none] [.inl 99, .inl 1, .inr (.inr 417), .inl 2, .inr (.inr 420)] h
    obtain ⟨v6, hv6, hm⟩ := ia_bnd hm
    have ev6 := t_M_numbered (d + 3) hg hv6
    have gv6 := g_M_numbered hg hv6
    refine ia_cV hK mk_M_numbered lk_12_127 dc_M_lakeLine_187 417 [.inl 1, .inl 99] [.inl 2, .inr (.inr 420)] rfl rfl (Nat.le_of_ble_eq_true rfl) (by decide) rfl (gk_12 hg pk_417) ev6 (gd_nm hg gv6) ?_
    show K 190 [some (.inr (.inr 417)), some (.inl x1), some (.inl x2), none, none] [.inl v6.1, .inl 2, .inr (.inr 420)] v6.2
    refine ia_go hK ck_M_lakeLine_190 ⟨ga_s100 gv6 (ka_12_10 pk_417) (by decide), ?_⟩
    show K 191 [some (.inr (.inr 417)), some (.inl x1), some (.inl x2), none, none] [] (ia_wI v6.2 420 2 v6.1)
    exact tj_M_lakeLine_191 hK hret x1 x2 (ia_wI v6.2 420 2 v6.1) (gd_wI gv6 (kx_100 (ka_12_10 pk_417))) hm
theorem gj_M_lakeLine_172 {w : ia_O0} {h1 : ia_H} : ∀ (x1 : Int32) (x2 : Int32) (h : ia_H), gd_ w h → j_M_lakeLine_172 x1 x2 h = some h1 → gd_ w h1 := by
  intro x1 x2 h hg hm
  unfold j_M_lakeLine_172 at hm
  by_cases c : x2 = 8
  · replace hm := ia_ifp hm c
    obtain ⟨v6, hv6, hm⟩ := ia_bnd hm
    have gv6 := g_M_numbered hg hv6
    exact gj_M_lakeLine_191 x1 x2 (ia_wI v6.2 420 2 v6.1) (gd_wI gv6 (kx_100 (ka_12_10 pk_417))) hm
  · replace hm := ia_ifn hm c
    exact gj_M_lakeLine_191 x1 x2 h hg hm
def j_M_lakeLine_162 (x1 : Int32) (x2 : Int32) (h : ia_H) : Option ia_H := if x2 = 7 then ((f_M_frostLine h).bind fun v7 => (j_M_lakeLine_172 x1 x2 v7)) else (j_M_lakeLine_172 x1 x2 h)
theorem tj_M_lakeLine_162 {w : ia_O0} {d N1 W1 : Nat} {K : ia_K} (hK : ia_isK (d + 8) mm_M_lakeLine N1 W1 K) {h1 : ia_H} (hret : ∀ (pc : Nat) (lv : ia_L), ia_ret mm_M_lakeLine pc none → K pc lv (none : Option ia_V).toList h1) : ∀ (x1 : Int32) (x2 : Int32) (h : ia_H), gd_ w h → j_M_lakeLine_162 x1 x2 h = some h1 → K 162 [some (.inr (.inr 417)), some (.inl x1), some (.inl x2), none, none] [] h := by
  intro x1 x2 h hg hm
  unfold j_M_lakeLine_162 at hm
  refine ia_go hK ck_M_lakeLine_162 ⟨fun c => ?_, fun c => ?_⟩
  · replace hm := ia_ifn hm c
    show K 172 [some (.inr (.inr 417)), some (.inl x1), some (.inl x2), none, none] [] h
    exact tj_M_lakeLine_172 hK hret x1 x2 h hg hm
  · replace hm := ia_ifp hm c
    show K 168 [some (.inr (.inr 417)), some (.inl x1), some (.inl x2), none, none] [] h
    refine ia_go hK ck_M_lakeLine_168 ?_
    show K 169 [some (.inr (.inr 417)), some (.inl x1), some (.inl x2), none, none] [.inr (.inr 417)] h
    obtain ⟨v7, hv7, hm⟩ := ia_bnd hm
    have ev7 := t_M_frostLine (d + 2) hg hv7
    have gv7 := g_M_frostLine hg hv7
    refine ia_cV hK mk_M_frostLine lk_12_150 dc_M_lakeLine_169 417 [] [] rfl rfl (Nat.le_of_ble_eq_true rfl) (by decide) rfl (gk_12 hg pk_417) ev7 (gd_nm hg gv7) ?_
    show K 172 [some (.inr (.inr 417)), some (.inl x1), some (.inl x2), none, none] [] v7
    exact tj_M_lakeLine_172 hK hret x1 x2 v7 gv7 hm
theorem gj_M_lakeLine_162 {w : ia_O0} {h1 : ia_H} : ∀ (x1 : Int32) (x2 : Int32) (h : ia_H), gd_ w h → j_M_lakeLine_162 x1 x2 h = some h1 → gd_ w h1 := by
  intro x1 x2 h hg hm
  unfold j_M_lakeLine_162 at hm
  by_cases c : x2 = 7
  · replace hm := ia_ifp hm c
    obtain ⟨v7, hv7, hm⟩ := ia_bnd hm
    have gv7 := g_M_frostLine hg hv7
    exact gj_M_lakeLine_172 x1 x2 v7 gv7 hm
  · replace hm := ia_ifn hm c
    exact gj_M_lakeLine_172 x1 x2 h hg hm
def j_M_lakeLine_152 (x1 : Int32) (x2 : Int32) (h : ia_H) : Option ia_H := if x2 = 6 then ((f_M_crackLine h).bind fun v8 => (j_M_lakeLine_162 x1 x2 v8)) else (j_M_lakeLine_162 x1 x2 h)
theorem tj_M_lakeLine_152 {w : ia_O0} {d N1 W1 : Nat} {K : ia_K} (hK : ia_isK (d + 8) mm_M_lakeLine N1 W1 K) {h1 : ia_H} (hret : ∀ (pc : Nat) (lv : ia_L), ia_ret mm_M_lakeLine pc none → K pc lv (none : Option ia_V).toList h1) : ∀ (x1 : Int32) (x2 : Int32) (h : ia_H), gd_ w h → j_M_lakeLine_152 x1 x2 h = some h1 → K 152 [some (.inr (.inr 417)), some (.inl x1), some (.inl x2), none, none] [] h := by
  intro x1 x2 h hg hm
  unfold j_M_lakeLine_152 at hm
  refine ia_go hK ck_M_lakeLine_152 ⟨fun c => ?_, fun c => ?_⟩
  · replace hm := ia_ifn hm c
    show K 162 [some (.inr (.inr 417)), some (.inl x1), some (.inl x2), none, none] [] h
    exact tj_M_lakeLine_162 hK hret x1 x2 h hg hm
  · replace hm := ia_ifp hm c
    show K 158 [some (.inr (.inr 417)), some (.inl x1), some (.inl x2), none, none] [] h
    refine ia_go hK ck_M_lakeLine_158 ?_
    show K 159 [some (.inr (.inr 417)), some (.inl x1), some (.inl x2), none, none] [.inr (.inr 417)] h
    obtain ⟨v8, hv8, hm⟩ := ia_bnd hm
    have ev8 := t_M_crackLine (d + 0) hg hv8
    have gv8 := g_M_crackLine hg hv8
    refine ia_cV hK mk_M_crackLine lk_12_147 dc_M_lakeLine_159 417 [] [] rfl rfl (Nat.le_of_ble_eq_true rfl) (by decide) rfl (gk_12 hg pk_417) ev8 (gd_nm hg gv8) ?_
    show K 162 [some (.inr (.inr 417)), some (.inl x1), some (.inl x2), none, none] [] v8
    exact tj_M_lakeLine_162 hK hret x1 x2 v8 gv8 hm
theorem gj_M_lakeLine_152 {w : ia_O0} {h1 : ia_H} : ∀ (x1 : Int32) (x2 : Int32) (h : ia_H), gd_ w h → j_M_lakeLine_152 x1 x2 h = some h1 → gd_ w h1 := by
  intro x1 x2 h hg hm
  unfold j_M_lakeLine_152 at hm
  by_cases c : x2 = 6
  · replace hm := ia_ifp hm c
    obtain ⟨v8, hv8, hm⟩ := ia_bnd hm
    have gv8 := g_M_crackLine hg hv8
    exact gj_M_lakeLine_162 x1 x2 v8 gv8 hm
  · replace hm := ia_ifn hm c
    exact gj_M_lakeLine_162 x1 x2 h hg hm
def j_M_lakeLine_147 (x1 : Int32) (x2 : Int32) (x3 : Int32) (x4 : Int32) (b0 : Nat) (s1 : Int32) (h : ia_H) : Option ia_H := ia_gd (ia_ib (s1 + x3) 260) (j_M_lakeLine_152 x1 x2 (ia_wI h b0 ((s1 + x3).toNatClampNeg) x4))
theorem tj_M_lakeLine_147 {w : ia_O0} {d N1 W1 : Nat} {K : ia_K} (hK : ia_isK (d + 8) mm_M_lakeLine N1 W1 K) {h1 : ia_H} (hret : ∀ (pc : Nat) (lv : ia_L), ia_ret mm_M_lakeLine pc none → K pc lv (none : Option ia_V).toList h1) : ∀ (x1 : Int32) (x2 : Int32) (x3 : Int32) (x4 : Int32) (b0 : Nat) (s1 : Int32) (h : ia_H), gd_ w h → kd_D b0 = (100, 260) → j_M_lakeLine_147 x1 x2 x3 x4 b0 s1 h = some h1 → K 147 [some (.inr (.inr 417)), some (.inl x1), some (.inl x2), some (.inl x3), some (.inl x4)] [.inl s1, .inr (.inr b0)] h := by
  intro x1 x2 x3 x4 b0 s1 h hg q_b0 hm
  unfold j_M_lakeLine_147 at hm
  obtain ⟨c11, hm⟩ := ia_gd_some hm
  refine ia_go hK ck_M_lakeLine_147 ⟨ga_s100 hg q_b0 c11, ?_⟩
  show K 152 [some (.inr (.inr 417)), some (.inl x1), some (.inl x2), some (.inl x3), some (.inl x4)] [] (ia_wI h b0 ((s1 + x3).toNatClampNeg) x4)
  refine ia_fg hK (lv' := [some (.inr (.inr 417)), some (.inl x1), some (.inl x2), none, none]) ⟨rfl, rfl, rfl, trivial⟩ ?_
  exact tj_M_lakeLine_152 hK hret x1 x2 (ia_wI h b0 ((s1 + x3).toNatClampNeg) x4) (gd_wI hg (kx_100 q_b0)) hm
theorem gj_M_lakeLine_147 {w : ia_O0} {h1 : ia_H} : ∀ (x1 : Int32) (x2 : Int32) (x3 : Int32) (x4 : Int32) (b0 : Nat) (s1 : Int32) (h : ia_H), gd_ w h → kd_D b0 = (100, 260) → j_M_lakeLine_147 x1 x2 x3 x4 b0 s1 h = some h1 → gd_ w h1 := by
  intro x1 x2 x3 x4 b0 s1 h hg q_b0 hm
  unfold j_M_lakeLine_147 at hm
  obtain ⟨c11, hm⟩ := ia_gd_some hm
  exact gj_M_lakeLine_152 x1 x2 (ia_wI h b0 ((s1 + x3).toNatClampNeg) x4) (gd_wI hg (kx_100 q_b0)) hm
def j_M_lakeLine_112 (x1 : Int32) (x2 : Int32) (x3 : Int32) (s1 : Int32) (s2 : Int32) (h : ia_H) : Option ia_H := (f_M_numbered s1 s2 h).bind fun v10 => (if x3 < 0 then (j_M_lakeLine_152 x1 x2 v10.2) else (if x2 = 3 then (j_M_lakeLine_147 x1 x2 x3 v10.1 420 8 v10.2) else (if x2 = 4 then (j_M_lakeLine_147 x1 x2 x3 v10.1 420 44 v10.2) else (j_M_lakeLine_147 x1 x2 x3 v10.1 420 80 v10.2))))
theorem tj_M_lakeLine_112 {w : ia_O0} {d N1 W1 : Nat} {K : ia_K} (hK : ia_isK (d + 8) mm_M_lakeLine N1 W1 K) {h1 : ia_H} (hret : ∀ (pc : Nat) (lv : ia_L), ia_ret mm_M_lakeLine pc none → K pc lv (none : Option ia_V).toList h1) : ∀ (x1 : Int32) (x2 : Int32) (x3 : Int32) (s1 : Int32) (s2 : Int32) (h : ia_H), gd_ w h → j_M_lakeLine_112 x1 x2 x3 s1 s2 h = some h1 → K 112 [some (.inr (.inr 417)), some (.inl x1), some (.inl x2), some (.inl x3), none] [.inl s2, .inl s1, .inr (.inr 417)] h := by
  intro x1 x2 x3 s1 s2 h hg hm
  unfold j_M_lakeLine_112 at hm
  obtain ⟨v10, hv10, hm⟩ := ia_bnd hm
  have ev10 := t_M_numbered (d + 3) hg hv10
  have gv10 := g_M_numbered hg hv10
  refine ia_cV hK mk_M_numbered lk_12_127 dc_M_lakeLine_112 417 [.inl s1, .inl s2] [] rfl rfl (Nat.le_of_ble_eq_true rfl) (by decide) rfl (gk_12 hg pk_417) ev10 (gd_nm hg gv10) ?_
  show K 115 [some (.inr (.inr 417)), some (.inl x1), some (.inl x2), some (.inl x3), none] [.inl v10.1] v10.2
  refine ia_go hK ck_M_lakeLine_115 ⟨fun c => ?_, fun c => ?_⟩
  · replace hm := ia_ifp hm c
    show K 152 [some (.inr (.inr 417)), some (.inl x1), some (.inl x2), some (.inl x3), some (.inl v10.1)] [] v10.2
    refine ia_fg hK (lv' := [some (.inr (.inr 417)), some (.inl x1), some (.inl x2), none, none]) ⟨rfl, rfl, rfl, trivial⟩ ?_
    exact tj_M_lakeLine_152 hK hret x1 x2 v10.2 gv10 hm
  · replace hm := ia_ifn hm c
    show K 121 [some (.inr (.inr 417)), some (.inl x1), some (.inl x2), some (.inl x3), some (.inl v10.1)] [] v10.2
    refine ia_go hK ck_M_lakeLine_121 ⟨gk_12 gv10 pk_417, gr_12_10 gv10 pk_417, fun c => ?_, fun c => ?_⟩
    · replace hm := ia_ifn hm c
      show K 135 [some (.inr (.inr 417)), some (.inl x1), some (.inl x2), some (.inl x3), some (.inl v10.1)] [.inr (.inr 420)] v10.2
      refine ia_go hK ck_M_lakeLine_135 ⟨fun c => ?_, fun c => ?_⟩
      · replace hm := ia_ifn hm c
        show K 145 [some (.inr (.inr 417)), some (.inl x1), some (.inl x2), some (.inl x3), some (.inl v10.1)] [.inr (.inr 420)] v10.2
        refine ia_go hK ck_M_lakeLine_145 ?_
        show K 147 [some (.inr (.inr 417)), some (.inl x1), some (.inl x2), some (.inl x3), some (.inl v10.1)] [.inl 80, .inr (.inr 420)] v10.2
        exact tj_M_lakeLine_147 hK hret x1 x2 x3 v10.1 420 80 v10.2 gv10 (ka_12_10 pk_417) hm
      · replace hm := ia_ifp hm c
        show K 140 [some (.inr (.inr 417)), some (.inl x1), some (.inl x2), some (.inl x3), some (.inl v10.1)] [.inr (.inr 420)] v10.2
        refine ia_go hK ck_M_lakeLine_140 ?_
        show K 147 [some (.inr (.inr 417)), some (.inl x1), some (.inl x2), some (.inl x3), some (.inl v10.1)] [.inl 44, .inr (.inr 420)] v10.2
        exact tj_M_lakeLine_147 hK hret x1 x2 x3 v10.1 420 44 v10.2 gv10 (ka_12_10 pk_417) hm
    · replace hm := ia_ifp hm c
      show K 130 [some (.inr (.inr 417)), some (.inl x1), some (.inl x2), some (.inl x3), some (.inl v10.1)] [.inr (.inr 420)] v10.2
      refine ia_go hK ck_M_lakeLine_130 ?_
      show K 147 [some (.inr (.inr 417)), some (.inl x1), some (.inl x2), some (.inl x3), some (.inl v10.1)] [.inl 8, .inr (.inr 420)] v10.2
      exact tj_M_lakeLine_147 hK hret x1 x2 x3 v10.1 420 8 v10.2 gv10 (ka_12_10 pk_417) hm
theorem gj_M_lakeLine_112 {w : ia_O0} {h1 : ia_H} : ∀ (x1 : Int32) (x2 : Int32) (x3 : Int32) (s1 : Int32) (s2 : Int32) (h : ia_H), gd_ w h → j_M_lakeLine_112 x1 x2 x3 s1 s2 h = some h1 → gd_ w h1 := by
  intro x1 x2 x3 s1 s2 h hg hm
  unfold j_M_lakeLine_112 at hm
  obtain ⟨v10, hv10, hm⟩ := ia_bnd hm
  have gv10 := g_M_numbered hg hv10
  by_cases c : x3 < 0
  · replace hm := ia_ifp hm c
    exact gj_M_lakeLine_152 x1 x2 v10.2 gv10 hm
  · replace hm := ia_ifn hm c
    by_cases c : x2 = 3
    · replace hm := ia_ifp hm c
      exact gj_M_lakeLine_147 x1 x2 x3 v10.1 420 8 v10.2 gv10 (ka_12_10 pk_417) hm
    · replace hm := ia_ifn hm c
      by_cases c : x2 = 4
      · replace hm := ia_ifp hm c
        exact gj_M_lakeLine_147 x1 x2 x3 v10.1 420 44 v10.2 gv10 (ka_12_10 pk_417) hm
      · replace hm := ia_ifn hm c
        exact gj_M_lakeLine_147 x1 x2 x3 v10.1 420 80 v10.2 gv10 (ka_12_10 pk_417) hm
def j_M_lakeLine_84 (x1 : Int32) (x2 : Int32) (h : ia_H) : Option ia_H := (f_M_isIn x2 3 5 h).bind fun v2 => (if v2 = 0 then (j_M_lakeLine_152 x1 x2 h) else ((f_M_cellOf h).bind fun v9 => (if x2 = 3 then (j_M_lakeLine_112 x1 x2 v9.1 0 99 v9.2) else (j_M_lakeLine_112 x1 x2 v9.1 0 9 v9.2))))
theorem tj_M_lakeLine_84 {w : ia_O0} {d N1 W1 : Nat} {K : ia_K} (hK : ia_isK (d + 8) mm_M_lakeLine N1 W1 K) {h1 : ia_H} (hret : ∀ (pc : Nat) (lv : ia_L), ia_ret mm_M_lakeLine pc none → K pc lv (none : Option ia_V).toList h1) : ∀ (x1 : Int32) (x2 : Int32) (h : ia_H), gd_ w h → j_M_lakeLine_84 x1 x2 h = some h1 → K 84 [some (.inr (.inr 417)), some (.inl x1), some (.inl x2), none, none] [] h := by
  intro x1 x2 h hg hm
  unfold j_M_lakeLine_84 at hm
  refine ia_go hK ck_M_lakeLine_84 ?_
  show K 87 [some (.inr (.inr 417)), some (.inl x1), some (.inl x2), none, none] [.inl 5, .inl 3, .inl x2] h
  obtain ⟨v2, hv2, hm⟩ := ia_bnd hm
  have ev2 := t_M_isIn (d + 7) hg hv2
  refine ia_cS hK mk_M_isIn lk_12_116 dc_M_lakeLine_87 [.inl x2, .inl 3, .inl 5] [] rfl rfl (Nat.le_of_ble_eq_true rfl) ev2 ⟨rfl, rfl⟩ ?_
  show K 90 [some (.inr (.inr 417)), some (.inl x1), some (.inl x2), none, none] [.inl v2] h
  refine ia_go hK ck_M_lakeLine_90 ⟨fun c => ?_, fun c => ?_⟩
  · replace hm := ia_ifp hm c
    show K 152 [some (.inr (.inr 417)), some (.inl x1), some (.inl x2), none, none] [] h
    exact tj_M_lakeLine_152 hK hret x1 x2 h hg hm
  · replace hm := ia_ifn hm c
    show K 93 [some (.inr (.inr 417)), some (.inl x1), some (.inl x2), none, none] [] h
    refine ia_go hK ck_M_lakeLine_93 ?_
    show K 94 [some (.inr (.inr 417)), some (.inl x1), some (.inl x2), none, none] [.inr (.inr 417)] h
    obtain ⟨v9, hv9, hm⟩ := ia_bnd hm
    have ev9 := t_M_cellOf (d + 2) hg hv9
    have gv9 := g_M_cellOf hg hv9
    refine ia_cV hK mk_M_cellOf lk_12_134 dc_M_lakeLine_94 417 [] [] rfl rfl (Nat.le_of_ble_eq_true rfl) (by decide) rfl (gk_12 hg pk_417) ev9 (gd_nm hg gv9) ?_
    show K 97 [some (.inr (.inr 417)), some (.inl x1), some (.inl x2), none, none] [.inl v9.1] v9.2
    refine ia_go hK ck_M_lakeLine_97 ⟨fun c => ?_, fun c => ?_⟩
    · replace hm := ia_ifn hm c
      show K 110 [some (.inr (.inr 417)), some (.inl x1), some (.inl x2), some (.inl v9.1), none] [.inl 0, .inr (.inr 417)] v9.2
      refine ia_go hK ck_M_lakeLine_110 ?_
      show K 112 [some (.inr (.inr 417)), some (.inl x1), some (.inl x2), some (.inl v9.1), none] [.inl 9, .inl 0, .inr (.inr 417)] v9.2
      exact tj_M_lakeLine_112 hK hret x1 x2 v9.1 0 9 v9.2 gv9 hm
    · replace hm := ia_ifp hm c
      show K 105 [some (.inr (.inr 417)), some (.inl x1), some (.inl x2), some (.inl v9.1), none] [.inl 0, .inr (.inr 417)] v9.2
      refine ia_go hK ck_M_lakeLine_105 ?_
      show K 112 [some (.inr (.inr 417)), some (.inl x1), some (.inl x2), some (.inl v9.1), none] [.inl 99, .inl 0, .inr (.inr 417)] v9.2
      exact tj_M_lakeLine_112 hK hret x1 x2 v9.1 0 99 v9.2 gv9 hm
theorem gj_M_lakeLine_84 {w : ia_O0} {h1 : ia_H} : ∀ (x1 : Int32) (x2 : Int32) (h : ia_H), gd_ w h → j_M_lakeLine_84 x1 x2 h = some h1 → gd_ w h1 := by
  intro x1 x2 h hg hm
  unfold j_M_lakeLine_84 at hm
  obtain ⟨v2, hv2, hm⟩ := ia_bnd hm
  by_cases c : v2 = 0
  · replace hm := ia_ifp hm c
    exact gj_M_lakeLine_152 x1 x2 h hg hm
  · replace hm := ia_ifn hm c
    obtain ⟨v9, hv9, hm⟩ := ia_bnd hm
    have gv9 := g_M_cellOf hg hv9
    by_cases c : x2 = 3
    · replace hm := ia_ifp hm c
      exact gj_M_lakeLine_112 x1 x2 v9.1 0 99 v9.2 gv9 hm
    · replace hm := ia_ifn hm c
      exact gj_M_lakeLine_112 x1 x2 v9.1 0 9 v9.2 gv9 hm
def l_M_lakeLine_60 (k84 : Int32 → Int32 → ia_H → Option ia_H) (n : Nat) (x1 : Int32) (x2 : Int32) (x3 : Int32) (x4 : Int32) (h : ia_H) : Option ia_H := match n with
  | 0 => none
  | n + 1 => if 36 ≤ x4 then (k84 x1 x2 h) else (ia_gd (ia_ib (8 + x4) 260) (l_M_lakeLine_60 k84 n x1 x2 x3 (x4 + 1) (ia_wI h 420 ((8 + x4).toNatClampNeg) x3)))
theorem tl_M_lakeLine_60 {w : ia_O0} {d N1 W1 : Nat} {K : ia_K} (hK : ia_isK (d + 8) mm_M_lakeLine N1 W1 K) {h1 : ia_H} (hret : ∀ (pc : Nat) (lv : ia_L), ia_ret mm_M_lakeLine pc none → K pc lv (none : Option ia_V).toList h1) {k84 : Int32 → Int32 → ia_H → Option ia_H} (hk84 : ∀ (x1 : Int32) (x2 : Int32) (h : ia_H), gd_ w h → k84 x1 x2 h = some h1 → K 84 [some (.inr (.inr 417)), some (.inl x1), some (.inl x2), none, none] [] h) : ∀ (n : Nat) (x1 : Int32) (x2 : Int32) (x3 : Int32) (x4 : Int32) (h : ia_H), gd_ w h → l_M_lakeLine_60 k84 n x1 x2 x3 x4 h = some h1 → K 60 [some (.inr (.inr 417)), some (.inl x1), some (.inl x2), some (.inl x3), some (.inl x4)] [] h := by
  intro n
  induction n with
  | zero =>
    intro x1 x2 x3 x4 h hg hm
    cases (show (none : Option ia_H) = some _ from hm)
  | succ n ih =>
    intro x1 x2 x3 x4 h hg hm
    rw [l_M_lakeLine_60] at hm
    refine ia_go hK ck_M_lakeLine_60 ⟨fun c => ?_, fun c => ?_⟩
    · replace hm := ia_ifp hm c
      show K 84 [some (.inr (.inr 417)), some (.inl x1), some (.inl x2), some (.inl x3), some (.inl x4)] [] h
      refine ia_fg hK (lv' := [some (.inr (.inr 417)), some (.inl x1), some (.inl x2), none, none]) ⟨rfl, rfl, rfl, trivial⟩ ?_
      exact hk84 x1 x2 h hg hm
    · replace hm := ia_ifn hm c
      show K 67 [some (.inr (.inr 417)), some (.inl x1), some (.inl x2), some (.inl x3), some (.inl x4)] [] h
      obtain ⟨c13, hm⟩ := ia_gd_some hm
      refine ia_go hK ck_M_lakeLine_67 ⟨gk_12 hg pk_417, gr_12_10 hg pk_417, ga_s100 hg (ka_12_10 pk_417) c13, ?_⟩
      show K 60 [some (.inr (.inr 417)), some (.inl x1), some (.inl x2), some (.inl x3), some (.inl (x4 + 1))] [] (ia_wI h 420 ((8 + x4).toNatClampNeg) x3)
      exact ih x1 x2 x3 (x4 + 1) (ia_wI h 420 ((8 + x4).toNatClampNeg) x3) (gd_wI hg (kx_100 (ka_12_10 pk_417))) hm
theorem gl_M_lakeLine_60 {w : ia_O0} {h1 : ia_H} {k84 : Int32 → Int32 → ia_H → Option ia_H} (hk84 : ∀ (x1 : Int32) (x2 : Int32) (h : ia_H), gd_ w h → k84 x1 x2 h = some h1 → gd_ w h1) : ∀ (n : Nat) (x1 : Int32) (x2 : Int32) (x3 : Int32) (x4 : Int32) (h : ia_H), gd_ w h → l_M_lakeLine_60 k84 n x1 x2 x3 x4 h = some h1 → gd_ w h1 := by
  intro n
  induction n with
  | zero =>
    intro x1 x2 x3 x4 h hg hm
    cases (show (none : Option ia_H) = some _ from hm)
  | succ n ih =>
    intro x1 x2 x3 x4 h hg hm
    rw [l_M_lakeLine_60] at hm
    by_cases c : 36 ≤ x4
    · replace hm := ia_ifp hm c
      exact hk84 x1 x2 h hg hm
    · replace hm := ia_ifn hm c
      obtain ⟨c13, hm⟩ := ia_gd_some hm
      exact ih x1 x2 x3 (x4 + 1) (ia_wI h 420 ((8 + x4).toNatClampNeg) x3) (gd_wI hg (kx_100 (ka_12_10 pk_417))) hm
def j_M_lakeLine_44 (x1 : Int32) (x2 : Int32) (h : ia_H) : Option ia_H := if x2 = 2 then ((f_M_numbered 0 99 h).bind fun v12 => (l_M_lakeLine_60 (fun x1 x2 h => j_M_lakeLine_84 x1 x2 h) fu_ x1 x2 v12.1 0 v12.2)) else (j_M_lakeLine_84 x1 x2 h)
theorem tj_M_lakeLine_44 {w : ia_O0} {d N1 W1 : Nat} {K : ia_K} (hK : ia_isK (d + 8) mm_M_lakeLine N1 W1 K) {h1 : ia_H} (hret : ∀ (pc : Nat) (lv : ia_L), ia_ret mm_M_lakeLine pc none → K pc lv (none : Option ia_V).toList h1) : ∀ (x1 : Int32) (x2 : Int32) (h : ia_H), gd_ w h → j_M_lakeLine_44 x1 x2 h = some h1 → K 44 [some (.inr (.inr 417)), some (.inl x1), some (.inl x2), none, none] [] h := by
  intro x1 x2 h hg hm
  unfold j_M_lakeLine_44 at hm
  refine ia_go hK ck_M_lakeLine_44 ⟨fun c => ?_, fun c => ?_⟩
  · replace hm := ia_ifn hm c
    show K 84 [some (.inr (.inr 417)), some (.inl x1), some (.inl x2), none, none] [] h
    exact tj_M_lakeLine_84 hK hret x1 x2 h hg hm
  · replace hm := ia_ifp hm c
    show K 49 [some (.inr (.inr 417)), some (.inl x1), some (.inl x2), none, none] [] h
    refine ia_go hK ck_M_lakeLine_49 ?_
    show K 53 [some (.inr (.inr 417)), some (.inl x1), some (.inl x2), none, none] [.inl 99, .inl 0, .inr (.inr 417)] h
    obtain ⟨v12, hv12, hm⟩ := ia_bnd hm
    have ev12 := t_M_numbered (d + 3) hg hv12
    have gv12 := g_M_numbered hg hv12
    refine ia_cV hK mk_M_numbered lk_12_127 dc_M_lakeLine_53 417 [.inl 0, .inl 99] [] rfl rfl (Nat.le_of_ble_eq_true rfl) (by decide) rfl (gk_12 hg pk_417) ev12 (gd_nm hg gv12) ?_
    show K 56 [some (.inr (.inr 417)), some (.inl x1), some (.inl x2), none, none] [.inl v12.1] v12.2
    refine ia_go hK ck_M_lakeLine_56 ?_
    show K 60 [some (.inr (.inr 417)), some (.inl x1), some (.inl x2), some (.inl v12.1), some (.inl 0)] [] v12.2
    refine tl_M_lakeLine_60 hK hret ?_ fu_ x1 x2 v12.1 0 v12.2 gv12 hm
    · intro x1 x2 h hg hm
      exact tj_M_lakeLine_84 hK hret x1 x2 h hg hm
theorem gj_M_lakeLine_44 {w : ia_O0} {h1 : ia_H} : ∀ (x1 : Int32) (x2 : Int32) (h : ia_H), gd_ w h → j_M_lakeLine_44 x1 x2 h = some h1 → gd_ w h1 := by
  intro x1 x2 h hg hm
  unfold j_M_lakeLine_44 at hm
  by_cases c : x2 = 2
  · replace hm := ia_ifp hm c
    obtain ⟨v12, hv12, hm⟩ := ia_bnd hm
    have gv12 := g_M_numbered hg hv12
    refine gl_M_lakeLine_60 ?_ fu_ x1 x2 v12.1 0 v12.2 gv12 hm
    · intro x1 x2 h hg hm
      exact gj_M_lakeLine_84 x1 x2 h hg hm
  · replace hm := ia_ifn hm c
    exact gj_M_lakeLine_84 x1 x2 h hg hm
def f_M_lakeLine (h : ia_H) : Option ia_H := (f_M_takes 1 10 h).bind fun v1 => (if v1.1 = 1 then ((f_M_numbered 2 6 v1.2).bind fun v14 => ((f_M_numbered 2 6 (ia_wI v14.2 420 0 v14.1)).bind fun v15 => (j_M_lakeLine_44 (ia_i h 417 4) v1.1 (ia_wI v15.2 420 1 v15.1)))) else (j_M_lakeLine_44 (ia_i h 417 4) v1.1 v1.2))
theorem g_M_lakeLine {w : ia_O0} {h : ia_H} (hg : gd_ w h) {q : ia_H} (hm : f_M_lakeLine h = some q) : gd_ w q := by
  obtain ⟨h1, e1⟩ : ∃ x, x = q := ⟨_, rfl⟩
  subst e1
  unfold f_M_lakeLine at hm
  obtain ⟨v1, hv1, hm⟩ := ia_bnd hm
  have gv1 := g_M_takes hg hv1
  by_cases c : v1.1 = 1
  · replace hm := ia_ifp hm c
    obtain ⟨v14, hv14, hm⟩ := ia_bnd hm
    have gv14 := g_M_numbered gv1 hv14
    obtain ⟨v15, hv15, hm⟩ := ia_bnd hm
    have gv15 := g_M_numbered (gd_wI gv14 (kx_100 (ka_12_10 pk_417))) hv15
    exact gj_M_lakeLine_44 (ia_i h 417 4) v1.1 (ia_wI v15.2 420 1 v15.1) (gd_wI gv15 (kx_100 (ka_12_10 pk_417))) hm
  · replace hm := ia_ifn hm c
    exact gj_M_lakeLine_44 (ia_i h 417 4) v1.1 v1.2 gv1 hm
theorem t_M_lakeLine {w : ia_O0} (d : Nat) {h : ia_H} (hg : gd_ w h) {q : ia_H} (hm : f_M_lakeLine h = some q) : ia_Ev (d + 8) mm_M_lakeLine [.inr (.inr 417)] h none q := by
  have gq := g_M_lakeLine hg hm
  refine ia_Ev_intro ok_M_lakeLine (gd_le hg gq).1 (gd_le hg gq).2 (Nat.le_of_ble_eq_true rfl) (fun K hK hret => ?_)
  obtain ⟨h1, e1⟩ : ∃ x, x = q := ⟨_, rfl⟩
  subst e1
  show K 0 [some (.inr (.inr 417)), none, none, none, none] [] h
  unfold f_M_lakeLine at hm
  refine ia_go hK ck_M_lakeLine_0 ⟨gk_12 hg pk_417, ?_⟩
  show K 9 [some (.inr (.inr 417)), some (.inl (ia_i h 417 4)), none, none, none] [.inl 10, .inl 1, .inr (.inr 417)] h
  obtain ⟨v1, hv1, hm⟩ := ia_bnd hm
  have ev1 := t_M_takes (d + 3) hg hv1
  have gv1 := g_M_takes hg hv1
  refine ia_cV hK mk_M_takes lk_12_144 dc_M_lakeLine_9 417 [.inl 1, .inl 10] [] rfl rfl (Nat.le_of_ble_eq_true rfl) (by decide) rfl (gk_12 hg pk_417) ev1 (gd_nm hg gv1) ?_
  show K 12 [some (.inr (.inr 417)), some (.inl (ia_i h 417 4)), none, none, none] [.inl v1.1] v1.2
  refine ia_go hK ck_M_lakeLine_12 ⟨fun c => ?_, fun c => ?_⟩
  · replace hm := ia_ifn hm c
    show K 44 [some (.inr (.inr 417)), some (.inl (ia_i h 417 4)), some (.inl v1.1), none, none] [] v1.2
    exact tj_M_lakeLine_44 hK hret (ia_i h 417 4) v1.1 v1.2 gv1 hm
  · replace hm := ia_ifp hm c
    show K 18 [some (.inr (.inr 417)), some (.inl (ia_i h 417 4)), some (.inl v1.1), none, none] [] v1.2
    refine ia_go hK ck_M_lakeLine_18 ⟨gk_12 gv1 pk_417, gr_12_10 gv1 pk_417, ?_⟩
    show K 27 [some (.inr (.inr 417)), some (.inl (ia_i h 417 4)), some (.inl v1.1), none, none] [.inl 6, .inl 2, .inr (.inr 417), .inl 0, .inr (.inr 420)] v1.2
    obtain ⟨v14, hv14, hm⟩ := ia_bnd hm
    have ev14 := t_M_numbered (d + 3) gv1 hv14
    have gv14 := g_M_numbered gv1 hv14
    refine ia_cV hK mk_M_numbered lk_12_127 dc_M_lakeLine_27 417 [.inl 2, .inl 6] [.inl 0, .inr (.inr 420)] rfl rfl (Nat.le_of_ble_eq_true rfl) (by decide) rfl (gk_12 gv1 pk_417) ev14 (gd_nm gv1 gv14) ?_
    show K 30 [some (.inr (.inr 417)), some (.inl (ia_i h 417 4)), some (.inl v1.1), none, none] [.inl v14.1, .inl 0, .inr (.inr 420)] v14.2
    refine ia_go hK ck_M_lakeLine_30 ⟨ga_s100 gv14 (ka_12_10 pk_417) (by decide), gk_12 (gd_wI gv14 (kx_100 (ka_12_10 pk_417))) pk_417, gr_12_10 (gd_wI gv14 (kx_100 (ka_12_10 pk_417))) pk_417, ?_⟩
    show K 40 [some (.inr (.inr 417)), some (.inl (ia_i h 417 4)), some (.inl v1.1), none, none] [.inl 6, .inl 2, .inr (.inr 417), .inl 1, .inr (.inr 420)] (ia_wI v14.2 420 0 v14.1)
    obtain ⟨v15, hv15, hm⟩ := ia_bnd hm
    have ev15 := t_M_numbered (d + 3) (gd_wI gv14 (kx_100 (ka_12_10 pk_417))) hv15
    have gv15 := g_M_numbered (gd_wI gv14 (kx_100 (ka_12_10 pk_417))) hv15
    refine ia_cV hK mk_M_numbered lk_12_127 dc_M_lakeLine_40 417 [.inl 2, .inl 6] [.inl 1, .inr (.inr 420)] rfl rfl (Nat.le_of_ble_eq_true rfl) (by decide) rfl (gk_12 (gd_wI gv14 (kx_100 (ka_12_10 pk_417))) pk_417) ev15 (gd_nm (gd_wI gv14 (kx_100 (ka_12_10 pk_417))) gv15) ?_
    show K 43 [some (.inr (.inr 417)), some (.inl (ia_i h 417 4)), some (.inl v1.1), none, none] [.inl v15.1, .inl 1, .inr (.inr 420)] v15.2
    refine ia_go hK ck_M_lakeLine_43 ⟨ga_s100 gv15 (ka_12_10 pk_417) (by decide), ?_⟩
    show K 44 [some (.inr (.inr 417)), some (.inl (ia_i h 417 4)), some (.inl v1.1), none, none] [] (ia_wI v15.2 420 1 v15.1)
    exact tj_M_lakeLine_44 hK hret (ia_i h 417 4) v1.1 (ia_wI v15.2 420 1 v15.1) (gd_wI gv15 (kx_100 (ka_12_10 pk_417))) hm
def mm_M_lawLine : ia_M := (⟨"IceStreetModel", "lawLine", "()V"⟩, prog_14_method_24_code, 5, none, 12, false)
theorem ok_M_lawLine : ia_mok mm_M_lawLine := ⟨by decide +kernel, by decide +kernel, by decide +kernel, by decide +kernel⟩
theorem mk_M_lawLine : ia_mkn mm_M_lawLine 1 0 := ⟨ia_tb_in (List.mem_of_getElem? (i := 1820) (by decide +kernel)) rfl, ia_tb_in (List.mem_of_getElem? (i := 146) (by decide +kernel)) rfl, by decide +kernel, by decide +kernel, ⟨ia_tb_in (List.mem_of_getElem? (i := 1819) (by decide +kernel)) rfl, ia_tb_in (List.mem_of_getElem? (i := 67) (by decide +kernel)) rfl⟩⟩
theorem ck_M_lawLine_0 : ia_cks 12 5 false prog_14_method_24_code 0 [(.aload_n 0, 0, 0, 0, 0), (.getfield 87, 12, 4, 0, 0), (.istore_n 1, 0, 0, 0, 0), (.aload_n 0, 0, 0, 0, 0), (.bipush 11, 0, 0, 0, 0), (.bipush 16, 0, 0, 0, 0)] = true := by decide +kernel
theorem ck_M_lawLine_13 : ia_cks 12 5 false prog_14_method_24_code 13 [(.istore_n 2, 0, 0, 0, 0), (.iload_n 2, 0, 0, 0, 0), (.bipush 11, 0, 0, 0, 0), (.if_icmp .lt 47, 0, 0, 0, 0)] = true := by decide +kernel
theorem ck_M_lawLine_64 : ia_cks 12 5 false prog_14_method_24_code 64 [(.iload_n 2, 0, 0, 0, 0), (.bipush 15, 0, 0, 0, 0), (.if_icmp .ne 90, 0, 0, 0, 0)] = true := by decide +kernel
theorem ck_M_lawLine_157 : ia_cks 12 5 false prog_14_method_24_code 157 [(.iload_n 2, 0, 0, 0, 0), (.bipush 16, 0, 0, 0, 0), (.if_icmp .ne 9, 0, 0, 0, 0)] = true := by decide +kernel
theorem ck_M_lawLine_169 : ia_cks 12 5 false prog_14_method_24_code 169 [(.aload_n 0, 0, 0, 0, 0)] = true := by decide +kernel
theorem ck_M_lawLine_163 : ia_cks 12 5 false prog_14_method_24_code 163 [(.aload_n 0, 0, 0, 0, 0), (.bipush 30, 0, 0, 0, 0)] = true := by decide +kernel
theorem ck_M_lawLine_70 : ia_cks 12 5 false prog_14_method_24_code 70 [(.aload_n 0, 0, 0, 0, 0), (.getfield 17, 12, 10, 3, 3), (.iconst 4, 0, 0, 0, 0), (.iaload, 0, 0, 0, 0), (.bipush 12, 0, 0, 0, 0), (.if_icmp .lt 9, 0, 0, 0, 0)] = true := by decide +kernel
theorem ck_M_lawLine_87 : ia_cks 12 5 false prog_14_method_24_code 87 [(.aload_n 0, 0, 0, 0, 0)] = true := by decide +kernel
theorem ck_M_lawLine_91 : ia_cks 12 5 false prog_14_method_24_code 91 [(.istore_n 3, 0, 0, 0, 0), (.aload_n 0, 0, 0, 0, 0), (.iload_n 3, 0, 0, 0, 0)] = true := by decide +kernel
theorem ck_M_lawLine_97 : ia_cks 12 5 false prog_14_method_24_code 97 [(.istore 4, 0, 0, 0, 0), (.aload_n 0, 0, 0, 0, 0), (.getfield 17, 12, 10, 3, 3), (.iconst 4, 0, 0, 0, 0), (.iaload, 0, 0, 0, 0), (.bipush 12, 0, 0, 0, 0), (.if_icmp .ge 40, 0, 0, 0, 0)] = true := by decide +kernel
theorem ck_M_lawLine_147 : ia_cks 12 5 false prog_14_method_24_code 147 [(.aload_n 0, 0, 0, 0, 0), (.getfield 17, 12, 10, 3, 3), (.iconst 4, 0, 0, 0, 0), (.dup2, 0, 0, 0, 0), (.iaload, 0, 0, 0, 0), (.iconst 1, 0, 0, 0, 0), (.iadd, 0, 0, 0, 0), (.iastore, 0, 0, 0, 0)] = true := by decide +kernel
theorem ck_M_lawLine_110 : ia_cks 12 5 false prog_14_method_24_code 110 [(.aload_n 0, 0, 0, 0, 0), (.getfield 17, 12, 10, 3, 3), (.bipush 6, 0, 0, 0, 0), (.iconst 2, 0, 0, 0, 0), (.aload_n 0, 0, 0, 0, 0), (.getfield 17, 12, 10, 3, 3), (.iconst 4, 0, 0, 0, 0), (.iaload, 0, 0, 0, 0), (.imul, 0, 0, 0, 0), (.iadd, 0, 0, 0, 0), (.iload_n 3, 0, 0, 0, 0), (.iastore, 0, 0, 0, 0), (.aload_n 0, 0, 0, 0, 0), (.getfield 17, 12, 10, 3, 3), (.bipush 6, 0, 0, 0, 0), (.iconst 2, 0, 0, 0, 0), (.aload_n 0, 0, 0, 0, 0), (.getfield 17, 12, 10, 3, 3), (.iconst 4, 0, 0, 0, 0), (.iaload, 0, 0, 0, 0), (.imul, 0, 0, 0, 0), (.iadd, 0, 0, 0, 0), (.iconst 1, 0, 0, 0, 0), (.iadd, 0, 0, 0, 0), (.iload 4, 0, 0, 0, 0), (.iastore, 0, 0, 0, 0)] = true := by decide +kernel
theorem ck_M_lawLine_81 : ia_cks 12 5 false prog_14_method_24_code 81 [(.aload_n 0, 0, 0, 0, 0), (.iconst 3, 0, 0, 0, 0), (.iload_n 1, 0, 0, 0, 0)] = true := by decide +kernel
theorem ck_M_lawLine_20 : ia_cks 12 5 false prog_14_method_24_code 20 [(.iload_n 2, 0, 0, 0, 0), (.bipush 14, 0, 0, 0, 0), (.if_icmp .gt 41, 0, 0, 0, 0)] = true := by decide +kernel
theorem ck_M_lawLine_26 : ia_cks 12 5 false prog_14_method_24_code 26 [(.iload_n 2, 0, 0, 0, 0), (.bipush 11, 0, 0, 0, 0), (.isub, 0, 0, 0, 0), (.istore_n 3, 0, 0, 0, 0), (.aload_n 0, 0, 0, 0, 0), (.getfield 17, 12, 10, 3, 3), (.iload_n 3, 0, 0, 0, 0), (.aload_n 0, 0, 0, 0, 0), (.iconst 0, 0, 0, 0, 0), (.iload_n 3, 0, 0, 0, 0), (.iconst 1, 0, 0, 0, 0), (.if_icmp .ne 8, 0, 0, 0, 0)] = true := by decide +kernel
theorem ck_M_lawLine_48 : ia_cks 12 5 false prog_14_method_24_code 48 [(.iload_n 3, 0, 0, 0, 0), (.iconst 2, 0, 0, 0, 0), (.if_icmp .ne 8, 0, 0, 0, 0)] = true := by decide +kernel
theorem ck_M_lawLine_58 : ia_cks 12 5 false prog_14_method_24_code 58 [(.bipush 99, 0, 0, 0, 0)] = true := by decide +kernel
theorem ck_M_lawLine_63 : ia_cks 12 5 false prog_14_method_24_code 63 [(.iastore, 0, 0, 0, 0)] = true := by decide +kernel
theorem ck_M_lawLine_53 : ia_cks 12 5 false prog_14_method_24_code 53 [(.bipush 10, 0, 0, 0, 0), (.goto 5, 0, 0, 0, 0)] = true := by decide +kernel
theorem ck_M_lawLine_43 : ia_cks 12 5 false prog_14_method_24_code 43 [(.bipush 9, 0, 0, 0, 0), (.goto 15, 0, 0, 0, 0)] = true := by decide +kernel
theorem dc_M_lawLine_10 : decode prog_14_method_24_code 10 = .ok (.invokevirtual 144, 3) := by decide +kernel
theorem dc_M_lawLine_170 : decode prog_14_method_24_code 170 = .ok (.invokevirtual 160, 3) := by decide +kernel
theorem dc_M_lawLine_173 : decode prog_14_method_24_code 173 = .ok (.return_, 1) := by decide +kernel
theorem dc_M_lawLine_166 : decode prog_14_method_24_code 166 = .ok (.invokevirtual 153, 3) := by decide +kernel
theorem dc_M_lawLine_88 : decode prog_14_method_24_code 88 = .ok (.invokevirtual 134, 3) := by decide +kernel
theorem dc_M_lawLine_94 : decode prog_14_method_24_code 94 = .ok (.invokevirtual 138, 3) := by decide +kernel
theorem dc_M_lawLine_84 : decode prog_14_method_24_code 84 = .ok (.invokevirtual 120, 3) := by decide +kernel
theorem dc_M_lawLine_60 : decode prog_14_method_24_code 60 = .ok (.invokevirtual 127, 3) := by decide +kernel
def j_M_lawLine_169 (h : ia_H) : Option ia_H := (f_M_endsLine h).bind fun v2 => (some v2)
theorem tj_M_lawLine_169 {w : ia_O0} {d N1 W1 : Nat} {K : ia_K} (hK : ia_isK (d + 7) mm_M_lawLine N1 W1 K) {h1 : ia_H} (hret : ∀ (pc : Nat) (lv : ia_L), ia_ret mm_M_lawLine pc none → K pc lv (none : Option ia_V).toList h1) : ∀ (h : ia_H), gd_ w h → j_M_lawLine_169 h = some h1 → K 169 [some (.inr (.inr 417)), none, none, none, none] [] h := by
  intro h hg hm
  unfold j_M_lawLine_169 at hm
  refine ia_go hK ck_M_lawLine_169 ?_
  show K 170 [some (.inr (.inr 417)), none, none, none, none] [.inr (.inr 417)] h
  obtain ⟨v2, hv2, hm⟩ := ia_bnd hm
  have ev2 := t_M_endsLine (d + 2) hg hv2
  have gv2 := g_M_endsLine hg hv2
  refine ia_cV hK mk_M_endsLine lk_12_160 dc_M_lawLine_170 417 [] [] rfl rfl (Nat.le_of_ble_eq_true rfl) (by decide) rfl (gk_12 hg pk_417) ev2 (gd_nm hg gv2) ?_
  show K 173 [some (.inr (.inr 417)), none, none, none, none] [] v2
  obtain rfl := Option.some.inj hm
  exact hret 173 _ dc_M_lawLine_173
theorem gj_M_lawLine_169 {w : ia_O0} {h1 : ia_H} : ∀ (h : ia_H), gd_ w h → j_M_lawLine_169 h = some h1 → gd_ w h1 := by
  intro h hg hm
  unfold j_M_lawLine_169 at hm
  obtain ⟨v2, hv2, hm⟩ := ia_bnd hm
  have gv2 := g_M_endsLine hg hv2
  obtain rfl := Option.some.inj hm
  exact gv2
def j_M_lawLine_157 (x2 : Int32) (h : ia_H) : Option ia_H := if x2 = 16 then ((f_M_cellsLine 30 h).bind fun v3 => (j_M_lawLine_169 v3)) else (j_M_lawLine_169 h)
theorem tj_M_lawLine_157 {w : ia_O0} {d N1 W1 : Nat} {K : ia_K} (hK : ia_isK (d + 7) mm_M_lawLine N1 W1 K) {h1 : ia_H} (hret : ∀ (pc : Nat) (lv : ia_L), ia_ret mm_M_lawLine pc none → K pc lv (none : Option ia_V).toList h1) : ∀ (x2 : Int32) (h : ia_H), gd_ w h → j_M_lawLine_157 x2 h = some h1 → K 157 [some (.inr (.inr 417)), none, some (.inl x2), none, none] [] h := by
  intro x2 h hg hm
  unfold j_M_lawLine_157 at hm
  refine ia_go hK ck_M_lawLine_157 ⟨fun c => ?_, fun c => ?_⟩
  · replace hm := ia_ifn hm c
    show K 169 [some (.inr (.inr 417)), none, some (.inl x2), none, none] [] h
    refine ia_fg hK (lv' := [some (.inr (.inr 417)), none, none, none, none]) ⟨rfl, trivial⟩ ?_
    exact tj_M_lawLine_169 hK hret h hg hm
  · replace hm := ia_ifp hm c
    show K 163 [some (.inr (.inr 417)), none, some (.inl x2), none, none] [] h
    refine ia_go hK ck_M_lawLine_163 ?_
    show K 166 [some (.inr (.inr 417)), none, some (.inl x2), none, none] [.inl 30, .inr (.inr 417)] h
    obtain ⟨v3, hv3, hm⟩ := ia_bnd hm
    have ev3 := t_M_cellsLine (d + 0) hg hv3
    have gv3 := g_M_cellsLine hg hv3
    refine ia_cV hK mk_M_cellsLine lk_12_153 dc_M_lawLine_166 417 [.inl 30] [] rfl rfl (Nat.le_of_ble_eq_true rfl) (by decide) rfl (gk_12 hg pk_417) ev3 (gd_nm hg gv3) ?_
    show K 169 [some (.inr (.inr 417)), none, some (.inl x2), none, none] [] v3
    refine ia_fg hK (lv' := [some (.inr (.inr 417)), none, none, none, none]) ⟨rfl, trivial⟩ ?_
    exact tj_M_lawLine_169 hK hret v3 gv3 hm
theorem gj_M_lawLine_157 {w : ia_O0} {h1 : ia_H} : ∀ (x2 : Int32) (h : ia_H), gd_ w h → j_M_lawLine_157 x2 h = some h1 → gd_ w h1 := by
  intro x2 h hg hm
  unfold j_M_lawLine_157 at hm
  by_cases c : x2 = 16
  · replace hm := ia_ifp hm c
    obtain ⟨v3, hv3, hm⟩ := ia_bnd hm
    have gv3 := g_M_cellsLine hg hv3
    exact gj_M_lawLine_169 v3 gv3 hm
  · replace hm := ia_ifn hm c
    exact gj_M_lawLine_169 h hg hm
def j_M_lawLine_147 (x2 : Int32) (h : ia_H) : Option ia_H := j_M_lawLine_157 x2 (ia_wI h 420 4 ((ia_i h 420 4) + 1))
theorem tj_M_lawLine_147 {w : ia_O0} {d N1 W1 : Nat} {K : ia_K} (hK : ia_isK (d + 7) mm_M_lawLine N1 W1 K) {h1 : ia_H} (hret : ∀ (pc : Nat) (lv : ia_L), ia_ret mm_M_lawLine pc none → K pc lv (none : Option ia_V).toList h1) : ∀ (x2 : Int32) (h : ia_H), gd_ w h → j_M_lawLine_147 x2 h = some h1 → K 147 [some (.inr (.inr 417)), none, some (.inl x2), none, none] [] h := by
  intro x2 h hg hm
  unfold j_M_lawLine_147 at hm
  refine ia_go hK ck_M_lawLine_147 ⟨gk_12 hg pk_417, gr_12_10 hg pk_417, ga_i100 hg (ka_12_10 pk_417) (by decide), ga_s100 hg (ka_12_10 pk_417) (by decide), ?_⟩
  show K 157 [some (.inr (.inr 417)), none, some (.inl x2), none, none] [] (ia_wI h 420 4 ((ia_i h 420 4) + 1))
  exact tj_M_lawLine_157 hK hret x2 (ia_wI h 420 4 ((ia_i h 420 4) + 1)) (gd_wI hg (kx_100 (ka_12_10 pk_417))) hm
theorem gj_M_lawLine_147 {w : ia_O0} {h1 : ia_H} : ∀ (x2 : Int32) (h : ia_H), gd_ w h → j_M_lawLine_147 x2 h = some h1 → gd_ w h1 := by
  intro x2 h hg hm
  unfold j_M_lawLine_147 at hm
  exact gj_M_lawLine_157 x2 (ia_wI h 420 4 ((ia_i h 420 4) + 1)) (gd_wI hg (kx_100 (ka_12_10 pk_417))) hm
def j_M_lawLine_87 (x2 : Int32) (h : ia_H) : Option ia_H := (f_M_cellOf h).bind fun v4 => ((f_M_otherCell v4.1 v4.2).bind fun v5 => (if 12 ≤ (ia_i v5.2 420 4) then (j_M_lawLine_147 x2 v5.2) else (ia_gd (ia_ib (6 + (2 * (ia_i v5.2 420 4))) 260) (ia_gd (ia_ib ((6 + (2 * (ia_i (ia_wI v5.2 420 ((6 + (2 * (ia_i v5.2 420 4))).toNatClampNeg) v4.1) 420 4))) + 1) 260) (j_M_lawLine_147 x2 (ia_wI (ia_wI v5.2 420 ((6 + (2 * (ia_i v5.2 420 4))).toNatClampNeg) v4.1) 420 (((6 + (2 * (ia_i (ia_wI v5.2 420 ((6 + (2 * (ia_i v5.2 420 4))).toNatClampNeg) v4.1) 420 4))) + 1).toNatClampNeg) v5.1))))))
theorem tj_M_lawLine_87 {w : ia_O0} {d N1 W1 : Nat} {K : ia_K} (hK : ia_isK (d + 7) mm_M_lawLine N1 W1 K) {h1 : ia_H} (hret : ∀ (pc : Nat) (lv : ia_L), ia_ret mm_M_lawLine pc none → K pc lv (none : Option ia_V).toList h1) : ∀ (x2 : Int32) (h : ia_H), gd_ w h → j_M_lawLine_87 x2 h = some h1 → K 87 [some (.inr (.inr 417)), none, some (.inl x2), none, none] [] h := by
  intro x2 h hg hm
  unfold j_M_lawLine_87 at hm
  refine ia_go hK ck_M_lawLine_87 ?_
  show K 88 [some (.inr (.inr 417)), none, some (.inl x2), none, none] [.inr (.inr 417)] h
  obtain ⟨v4, hv4, hm⟩ := ia_bnd hm
  have ev4 := t_M_cellOf (d + 1) hg hv4
  have gv4 := g_M_cellOf hg hv4
  refine ia_cV hK mk_M_cellOf lk_12_134 dc_M_lawLine_88 417 [] [] rfl rfl (Nat.le_of_ble_eq_true rfl) (by decide) rfl (gk_12 hg pk_417) ev4 (gd_nm hg gv4) ?_
  show K 91 [some (.inr (.inr 417)), none, some (.inl x2), none, none] [.inl v4.1] v4.2
  refine ia_go hK ck_M_lawLine_91 ?_
  show K 94 [some (.inr (.inr 417)), none, some (.inl x2), some (.inl v4.1), none] [.inl v4.1, .inr (.inr 417)] v4.2
  obtain ⟨v5, hv5, hm⟩ := ia_bnd hm
  have ev5 := t_M_otherCell (d + 0) gv4 hv5
  have gv5 := g_M_otherCell gv4 hv5
  refine ia_cV hK mk_M_otherCell lk_12_138 dc_M_lawLine_94 417 [.inl v4.1] [] rfl rfl (Nat.le_of_ble_eq_true rfl) (by decide) rfl (gk_12 gv4 pk_417) ev5 (gd_nm gv4 gv5) ?_
  show K 97 [some (.inr (.inr 417)), none, some (.inl x2), some (.inl v4.1), none] [.inl v5.1] v5.2
  refine ia_go hK ck_M_lawLine_97 ⟨gk_12 gv5 pk_417, gr_12_10 gv5 pk_417, ga_i100 gv5 (ka_12_10 pk_417) (by decide), fun c => ?_, fun c => ?_⟩
  · replace hm := ia_ifp hm c
    show K 147 [some (.inr (.inr 417)), none, some (.inl x2), some (.inl v4.1), some (.inl v5.1)] [] v5.2
    refine ia_fg hK (lv' := [some (.inr (.inr 417)), none, some (.inl x2), none, none]) ⟨rfl, rfl, trivial⟩ ?_
    exact tj_M_lawLine_147 hK hret x2 v5.2 gv5 hm
  · replace hm := ia_ifn hm c
    show K 110 [some (.inr (.inr 417)), none, some (.inl x2), some (.inl v4.1), some (.inl v5.1)] [] v5.2
    obtain ⟨c6, hm⟩ := ia_gd_some hm
    obtain ⟨c7, hm⟩ := ia_gd_some hm
    refine ia_go hK ck_M_lawLine_110 ⟨gk_12 gv5 pk_417, gr_12_10 gv5 pk_417, gk_12 gv5 pk_417, gr_12_10 gv5 pk_417, ga_i100 gv5 (ka_12_10 pk_417) (by decide), ga_s100 gv5 (ka_12_10 pk_417) c6, gk_12 (gd_wI gv5 (kx_100 (ka_12_10 pk_417))) pk_417, gr_12_10 (gd_wI gv5 (kx_100 (ka_12_10 pk_417))) pk_417, gk_12 (gd_wI gv5 (kx_100 (ka_12_10 pk_417))) pk_417, gr_12_10 (gd_wI gv5 (kx_100 (ka_12_10 pk_417))) pk_417, ga_i100 (gd_wI gv5 (kx_100 (ka_12_10 pk_417))) (ka_12_10 pk_417) (by decide), ga_s100 (gd_wI gv5 (kx_100 (ka_12_10 pk_417))) (ka_12_10 pk_417) c7, ?_⟩
    show K 147 [some (.inr (.inr 417)), none, some (.inl x2), some (.inl v4.1), some (.inl v5.1)] [] (ia_wI (ia_wI v5.2 420 ((6 + (2 * (ia_i v5.2 420 4))).toNatClampNeg) v4.1) 420 (((6 + (2 * (ia_i (ia_wI v5.2 420 ((6 + (2 * (ia_i v5.2 420 4))).toNatClampNeg) v4.1) 420 4))) + 1).toNatClampNeg) v5.1)
    refine ia_fg hK (lv' := [some (.inr (.inr 417)), none, some (.inl x2), none, none]) ⟨rfl, rfl, trivial⟩ ?_
    exact tj_M_lawLine_147 hK hret x2 (ia_wI (ia_wI v5.2 420 ((6 + (2 * (ia_i v5.2 420 4))).toNatClampNeg) v4.1) 420 (((6 + (2 * (ia_i (ia_wI v5.2 420 ((6 + (2 * (ia_i v5.2 420 4))).toNatClampNeg) v4.1) 420 4))) + 1).toNatClampNeg) v5.1) (gd_wI (gd_wI gv5 (kx_100 (ka_12_10 pk_417))) (kx_100 (ka_12_10 pk_417))) hm
theorem gj_M_lawLine_87 {w : ia_O0} {h1 : ia_H} : ∀ (x2 : Int32) (h : ia_H), gd_ w h → j_M_lawLine_87 x2 h = some h1 → gd_ w h1 := by
  intro x2 h hg hm
  unfold j_M_lawLine_87 at hm
  obtain ⟨v4, hv4, hm⟩ := ia_bnd hm
  have gv4 := g_M_cellOf hg hv4
  obtain ⟨v5, hv5, hm⟩ := ia_bnd hm
  have gv5 := g_M_otherCell gv4 hv5
  by_cases c : 12 ≤ (ia_i v5.2 420 4)
  · replace hm := ia_ifp hm c
    exact gj_M_lawLine_147 x2 v5.2 gv5 hm
  · replace hm := ia_ifn hm c
    obtain ⟨c6, hm⟩ := ia_gd_some hm
    obtain ⟨c7, hm⟩ := ia_gd_some hm
    exact gj_M_lawLine_147 x2 (ia_wI (ia_wI v5.2 420 ((6 + (2 * (ia_i v5.2 420 4))).toNatClampNeg) v4.1) 420 (((6 + (2 * (ia_i (ia_wI v5.2 420 ((6 + (2 * (ia_i v5.2 420 4))).toNatClampNeg) v4.1) 420 4))) + 1).toNatClampNeg) v5.1) (gd_wI (gd_wI gv5 (kx_100 (ka_12_10 pk_417))) (kx_100 (ka_12_10 pk_417))) hm
def j_M_lawLine_64 (x1 : Int32) (x2 : Int32) (h : ia_H) : Option ia_H := if x2 = 15 then (if (ia_i h 420 4) < 12 then (j_M_lawLine_87 x2 h) else ((f_M_also 3 x1 h).bind fun v8 => (j_M_lawLine_87 x2 v8))) else (j_M_lawLine_157 x2 h)
theorem tj_M_lawLine_64 {w : ia_O0} {d N1 W1 : Nat} {K : ia_K} (hK : ia_isK (d + 7) mm_M_lawLine N1 W1 K) {h1 : ia_H} (hret : ∀ (pc : Nat) (lv : ia_L), ia_ret mm_M_lawLine pc none → K pc lv (none : Option ia_V).toList h1) : ∀ (x1 : Int32) (x2 : Int32) (h : ia_H), gd_ w h → j_M_lawLine_64 x1 x2 h = some h1 → K 64 [some (.inr (.inr 417)), some (.inl x1), some (.inl x2), none, none] [] h := by
  intro x1 x2 h hg hm
  unfold j_M_lawLine_64 at hm
  refine ia_go hK ck_M_lawLine_64 ⟨fun c => ?_, fun c => ?_⟩
  · replace hm := ia_ifn hm c
    show K 157 [some (.inr (.inr 417)), some (.inl x1), some (.inl x2), none, none] [] h
    refine ia_fg hK (lv' := [some (.inr (.inr 417)), none, some (.inl x2), none, none]) ⟨rfl, rfl, trivial⟩ ?_
    exact tj_M_lawLine_157 hK hret x2 h hg hm
  · replace hm := ia_ifp hm c
    show K 70 [some (.inr (.inr 417)), some (.inl x1), some (.inl x2), none, none] [] h
    refine ia_go hK ck_M_lawLine_70 ⟨gk_12 hg pk_417, gr_12_10 hg pk_417, ga_i100 hg (ka_12_10 pk_417) (by decide), fun c => ?_, fun c => ?_⟩
    · replace hm := ia_ifp hm c
      show K 87 [some (.inr (.inr 417)), some (.inl x1), some (.inl x2), none, none] [] h
      refine ia_fg hK (lv' := [some (.inr (.inr 417)), none, some (.inl x2), none, none]) ⟨rfl, rfl, trivial⟩ ?_
      exact tj_M_lawLine_87 hK hret x2 h hg hm
    · replace hm := ia_ifn hm c
      show K 81 [some (.inr (.inr 417)), some (.inl x1), some (.inl x2), none, none] [] h
      refine ia_go hK ck_M_lawLine_81 ?_
      show K 84 [some (.inr (.inr 417)), some (.inl x1), some (.inl x2), none, none] [.inl x1, .inl 3, .inr (.inr 417)] h
      obtain ⟨v8, hv8, hm⟩ := ia_bnd hm
      have ev8 := t_M_also (d + 6) hg hv8
      have gv8 := g_M_also hg hv8
      refine ia_cV hK mk_M_also lk_12_120 dc_M_lawLine_84 417 [.inl 3, .inl x1] [] rfl rfl (Nat.le_of_ble_eq_true rfl) (by decide) rfl (gk_12 hg pk_417) ev8 (gd_nm hg gv8) ?_
      show K 87 [some (.inr (.inr 417)), some (.inl x1), some (.inl x2), none, none] [] v8
      refine ia_fg hK (lv' := [some (.inr (.inr 417)), none, some (.inl x2), none, none]) ⟨rfl, rfl, trivial⟩ ?_
      exact tj_M_lawLine_87 hK hret x2 v8 gv8 hm
theorem gj_M_lawLine_64 {w : ia_O0} {h1 : ia_H} : ∀ (x1 : Int32) (x2 : Int32) (h : ia_H), gd_ w h → j_M_lawLine_64 x1 x2 h = some h1 → gd_ w h1 := by
  intro x1 x2 h hg hm
  unfold j_M_lawLine_64 at hm
  by_cases c : x2 = 15
  · replace hm := ia_ifp hm c
    by_cases c : (ia_i h 420 4) < 12
    · replace hm := ia_ifp hm c
      exact gj_M_lawLine_87 x2 h hg hm
    · replace hm := ia_ifn hm c
      obtain ⟨v8, hv8, hm⟩ := ia_bnd hm
      have gv8 := g_M_also hg hv8
      exact gj_M_lawLine_87 x2 v8 gv8 hm
  · replace hm := ia_ifn hm c
    exact gj_M_lawLine_157 x2 h hg hm
def j_M_lawLine_60 (x1 : Int32) (x2 : Int32) (b0 : Nat) (s1 : Int32) (s3 : Int32) (s4 : Int32) (h : ia_H) : Option ia_H := (f_M_numbered s3 s4 h).bind fun v9 => (ia_gd (ia_ib s1 260) (j_M_lawLine_64 x1 x2 (ia_wI v9.2 b0 ((s1).toNatClampNeg) v9.1)))
theorem tj_M_lawLine_60 {w : ia_O0} {d N1 W1 : Nat} {K : ia_K} (hK : ia_isK (d + 7) mm_M_lawLine N1 W1 K) {h1 : ia_H} (hret : ∀ (pc : Nat) (lv : ia_L), ia_ret mm_M_lawLine pc none → K pc lv (none : Option ia_V).toList h1) : ∀ (x1 : Int32) (x2 : Int32) (b0 : Nat) (s1 : Int32) (s3 : Int32) (s4 : Int32) (h : ia_H), gd_ w h → kd_D b0 = (100, 260) → j_M_lawLine_60 x1 x2 b0 s1 s3 s4 h = some h1 → K 60 [some (.inr (.inr 417)), some (.inl x1), some (.inl x2), none, none] [.inl s4, .inl s3, .inr (.inr 417), .inl s1, .inr (.inr b0)] h := by
  intro x1 x2 b0 s1 s3 s4 h hg q_b0 hm
  unfold j_M_lawLine_60 at hm
  obtain ⟨v9, hv9, hm⟩ := ia_bnd hm
  have ev9 := t_M_numbered (d + 2) hg hv9
  have gv9 := g_M_numbered hg hv9
  refine ia_cV hK mk_M_numbered lk_12_127 dc_M_lawLine_60 417 [.inl s3, .inl s4] [.inl s1, .inr (.inr b0)] rfl rfl (Nat.le_of_ble_eq_true rfl) (by decide) rfl (gk_12 hg pk_417) ev9 (gd_nm hg gv9) ?_
  show K 63 [some (.inr (.inr 417)), some (.inl x1), some (.inl x2), none, none] [.inl v9.1, .inl s1, .inr (.inr b0)] v9.2
  obtain ⟨c10, hm⟩ := ia_gd_some hm
  refine ia_go hK ck_M_lawLine_63 ⟨ga_s100 gv9 q_b0 c10, ?_⟩
  show K 64 [some (.inr (.inr 417)), some (.inl x1), some (.inl x2), none, none] [] (ia_wI v9.2 b0 ((s1).toNatClampNeg) v9.1)
  exact tj_M_lawLine_64 hK hret x1 x2 (ia_wI v9.2 b0 ((s1).toNatClampNeg) v9.1) (gd_wI gv9 (kx_100 q_b0)) hm
theorem gj_M_lawLine_60 {w : ia_O0} {h1 : ia_H} : ∀ (x1 : Int32) (x2 : Int32) (b0 : Nat) (s1 : Int32) (s3 : Int32) (s4 : Int32) (h : ia_H), gd_ w h → kd_D b0 = (100, 260) → j_M_lawLine_60 x1 x2 b0 s1 s3 s4 h = some h1 → gd_ w h1 := by
  intro x1 x2 b0 s1 s3 s4 h hg q_b0 hm
  unfold j_M_lawLine_60 at hm
  obtain ⟨v9, hv9, hm⟩ := ia_bnd hm
  have gv9 := g_M_numbered hg hv9
  obtain ⟨c10, hm⟩ := ia_gd_some hm
  exact gj_M_lawLine_64 x1 x2 (ia_wI v9.2 b0 ((s1).toNatClampNeg) v9.1) (gd_wI gv9 (kx_100 q_b0)) hm
def f_M_lawLine (h : ia_H) : Option ia_H := (f_M_takes 11 16 h).bind fun v1 => (if v1.1 < 11 then (j_M_lawLine_64 (ia_i h 417 4) v1.1 v1.2) else (if 14 < v1.1 then (j_M_lawLine_64 (ia_i h 417 4) v1.1 v1.2) else (if (v1.1 - 11) = 1 then (j_M_lawLine_60 (ia_i h 417 4) v1.1 420 (v1.1 - 11) 0 9 v1.2) else (if (v1.1 - 11) = 2 then (j_M_lawLine_60 (ia_i h 417 4) v1.1 420 (v1.1 - 11) 0 10 v1.2) else (j_M_lawLine_60 (ia_i h 417 4) v1.1 420 (v1.1 - 11) 0 99 v1.2)))))
theorem g_M_lawLine {w : ia_O0} {h : ia_H} (hg : gd_ w h) {q : ia_H} (hm : f_M_lawLine h = some q) : gd_ w q := by
  obtain ⟨h1, e1⟩ : ∃ x, x = q := ⟨_, rfl⟩
  subst e1
  unfold f_M_lawLine at hm
  obtain ⟨v1, hv1, hm⟩ := ia_bnd hm
  have gv1 := g_M_takes hg hv1
  by_cases c : v1.1 < 11
  · replace hm := ia_ifp hm c
    exact gj_M_lawLine_64 (ia_i h 417 4) v1.1 v1.2 gv1 hm
  · replace hm := ia_ifn hm c
    by_cases c : 14 < v1.1
    · replace hm := ia_ifp hm c
      exact gj_M_lawLine_64 (ia_i h 417 4) v1.1 v1.2 gv1 hm
    · replace hm := ia_ifn hm c
      by_cases c : (v1.1 - 11) = 1
      · replace hm := ia_ifp hm c
        exact gj_M_lawLine_60 (ia_i h 417 4) v1.1 420 (v1.1 - 11) 0 9 v1.2 gv1 (ka_12_10 pk_417) hm
      · replace hm := ia_ifn hm c
        by_cases c : (v1.1 - 11) = 2
        · replace hm := ia_ifp hm c
          exact gj_M_lawLine_60 (ia_i h 417 4) v1.1 420 (v1.1 - 11) 0 10 v1.2 gv1 (ka_12_10 pk_417) hm
        · replace hm := ia_ifn hm c
          exact gj_M_lawLine_60 (ia_i h 417 4) v1.1 420 (v1.1 - 11) 0 99 v1.2 gv1 (ka_12_10 pk_417) hm
theorem t_M_lawLine {w : ia_O0} (d : Nat) {h : ia_H} (hg : gd_ w h) {q : ia_H} (hm : f_M_lawLine h = some q) : ia_Ev (d + 7) mm_M_lawLine [.inr (.inr 417)] h none q := by
  have gq := g_M_lawLine hg hm
  refine ia_Ev_intro ok_M_lawLine (gd_le hg gq).1 (gd_le hg gq).2 (Nat.le_of_ble_eq_true rfl) (fun K hK hret => ?_)
  obtain ⟨h1, e1⟩ : ∃ x, x = q := ⟨_, rfl⟩
  subst e1
  show K 0 [some (.inr (.inr 417)), none, none, none, none] [] h
  unfold f_M_lawLine at hm
  refine ia_go hK ck_M_lawLine_0 ⟨gk_12 hg pk_417, ?_⟩
  show K 10 [some (.inr (.inr 417)), some (.inl (ia_i h 417 4)), none, none, none] [.inl 16, .inl 11, .inr (.inr 417)] h
  obtain ⟨v1, hv1, hm⟩ := ia_bnd hm
  have ev1 := t_M_takes (d + 2) hg hv1
  have gv1 := g_M_takes hg hv1
  refine ia_cV hK mk_M_takes lk_12_144 dc_M_lawLine_10 417 [.inl 11, .inl 16] [] rfl rfl (Nat.le_of_ble_eq_true rfl) (by decide) rfl (gk_12 hg pk_417) ev1 (gd_nm hg gv1) ?_
  show K 13 [some (.inr (.inr 417)), some (.inl (ia_i h 417 4)), none, none, none] [.inl v1.1] v1.2
  refine ia_go hK ck_M_lawLine_13 ⟨fun c => ?_, fun c => ?_⟩
  · replace hm := ia_ifp hm c
    show K 64 [some (.inr (.inr 417)), some (.inl (ia_i h 417 4)), some (.inl v1.1), none, none] [] v1.2
    exact tj_M_lawLine_64 hK hret (ia_i h 417 4) v1.1 v1.2 gv1 hm
  · replace hm := ia_ifn hm c
    show K 20 [some (.inr (.inr 417)), some (.inl (ia_i h 417 4)), some (.inl v1.1), none, none] [] v1.2
    refine ia_go hK ck_M_lawLine_20 ⟨fun c => ?_, fun c => ?_⟩
    · replace hm := ia_ifp hm c
      show K 64 [some (.inr (.inr 417)), some (.inl (ia_i h 417 4)), some (.inl v1.1), none, none] [] v1.2
      exact tj_M_lawLine_64 hK hret (ia_i h 417 4) v1.1 v1.2 gv1 hm
    · replace hm := ia_ifn hm c
      show K 26 [some (.inr (.inr 417)), some (.inl (ia_i h 417 4)), some (.inl v1.1), none, none] [] v1.2
      refine ia_go hK ck_M_lawLine_26 ⟨gk_12 gv1 pk_417, gr_12_10 gv1 pk_417, fun c => ?_, fun c => ?_⟩
      · replace hm := ia_ifn hm c
        show K 48 [some (.inr (.inr 417)), some (.inl (ia_i h 417 4)), some (.inl v1.1), some (.inl (v1.1 - 11)), none] [.inl 0, .inr (.inr 417), .inl (v1.1 - 11), .inr (.inr 420)] v1.2
        refine ia_go hK ck_M_lawLine_48 ⟨fun c => ?_, fun c => ?_⟩
        · replace hm := ia_ifn hm c
          show K 58 [some (.inr (.inr 417)), some (.inl (ia_i h 417 4)), some (.inl v1.1), some (.inl (v1.1 - 11)), none] [.inl 0, .inr (.inr 417), .inl (v1.1 - 11), .inr (.inr 420)] v1.2
          refine ia_go hK ck_M_lawLine_58 ?_
          show K 60 [some (.inr (.inr 417)), some (.inl (ia_i h 417 4)), some (.inl v1.1), some (.inl (v1.1 - 11)), none] [.inl 99, .inl 0, .inr (.inr 417), .inl (v1.1 - 11), .inr (.inr 420)] v1.2
          refine ia_fg hK (lv' := [some (.inr (.inr 417)), some (.inl (ia_i h 417 4)), some (.inl v1.1), none, none]) ⟨rfl, rfl, rfl, trivial⟩ ?_
          exact tj_M_lawLine_60 hK hret (ia_i h 417 4) v1.1 420 (v1.1 - 11) 0 99 v1.2 gv1 (ka_12_10 pk_417) hm
        · replace hm := ia_ifp hm c
          show K 53 [some (.inr (.inr 417)), some (.inl (ia_i h 417 4)), some (.inl v1.1), some (.inl (v1.1 - 11)), none] [.inl 0, .inr (.inr 417), .inl (v1.1 - 11), .inr (.inr 420)] v1.2
          refine ia_go hK ck_M_lawLine_53 ?_
          show K 60 [some (.inr (.inr 417)), some (.inl (ia_i h 417 4)), some (.inl v1.1), some (.inl (v1.1 - 11)), none] [.inl 10, .inl 0, .inr (.inr 417), .inl (v1.1 - 11), .inr (.inr 420)] v1.2
          refine ia_fg hK (lv' := [some (.inr (.inr 417)), some (.inl (ia_i h 417 4)), some (.inl v1.1), none, none]) ⟨rfl, rfl, rfl, trivial⟩ ?_
          exact tj_M_lawLine_60 hK hret (ia_i h 417 4) v1.1 420 (v1.1 - 11) 0 10 v1.2 gv1 (ka_12_10 pk_417) hm
      · replace hm := ia_ifp hm c
        show K 43 [some (.inr (.inr 417)), some (.inl (ia_i h 417 4)), some (.inl v1.1), some (.inl (v1.1 - 11)), none] [.inl 0, .inr (.inr 417), .inl (v1.1 - 11), .inr (.inr 420)] v1.2
        refine ia_go hK ck_M_lawLine_43 ?_
        show K 60 [some (.inr (.inr 417)), some (.inl (ia_i h 417 4)), some (.inl v1.1), some (.inl (v1.1 - 11)), none] [.inl 9, .inl 0, .inr (.inr 417), .inl (v1.1 - 11), .inr (.inr 420)] v1.2
        refine ia_fg hK (lv' := [some (.inr (.inr 417)), some (.inl (ia_i h 417 4)), some (.inl v1.1), none, none]) ⟨rfl, rfl, rfl, trivial⟩ ?_
        exact tj_M_lawLine_60 hK hret (ia_i h 417 4) v1.1 420 (v1.1 - 11) 0 9 v1.2 gv1 (ka_12_10 pk_417) hm
def mm_M_planLine : ia_M := (⟨"IceStreetModel", "planLine", "()V"⟩, prog_14_method_25_code, 7, none, 12, false)
theorem ok_M_planLine : ia_mok mm_M_planLine := ⟨by decide +kernel, by decide +kernel, by decide +kernel, by decide +kernel⟩
theorem mk_M_planLine : ia_mkn mm_M_planLine 1 0 := ⟨ia_tb_in (List.mem_of_getElem? (i := 1824) (by decide +kernel)) rfl, ia_tb_in (List.mem_of_getElem? (i := 146) (by decide +kernel)) rfl, by decide +kernel, by decide +kernel, ⟨ia_tb_in (List.mem_of_getElem? (i := 1823) (by decide +kernel)) rfl, ia_tb_in (List.mem_of_getElem? (i := 68) (by decide +kernel)) rfl⟩⟩
theorem ck_M_planLine_0 : ia_cks 12 7 false prog_14_method_25_code 0 [(.aload_n 0, 0, 0, 0, 0), (.getfield 87, 12, 4, 0, 0), (.istore_n 1, 0, 0, 0, 0), (.aload_n 0, 0, 0, 0, 0), (.getfield 17, 12, 10, 3, 3), (.iconst 0, 0, 0, 0, 0), (.iaload, 0, 0, 0, 0), (.bipush 30, 0, 0, 0, 0), (.if_icmp .lt 9, 0, 0, 0, 0)] = true := by decide +kernel
theorem ck_M_planLine_22 : ia_cks 12 7 false prog_14_method_25_code 22 [(.aload_n 0, 0, 0, 0, 0), (.bipush 17, 0, 0, 0, 0), (.bipush 21, 0, 0, 0, 0)] = true := by decide +kernel
theorem ck_M_planLine_30 : ia_cks 12 7 false prog_14_method_25_code 30 [(.bipush 17, 0, 0, 0, 0), (.isub, 0, 0, 0, 0), (.istore_n 2, 0, 0, 0, 0), (.iconst (-1), 0, 0, 0, 0), (.istore_n 3, 0, 0, 0, 0), (.iconst (-1), 0, 0, 0, 0), (.istore 4, 0, 0, 0, 0), (.iconst (-1), 0, 0, 0, 0), (.istore 5, 0, 0, 0, 0), (.iload_n 2, 0, 0, 0, 0), (.iconst 1, 0, 0, 0, 0), (.if_icmp .eq 8, 0, 0, 0, 0)] = true := by decide +kernel
theorem ck_M_planLine_52 : ia_cks 12 7 false prog_14_method_25_code 52 [(.aload_n 0, 0, 0, 0, 0), (.iconst 0, 0, 0, 0, 0), (.iconst 5, 0, 0, 0, 0)] = true := by decide +kernel
theorem ck_M_planLine_58 : ia_cks 12 7 false prog_14_method_25_code 58 [(.istore_n 3, 0, 0, 0, 0)] = true := by decide +kernel
theorem ck_M_planLine_59 : ia_cks 12 7 false prog_14_method_25_code 59 [(.iload_n 2, 0, 0, 0, 0), (.iconst 1, 0, 0, 0, 0), (.if_icmp .ne 9, 0, 0, 0, 0)] = true := by decide +kernel
theorem ck_M_planLine_70 : ia_cks 12 7 false prog_14_method_25_code 70 [(.iload_n 2, 0, 0, 0, 0), (.iconst 3, 0, 0, 0, 0), (.if_icmp .ne 25, 0, 0, 0, 0)] = true := by decide +kernel
theorem ck_M_planLine_97 : ia_cks 12 7 false prog_14_method_25_code 97 [(.iload_n 2, 0, 0, 0, 0), (.iconst 4, 0, 0, 0, 0), (.if_icmp .ne 8, 0, 0, 0, 0)] = true := by decide +kernel
theorem ck_M_planLine_107 : ia_cks 12 7 false prog_14_method_25_code 107 [(.aload_n 0, 0, 0, 0, 0), (.getfield 17, 12, 10, 3, 3), (.iconst 0, 0, 0, 0, 0), (.iaload, 0, 0, 0, 0), (.bipush 30, 0, 0, 0, 0), (.if_icmp .ge 55, 0, 0, 0, 0)] = true := by decide +kernel
theorem ck_M_planLine_170 : ia_cks 12 7 false prog_14_method_25_code 170 [(.aload_n 0, 0, 0, 0, 0), (.getfield 17, 12, 10, 3, 3), (.iconst 0, 0, 0, 0, 0), (.dup2, 0, 0, 0, 0), (.iaload, 0, 0, 0, 0), (.iconst 1, 0, 0, 0, 0), (.iadd, 0, 0, 0, 0), (.iastore, 0, 0, 0, 0), (.aload_n 0, 0, 0, 0, 0)] = true := by decide +kernel
theorem ck_M_planLine_118 : ia_cks 12 7 false prog_14_method_25_code 118 [(.iconst 1, 0, 0, 0, 0), (.iconst 4, 0, 0, 0, 0), (.aload_n 0, 0, 0, 0, 0), (.getfield 17, 12, 10, 3, 3), (.iconst 0, 0, 0, 0, 0), (.iaload, 0, 0, 0, 0), (.imul, 0, 0, 0, 0), (.iadd, 0, 0, 0, 0), (.istore 6, 0, 0, 0, 0), (.aload_n 0, 0, 0, 0, 0), (.getfield 17, 12, 10, 3, 3), (.iload 6, 0, 0, 0, 0), (.iload_n 2, 0, 0, 0, 0), (.iastore, 0, 0, 0, 0), (.aload_n 0, 0, 0, 0, 0), (.getfield 17, 12, 10, 3, 3), (.iload 6, 0, 0, 0, 0), (.iconst 1, 0, 0, 0, 0), (.iadd, 0, 0, 0, 0), (.iload_n 3, 0, 0, 0, 0), (.iastore, 0, 0, 0, 0), (.aload_n 0, 0, 0, 0, 0), (.getfield 17, 12, 10, 3, 3), (.iload 6, 0, 0, 0, 0), (.iconst 2, 0, 0, 0, 0), (.iadd, 0, 0, 0, 0), (.iload 4, 0, 0, 0, 0), (.iastore, 0, 0, 0, 0), (.aload_n 0, 0, 0, 0, 0), (.getfield 17, 12, 10, 3, 3), (.iload 6, 0, 0, 0, 0), (.iconst 3, 0, 0, 0, 0), (.iadd, 0, 0, 0, 0), (.iload 5, 0, 0, 0, 0), (.iastore, 0, 0, 0, 0)] = true := by decide +kernel
theorem ck_M_planLine_102 : ia_cks 12 7 false prog_14_method_25_code 102 [(.aload_n 0, 0, 0, 0, 0)] = true := by decide +kernel
theorem ck_M_planLine_106 : ia_cks 12 7 false prog_14_method_25_code 106 [(.istore_n 3, 0, 0, 0, 0)] = true := by decide +kernel
theorem ck_M_planLine_75 : ia_cks 12 7 false prog_14_method_25_code 75 [(.aload_n 0, 0, 0, 0, 0), (.iconst 1, 0, 0, 0, 0), (.bipush 99, 0, 0, 0, 0)] = true := by decide +kernel
theorem ck_M_planLine_82 : ia_cks 12 7 false prog_14_method_25_code 82 [(.istore_n 3, 0, 0, 0, 0), (.aload_n 0, 0, 0, 0, 0)] = true := by decide +kernel
theorem ck_M_planLine_87 : ia_cks 12 7 false prog_14_method_25_code 87 [(.istore 4, 0, 0, 0, 0), (.aload_n 0, 0, 0, 0, 0), (.iload 4, 0, 0, 0, 0)] = true := by decide +kernel
theorem ck_M_planLine_95 : ia_cks 12 7 false prog_14_method_25_code 95 [(.istore 5, 0, 0, 0, 0)] = true := by decide +kernel
theorem ck_M_planLine_64 : ia_cks 12 7 false prog_14_method_25_code 64 [(.aload_n 0, 0, 0, 0, 0)] = true := by decide +kernel
theorem ck_M_planLine_68 : ia_cks 12 7 false prog_14_method_25_code 68 [(.istore 4, 0, 0, 0, 0)] = true := by decide +kernel
theorem ck_M_planLine_47 : ia_cks 12 7 false prog_14_method_25_code 47 [(.iload_n 2, 0, 0, 0, 0), (.iconst 2, 0, 0, 0, 0), (.if_icmp .ne 10, 0, 0, 0, 0)] = true := by decide +kernel
theorem ck_M_planLine_16 : ia_cks 12 7 false prog_14_method_25_code 16 [(.aload_n 0, 0, 0, 0, 0), (.iconst 3, 0, 0, 0, 0), (.iload_n 1, 0, 0, 0, 0)] = true := by decide +kernel
theorem dc_M_planLine_27 : decode prog_14_method_25_code 27 = .ok (.invokevirtual 144, 3) := by decide +kernel
theorem dc_M_planLine_55 : decode prog_14_method_25_code 55 = .ok (.invokevirtual 127, 3) := by decide +kernel
theorem dc_M_planLine_181 : decode prog_14_method_25_code 181 = .ok (.invokevirtual 160, 3) := by decide +kernel
theorem dc_M_planLine_184 : decode prog_14_method_25_code 184 = .ok (.return_, 1) := by decide +kernel
theorem dc_M_planLine_103 : decode prog_14_method_25_code 103 = .ok (.invokevirtual 134, 3) := by decide +kernel
theorem dc_M_planLine_79 : decode prog_14_method_25_code 79 = .ok (.invokevirtual 127, 3) := by decide +kernel
theorem dc_M_planLine_84 : decode prog_14_method_25_code 84 = .ok (.invokevirtual 134, 3) := by decide +kernel
theorem dc_M_planLine_92 : decode prog_14_method_25_code 92 = .ok (.invokevirtual 138, 3) := by decide +kernel
theorem dc_M_planLine_65 : decode prog_14_method_25_code 65 = .ok (.invokevirtual 134, 3) := by decide +kernel
theorem dc_M_planLine_19 : decode prog_14_method_25_code 19 = .ok (.invokevirtual 120, 3) := by decide +kernel
def j_M_planLine_170 (h : ia_H) : Option ia_H := (f_M_endsLine (ia_wI h 420 0 ((ia_i h 420 0) + 1))).bind fun v3 => (some v3)
theorem tj_M_planLine_170 {w : ia_O0} {d N1 W1 : Nat} {K : ia_K} (hK : ia_isK (d + 7) mm_M_planLine N1 W1 K) {h1 : ia_H} (hret : ∀ (pc : Nat) (lv : ia_L), ia_ret mm_M_planLine pc none → K pc lv (none : Option ia_V).toList h1) : ∀ (h : ia_H), gd_ w h → j_M_planLine_170 h = some h1 → K 170 [some (.inr (.inr 417)), none, none, none, none, none, none] [] h := by
  intro h hg hm
  unfold j_M_planLine_170 at hm
  refine ia_go hK ck_M_planLine_170 ⟨gk_12 hg pk_417, gr_12_10 hg pk_417, ga_i100 hg (ka_12_10 pk_417) (by decide), ga_s100 hg (ka_12_10 pk_417) (by decide), ?_⟩
  show K 181 [some (.inr (.inr 417)), none, none, none, none, none, none] [.inr (.inr 417)] (ia_wI h 420 0 ((ia_i h 420 0) + 1))
  obtain ⟨v3, hv3, hm⟩ := ia_bnd hm
  have ev3 := t_M_endsLine (d + 2) (gd_wI hg (kx_100 (ka_12_10 pk_417))) hv3
  have gv3 := g_M_endsLine (gd_wI hg (kx_100 (ka_12_10 pk_417))) hv3
  refine ia_cV hK mk_M_endsLine lk_12_160 dc_M_planLine_181 417 [] [] rfl rfl (Nat.le_of_ble_eq_true rfl) (by decide) rfl (gk_12 (gd_wI hg (kx_100 (ka_12_10 pk_417))) pk_417) ev3 (gd_nm (gd_wI hg (kx_100 (ka_12_10 pk_417))) gv3) ?_
  show K 184 [some (.inr (.inr 417)), none, none, none, none, none, none] [] v3
  obtain rfl := Option.some.inj hm
  exact hret 184 _ dc_M_planLine_184
theorem gj_M_planLine_170 {w : ia_O0} {h1 : ia_H} : ∀ (h : ia_H), gd_ w h → j_M_planLine_170 h = some h1 → gd_ w h1 := by
  intro h hg hm
  unfold j_M_planLine_170 at hm
  obtain ⟨v3, hv3, hm⟩ := ia_bnd hm
  have gv3 := g_M_endsLine (gd_wI hg (kx_100 (ka_12_10 pk_417))) hv3
  obtain rfl := Option.some.inj hm
  exact gv3
def j_M_planLine_107 (x2 : Int32) (x3 : Int32) (x4 : Int32) (x5 : Int32) (h : ia_H) : Option ia_H := if 30 ≤ (ia_i h 420 0) then (j_M_planLine_170 h) else (ia_gd (ia_ib (1 + (4 * (ia_i h 420 0))) 260) (ia_gd (ia_ib ((1 + (4 * (ia_i h 420 0))) + 1) 260) (ia_gd (ia_ib ((1 + (4 * (ia_i h 420 0))) + 2) 260) (ia_gd (ia_ib ((1 + (4 * (ia_i h 420 0))) + 3) 260) (j_M_planLine_170 (ia_wI (ia_wI (ia_wI (ia_wI h 420 ((1 + (4 * (ia_i h 420 0))).toNatClampNeg) x2) 420 (((1 + (4 * (ia_i h 420 0))) + 1).toNatClampNeg) x3) 420 (((1 + (4 * (ia_i h 420 0))) + 2).toNatClampNeg) x4) 420 (((1 + (4 * (ia_i h 420 0))) + 3).toNatClampNeg) x5))))))
theorem tj_M_planLine_107 {w : ia_O0} {d N1 W1 : Nat} {K : ia_K} (hK : ia_isK (d + 7) mm_M_planLine N1 W1 K) {h1 : ia_H} (hret : ∀ (pc : Nat) (lv : ia_L), ia_ret mm_M_planLine pc none → K pc lv (none : Option ia_V).toList h1) : ∀ (x2 : Int32) (x3 : Int32) (x4 : Int32) (x5 : Int32) (h : ia_H), gd_ w h → j_M_planLine_107 x2 x3 x4 x5 h = some h1 → K 107 [some (.inr (.inr 417)), none, some (.inl x2), some (.inl x3), some (.inl x4), some (.inl x5), none] [] h := by
  intro x2 x3 x4 x5 h hg hm
  unfold j_M_planLine_107 at hm
  refine ia_go hK ck_M_planLine_107 ⟨gk_12 hg pk_417, gr_12_10 hg pk_417, ga_i100 hg (ka_12_10 pk_417) (by decide), fun c => ?_, fun c => ?_⟩
  · replace hm := ia_ifp hm c
    show K 170 [some (.inr (.inr 417)), none, some (.inl x2), some (.inl x3), some (.inl x4), some (.inl x5), none] [] h
    refine ia_fg hK (lv' := [some (.inr (.inr 417)), none, none, none, none, none, none]) ⟨rfl, trivial⟩ ?_
    exact tj_M_planLine_170 hK hret h hg hm
  · replace hm := ia_ifn hm c
    show K 118 [some (.inr (.inr 417)), none, some (.inl x2), some (.inl x3), some (.inl x4), some (.inl x5), none] [] h
    obtain ⟨c4, hm⟩ := ia_gd_some hm
    obtain ⟨c5, hm⟩ := ia_gd_some hm
    obtain ⟨c6, hm⟩ := ia_gd_some hm
    obtain ⟨c7, hm⟩ := ia_gd_some hm
    refine ia_go hK ck_M_planLine_118 ⟨gk_12 hg pk_417, gr_12_10 hg pk_417, ga_i100 hg (ka_12_10 pk_417) (by decide), gk_12 hg pk_417, gr_12_10 hg pk_417, ga_s100 hg (ka_12_10 pk_417) c4, gk_12 (gd_wI hg (kx_100 (ka_12_10 pk_417))) pk_417, gr_12_10 (gd_wI hg (kx_100 (ka_12_10 pk_417))) pk_417, ga_s100 (gd_wI hg (kx_100 (ka_12_10 pk_417))) (ka_12_10 pk_417) c5, gk_12 (gd_wI (gd_wI hg (kx_100 (ka_12_10 pk_417))) (kx_100 (ka_12_10 pk_417))) pk_417, gr_12_10 (gd_wI (gd_wI hg (kx_100 (ka_12_10 pk_417))) (kx_100 (ka_12_10 pk_417))) pk_417, ga_s100 (gd_wI (gd_wI hg (kx_100 (ka_12_10 pk_417))) (kx_100 (ka_12_10 pk_417))) (ka_12_10 pk_417) c6, gk_12 (gd_wI (gd_wI (gd_wI hg (kx_100 (ka_12_10 pk_417))) (kx_100 (ka_12_10 pk_417))) (kx_100 (ka_12_10 pk_417))) pk_417, gr_12_10 (gd_wI (gd_wI (gd_wI hg (kx_100 (ka_12_10 pk_417))) (kx_100 (ka_12_10 pk_417))) (kx_100 (ka_12_10 pk_417))) pk_417, ga_s100 (gd_wI (gd_wI (gd_wI hg (kx_100 (ka_12_10 pk_417))) (kx_100 (ka_12_10 pk_417))) (kx_100 (ka_12_10 pk_417))) (ka_12_10 pk_417) c7, ?_⟩
    show K 170 [some (.inr (.inr 417)), none, some (.inl x2), some (.inl x3), some (.inl x4), some (.inl x5), some (.inl (1 + (4 * (ia_i h 420 0))))] [] (ia_wI (ia_wI (ia_wI (ia_wI h 420 ((1 + (4 * (ia_i h 420 0))).toNatClampNeg) x2) 420 (((1 + (4 * (ia_i h 420 0))) + 1).toNatClampNeg) x3) 420 (((1 + (4 * (ia_i h 420 0))) + 2).toNatClampNeg) x4) 420 (((1 + (4 * (ia_i h 420 0))) + 3).toNatClampNeg) x5)
    refine ia_fg hK (lv' := [some (.inr (.inr 417)), none, none, none, none, none, none]) ⟨rfl, trivial⟩ ?_
    exact tj_M_planLine_170 hK hret (ia_wI (ia_wI (ia_wI (ia_wI h 420 ((1 + (4 * (ia_i h 420 0))).toNatClampNeg) x2) 420 (((1 + (4 * (ia_i h 420 0))) + 1).toNatClampNeg) x3) 420 (((1 + (4 * (ia_i h 420 0))) + 2).toNatClampNeg) x4) 420 (((1 + (4 * (ia_i h 420 0))) + 3).toNatClampNeg) x5) (gd_wI (gd_wI (gd_wI (gd_wI hg (kx_100 (ka_12_10 pk_417))) (kx_100 (ka_12_10 pk_417))) (kx_100 (ka_12_10 pk_417))) (kx_100 (ka_12_10 pk_417))) hm
theorem gj_M_planLine_107 {w : ia_O0} {h1 : ia_H} : ∀ (x2 : Int32) (x3 : Int32) (x4 : Int32) (x5 : Int32) (h : ia_H), gd_ w h → j_M_planLine_107 x2 x3 x4 x5 h = some h1 → gd_ w h1 := by
  intro x2 x3 x4 x5 h hg hm
  unfold j_M_planLine_107 at hm
  by_cases c : 30 ≤ (ia_i h 420 0)
  · replace hm := ia_ifp hm c
    exact gj_M_planLine_170 h hg hm
  · replace hm := ia_ifn hm c
    obtain ⟨c4, hm⟩ := ia_gd_some hm
    obtain ⟨c5, hm⟩ := ia_gd_some hm
    obtain ⟨c6, hm⟩ := ia_gd_some hm
    obtain ⟨c7, hm⟩ := ia_gd_some hm
    exact gj_M_planLine_170 (ia_wI (ia_wI (ia_wI (ia_wI h 420 ((1 + (4 * (ia_i h 420 0))).toNatClampNeg) x2) 420 (((1 + (4 * (ia_i h 420 0))) + 1).toNatClampNeg) x3) 420 (((1 + (4 * (ia_i h 420 0))) + 2).toNatClampNeg) x4) 420 (((1 + (4 * (ia_i h 420 0))) + 3).toNatClampNeg) x5) (gd_wI (gd_wI (gd_wI (gd_wI hg (kx_100 (ka_12_10 pk_417))) (kx_100 (ka_12_10 pk_417))) (kx_100 (ka_12_10 pk_417))) (kx_100 (ka_12_10 pk_417))) hm
def j_M_planLine_97 (x2 : Int32) (x3 : Int32) (x4 : Int32) (x5 : Int32) (h : ia_H) : Option ia_H := if x2 = 4 then ((f_M_cellOf h).bind fun v8 => (j_M_planLine_107 x2 v8.1 x4 x5 v8.2)) else (j_M_planLine_107 x2 x3 x4 x5 h)
theorem tj_M_planLine_97 {w : ia_O0} {d N1 W1 : Nat} {K : ia_K} (hK : ia_isK (d + 7) mm_M_planLine N1 W1 K) {h1 : ia_H} (hret : ∀ (pc : Nat) (lv : ia_L), ia_ret mm_M_planLine pc none → K pc lv (none : Option ia_V).toList h1) : ∀ (x2 : Int32) (x3 : Int32) (x4 : Int32) (x5 : Int32) (h : ia_H), gd_ w h → j_M_planLine_97 x2 x3 x4 x5 h = some h1 → K 97 [some (.inr (.inr 417)), none, some (.inl x2), some (.inl x3), some (.inl x4), some (.inl x5), none] [] h := by
  intro x2 x3 x4 x5 h hg hm
  unfold j_M_planLine_97 at hm
  refine ia_go hK ck_M_planLine_97 ⟨fun c => ?_, fun c => ?_⟩
  · replace hm := ia_ifn hm c
    show K 107 [some (.inr (.inr 417)), none, some (.inl x2), some (.inl x3), some (.inl x4), some (.inl x5), none] [] h
    exact tj_M_planLine_107 hK hret x2 x3 x4 x5 h hg hm
  · replace hm := ia_ifp hm c
    show K 102 [some (.inr (.inr 417)), none, some (.inl x2), some (.inl x3), some (.inl x4), some (.inl x5), none] [] h
    refine ia_go hK ck_M_planLine_102 ?_
    show K 103 [some (.inr (.inr 417)), none, some (.inl x2), some (.inl x3), some (.inl x4), some (.inl x5), none] [.inr (.inr 417)] h
    obtain ⟨v8, hv8, hm⟩ := ia_bnd hm
    have ev8 := t_M_cellOf (d + 1) hg hv8
    have gv8 := g_M_cellOf hg hv8
    refine ia_cV hK mk_M_cellOf lk_12_134 dc_M_planLine_103 417 [] [] rfl rfl (Nat.le_of_ble_eq_true rfl) (by decide) rfl (gk_12 hg pk_417) ev8 (gd_nm hg gv8) ?_
    show K 106 [some (.inr (.inr 417)), none, some (.inl x2), some (.inl x3), some (.inl x4), some (.inl x5), none] [.inl v8.1] v8.2
    refine ia_go hK ck_M_planLine_106 ?_
    show K 107 [some (.inr (.inr 417)), none, some (.inl x2), some (.inl v8.1), some (.inl x4), some (.inl x5), none] [] v8.2
    exact tj_M_planLine_107 hK hret x2 v8.1 x4 x5 v8.2 gv8 hm
theorem gj_M_planLine_97 {w : ia_O0} {h1 : ia_H} : ∀ (x2 : Int32) (x3 : Int32) (x4 : Int32) (x5 : Int32) (h : ia_H), gd_ w h → j_M_planLine_97 x2 x3 x4 x5 h = some h1 → gd_ w h1 := by
  intro x2 x3 x4 x5 h hg hm
  unfold j_M_planLine_97 at hm
  by_cases c : x2 = 4
  · replace hm := ia_ifp hm c
    obtain ⟨v8, hv8, hm⟩ := ia_bnd hm
    have gv8 := g_M_cellOf hg hv8
    exact gj_M_planLine_107 x2 v8.1 x4 x5 v8.2 gv8 hm
  · replace hm := ia_ifn hm c
    exact gj_M_planLine_107 x2 x3 x4 x5 h hg hm
def j_M_planLine_70 (x2 : Int32) (x3 : Int32) (x4 : Int32) (x5 : Int32) (h : ia_H) : Option ia_H := if x2 = 3 then ((f_M_numbered 1 99 h).bind fun v9 => ((f_M_cellOf v9.2).bind fun v10 => ((f_M_otherCell v10.1 v10.2).bind fun v11 => (j_M_planLine_97 x2 v9.1 v10.1 v11.1 v11.2)))) else (j_M_planLine_97 x2 x3 x4 x5 h)
theorem tj_M_planLine_70 {w : ia_O0} {d N1 W1 : Nat} {K : ia_K} (hK : ia_isK (d + 7) mm_M_planLine N1 W1 K) {h1 : ia_H} (hret : ∀ (pc : Nat) (lv : ia_L), ia_ret mm_M_planLine pc none → K pc lv (none : Option ia_V).toList h1) : ∀ (x2 : Int32) (x3 : Int32) (x4 : Int32) (x5 : Int32) (h : ia_H), gd_ w h → j_M_planLine_70 x2 x3 x4 x5 h = some h1 → K 70 [some (.inr (.inr 417)), none, some (.inl x2), some (.inl x3), some (.inl x4), some (.inl x5), none] [] h := by
  intro x2 x3 x4 x5 h hg hm
  unfold j_M_planLine_70 at hm
  refine ia_go hK ck_M_planLine_70 ⟨fun c => ?_, fun c => ?_⟩
  · replace hm := ia_ifn hm c
    show K 97 [some (.inr (.inr 417)), none, some (.inl x2), some (.inl x3), some (.inl x4), some (.inl x5), none] [] h
    exact tj_M_planLine_97 hK hret x2 x3 x4 x5 h hg hm
  · replace hm := ia_ifp hm c
    show K 75 [some (.inr (.inr 417)), none, some (.inl x2), some (.inl x3), some (.inl x4), some (.inl x5), none] [] h
    refine ia_go hK ck_M_planLine_75 ?_
    show K 79 [some (.inr (.inr 417)), none, some (.inl x2), some (.inl x3), some (.inl x4), some (.inl x5), none] [.inl 99, .inl 1, .inr (.inr 417)] h
    obtain ⟨v9, hv9, hm⟩ := ia_bnd hm
    have ev9 := t_M_numbered (d + 2) hg hv9
    have gv9 := g_M_numbered hg hv9
    refine ia_cV hK mk_M_numbered lk_12_127 dc_M_planLine_79 417 [.inl 1, .inl 99] [] rfl rfl (Nat.le_of_ble_eq_true rfl) (by decide) rfl (gk_12 hg pk_417) ev9 (gd_nm hg gv9) ?_
    show K 82 [some (.inr (.inr 417)), none, some (.inl x2), some (.inl x3), some (.inl x4), some (.inl x5), none] [.inl v9.1] v9.2
    refine ia_go hK ck_M_planLine_82 ?_
    show K 84 [some (.inr (.inr 417)), none, some (.inl x2), some (.inl v9.1), some (.inl x4), some (.inl x5), none] [.inr (.inr 417)] v9.2
    obtain ⟨v10, hv10, hm⟩ := ia_bnd hm
    have ev10 := t_M_cellOf (d + 1) gv9 hv10
    have gv10 := g_M_cellOf gv9 hv10
    refine ia_cV hK mk_M_cellOf lk_12_134 dc_M_planLine_84 417 [] [] rfl rfl (Nat.le_of_ble_eq_true rfl) (by decide) rfl (gk_12 gv9 pk_417) ev10 (gd_nm gv9 gv10) ?_
    show K 87 [some (.inr (.inr 417)), none, some (.inl x2), some (.inl v9.1), some (.inl x4), some (.inl x5), none] [.inl v10.1] v10.2
    refine ia_go hK ck_M_planLine_87 ?_
    show K 92 [some (.inr (.inr 417)), none, some (.inl x2), some (.inl v9.1), some (.inl v10.1), some (.inl x5), none] [.inl v10.1, .inr (.inr 417)] v10.2
    obtain ⟨v11, hv11, hm⟩ := ia_bnd hm
    have ev11 := t_M_otherCell (d + 0) gv10 hv11
    have gv11 := g_M_otherCell gv10 hv11
    refine ia_cV hK mk_M_otherCell lk_12_138 dc_M_planLine_92 417 [.inl v10.1] [] rfl rfl (Nat.le_of_ble_eq_true rfl) (by decide) rfl (gk_12 gv10 pk_417) ev11 (gd_nm gv10 gv11) ?_
    show K 95 [some (.inr (.inr 417)), none, some (.inl x2), some (.inl v9.1), some (.inl v10.1), some (.inl x5), none] [.inl v11.1] v11.2
    refine ia_go hK ck_M_planLine_95 ?_
    show K 97 [some (.inr (.inr 417)), none, some (.inl x2), some (.inl v9.1), some (.inl v10.1), some (.inl v11.1), none] [] v11.2
    exact tj_M_planLine_97 hK hret x2 v9.1 v10.1 v11.1 v11.2 gv11 hm
theorem gj_M_planLine_70 {w : ia_O0} {h1 : ia_H} : ∀ (x2 : Int32) (x3 : Int32) (x4 : Int32) (x5 : Int32) (h : ia_H), gd_ w h → j_M_planLine_70 x2 x3 x4 x5 h = some h1 → gd_ w h1 := by
  intro x2 x3 x4 x5 h hg hm
  unfold j_M_planLine_70 at hm
  by_cases c : x2 = 3
  · replace hm := ia_ifp hm c
    obtain ⟨v9, hv9, hm⟩ := ia_bnd hm
    have gv9 := g_M_numbered hg hv9
    obtain ⟨v10, hv10, hm⟩ := ia_bnd hm
    have gv10 := g_M_cellOf gv9 hv10
    obtain ⟨v11, hv11, hm⟩ := ia_bnd hm
    have gv11 := g_M_otherCell gv10 hv11
    exact gj_M_planLine_97 x2 v9.1 v10.1 v11.1 v11.2 gv11 hm
  · replace hm := ia_ifn hm c
    exact gj_M_planLine_97 x2 x3 x4 x5 h hg hm
def j_M_planLine_59 (x2 : Int32) (x3 : Int32) (x4 : Int32) (x5 : Int32) (h : ia_H) : Option ia_H := if x2 = 1 then ((f_M_cellOf h).bind fun v12 => (j_M_planLine_70 x2 x3 v12.1 x5 v12.2)) else (j_M_planLine_70 x2 x3 x4 x5 h)
theorem tj_M_planLine_59 {w : ia_O0} {d N1 W1 : Nat} {K : ia_K} (hK : ia_isK (d + 7) mm_M_planLine N1 W1 K) {h1 : ia_H} (hret : ∀ (pc : Nat) (lv : ia_L), ia_ret mm_M_planLine pc none → K pc lv (none : Option ia_V).toList h1) : ∀ (x2 : Int32) (x3 : Int32) (x4 : Int32) (x5 : Int32) (h : ia_H), gd_ w h → j_M_planLine_59 x2 x3 x4 x5 h = some h1 → K 59 [some (.inr (.inr 417)), none, some (.inl x2), some (.inl x3), some (.inl x4), some (.inl x5), none] [] h := by
  intro x2 x3 x4 x5 h hg hm
  unfold j_M_planLine_59 at hm
  refine ia_go hK ck_M_planLine_59 ⟨fun c => ?_, fun c => ?_⟩
  · replace hm := ia_ifn hm c
    show K 70 [some (.inr (.inr 417)), none, some (.inl x2), some (.inl x3), some (.inl x4), some (.inl x5), none] [] h
    exact tj_M_planLine_70 hK hret x2 x3 x4 x5 h hg hm
  · replace hm := ia_ifp hm c
    show K 64 [some (.inr (.inr 417)), none, some (.inl x2), some (.inl x3), some (.inl x4), some (.inl x5), none] [] h
    refine ia_go hK ck_M_planLine_64 ?_
    show K 65 [some (.inr (.inr 417)), none, some (.inl x2), some (.inl x3), some (.inl x4), some (.inl x5), none] [.inr (.inr 417)] h
    obtain ⟨v12, hv12, hm⟩ := ia_bnd hm
    have ev12 := t_M_cellOf (d + 1) hg hv12
    have gv12 := g_M_cellOf hg hv12
    refine ia_cV hK mk_M_cellOf lk_12_134 dc_M_planLine_65 417 [] [] rfl rfl (Nat.le_of_ble_eq_true rfl) (by decide) rfl (gk_12 hg pk_417) ev12 (gd_nm hg gv12) ?_
    show K 68 [some (.inr (.inr 417)), none, some (.inl x2), some (.inl x3), some (.inl x4), some (.inl x5), none] [.inl v12.1] v12.2
    refine ia_go hK ck_M_planLine_68 ?_
    show K 70 [some (.inr (.inr 417)), none, some (.inl x2), some (.inl x3), some (.inl v12.1), some (.inl x5), none] [] v12.2
    exact tj_M_planLine_70 hK hret x2 x3 v12.1 x5 v12.2 gv12 hm
theorem gj_M_planLine_59 {w : ia_O0} {h1 : ia_H} : ∀ (x2 : Int32) (x3 : Int32) (x4 : Int32) (x5 : Int32) (h : ia_H), gd_ w h → j_M_planLine_59 x2 x3 x4 x5 h = some h1 → gd_ w h1 := by
  intro x2 x3 x4 x5 h hg hm
  unfold j_M_planLine_59 at hm
  by_cases c : x2 = 1
  · replace hm := ia_ifp hm c
    obtain ⟨v12, hv12, hm⟩ := ia_bnd hm
    have gv12 := g_M_cellOf hg hv12
    exact gj_M_planLine_70 x2 x3 v12.1 x5 v12.2 gv12 hm
  · replace hm := ia_ifn hm c
    exact gj_M_planLine_70 x2 x3 x4 x5 h hg hm
def j_M_planLine_52 (x2 : Int32) (x4 : Int32) (x5 : Int32) (h : ia_H) : Option ia_H := (f_M_numbered 0 5 h).bind fun v2 => (j_M_planLine_59 x2 v2.1 x4 x5 v2.2)
theorem tj_M_planLine_52 {w : ia_O0} {d N1 W1 : Nat} {K : ia_K} (hK : ia_isK (d + 7) mm_M_planLine N1 W1 K) {h1 : ia_H} (hret : ∀ (pc : Nat) (lv : ia_L), ia_ret mm_M_planLine pc none → K pc lv (none : Option ia_V).toList h1) : ∀ (x2 : Int32) (x4 : Int32) (x5 : Int32) (h : ia_H), gd_ w h → j_M_planLine_52 x2 x4 x5 h = some h1 → K 52 [some (.inr (.inr 417)), none, some (.inl x2), none, some (.inl x4), some (.inl x5), none] [] h := by
  intro x2 x4 x5 h hg hm
  unfold j_M_planLine_52 at hm
  refine ia_go hK ck_M_planLine_52 ?_
  show K 55 [some (.inr (.inr 417)), none, some (.inl x2), none, some (.inl x4), some (.inl x5), none] [.inl 5, .inl 0, .inr (.inr 417)] h
  obtain ⟨v2, hv2, hm⟩ := ia_bnd hm
  have ev2 := t_M_numbered (d + 2) hg hv2
  have gv2 := g_M_numbered hg hv2
  refine ia_cV hK mk_M_numbered lk_12_127 dc_M_planLine_55 417 [.inl 0, .inl 5] [] rfl rfl (Nat.le_of_ble_eq_true rfl) (by decide) rfl (gk_12 hg pk_417) ev2 (gd_nm hg gv2) ?_
  show K 58 [some (.inr (.inr 417)), none, some (.inl x2), none, some (.inl x4), some (.inl x5), none] [.inl v2.1] v2.2
  refine ia_go hK ck_M_planLine_58 ?_
  show K 59 [some (.inr (.inr 417)), none, some (.inl x2), some (.inl v2.1), some (.inl x4), some (.inl x5), none] [] v2.2
  exact tj_M_planLine_59 hK hret x2 v2.1 x4 x5 v2.2 gv2 hm
theorem gj_M_planLine_52 {w : ia_O0} {h1 : ia_H} : ∀ (x2 : Int32) (x4 : Int32) (x5 : Int32) (h : ia_H), gd_ w h → j_M_planLine_52 x2 x4 x5 h = some h1 → gd_ w h1 := by
  intro x2 x4 x5 h hg hm
  unfold j_M_planLine_52 at hm
  obtain ⟨v2, hv2, hm⟩ := ia_bnd hm
  have gv2 := g_M_numbered hg hv2
  exact gj_M_planLine_59 x2 v2.1 x4 x5 v2.2 gv2 hm
def j_M_planLine_22 (h : ia_H) : Option ia_H := (f_M_takes 17 21 h).bind fun v1 => (if (v1.1 - 17) = 1 then (j_M_planLine_52 (v1.1 - 17) (-1) (-1) v1.2) else (if (v1.1 - 17) = 2 then (j_M_planLine_52 (v1.1 - 17) (-1) (-1) v1.2) else (j_M_planLine_59 (v1.1 - 17) (-1) (-1) (-1) v1.2)))
theorem tj_M_planLine_22 {w : ia_O0} {d N1 W1 : Nat} {K : ia_K} (hK : ia_isK (d + 7) mm_M_planLine N1 W1 K) {h1 : ia_H} (hret : ∀ (pc : Nat) (lv : ia_L), ia_ret mm_M_planLine pc none → K pc lv (none : Option ia_V).toList h1) : ∀ (h : ia_H), gd_ w h → j_M_planLine_22 h = some h1 → K 22 [some (.inr (.inr 417)), none, none, none, none, none, none] [] h := by
  intro h hg hm
  unfold j_M_planLine_22 at hm
  refine ia_go hK ck_M_planLine_22 ?_
  show K 27 [some (.inr (.inr 417)), none, none, none, none, none, none] [.inl 21, .inl 17, .inr (.inr 417)] h
  obtain ⟨v1, hv1, hm⟩ := ia_bnd hm
  have ev1 := t_M_takes (d + 2) hg hv1
  have gv1 := g_M_takes hg hv1
  refine ia_cV hK mk_M_takes lk_12_144 dc_M_planLine_27 417 [.inl 17, .inl 21] [] rfl rfl (Nat.le_of_ble_eq_true rfl) (by decide) rfl (gk_12 hg pk_417) ev1 (gd_nm hg gv1) ?_
  show K 30 [some (.inr (.inr 417)), none, none, none, none, none, none] [.inl v1.1] v1.2
  refine ia_go hK ck_M_planLine_30 ⟨fun c => ?_, fun c => ?_⟩
  · replace hm := ia_ifp hm c
    show K 52 [some (.inr (.inr 417)), none, some (.inl (v1.1 - 17)), some (.inl (-1)), some (.inl (-1)), some (.inl (-1)), none] [] v1.2
    refine ia_fg hK (lv' := [some (.inr (.inr 417)), none, some (.inl (v1.1 - 17)), none, some (.inl (-1)), some (.inl (-1)), none]) ⟨rfl, rfl, rfl, rfl, trivial⟩ ?_
    exact tj_M_planLine_52 hK hret (v1.1 - 17) (-1) (-1) v1.2 gv1 hm
  · replace hm := ia_ifn hm c
    show K 47 [some (.inr (.inr 417)), none, some (.inl (v1.1 - 17)), some (.inl (-1)), some (.inl (-1)), some (.inl (-1)), none] [] v1.2
    refine ia_go hK ck_M_planLine_47 ⟨fun c => ?_, fun c => ?_⟩
    · replace hm := ia_ifn hm c
      show K 59 [some (.inr (.inr 417)), none, some (.inl (v1.1 - 17)), some (.inl (-1)), some (.inl (-1)), some (.inl (-1)), none] [] v1.2
      exact tj_M_planLine_59 hK hret (v1.1 - 17) (-1) (-1) (-1) v1.2 gv1 hm
    · replace hm := ia_ifp hm c
      show K 52 [some (.inr (.inr 417)), none, some (.inl (v1.1 - 17)), some (.inl (-1)), some (.inl (-1)), some (.inl (-1)), none] [] v1.2
      refine ia_fg hK (lv' := [some (.inr (.inr 417)), none, some (.inl (v1.1 - 17)), none, some (.inl (-1)), some (.inl (-1)), none]) ⟨rfl, rfl, rfl, rfl, trivial⟩ ?_
      exact tj_M_planLine_52 hK hret (v1.1 - 17) (-1) (-1) v1.2 gv1 hm
theorem gj_M_planLine_22 {w : ia_O0} {h1 : ia_H} : ∀ (h : ia_H), gd_ w h → j_M_planLine_22 h = some h1 → gd_ w h1 := by
  intro h hg hm
  unfold j_M_planLine_22 at hm
  obtain ⟨v1, hv1, hm⟩ := ia_bnd hm
  have gv1 := g_M_takes hg hv1
  by_cases c : (v1.1 - 17) = 1
  · replace hm := ia_ifp hm c
    exact gj_M_planLine_52 (v1.1 - 17) (-1) (-1) v1.2 gv1 hm
  · replace hm := ia_ifn hm c
    by_cases c : (v1.1 - 17) = 2
    · replace hm := ia_ifp hm c
      exact gj_M_planLine_52 (v1.1 - 17) (-1) (-1) v1.2 gv1 hm
    · replace hm := ia_ifn hm c
      exact gj_M_planLine_59 (v1.1 - 17) (-1) (-1) (-1) v1.2 gv1 hm
def f_M_planLine (h : ia_H) : Option ia_H := if (ia_i h 420 0) < 30 then (j_M_planLine_22 h) else ((f_M_also 3 (ia_i h 417 4) h).bind fun v13 => (j_M_planLine_22 v13))
theorem g_M_planLine {w : ia_O0} {h : ia_H} (hg : gd_ w h) {q : ia_H} (hm : f_M_planLine h = some q) : gd_ w q := by
  obtain ⟨h1, e1⟩ : ∃ x, x = q := ⟨_, rfl⟩
  subst e1
  unfold f_M_planLine at hm
  by_cases c : (ia_i h 420 0) < 30
  · replace hm := ia_ifp hm c
    exact gj_M_planLine_22 h hg hm
  · replace hm := ia_ifn hm c
    obtain ⟨v13, hv13, hm⟩ := ia_bnd hm
    have gv13 := g_M_also hg hv13
    exact gj_M_planLine_22 v13 gv13 hm
theorem t_M_planLine {w : ia_O0} (d : Nat) {h : ia_H} (hg : gd_ w h) {q : ia_H} (hm : f_M_planLine h = some q) : ia_Ev (d + 7) mm_M_planLine [.inr (.inr 417)] h none q := by
  have gq := g_M_planLine hg hm
  refine ia_Ev_intro ok_M_planLine (gd_le hg gq).1 (gd_le hg gq).2 (Nat.le_of_ble_eq_true rfl) (fun K hK hret => ?_)
  obtain ⟨h1, e1⟩ : ∃ x, x = q := ⟨_, rfl⟩
  subst e1
  show K 0 [some (.inr (.inr 417)), none, none, none, none, none, none] [] h
  unfold f_M_planLine at hm
  refine ia_go hK ck_M_planLine_0 ⟨gk_12 hg pk_417, gk_12 hg pk_417, gr_12_10 hg pk_417, ga_i100 hg (ka_12_10 pk_417) (by decide), fun c => ?_, fun c => ?_⟩
  · replace hm := ia_ifp hm c
    show K 22 [some (.inr (.inr 417)), some (.inl (ia_i h 417 4)), none, none, none, none, none] [] h
    refine ia_fg hK (lv' := [some (.inr (.inr 417)), none, none, none, none, none, none]) ⟨rfl, trivial⟩ ?_
    exact tj_M_planLine_22 hK hret h hg hm
  · replace hm := ia_ifn hm c
    show K 16 [some (.inr (.inr 417)), some (.inl (ia_i h 417 4)), none, none, none, none, none] [] h
    refine ia_go hK ck_M_planLine_16 ?_
    show K 19 [some (.inr (.inr 417)), some (.inl (ia_i h 417 4)), none, none, none, none, none] [.inl (ia_i h 417 4), .inl 3, .inr (.inr 417)] h
    obtain ⟨v13, hv13, hm⟩ := ia_bnd hm
    have ev13 := t_M_also (d + 6) hg hv13
    have gv13 := g_M_also hg hv13
    refine ia_cV hK mk_M_also lk_12_120 dc_M_planLine_19 417 [.inl 3, .inl (ia_i h 417 4)] [] rfl rfl (Nat.le_of_ble_eq_true rfl) (by decide) rfl (gk_12 hg pk_417) ev13 (gd_nm hg gv13) ?_
    show K 22 [some (.inr (.inr 417)), some (.inl (ia_i h 417 4)), none, none, none, none, none] [] v13
    refine ia_fg hK (lv' := [some (.inr (.inr 417)), none, none, none, none, none, none]) ⟨rfl, trivial⟩ ?_
    exact tj_M_planLine_22 hK hret v13 gv13 hm
def mm_M_isWhole : ia_M := (⟨"IceStreetModel", "isWhole", "()Z"⟩, prog_14_method_26_code, 7, (some .boolean), 12, false)
theorem ok_M_isWhole : ia_mok mm_M_isWhole := ⟨by decide +kernel, by decide +kernel, by decide +kernel, by decide +kernel⟩
theorem mk_M_isWhole : ia_mkn mm_M_isWhole 1 0 := ⟨ia_tb_in (List.mem_of_getElem? (i := 1828) (by decide +kernel)) rfl, ia_tb_in (List.mem_of_getElem? (i := 146) (by decide +kernel)) rfl, by decide +kernel, by decide +kernel, ⟨ia_tb_in (List.mem_of_getElem? (i := 1827) (by decide +kernel)) rfl, ia_tb_in (List.mem_of_getElem? (i := 69) (by decide +kernel)) rfl⟩⟩
theorem ck_M_isWhole_0 : ia_cks 12 7 false prog_14_method_26_code 0 [(.aload_n 0, 0, 0, 0, 0), (.getfield 17, 12, 10, 3, 3), (.iconst 0, 0, 0, 0, 0), (.iaload, 0, 0, 0, 0), (.istore_n 1, 0, 0, 0, 0), (.aload_n 0, 0, 0, 0, 0), (.getfield 131, 12, 9, 0, 0), (.iload_n 1, 0, 0, 0, 0), (.aload_n 0, 0, 0, 0, 0), (.getfield 17, 12, 10, 3, 3), (.iconst 1, 0, 0, 0, 0), (.iaload, 0, 0, 0, 0), (.imul, 0, 0, 0, 0), (.if_icmp .ge 7, 0, 0, 0, 0)] = true := by decide +kernel
theorem ck_M_isWhole_26 : ia_cks 12 7 false prog_14_method_26_code 26 [(.iconst 0, 0, 0, 0, 0), (.istore_n 2, 0, 0, 0, 0), (.iconst 0, 0, 0, 0, 0), (.istore_n 3, 0, 0, 0, 0)] = true := by decide +kernel
theorem ck_M_isWhole_30 : ia_cks 12 7 false prog_14_method_26_code 30 [(.iload_n 3, 0, 0, 0, 0), (.aload_n 0, 0, 0, 0, 0), (.getfield 141, 12, 11, 0, 0), (.if_icmp .ge 157, 0, 0, 0, 0)] = true := by decide +kernel
theorem ck_M_isWhole_38 : ia_cks 12 7 false prog_14_method_26_code 38 [(.iload_n 3, 0, 0, 0, 0), (.bipush 68, 0, 0, 0, 0), (.if_icmp .ge 151, 0, 0, 0, 0)] = true := by decide +kernel
theorem ck_M_isWhole_44 : ia_cks 12 7 false prog_14_method_26_code 44 [(.iload_n 2, 0, 0, 0, 0), (.ifCond .eq 147, 0, 0, 0, 0)] = true := by decide +kernel
theorem ck_M_isWhole_48 : ia_cks 12 7 false prog_14_method_26_code 48 [(.aload_n 0, 0, 0, 0, 0), (.getfield 20, 12, 12, 3, 4), (.iconst 2, 0, 0, 0, 0), (.iload_n 3, 0, 0, 0, 0), (.imul, 0, 0, 0, 0), (.iaload, 0, 0, 0, 0), (.aload_n 0, 0, 0, 0, 0), (.getfield 20, 12, 12, 3, 4), (.iconst 2, 0, 0, 0, 0), (.iload_n 3, 0, 0, 0, 0), (.imul, 0, 0, 0, 0), (.iconst 1, 0, 0, 0, 0), (.iadd, 0, 0, 0, 0), (.iaload, 0, 0, 0, 0), (.if_icmp .ge 14, 0, 0, 0, 0)] = true := by decide +kernel
theorem ck_M_isWhole_80 : ia_cks 12 7 false prog_14_method_26_code 80 [(.aload_n 0, 0, 0, 0, 0), (.getfield 20, 12, 12, 3, 4), (.iconst 2, 0, 0, 0, 0), (.iload_n 3, 0, 0, 0, 0), (.imul, 0, 0, 0, 0), (.iconst 1, 0, 0, 0, 0), (.iadd, 0, 0, 0, 0), (.iaload, 0, 0, 0, 0)] = true := by decide +kernel
theorem ck_M_isWhole_90 : ia_cks 12 7 false prog_14_method_26_code 90 [(.istore 4, 0, 0, 0, 0), (.aload_n 0, 0, 0, 0, 0), (.getfield 20, 12, 12, 3, 4), (.iconst 2, 0, 0, 0, 0), (.iload_n 3, 0, 0, 0, 0), (.imul, 0, 0, 0, 0), (.iaload, 0, 0, 0, 0), (.aload_n 0, 0, 0, 0, 0), (.getfield 20, 12, 12, 3, 4), (.iconst 2, 0, 0, 0, 0), (.iload_n 3, 0, 0, 0, 0), (.imul, 0, 0, 0, 0), (.iconst 1, 0, 0, 0, 0), (.iadd, 0, 0, 0, 0), (.iaload, 0, 0, 0, 0), (.iadd, 0, 0, 0, 0), (.iload 4, 0, 0, 0, 0), (.isub, 0, 0, 0, 0), (.istore 5, 0, 0, 0, 0), (.iload 5, 0, 0, 0, 0), (.iload 4, 0, 0, 0, 0), (.iconst 1, 0, 0, 0, 0), (.iadd, 0, 0, 0, 0), (.if_icmp .ne 14, 0, 0, 0, 0)] = true := by decide +kernel
theorem ck_M_isWhole_136 : ia_cks 12 7 false prog_14_method_26_code 136 [(.iconst 0, 0, 0, 0, 0)] = true := by decide +kernel
theorem ck_M_isWhole_137 : ia_cks 12 7 false prog_14_method_26_code 137 [(.istore 6, 0, 0, 0, 0), (.iload 6, 0, 0, 0, 0), (.ifCond .ne 12, 0, 0, 0, 0)] = true := by decide +kernel
theorem ck_M_isWhole_153 : ia_cks 12 7 false prog_14_method_26_code 153 [(.iconst 1, 0, 0, 0, 0), (.goto 4, 0, 0, 0, 0)] = true := by decide +kernel
theorem ck_M_isWhole_158 : ia_cks 12 7 false prog_14_method_26_code 158 [(.istore_n 2, 0, 0, 0, 0), (.iload_n 2, 0, 0, 0, 0), (.ifCond .eq 26, 0, 0, 0, 0)] = true := by decide +kernel
theorem ck_M_isWhole_186 : ia_cks 12 7 false prog_14_method_26_code 186 [(.iinc 3 1, 0, 0, 0, 0), (.goto (-159), 0, 0, 0, 0)] = true := by decide +kernel
theorem ck_M_isWhole_163 : ia_cks 12 7 false prog_14_method_26_code 163 [(.aload_n 0, 0, 0, 0, 0), (.getfield 17, 12, 10, 3, 3), (.iload 6, 0, 0, 0, 0), (.ifCond .eq 9, 0, 0, 0, 0)] = true := by decide +kernel
theorem ck_M_isWhole_178 : ia_cks 12 7 false prog_14_method_26_code 178 [(.sipush 188, 0, 0, 0, 0)] = true := by decide +kernel
theorem ck_M_isWhole_181 : ia_cks 12 7 false prog_14_method_26_code 181 [(.iload 4, 0, 0, 0, 0), (.iadd, 0, 0, 0, 0), (.iconst 1, 0, 0, 0, 0), (.iastore, 0, 0, 0, 0), (.iinc 3 1, 0, 0, 0, 0), (.goto (-159), 0, 0, 0, 0)] = true := by decide +kernel
theorem ck_M_isWhole_172 : ia_cks 12 7 false prog_14_method_26_code 172 [(.sipush 152, 0, 0, 0, 0), (.goto 6, 0, 0, 0, 0)] = true := by decide +kernel
theorem ck_M_isWhole_144 : ia_cks 12 7 false prog_14_method_26_code 144 [(.iload 5, 0, 0, 0, 0), (.iload 4, 0, 0, 0, 0), (.iload_n 1, 0, 0, 0, 0), (.iadd, 0, 0, 0, 0), (.if_icmp .ne 7, 0, 0, 0, 0)] = true := by decide +kernel
theorem ck_M_isWhole_157 : ia_cks 12 7 false prog_14_method_26_code 157 [(.iconst 0, 0, 0, 0, 0)] = true := by decide +kernel
theorem ck_M_isWhole_125 : ia_cks 12 7 false prog_14_method_26_code 125 [(.iload 5, 0, 0, 0, 0), (.iload_n 1, 0, 0, 0, 0), (.irem, 0, 0, 0, 0), (.ifCond .eq 7, 0, 0, 0, 0)] = true := by decide +kernel
theorem ck_M_isWhole_132 : ia_cks 12 7 false prog_14_method_26_code 132 [(.iconst 1, 0, 0, 0, 0), (.goto 4, 0, 0, 0, 0)] = true := by decide +kernel
theorem ck_M_isWhole_69 : ia_cks 12 7 false prog_14_method_26_code 69 [(.aload_n 0, 0, 0, 0, 0), (.getfield 20, 12, 12, 3, 4), (.iconst 2, 0, 0, 0, 0), (.iload_n 3, 0, 0, 0, 0), (.imul, 0, 0, 0, 0), (.iaload, 0, 0, 0, 0), (.goto 13, 0, 0, 0, 0)] = true := by decide +kernel
theorem ck_M_isWhole_192 : ia_cks 12 7 false prog_14_method_26_code 192 [(.iconst 0, 0, 0, 0, 0), (.istore_n 3, 0, 0, 0, 0)] = true := by decide +kernel
theorem ck_M_isWhole_194 : ia_cks 12 7 false prog_14_method_26_code 194 [(.iload_n 3, 0, 0, 0, 0), (.aload_n 0, 0, 0, 0, 0), (.getfield 17, 12, 10, 3, 3), (.iconst 4, 0, 0, 0, 0), (.iaload, 0, 0, 0, 0), (.if_icmp .ge 68, 0, 0, 0, 0)] = true := by decide +kernel
theorem ck_M_isWhole_204 : ia_cks 12 7 false prog_14_method_26_code 204 [(.iload_n 3, 0, 0, 0, 0), (.bipush 6, 0, 0, 0, 0), (.if_icmp .ge 62, 0, 0, 0, 0)] = true := by decide +kernel
theorem ck_M_isWhole_210 : ia_cks 12 7 false prog_14_method_26_code 210 [(.iconst 0, 0, 0, 0, 0), (.istore 4, 0, 0, 0, 0)] = true := by decide +kernel
theorem ck_M_isWhole_213 : ia_cks 12 7 false prog_14_method_26_code 213 [(.iload 4, 0, 0, 0, 0), (.iload_n 3, 0, 0, 0, 0), (.if_icmp .ge 47, 0, 0, 0, 0)] = true := by decide +kernel
theorem ck_M_isWhole_219 : ia_cks 12 7 false prog_14_method_26_code 219 [(.iload_n 2, 0, 0, 0, 0), (.ifCond .eq 35, 0, 0, 0, 0)] = true := by decide +kernel
theorem ck_M_isWhole_255 : ia_cks 12 7 false prog_14_method_26_code 255 [(.iconst 0, 0, 0, 0, 0), (.istore_n 2, 0, 0, 0, 0), (.iinc 4 1, 0, 0, 0, 0), (.goto (-47), 0, 0, 0, 0)] = true := by decide +kernel
theorem ck_M_isWhole_223 : ia_cks 12 7 false prog_14_method_26_code 223 [(.aload_n 0, 0, 0, 0, 0), (.getfield 17, 12, 10, 3, 3), (.sipush 236, 0, 0, 0, 0), (.iconst 4, 0, 0, 0, 0), (.iload_n 3, 0, 0, 0, 0), (.imul, 0, 0, 0, 0), (.iadd, 0, 0, 0, 0), (.iaload, 0, 0, 0, 0), (.aload_n 0, 0, 0, 0, 0), (.getfield 17, 12, 10, 3, 3), (.sipush 236, 0, 0, 0, 0), (.iconst 4, 0, 0, 0, 0), (.iload 4, 0, 0, 0, 0), (.imul, 0, 0, 0, 0), (.iadd, 0, 0, 0, 0), (.iaload, 0, 0, 0, 0), (.if_icmp .eq 7, 0, 0, 0, 0)] = true := by decide +kernel
theorem ck_M_isWhole_251 : ia_cks 12 7 false prog_14_method_26_code 251 [(.iconst 1, 0, 0, 0, 0), (.goto 4, 0, 0, 0, 0)] = true := by decide +kernel
theorem ck_M_isWhole_256 : ia_cks 12 7 false prog_14_method_26_code 256 [(.istore_n 2, 0, 0, 0, 0), (.iinc 4 1, 0, 0, 0, 0), (.goto (-47), 0, 0, 0, 0)] = true := by decide +kernel
theorem ck_M_isWhole_263 : ia_cks 12 7 false prog_14_method_26_code 263 [(.iinc 3 1, 0, 0, 0, 0), (.goto (-72), 0, 0, 0, 0)] = true := by decide +kernel
theorem ck_M_isWhole_269 : ia_cks 12 7 false prog_14_method_26_code 269 [(.iload_n 2, 0, 0, 0, 0)] = true := by decide +kernel
theorem ck_M_isWhole_22 : ia_cks 12 7 false prog_14_method_26_code 22 [(.iconst 1, 0, 0, 0, 0), (.goto 4, 0, 0, 0, 0)] = true := by decide +kernel
theorem ck_M_isWhole_27 : ia_cks 12 7 false prog_14_method_26_code 27 [(.istore_n 2, 0, 0, 0, 0), (.iconst 0, 0, 0, 0, 0), (.istore_n 3, 0, 0, 0, 0)] = true := by decide +kernel
theorem dc_M_isWhole_270 : decode prog_14_method_26_code 270 = .ok (.ireturn, 1) := by decide +kernel
def j_M_isWhole_181 (kr : Int32 → Int32 → Int32 → ia_H → Option (Int32 × ia_H)) (k192 : Int32 → ia_H → Option (Int32 × ia_H)) (x1 : Int32) (x2 : Int32) (x3 : Int32) (x4 : Int32) (b0 : Nat) (s1 : Int32) (h : ia_H) : Option (Int32 × ia_H) := ia_gd (ia_ib (s1 + x4) 260) (kr x1 x2 (x3 + 1) (ia_wI h b0 ((s1 + x4).toNatClampNeg) 1))
theorem tj_M_isWhole_181 {w : ia_O0} {d N1 W1 : Nat} {K : ia_K} (hK : ia_isK (d + 0) mm_M_isWhole N1 W1 K) {r : Int32} {h1 : ia_H} (hret : ∀ (pc : Nat) (lv : ia_L), ia_ret mm_M_isWhole pc (some (.inl r)) → K pc lv ((some (.inl r)) : Option ia_V).toList h1) {kr : Int32 → Int32 → Int32 → ia_H → Option (Int32 × ia_H)} {k192 : Int32 → ia_H → Option (Int32 × ia_H)} (hkr : ∀ (x1 : Int32) (x2 : Int32) (x3 : Int32) (h : ia_H), gd_ w h → kr x1 x2 x3 h = some (r, h1) → K 30 [some (.inr (.inr 417)), some (.inl x1), some (.inl x2), some (.inl x3), none, none, none] [] h) (hk192 : ∀ (x2 : Int32) (h : ia_H), gd_ w h → k192 x2 h = some (r, h1) → K 192 [some (.inr (.inr 417)), none, some (.inl x2), none, none, none, none] [] h) : ∀ (x1 : Int32) (x2 : Int32) (x3 : Int32) (x4 : Int32) (b0 : Nat) (s1 : Int32) (h : ia_H), gd_ w h → kd_D b0 = (100, 260) → j_M_isWhole_181 kr k192 x1 x2 x3 x4 b0 s1 h = some (r, h1) → K 181 [some (.inr (.inr 417)), some (.inl x1), some (.inl x2), some (.inl x3), some (.inl x4), none, none] [.inl s1, .inr (.inr b0)] h := by
  intro x1 x2 x3 x4 b0 s1 h hg q_b0 hm
  unfold j_M_isWhole_181 at hm
  obtain ⟨c6, hm⟩ := ia_gd_some hm
  refine ia_go hK ck_M_isWhole_181 ⟨ga_s100 hg q_b0 c6, ?_⟩
  show K 30 [some (.inr (.inr 417)), some (.inl x1), some (.inl x2), some (.inl (x3 + 1)), some (.inl x4), none, none] [] (ia_wI h b0 ((s1 + x4).toNatClampNeg) 1)
  refine ia_fg hK (lv' := [some (.inr (.inr 417)), some (.inl x1), some (.inl x2), some (.inl (x3 + 1)), none, none, none]) ⟨rfl, rfl, rfl, rfl, trivial⟩ ?_
  exact hkr x1 x2 (x3 + 1) (ia_wI h b0 ((s1 + x4).toNatClampNeg) 1) (gd_wI hg (kx_100 q_b0)) hm
theorem gj_M_isWhole_181 {w : ia_O0} {r : Int32} {h1 : ia_H} {kr : Int32 → Int32 → Int32 → ia_H → Option (Int32 × ia_H)} {k192 : Int32 → ia_H → Option (Int32 × ia_H)} (hkr : ∀ (x1 : Int32) (x2 : Int32) (x3 : Int32) (h : ia_H), gd_ w h → kr x1 x2 x3 h = some (r, h1) → gd_ w h1) (hk192 : ∀ (x2 : Int32) (h : ia_H), gd_ w h → k192 x2 h = some (r, h1) → gd_ w h1) : ∀ (x1 : Int32) (x2 : Int32) (x3 : Int32) (x4 : Int32) (b0 : Nat) (s1 : Int32) (h : ia_H), gd_ w h → kd_D b0 = (100, 260) → j_M_isWhole_181 kr k192 x1 x2 x3 x4 b0 s1 h = some (r, h1) → gd_ w h1 := by
  intro x1 x2 x3 x4 b0 s1 h hg q_b0 hm
  unfold j_M_isWhole_181 at hm
  obtain ⟨c6, hm⟩ := ia_gd_some hm
  exact hkr x1 x2 (x3 + 1) (ia_wI h b0 ((s1 + x4).toNatClampNeg) 1) (gd_wI hg (kx_100 q_b0)) hm
def j_M_isWhole_158 (kr : Int32 → Int32 → Int32 → ia_H → Option (Int32 × ia_H)) (k192 : Int32 → ia_H → Option (Int32 × ia_H)) (x1 : Int32) (x3 : Int32) (x4 : Int32) (x6 : Int32) (s0 : Int32) (h : ia_H) : Option (Int32 × ia_H) := if s0 = 0 then (kr x1 s0 (x3 + 1) h) else (if x6 = 0 then (j_M_isWhole_181 kr k192 x1 s0 x3 x4 420 188 h) else (j_M_isWhole_181 kr k192 x1 s0 x3 x4 420 152 h))
theorem tj_M_isWhole_158 {w : ia_O0} {d N1 W1 : Nat} {K : ia_K} (hK : ia_isK (d + 0) mm_M_isWhole N1 W1 K) {r : Int32} {h1 : ia_H} (hret : ∀ (pc : Nat) (lv : ia_L), ia_ret mm_M_isWhole pc (some (.inl r)) → K pc lv ((some (.inl r)) : Option ia_V).toList h1) {kr : Int32 → Int32 → Int32 → ia_H → Option (Int32 × ia_H)} {k192 : Int32 → ia_H → Option (Int32 × ia_H)} (hkr : ∀ (x1 : Int32) (x2 : Int32) (x3 : Int32) (h : ia_H), gd_ w h → kr x1 x2 x3 h = some (r, h1) → K 30 [some (.inr (.inr 417)), some (.inl x1), some (.inl x2), some (.inl x3), none, none, none] [] h) (hk192 : ∀ (x2 : Int32) (h : ia_H), gd_ w h → k192 x2 h = some (r, h1) → K 192 [some (.inr (.inr 417)), none, some (.inl x2), none, none, none, none] [] h) : ∀ (x1 : Int32) (x3 : Int32) (x4 : Int32) (x6 : Int32) (s0 : Int32) (h : ia_H), gd_ w h → j_M_isWhole_158 kr k192 x1 x3 x4 x6 s0 h = some (r, h1) → K 158 [some (.inr (.inr 417)), some (.inl x1), none, some (.inl x3), some (.inl x4), none, some (.inl x6)] [.inl s0] h := by
  intro x1 x3 x4 x6 s0 h hg hm
  unfold j_M_isWhole_158 at hm
  refine ia_go hK ck_M_isWhole_158 ⟨fun c => ?_, fun c => ?_⟩
  · replace hm := ia_ifp hm c
    show K 186 [some (.inr (.inr 417)), some (.inl x1), some (.inl s0), some (.inl x3), some (.inl x4), none, some (.inl x6)] [] h
    refine ia_go hK ck_M_isWhole_186 ?_
    show K 30 [some (.inr (.inr 417)), some (.inl x1), some (.inl s0), some (.inl (x3 + 1)), some (.inl x4), none, some (.inl x6)] [] h
    refine ia_fg hK (lv' := [some (.inr (.inr 417)), some (.inl x1), some (.inl s0), some (.inl (x3 + 1)), none, none, none]) ⟨rfl, rfl, rfl, rfl, trivial⟩ ?_
    exact hkr x1 s0 (x3 + 1) h hg hm
  · replace hm := ia_ifn hm c
    show K 163 [some (.inr (.inr 417)), some (.inl x1), some (.inl s0), some (.inl x3), some (.inl x4), none, some (.inl x6)] [] h
    refine ia_go hK ck_M_isWhole_163 ⟨gk_12 hg pk_417, gr_12_10 hg pk_417, fun c => ?_, fun c => ?_⟩
    · replace hm := ia_ifp hm c
      show K 178 [some (.inr (.inr 417)), some (.inl x1), some (.inl s0), some (.inl x3), some (.inl x4), none, some (.inl x6)] [.inr (.inr 420)] h
      refine ia_go hK ck_M_isWhole_178 ?_
      show K 181 [some (.inr (.inr 417)), some (.inl x1), some (.inl s0), some (.inl x3), some (.inl x4), none, some (.inl x6)] [.inl 188, .inr (.inr 420)] h
      refine ia_fg hK (lv' := [some (.inr (.inr 417)), some (.inl x1), some (.inl s0), some (.inl x3), some (.inl x4), none, none]) ⟨rfl, rfl, rfl, rfl, rfl, trivial⟩ ?_
      exact tj_M_isWhole_181 hK hret hkr hk192 x1 s0 x3 x4 420 188 h hg (ka_12_10 pk_417) hm
    · replace hm := ia_ifn hm c
      show K 172 [some (.inr (.inr 417)), some (.inl x1), some (.inl s0), some (.inl x3), some (.inl x4), none, some (.inl x6)] [.inr (.inr 420)] h
      refine ia_go hK ck_M_isWhole_172 ?_
      show K 181 [some (.inr (.inr 417)), some (.inl x1), some (.inl s0), some (.inl x3), some (.inl x4), none, some (.inl x6)] [.inl 152, .inr (.inr 420)] h
      refine ia_fg hK (lv' := [some (.inr (.inr 417)), some (.inl x1), some (.inl s0), some (.inl x3), some (.inl x4), none, none]) ⟨rfl, rfl, rfl, rfl, rfl, trivial⟩ ?_
      exact tj_M_isWhole_181 hK hret hkr hk192 x1 s0 x3 x4 420 152 h hg (ka_12_10 pk_417) hm
theorem gj_M_isWhole_158 {w : ia_O0} {r : Int32} {h1 : ia_H} {kr : Int32 → Int32 → Int32 → ia_H → Option (Int32 × ia_H)} {k192 : Int32 → ia_H → Option (Int32 × ia_H)} (hkr : ∀ (x1 : Int32) (x2 : Int32) (x3 : Int32) (h : ia_H), gd_ w h → kr x1 x2 x3 h = some (r, h1) → gd_ w h1) (hk192 : ∀ (x2 : Int32) (h : ia_H), gd_ w h → k192 x2 h = some (r, h1) → gd_ w h1) : ∀ (x1 : Int32) (x3 : Int32) (x4 : Int32) (x6 : Int32) (s0 : Int32) (h : ia_H), gd_ w h → j_M_isWhole_158 kr k192 x1 x3 x4 x6 s0 h = some (r, h1) → gd_ w h1 := by
  intro x1 x3 x4 x6 s0 h hg hm
  unfold j_M_isWhole_158 at hm
  by_cases c : s0 = 0
  · replace hm := ia_ifp hm c
    exact hkr x1 s0 (x3 + 1) h hg hm
  · replace hm := ia_ifn hm c
    by_cases c : x6 = 0
    · replace hm := ia_ifp hm c
      exact gj_M_isWhole_181 hkr hk192 x1 s0 x3 x4 420 188 h hg (ka_12_10 pk_417) hm
    · replace hm := ia_ifn hm c
      exact gj_M_isWhole_181 hkr hk192 x1 s0 x3 x4 420 152 h hg (ka_12_10 pk_417) hm
def j_M_isWhole_137 (kr : Int32 → Int32 → Int32 → ia_H → Option (Int32 × ia_H)) (k192 : Int32 → ia_H → Option (Int32 × ia_H)) (x1 : Int32) (x3 : Int32) (x4 : Int32) (x5 : Int32) (s0 : Int32) (h : ia_H) : Option (Int32 × ia_H) := if s0 = 0 then (if x5 = (x4 + x1) then (j_M_isWhole_158 kr k192 x1 x3 x4 s0 1 h) else (j_M_isWhole_158 kr k192 x1 x3 x4 s0 0 h)) else (j_M_isWhole_158 kr k192 x1 x3 x4 s0 1 h)
theorem tj_M_isWhole_137 {w : ia_O0} {d N1 W1 : Nat} {K : ia_K} (hK : ia_isK (d + 0) mm_M_isWhole N1 W1 K) {r : Int32} {h1 : ia_H} (hret : ∀ (pc : Nat) (lv : ia_L), ia_ret mm_M_isWhole pc (some (.inl r)) → K pc lv ((some (.inl r)) : Option ia_V).toList h1) {kr : Int32 → Int32 → Int32 → ia_H → Option (Int32 × ia_H)} {k192 : Int32 → ia_H → Option (Int32 × ia_H)} (hkr : ∀ (x1 : Int32) (x2 : Int32) (x3 : Int32) (h : ia_H), gd_ w h → kr x1 x2 x3 h = some (r, h1) → K 30 [some (.inr (.inr 417)), some (.inl x1), some (.inl x2), some (.inl x3), none, none, none] [] h) (hk192 : ∀ (x2 : Int32) (h : ia_H), gd_ w h → k192 x2 h = some (r, h1) → K 192 [some (.inr (.inr 417)), none, some (.inl x2), none, none, none, none] [] h) : ∀ (x1 : Int32) (x3 : Int32) (x4 : Int32) (x5 : Int32) (s0 : Int32) (h : ia_H), gd_ w h → j_M_isWhole_137 kr k192 x1 x3 x4 x5 s0 h = some (r, h1) → K 137 [some (.inr (.inr 417)), some (.inl x1), none, some (.inl x3), some (.inl x4), some (.inl x5), none] [.inl s0] h := by
  intro x1 x3 x4 x5 s0 h hg hm
  unfold j_M_isWhole_137 at hm
  refine ia_go hK ck_M_isWhole_137 ⟨fun c => ?_, fun c => ?_⟩
  · replace hm := ia_ifn hm c
    show K 153 [some (.inr (.inr 417)), some (.inl x1), none, some (.inl x3), some (.inl x4), some (.inl x5), some (.inl s0)] [] h
    refine ia_go hK ck_M_isWhole_153 ?_
    show K 158 [some (.inr (.inr 417)), some (.inl x1), none, some (.inl x3), some (.inl x4), some (.inl x5), some (.inl s0)] [.inl 1] h
    refine ia_fg hK (lv' := [some (.inr (.inr 417)), some (.inl x1), none, some (.inl x3), some (.inl x4), none, some (.inl s0)]) ⟨rfl, rfl, rfl, rfl, rfl, trivial⟩ ?_
    exact tj_M_isWhole_158 hK hret hkr hk192 x1 x3 x4 s0 1 h hg hm
  · replace hm := ia_ifp hm c
    show K 144 [some (.inr (.inr 417)), some (.inl x1), none, some (.inl x3), some (.inl x4), some (.inl x5), some (.inl s0)] [] h
    refine ia_go hK ck_M_isWhole_144 ⟨fun c => ?_, fun c => ?_⟩
    · replace hm := ia_ifn hm c
      show K 157 [some (.inr (.inr 417)), some (.inl x1), none, some (.inl x3), some (.inl x4), some (.inl x5), some (.inl s0)] [] h
      refine ia_go hK ck_M_isWhole_157 ?_
      show K 158 [some (.inr (.inr 417)), some (.inl x1), none, some (.inl x3), some (.inl x4), some (.inl x5), some (.inl s0)] [.inl 0] h
      refine ia_fg hK (lv' := [some (.inr (.inr 417)), some (.inl x1), none, some (.inl x3), some (.inl x4), none, some (.inl s0)]) ⟨rfl, rfl, rfl, rfl, rfl, trivial⟩ ?_
      exact tj_M_isWhole_158 hK hret hkr hk192 x1 x3 x4 s0 0 h hg hm
    · replace hm := ia_ifp hm c
      show K 153 [some (.inr (.inr 417)), some (.inl x1), none, some (.inl x3), some (.inl x4), some (.inl x5), some (.inl s0)] [] h
      refine ia_go hK ck_M_isWhole_153 ?_
      show K 158 [some (.inr (.inr 417)), some (.inl x1), none, some (.inl x3), some (.inl x4), some (.inl x5), some (.inl s0)] [.inl 1] h
      refine ia_fg hK (lv' := [some (.inr (.inr 417)), some (.inl x1), none, some (.inl x3), some (.inl x4), none, some (.inl s0)]) ⟨rfl, rfl, rfl, rfl, rfl, trivial⟩ ?_
      exact tj_M_isWhole_158 hK hret hkr hk192 x1 x3 x4 s0 1 h hg hm
theorem gj_M_isWhole_137 {w : ia_O0} {r : Int32} {h1 : ia_H} {kr : Int32 → Int32 → Int32 → ia_H → Option (Int32 × ia_H)} {k192 : Int32 → ia_H → Option (Int32 × ia_H)} (hkr : ∀ (x1 : Int32) (x2 : Int32) (x3 : Int32) (h : ia_H), gd_ w h → kr x1 x2 x3 h = some (r, h1) → gd_ w h1) (hk192 : ∀ (x2 : Int32) (h : ia_H), gd_ w h → k192 x2 h = some (r, h1) → gd_ w h1) : ∀ (x1 : Int32) (x3 : Int32) (x4 : Int32) (x5 : Int32) (s0 : Int32) (h : ia_H), gd_ w h → j_M_isWhole_137 kr k192 x1 x3 x4 x5 s0 h = some (r, h1) → gd_ w h1 := by
  intro x1 x3 x4 x5 s0 h hg hm
  unfold j_M_isWhole_137 at hm
  by_cases c : s0 = 0
  · replace hm := ia_ifp hm c
    by_cases c : x5 = (x4 + x1)
    · replace hm := ia_ifp hm c
      exact gj_M_isWhole_158 hkr hk192 x1 x3 x4 s0 1 h hg hm
    · replace hm := ia_ifn hm c
      exact gj_M_isWhole_158 hkr hk192 x1 x3 x4 s0 0 h hg hm
  · replace hm := ia_ifn hm c
    exact gj_M_isWhole_158 hkr hk192 x1 x3 x4 s0 1 h hg hm
def j_M_isWhole_90 (kr : Int32 → Int32 → Int32 → ia_H → Option (Int32 × ia_H)) (k192 : Int32 → ia_H → Option (Int32 × ia_H)) (x1 : Int32) (x3 : Int32) (s0 : Int32) (h : ia_H) : Option (Int32 × ia_H) := ia_gd (ia_ib (2 * x3) 140) (ia_gd (ia_ib ((2 * x3) + 1) 140) (if (((ia_i h 421 ((2 * x3).toNatClampNeg)) + (ia_i h 421 (((2 * x3) + 1).toNatClampNeg))) - s0) = (s0 + 1) then (ia_gd (ia_nz x1) (if ((((ia_i h 421 ((2 * x3).toNatClampNeg)) + (ia_i h 421 (((2 * x3) + 1).toNatClampNeg))) - s0) - (((ia_i h 421 ((2 * x3).toNatClampNeg)) + (ia_i h 421 (((2 * x3) + 1).toNatClampNeg))) - s0) / x1 * x1) = 0 then (j_M_isWhole_137 kr k192 x1 x3 s0 (((ia_i h 421 ((2 * x3).toNatClampNeg)) + (ia_i h 421 (((2 * x3) + 1).toNatClampNeg))) - s0) 0 h) else (j_M_isWhole_137 kr k192 x1 x3 s0 (((ia_i h 421 ((2 * x3).toNatClampNeg)) + (ia_i h 421 (((2 * x3) + 1).toNatClampNeg))) - s0) 1 h))) else (j_M_isWhole_137 kr k192 x1 x3 s0 (((ia_i h 421 ((2 * x3).toNatClampNeg)) + (ia_i h 421 (((2 * x3) + 1).toNatClampNeg))) - s0) 0 h)))
theorem tj_M_isWhole_90 {w : ia_O0} {d N1 W1 : Nat} {K : ia_K} (hK : ia_isK (d + 0) mm_M_isWhole N1 W1 K) {r : Int32} {h1 : ia_H} (hret : ∀ (pc : Nat) (lv : ia_L), ia_ret mm_M_isWhole pc (some (.inl r)) → K pc lv ((some (.inl r)) : Option ia_V).toList h1) {kr : Int32 → Int32 → Int32 → ia_H → Option (Int32 × ia_H)} {k192 : Int32 → ia_H → Option (Int32 × ia_H)} (hkr : ∀ (x1 : Int32) (x2 : Int32) (x3 : Int32) (h : ia_H), gd_ w h → kr x1 x2 x3 h = some (r, h1) → K 30 [some (.inr (.inr 417)), some (.inl x1), some (.inl x2), some (.inl x3), none, none, none] [] h) (hk192 : ∀ (x2 : Int32) (h : ia_H), gd_ w h → k192 x2 h = some (r, h1) → K 192 [some (.inr (.inr 417)), none, some (.inl x2), none, none, none, none] [] h) : ∀ (x1 : Int32) (x3 : Int32) (s0 : Int32) (h : ia_H), gd_ w h → j_M_isWhole_90 kr k192 x1 x3 s0 h = some (r, h1) → K 90 [some (.inr (.inr 417)), some (.inl x1), none, some (.inl x3), none, none, none] [.inl s0] h := by
  intro x1 x3 s0 h hg hm
  unfold j_M_isWhole_90 at hm
  obtain ⟨c4, hm⟩ := ia_gd_some hm
  obtain ⟨c5, hm⟩ := ia_gd_some hm
  refine ia_go hK ck_M_isWhole_90 ⟨gk_12 hg pk_417, gr_12_12 hg pk_417, ga_i100 hg (ka_12_12 pk_417) c4, gk_12 hg pk_417, gr_12_12 hg pk_417, ga_i100 hg (ka_12_12 pk_417) c5, fun c => ?_, fun c => ?_⟩
  · replace hm := ia_ifn hm c
    show K 136 [some (.inr (.inr 417)), some (.inl x1), none, some (.inl x3), some (.inl s0), some (.inl (((ia_i h 421 ((2 * x3).toNatClampNeg)) + (ia_i h 421 (((2 * x3) + 1).toNatClampNeg))) - s0)), none] [] h
    refine ia_go hK ck_M_isWhole_136 ?_
    show K 137 [some (.inr (.inr 417)), some (.inl x1), none, some (.inl x3), some (.inl s0), some (.inl (((ia_i h 421 ((2 * x3).toNatClampNeg)) + (ia_i h 421 (((2 * x3) + 1).toNatClampNeg))) - s0)), none] [.inl 0] h
    exact tj_M_isWhole_137 hK hret hkr hk192 x1 x3 s0 (((ia_i h 421 ((2 * x3).toNatClampNeg)) + (ia_i h 421 (((2 * x3) + 1).toNatClampNeg))) - s0) 0 h hg hm
  · replace hm := ia_ifp hm c
    show K 125 [some (.inr (.inr 417)), some (.inl x1), none, some (.inl x3), some (.inl s0), some (.inl (((ia_i h 421 ((2 * x3).toNatClampNeg)) + (ia_i h 421 (((2 * x3) + 1).toNatClampNeg))) - s0)), none] [] h
    obtain ⟨c7, hm⟩ := ia_gd_some hm
    refine ia_go hK ck_M_isWhole_125 ⟨ia_nz_spec c7, fun c => ?_, fun c => ?_⟩
    · replace hm := ia_ifp hm c
      show K 136 [some (.inr (.inr 417)), some (.inl x1), none, some (.inl x3), some (.inl s0), some (.inl (((ia_i h 421 ((2 * x3).toNatClampNeg)) + (ia_i h 421 (((2 * x3) + 1).toNatClampNeg))) - s0)), none] [] h
      refine ia_go hK ck_M_isWhole_136 ?_
      show K 137 [some (.inr (.inr 417)), some (.inl x1), none, some (.inl x3), some (.inl s0), some (.inl (((ia_i h 421 ((2 * x3).toNatClampNeg)) + (ia_i h 421 (((2 * x3) + 1).toNatClampNeg))) - s0)), none] [.inl 0] h
      exact tj_M_isWhole_137 hK hret hkr hk192 x1 x3 s0 (((ia_i h 421 ((2 * x3).toNatClampNeg)) + (ia_i h 421 (((2 * x3) + 1).toNatClampNeg))) - s0) 0 h hg hm
    · replace hm := ia_ifn hm c
      show K 132 [some (.inr (.inr 417)), some (.inl x1), none, some (.inl x3), some (.inl s0), some (.inl (((ia_i h 421 ((2 * x3).toNatClampNeg)) + (ia_i h 421 (((2 * x3) + 1).toNatClampNeg))) - s0)), none] [] h
      refine ia_go hK ck_M_isWhole_132 ?_
      show K 137 [some (.inr (.inr 417)), some (.inl x1), none, some (.inl x3), some (.inl s0), some (.inl (((ia_i h 421 ((2 * x3).toNatClampNeg)) + (ia_i h 421 (((2 * x3) + 1).toNatClampNeg))) - s0)), none] [.inl 1] h
      exact tj_M_isWhole_137 hK hret hkr hk192 x1 x3 s0 (((ia_i h 421 ((2 * x3).toNatClampNeg)) + (ia_i h 421 (((2 * x3) + 1).toNatClampNeg))) - s0) 1 h hg hm
theorem gj_M_isWhole_90 {w : ia_O0} {r : Int32} {h1 : ia_H} {kr : Int32 → Int32 → Int32 → ia_H → Option (Int32 × ia_H)} {k192 : Int32 → ia_H → Option (Int32 × ia_H)} (hkr : ∀ (x1 : Int32) (x2 : Int32) (x3 : Int32) (h : ia_H), gd_ w h → kr x1 x2 x3 h = some (r, h1) → gd_ w h1) (hk192 : ∀ (x2 : Int32) (h : ia_H), gd_ w h → k192 x2 h = some (r, h1) → gd_ w h1) : ∀ (x1 : Int32) (x3 : Int32) (s0 : Int32) (h : ia_H), gd_ w h → j_M_isWhole_90 kr k192 x1 x3 s0 h = some (r, h1) → gd_ w h1 := by
  intro x1 x3 s0 h hg hm
  unfold j_M_isWhole_90 at hm
  obtain ⟨c4, hm⟩ := ia_gd_some hm
  obtain ⟨c5, hm⟩ := ia_gd_some hm
  by_cases c : (((ia_i h 421 ((2 * x3).toNatClampNeg)) + (ia_i h 421 (((2 * x3) + 1).toNatClampNeg))) - s0) = (s0 + 1)
  · replace hm := ia_ifp hm c
    obtain ⟨c7, hm⟩ := ia_gd_some hm
    by_cases c : ((((ia_i h 421 ((2 * x3).toNatClampNeg)) + (ia_i h 421 (((2 * x3) + 1).toNatClampNeg))) - s0) - (((ia_i h 421 ((2 * x3).toNatClampNeg)) + (ia_i h 421 (((2 * x3) + 1).toNatClampNeg))) - s0) / x1 * x1) = 0
    · replace hm := ia_ifp hm c
      exact gj_M_isWhole_137 hkr hk192 x1 x3 s0 (((ia_i h 421 ((2 * x3).toNatClampNeg)) + (ia_i h 421 (((2 * x3) + 1).toNatClampNeg))) - s0) 0 h hg hm
    · replace hm := ia_ifn hm c
      exact gj_M_isWhole_137 hkr hk192 x1 x3 s0 (((ia_i h 421 ((2 * x3).toNatClampNeg)) + (ia_i h 421 (((2 * x3) + 1).toNatClampNeg))) - s0) 1 h hg hm
  · replace hm := ia_ifn hm c
    exact gj_M_isWhole_137 hkr hk192 x1 x3 s0 (((ia_i h 421 ((2 * x3).toNatClampNeg)) + (ia_i h 421 (((2 * x3) + 1).toNatClampNeg))) - s0) 0 h hg hm
def l_M_isWhole_30 (k192 : Int32 → ia_H → Option (Int32 × ia_H)) (n : Nat) (x1 : Int32) (x2 : Int32) (x3 : Int32) (h : ia_H) : Option (Int32 × ia_H) := match n with
  | 0 => none
  | n + 1 => if (ia_i h 417 11) ≤ x3 then (k192 x2 h) else (if 68 ≤ x3 then (k192 x2 h) else (if x2 = 0 then (k192 x2 h) else (ia_gd (ia_ib (2 * x3) 140) (ia_gd (ia_ib ((2 * x3) + 1) 140) (if (ia_i h 421 (((2 * x3) + 1).toNatClampNeg)) ≤ (ia_i h 421 ((2 * x3).toNatClampNeg)) then (ia_gd (ia_ib ((2 * x3) + 1) 140) (j_M_isWhole_90 (l_M_isWhole_30 k192 n) k192 x1 x3 (ia_i h 421 (((2 * x3) + 1).toNatClampNeg)) h)) else (ia_gd (ia_ib (2 * x3) 140) (j_M_isWhole_90 (l_M_isWhole_30 k192 n) k192 x1 x3 (ia_i h 421 ((2 * x3).toNatClampNeg)) h)))))))
theorem tl_M_isWhole_30 {w : ia_O0} {d N1 W1 : Nat} {K : ia_K} (hK : ia_isK (d + 0) mm_M_isWhole N1 W1 K) {r : Int32} {h1 : ia_H} (hret : ∀ (pc : Nat) (lv : ia_L), ia_ret mm_M_isWhole pc (some (.inl r)) → K pc lv ((some (.inl r)) : Option ia_V).toList h1) {k192 : Int32 → ia_H → Option (Int32 × ia_H)} (hk192 : ∀ (x2 : Int32) (h : ia_H), gd_ w h → k192 x2 h = some (r, h1) → K 192 [some (.inr (.inr 417)), none, some (.inl x2), none, none, none, none] [] h) : ∀ (n : Nat) (x1 : Int32) (x2 : Int32) (x3 : Int32) (h : ia_H), gd_ w h → l_M_isWhole_30 k192 n x1 x2 x3 h = some (r, h1) → K 30 [some (.inr (.inr 417)), some (.inl x1), some (.inl x2), some (.inl x3), none, none, none] [] h := by
  intro n
  induction n with
  | zero =>
    intro x1 x2 x3 h hg hm
    cases (show (none : Option (Int32 × ia_H)) = some _ from hm)
  | succ n ih =>
    intro x1 x2 x3 h hg hm
    rw [l_M_isWhole_30] at hm
    refine ia_go hK ck_M_isWhole_30 ⟨gk_12 hg pk_417, fun c => ?_, fun c => ?_⟩
    · replace hm := ia_ifp hm c
      show K 192 [some (.inr (.inr 417)), some (.inl x1), some (.inl x2), some (.inl x3), none, none, none] [] h
      refine ia_fg hK (lv' := [some (.inr (.inr 417)), none, some (.inl x2), none, none, none, none]) ⟨rfl, rfl, trivial⟩ ?_
      exact hk192 x2 h hg hm
    · replace hm := ia_ifn hm c
      show K 38 [some (.inr (.inr 417)), some (.inl x1), some (.inl x2), some (.inl x3), none, none, none] [] h
      refine ia_go hK ck_M_isWhole_38 ⟨fun c => ?_, fun c => ?_⟩
      · replace hm := ia_ifp hm c
        show K 192 [some (.inr (.inr 417)), some (.inl x1), some (.inl x2), some (.inl x3), none, none, none] [] h
        refine ia_fg hK (lv' := [some (.inr (.inr 417)), none, some (.inl x2), none, none, none, none]) ⟨rfl, rfl, trivial⟩ ?_
        exact hk192 x2 h hg hm
      · replace hm := ia_ifn hm c
        show K 44 [some (.inr (.inr 417)), some (.inl x1), some (.inl x2), some (.inl x3), none, none, none] [] h
        refine ia_go hK ck_M_isWhole_44 ⟨fun c => ?_, fun c => ?_⟩
        · replace hm := ia_ifp hm c
          show K 192 [some (.inr (.inr 417)), some (.inl x1), some (.inl x2), some (.inl x3), none, none, none] [] h
          refine ia_fg hK (lv' := [some (.inr (.inr 417)), none, some (.inl x2), none, none, none, none]) ⟨rfl, rfl, trivial⟩ ?_
          exact hk192 x2 h hg hm
        · replace hm := ia_ifn hm c
          show K 48 [some (.inr (.inr 417)), some (.inl x1), some (.inl x2), some (.inl x3), none, none, none] [] h
          obtain ⟨c1, hm⟩ := ia_gd_some hm
          obtain ⟨c2, hm⟩ := ia_gd_some hm
          refine ia_go hK ck_M_isWhole_48 ⟨gk_12 hg pk_417, gr_12_12 hg pk_417, ga_i100 hg (ka_12_12 pk_417) c1, gk_12 hg pk_417, gr_12_12 hg pk_417, ga_i100 hg (ka_12_12 pk_417) c2, fun c => ?_, fun c => ?_⟩
          · replace hm := ia_ifp hm c
            show K 80 [some (.inr (.inr 417)), some (.inl x1), some (.inl x2), some (.inl x3), none, none, none] [] h
            obtain ⟨c3, hm⟩ := ia_gd_some hm
            refine ia_go hK ck_M_isWhole_80 ⟨gk_12 hg pk_417, gr_12_12 hg pk_417, ga_i100 hg (ka_12_12 pk_417) c3, ?_⟩
            show K 90 [some (.inr (.inr 417)), some (.inl x1), some (.inl x2), some (.inl x3), none, none, none] [.inl (ia_i h 421 (((2 * x3) + 1).toNatClampNeg))] h
            refine ia_fg hK (lv' := [some (.inr (.inr 417)), some (.inl x1), none, some (.inl x3), none, none, none]) ⟨rfl, rfl, rfl, trivial⟩ ?_
            exact tj_M_isWhole_90 hK hret ih hk192 x1 x3 (ia_i h 421 (((2 * x3) + 1).toNatClampNeg)) h hg hm
          · replace hm := ia_ifn hm c
            show K 69 [some (.inr (.inr 417)), some (.inl x1), some (.inl x2), some (.inl x3), none, none, none] [] h
            obtain ⟨c8, hm⟩ := ia_gd_some hm
            refine ia_go hK ck_M_isWhole_69 ⟨gk_12 hg pk_417, gr_12_12 hg pk_417, ga_i100 hg (ka_12_12 pk_417) c8, ?_⟩
            show K 90 [some (.inr (.inr 417)), some (.inl x1), some (.inl x2), some (.inl x3), none, none, none] [.inl (ia_i h 421 ((2 * x3).toNatClampNeg))] h
            refine ia_fg hK (lv' := [some (.inr (.inr 417)), some (.inl x1), none, some (.inl x3), none, none, none]) ⟨rfl, rfl, rfl, trivial⟩ ?_
            exact tj_M_isWhole_90 hK hret ih hk192 x1 x3 (ia_i h 421 ((2 * x3).toNatClampNeg)) h hg hm
theorem gl_M_isWhole_30 {w : ia_O0} {r : Int32} {h1 : ia_H} {k192 : Int32 → ia_H → Option (Int32 × ia_H)} (hk192 : ∀ (x2 : Int32) (h : ia_H), gd_ w h → k192 x2 h = some (r, h1) → gd_ w h1) : ∀ (n : Nat) (x1 : Int32) (x2 : Int32) (x3 : Int32) (h : ia_H), gd_ w h → l_M_isWhole_30 k192 n x1 x2 x3 h = some (r, h1) → gd_ w h1 := by
  intro n
  induction n with
  | zero =>
    intro x1 x2 x3 h hg hm
    cases (show (none : Option (Int32 × ia_H)) = some _ from hm)
  | succ n ih =>
    intro x1 x2 x3 h hg hm
    rw [l_M_isWhole_30] at hm
    by_cases c : (ia_i h 417 11) ≤ x3
    · replace hm := ia_ifp hm c
      exact hk192 x2 h hg hm
    · replace hm := ia_ifn hm c
      by_cases c : 68 ≤ x3
      · replace hm := ia_ifp hm c
        exact hk192 x2 h hg hm
      · replace hm := ia_ifn hm c
        by_cases c : x2 = 0
        · replace hm := ia_ifp hm c
          exact hk192 x2 h hg hm
        · replace hm := ia_ifn hm c
          obtain ⟨c1, hm⟩ := ia_gd_some hm
          obtain ⟨c2, hm⟩ := ia_gd_some hm
          by_cases c : (ia_i h 421 (((2 * x3) + 1).toNatClampNeg)) ≤ (ia_i h 421 ((2 * x3).toNatClampNeg))
          · replace hm := ia_ifp hm c
            obtain ⟨c3, hm⟩ := ia_gd_some hm
            exact gj_M_isWhole_90 ih hk192 x1 x3 (ia_i h 421 (((2 * x3) + 1).toNatClampNeg)) h hg hm
          · replace hm := ia_ifn hm c
            obtain ⟨c8, hm⟩ := ia_gd_some hm
            exact gj_M_isWhole_90 ih hk192 x1 x3 (ia_i h 421 ((2 * x3).toNatClampNeg)) h hg hm
def j_M_isWhole_255 (kr : Int32 → Int32 → Int32 → ia_H → Option (Int32 × ia_H)) (k263 : Int32 → Int32 → ia_H → Option (Int32 × ia_H)) (x3 : Int32) (x4 : Int32) (h : ia_H) : Option (Int32 × ia_H) := kr 0 x3 (x4 + 1) h
theorem tj_M_isWhole_255 {w : ia_O0} {d N1 W1 : Nat} {K : ia_K} (hK : ia_isK (d + 0) mm_M_isWhole N1 W1 K) {r : Int32} {h1 : ia_H} (hret : ∀ (pc : Nat) (lv : ia_L), ia_ret mm_M_isWhole pc (some (.inl r)) → K pc lv ((some (.inl r)) : Option ia_V).toList h1) {kr : Int32 → Int32 → Int32 → ia_H → Option (Int32 × ia_H)} {k263 : Int32 → Int32 → ia_H → Option (Int32 × ia_H)} (hkr : ∀ (x2 : Int32) (x3 : Int32) (x4 : Int32) (h : ia_H), gd_ w h → kr x2 x3 x4 h = some (r, h1) → K 213 [some (.inr (.inr 417)), none, some (.inl x2), some (.inl x3), some (.inl x4), none, none] [] h) (hk263 : ∀ (x2 : Int32) (x3 : Int32) (h : ia_H), gd_ w h → k263 x2 x3 h = some (r, h1) → K 263 [some (.inr (.inr 417)), none, some (.inl x2), some (.inl x3), none, none, none] [] h) : ∀ (x3 : Int32) (x4 : Int32) (h : ia_H), gd_ w h → j_M_isWhole_255 kr k263 x3 x4 h = some (r, h1) → K 255 [some (.inr (.inr 417)), none, none, some (.inl x3), some (.inl x4), none, none] [] h := by
  intro x3 x4 h hg hm
  unfold j_M_isWhole_255 at hm
  refine ia_go hK ck_M_isWhole_255 ?_
  show K 213 [some (.inr (.inr 417)), none, some (.inl 0), some (.inl x3), some (.inl (x4 + 1)), none, none] [] h
  exact hkr 0 x3 (x4 + 1) h hg hm
theorem gj_M_isWhole_255 {w : ia_O0} {r : Int32} {h1 : ia_H} {kr : Int32 → Int32 → Int32 → ia_H → Option (Int32 × ia_H)} {k263 : Int32 → Int32 → ia_H → Option (Int32 × ia_H)} (hkr : ∀ (x2 : Int32) (x3 : Int32) (x4 : Int32) (h : ia_H), gd_ w h → kr x2 x3 x4 h = some (r, h1) → gd_ w h1) (hk263 : ∀ (x2 : Int32) (x3 : Int32) (h : ia_H), gd_ w h → k263 x2 x3 h = some (r, h1) → gd_ w h1) : ∀ (x3 : Int32) (x4 : Int32) (h : ia_H), gd_ w h → j_M_isWhole_255 kr k263 x3 x4 h = some (r, h1) → gd_ w h1 := by
  intro x3 x4 h hg hm
  unfold j_M_isWhole_255 at hm
  exact hkr 0 x3 (x4 + 1) h hg hm
def l_M_isWhole_213 (k263 : Int32 → Int32 → ia_H → Option (Int32 × ia_H)) (n : Nat) (x2 : Int32) (x3 : Int32) (x4 : Int32) (h : ia_H) : Option (Int32 × ia_H) := match n with
  | 0 => none
  | n + 1 => if x3 ≤ x4 then (k263 x2 x3 h) else (if x2 = 0 then (j_M_isWhole_255 (l_M_isWhole_213 k263 n) k263 x3 x4 h) else (ia_gd (ia_ib (236 + (4 * x3)) 260) (ia_gd (ia_ib (236 + (4 * x4)) 260) (if (ia_i h 420 ((236 + (4 * x3)).toNatClampNeg)) = (ia_i h 420 ((236 + (4 * x4)).toNatClampNeg)) then (j_M_isWhole_255 (l_M_isWhole_213 k263 n) k263 x3 x4 h) else (l_M_isWhole_213 k263 n 1 x3 (x4 + 1) h)))))
theorem tl_M_isWhole_213 {w : ia_O0} {d N1 W1 : Nat} {K : ia_K} (hK : ia_isK (d + 0) mm_M_isWhole N1 W1 K) {r : Int32} {h1 : ia_H} (hret : ∀ (pc : Nat) (lv : ia_L), ia_ret mm_M_isWhole pc (some (.inl r)) → K pc lv ((some (.inl r)) : Option ia_V).toList h1) {k263 : Int32 → Int32 → ia_H → Option (Int32 × ia_H)} (hk263 : ∀ (x2 : Int32) (x3 : Int32) (h : ia_H), gd_ w h → k263 x2 x3 h = some (r, h1) → K 263 [some (.inr (.inr 417)), none, some (.inl x2), some (.inl x3), none, none, none] [] h) : ∀ (n : Nat) (x2 : Int32) (x3 : Int32) (x4 : Int32) (h : ia_H), gd_ w h → l_M_isWhole_213 k263 n x2 x3 x4 h = some (r, h1) → K 213 [some (.inr (.inr 417)), none, some (.inl x2), some (.inl x3), some (.inl x4), none, none] [] h := by
  intro n
  induction n with
  | zero =>
    intro x2 x3 x4 h hg hm
    cases (show (none : Option (Int32 × ia_H)) = some _ from hm)
  | succ n ih =>
    intro x2 x3 x4 h hg hm
    rw [l_M_isWhole_213] at hm
    refine ia_go hK ck_M_isWhole_213 ⟨fun c => ?_, fun c => ?_⟩
    · replace hm := ia_ifp hm c
      show K 263 [some (.inr (.inr 417)), none, some (.inl x2), some (.inl x3), some (.inl x4), none, none] [] h
      refine ia_fg hK (lv' := [some (.inr (.inr 417)), none, some (.inl x2), some (.inl x3), none, none, none]) ⟨rfl, rfl, rfl, trivial⟩ ?_
      exact hk263 x2 x3 h hg hm
    · replace hm := ia_ifn hm c
      show K 219 [some (.inr (.inr 417)), none, some (.inl x2), some (.inl x3), some (.inl x4), none, none] [] h
      refine ia_go hK ck_M_isWhole_219 ⟨fun c => ?_, fun c => ?_⟩
      · replace hm := ia_ifp hm c
        show K 255 [some (.inr (.inr 417)), none, some (.inl x2), some (.inl x3), some (.inl x4), none, none] [] h
        refine ia_fg hK (lv' := [some (.inr (.inr 417)), none, none, some (.inl x3), some (.inl x4), none, none]) ⟨rfl, rfl, rfl, trivial⟩ ?_
        exact tj_M_isWhole_255 hK hret ih hk263 x3 x4 h hg hm
      · replace hm := ia_ifn hm c
        show K 223 [some (.inr (.inr 417)), none, some (.inl x2), some (.inl x3), some (.inl x4), none, none] [] h
        obtain ⟨c9, hm⟩ := ia_gd_some hm
        obtain ⟨c10, hm⟩ := ia_gd_some hm
        refine ia_go hK ck_M_isWhole_223 ⟨gk_12 hg pk_417, gr_12_10 hg pk_417, ga_i100 hg (ka_12_10 pk_417) c9, gk_12 hg pk_417, gr_12_10 hg pk_417, ga_i100 hg (ka_12_10 pk_417) c10, fun c => ?_, fun c => ?_⟩
        · replace hm := ia_ifp hm c
          show K 255 [some (.inr (.inr 417)), none, some (.inl x2), some (.inl x3), some (.inl x4), none, none] [] h
          refine ia_fg hK (lv' := [some (.inr (.inr 417)), none, none, some (.inl x3), some (.inl x4), none, none]) ⟨rfl, rfl, rfl, trivial⟩ ?_
          exact tj_M_isWhole_255 hK hret ih hk263 x3 x4 h hg hm
        · replace hm := ia_ifn hm c
          show K 251 [some (.inr (.inr 417)), none, some (.inl x2), some (.inl x3), some (.inl x4), none, none] [] h
          refine ia_go hK ck_M_isWhole_251 ?_
          show K 256 [some (.inr (.inr 417)), none, some (.inl x2), some (.inl x3), some (.inl x4), none, none] [.inl 1] h
          refine ia_go hK ck_M_isWhole_256 ?_
          show K 213 [some (.inr (.inr 417)), none, some (.inl 1), some (.inl x3), some (.inl (x4 + 1)), none, none] [] h
          exact ih 1 x3 (x4 + 1) h hg hm
theorem gl_M_isWhole_213 {w : ia_O0} {r : Int32} {h1 : ia_H} {k263 : Int32 → Int32 → ia_H → Option (Int32 × ia_H)} (hk263 : ∀ (x2 : Int32) (x3 : Int32) (h : ia_H), gd_ w h → k263 x2 x3 h = some (r, h1) → gd_ w h1) : ∀ (n : Nat) (x2 : Int32) (x3 : Int32) (x4 : Int32) (h : ia_H), gd_ w h → l_M_isWhole_213 k263 n x2 x3 x4 h = some (r, h1) → gd_ w h1 := by
  intro n
  induction n with
  | zero =>
    intro x2 x3 x4 h hg hm
    cases (show (none : Option (Int32 × ia_H)) = some _ from hm)
  | succ n ih =>
    intro x2 x3 x4 h hg hm
    rw [l_M_isWhole_213] at hm
    by_cases c : x3 ≤ x4
    · replace hm := ia_ifp hm c
      exact hk263 x2 x3 h hg hm
    · replace hm := ia_ifn hm c
      by_cases c : x2 = 0
      · replace hm := ia_ifp hm c
        exact gj_M_isWhole_255 ih hk263 x3 x4 h hg hm
      · replace hm := ia_ifn hm c
        obtain ⟨c9, hm⟩ := ia_gd_some hm
        obtain ⟨c10, hm⟩ := ia_gd_some hm
        by_cases c : (ia_i h 420 ((236 + (4 * x3)).toNatClampNeg)) = (ia_i h 420 ((236 + (4 * x4)).toNatClampNeg))
        · replace hm := ia_ifp hm c
          exact gj_M_isWhole_255 ih hk263 x3 x4 h hg hm
        · replace hm := ia_ifn hm c
          exact ih 1 x3 (x4 + 1) h hg hm
def l_M_isWhole_194 (k269 : Int32 → ia_H → Option (Int32 × ia_H)) (n : Nat) (x2 : Int32) (x3 : Int32) (h : ia_H) : Option (Int32 × ia_H) := match n with
  | 0 => none
  | n + 1 => if (ia_i h 420 4) ≤ x3 then (k269 x2 h) else (if 6 ≤ x3 then (k269 x2 h) else (l_M_isWhole_213 (fun x2 x3 h => l_M_isWhole_194 k269 n x2 (x3 + 1) h) fu_ x2 x3 0 h))
theorem tl_M_isWhole_194 {w : ia_O0} {d N1 W1 : Nat} {K : ia_K} (hK : ia_isK (d + 0) mm_M_isWhole N1 W1 K) {r : Int32} {h1 : ia_H} (hret : ∀ (pc : Nat) (lv : ia_L), ia_ret mm_M_isWhole pc (some (.inl r)) → K pc lv ((some (.inl r)) : Option ia_V).toList h1) {k269 : Int32 → ia_H → Option (Int32 × ia_H)} (hk269 : ∀ (x2 : Int32) (h : ia_H), gd_ w h → k269 x2 h = some (r, h1) → K 269 [none, none, some (.inl x2), none, none, none, none] [] h) : ∀ (n : Nat) (x2 : Int32) (x3 : Int32) (h : ia_H), gd_ w h → l_M_isWhole_194 k269 n x2 x3 h = some (r, h1) → K 194 [some (.inr (.inr 417)), none, some (.inl x2), some (.inl x3), none, none, none] [] h := by
  intro n
  induction n with
  | zero =>
    intro x2 x3 h hg hm
    cases (show (none : Option (Int32 × ia_H)) = some _ from hm)
  | succ n ih =>
    intro x2 x3 h hg hm
    rw [l_M_isWhole_194] at hm
    refine ia_go hK ck_M_isWhole_194 ⟨gk_12 hg pk_417, gr_12_10 hg pk_417, ga_i100 hg (ka_12_10 pk_417) (by decide), fun c => ?_, fun c => ?_⟩
    · replace hm := ia_ifp hm c
      show K 269 [some (.inr (.inr 417)), none, some (.inl x2), some (.inl x3), none, none, none] [] h
      refine ia_fg hK (lv' := [none, none, some (.inl x2), none, none, none, none]) ⟨rfl, trivial⟩ ?_
      exact hk269 x2 h hg hm
    · replace hm := ia_ifn hm c
      show K 204 [some (.inr (.inr 417)), none, some (.inl x2), some (.inl x3), none, none, none] [] h
      refine ia_go hK ck_M_isWhole_204 ⟨fun c => ?_, fun c => ?_⟩
      · replace hm := ia_ifp hm c
        show K 269 [some (.inr (.inr 417)), none, some (.inl x2), some (.inl x3), none, none, none] [] h
        refine ia_fg hK (lv' := [none, none, some (.inl x2), none, none, none, none]) ⟨rfl, trivial⟩ ?_
        exact hk269 x2 h hg hm
      · replace hm := ia_ifn hm c
        show K 210 [some (.inr (.inr 417)), none, some (.inl x2), some (.inl x3), none, none, none] [] h
        refine ia_go hK ck_M_isWhole_210 ?_
        show K 213 [some (.inr (.inr 417)), none, some (.inl x2), some (.inl x3), some (.inl 0), none, none] [] h
        refine tl_M_isWhole_213 hK hret ?_ fu_ x2 x3 0 h hg hm
        · intro x2 x3 h hg hm
          refine ia_go hK ck_M_isWhole_263 ?_
          show K 194 [some (.inr (.inr 417)), none, some (.inl x2), some (.inl (x3 + 1)), none, none, none] [] h
          exact ih x2 (x3 + 1) h hg hm
theorem gl_M_isWhole_194 {w : ia_O0} {r : Int32} {h1 : ia_H} {k269 : Int32 → ia_H → Option (Int32 × ia_H)} (hk269 : ∀ (x2 : Int32) (h : ia_H), gd_ w h → k269 x2 h = some (r, h1) → gd_ w h1) : ∀ (n : Nat) (x2 : Int32) (x3 : Int32) (h : ia_H), gd_ w h → l_M_isWhole_194 k269 n x2 x3 h = some (r, h1) → gd_ w h1 := by
  intro n
  induction n with
  | zero =>
    intro x2 x3 h hg hm
    cases (show (none : Option (Int32 × ia_H)) = some _ from hm)
  | succ n ih =>
    intro x2 x3 h hg hm
    rw [l_M_isWhole_194] at hm
    by_cases c : (ia_i h 420 4) ≤ x3
    · replace hm := ia_ifp hm c
      exact hk269 x2 h hg hm
    · replace hm := ia_ifn hm c
      by_cases c : 6 ≤ x3
      · replace hm := ia_ifp hm c
        exact hk269 x2 h hg hm
      · replace hm := ia_ifn hm c
        refine gl_M_isWhole_213 ?_ fu_ x2 x3 0 h hg hm
        · intro x2 x3 h hg hm
          exact ih x2 (x3 + 1) h hg hm
def f_M_isWhole (h : ia_H) : Option (Int32 × ia_H) := if ((ia_i h 420 0) * (ia_i h 420 1)) ≤ (ia_i h 417 9) then (l_M_isWhole_30 (fun x2 h => l_M_isWhole_194 (fun x2 h => ia_gd (ia_z1 x2) (some (x2, h))) fu_ x2 0 h) fu_ (ia_i h 420 0) 0 0 h) else (l_M_isWhole_30 (fun x2 h => l_M_isWhole_194 (fun x2 h => ia_gd (ia_z1 x2) (some (x2, h))) fu_ x2 0 h) fu_ (ia_i h 420 0) 1 0 h)
theorem g_M_isWhole {w : ia_O0} {h : ia_H} (hg : gd_ w h) {q : (Int32 × ia_H)} (hm : f_M_isWhole h = some q) : gd_ w q.2 := by
  obtain ⟨r, h1⟩ := q
  unfold f_M_isWhole at hm
  by_cases c : ((ia_i h 420 0) * (ia_i h 420 1)) ≤ (ia_i h 417 9)
  · replace hm := ia_ifp hm c
    refine gl_M_isWhole_30 ?_ fu_ (ia_i h 420 0) 0 0 h hg hm
    · intro x2 h hg hm
      refine gl_M_isWhole_194 ?_ fu_ x2 0 h hg hm
      · intro x2 h hg hm
        obtain ⟨c11, hm⟩ := ia_gd_some hm
        obtain ⟨rfl, rfl⟩ := Prod.mk.inj (Option.some.inj hm)
        exact hg
  · replace hm := ia_ifn hm c
    refine gl_M_isWhole_30 ?_ fu_ (ia_i h 420 0) 1 0 h hg hm
    · intro x2 h hg hm
      refine gl_M_isWhole_194 ?_ fu_ x2 0 h hg hm
      · intro x2 h hg hm
        obtain ⟨c12, hm⟩ := ia_gd_some hm
        obtain ⟨rfl, rfl⟩ := Prod.mk.inj (Option.some.inj hm)
        exact hg
theorem t_M_isWhole {w : ia_O0} (d : Nat) {h : ia_H} (hg : gd_ w h) {q : (Int32 × ia_H)} (hm : f_M_isWhole h = some q) : ia_Ev (d + 0) mm_M_isWhole [.inr (.inr 417)] h (some (.inl q.1)) q.2 := by
  have gq := g_M_isWhole hg hm
  refine ia_Ev_intro ok_M_isWhole (gd_le hg gq).1 (gd_le hg gq).2 (Nat.le_of_ble_eq_true rfl) (fun K hK hret => ?_)
  obtain ⟨r, h1⟩ := q
  show K 0 [some (.inr (.inr 417)), none, none, none, none, none, none] [] h
  unfold f_M_isWhole at hm
  refine ia_go hK ck_M_isWhole_0 ⟨gk_12 hg pk_417, gr_12_10 hg pk_417, ga_i100 hg (ka_12_10 pk_417) (by decide), gk_12 hg pk_417, gk_12 hg pk_417, gr_12_10 hg pk_417, ga_i100 hg (ka_12_10 pk_417) (by decide), fun c => ?_, fun c => ?_⟩
  · replace hm := ia_ifp hm c
    show K 26 [some (.inr (.inr 417)), some (.inl (ia_i h 420 0)), none, none, none, none, none] [] h
    refine ia_go hK ck_M_isWhole_26 ?_
    show K 30 [some (.inr (.inr 417)), some (.inl (ia_i h 420 0)), some (.inl 0), some (.inl 0), none, none, none] [] h
    refine tl_M_isWhole_30 hK hret ?_ fu_ (ia_i h 420 0) 0 0 h hg hm
    · intro x2 h hg hm
      refine ia_go hK ck_M_isWhole_192 ?_
      show K 194 [some (.inr (.inr 417)), none, some (.inl x2), some (.inl 0), none, none, none] [] h
      refine tl_M_isWhole_194 hK hret ?_ fu_ x2 0 h hg hm
      · intro x2 h hg hm
        refine ia_go hK ck_M_isWhole_269 ?_
        show K 270 [none, none, some (.inl x2), none, none, none, none] [.inl x2] h
        obtain ⟨c11, hm⟩ := ia_gd_some hm
        obtain ⟨rfl, rfl⟩ := Prod.mk.inj (Option.some.inj hm)
        exact hret 270 _ ⟨ia_z1_spec c11, dc_M_isWhole_270⟩
  · replace hm := ia_ifn hm c
    show K 22 [some (.inr (.inr 417)), some (.inl (ia_i h 420 0)), none, none, none, none, none] [] h
    refine ia_go hK ck_M_isWhole_22 ?_
    show K 27 [some (.inr (.inr 417)), some (.inl (ia_i h 420 0)), none, none, none, none, none] [.inl 1] h
    refine ia_go hK ck_M_isWhole_27 ?_
    show K 30 [some (.inr (.inr 417)), some (.inl (ia_i h 420 0)), some (.inl 1), some (.inl 0), none, none, none] [] h
    refine tl_M_isWhole_30 hK hret ?_ fu_ (ia_i h 420 0) 1 0 h hg hm
    · intro x2 h hg hm
      refine ia_go hK ck_M_isWhole_192 ?_
      show K 194 [some (.inr (.inr 417)), none, some (.inl x2), some (.inl 0), none, none, none] [] h
      refine tl_M_isWhole_194 hK hret ?_ fu_ x2 0 h hg hm
      · intro x2 h hg hm
        refine ia_go hK ck_M_isWhole_269 ?_
        show K 270 [none, none, some (.inl x2), none, none, none, none] [.inl x2] h
        obtain ⟨c12, hm⟩ := ia_gd_some hm
        obtain ⟨rfl, rfl⟩ := Prod.mk.inj (Option.some.inj hm)
        exact hret 270 _ ⟨ia_z1_spec c12, dc_M_isWhole_270⟩
