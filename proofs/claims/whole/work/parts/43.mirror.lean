def mm_M_heavier : ia_M := (⟨"IceStreetModel", "heavier", "(I)I"⟩, prog_14_method_121_code, 3, (some .int), 12, false)
theorem ok_M_heavier : ia_mok mm_M_heavier := ⟨by decide +kernel, by decide +kernel, by decide +kernel, by decide +kernel⟩
theorem mk_M_heavier : ia_mkn mm_M_heavier 1 1 := ⟨ia_tb_in (List.mem_of_getElem? (i := 2200) (by decide +kernel)) rfl, ia_tb_in (List.mem_of_getElem? (i := 146) (by decide +kernel)) rfl, by decide +kernel, by decide +kernel, ⟨ia_tb_in (List.mem_of_getElem? (i := 2199) (by decide +kernel)) rfl, ia_tb_in (List.mem_of_getElem? (i := 129) (by decide +kernel)) rfl⟩⟩
theorem ck_M_heavier_0 : ia_cks 12 3 false prog_14_method_121_code 0 [(.iconst (-1), 0, 0, 0, 0), (.istore_n 2, 0, 0, 0, 0), (.aload_n 0, 0, 0, 0, 0), (.iload_n 1, 0, 0, 0, 0), (.putfield 30, 12, 17, 0, 0), (.aload_n 0, 0, 0, 0, 0), (.iconst 0, 0, 0, 0, 0), (.putfield 204, 12, 18, 0, 0)] = true := by decide +kernel
theorem ck_M_heavier_12 : ia_cks 12 3 false prog_14_method_121_code 12 [(.aload_n 0, 0, 0, 0, 0), (.getfield 204, 12, 18, 0, 0), (.bipush 100, 0, 0, 0, 0), (.if_icmp .ge 42, 0, 0, 0, 0)] = true := by decide +kernel
theorem ck_M_heavier_21 : ia_cks 12 3 false prog_14_method_121_code 21 [(.iload_n 2, 0, 0, 0, 0), (.aload_n 0, 0, 0, 0, 0), (.getfield 204, 12, 18, 0, 0), (.iconst 1, 0, 0, 0, 0), (.isub, 0, 0, 0, 0), (.if_icmp .ne 32, 0, 0, 0, 0)] = true := by decide +kernel
theorem ck_M_heavier_31 : ia_cks 12 3 false prog_14_method_121_code 31 [(.aload_n 0, 0, 0, 0, 0)] = true := by decide +kernel
theorem ck_M_heavier_35 : ia_cks 12 3 false prog_14_method_121_code 35 [(.ifCond .ge 10, 0, 0, 0, 0)] = true := by decide +kernel
theorem ck_M_heavier_45 : ia_cks 12 3 false prog_14_method_121_code 45 [(.iload_n 2, 0, 0, 0, 0)] = true := by decide +kernel
theorem ck_M_heavier_46 : ia_cks 12 3 false prog_14_method_121_code 46 [(.istore_n 2, 0, 0, 0, 0), (.aload_n 0, 0, 0, 0, 0), (.dup, 0, 0, 0, 0), (.getfield 204, 12, 18, 0, 0), (.iconst 1, 0, 0, 0, 0), (.iadd, 0, 0, 0, 0), (.putfield 204, 12, 18, 0, 0), (.goto (-45), 0, 0, 0, 0)] = true := by decide +kernel
theorem ck_M_heavier_38 : ia_cks 12 3 false prog_14_method_121_code 38 [(.aload_n 0, 0, 0, 0, 0), (.getfield 204, 12, 18, 0, 0), (.goto 4, 0, 0, 0, 0)] = true := by decide +kernel
theorem ck_M_heavier_60 : ia_cks 12 3 false prog_14_method_121_code 60 [(.aload_n 0, 0, 0, 0, 0), (.iconst (-1), 0, 0, 0, 0), (.putfield 30, 12, 17, 0, 0), (.aload_n 0, 0, 0, 0, 0), (.iconst 0, 0, 0, 0, 0), (.putfield 204, 12, 18, 0, 0), (.iload_n 2, 0, 0, 0, 0)] = true := by decide +kernel
theorem dc_M_heavier_32 : decode prog_14_method_121_code 32 = .ok (.invokevirtual 231, 3) := by decide +kernel
theorem dc_M_heavier_71 : decode prog_14_method_121_code 71 = .ok (.ireturn, 1) := by decide +kernel
def j_M_heavier_46 (x1 : Int32) (kr : Int32 → ia_H → Option (Int32 × ia_H)) (k60 : Int32 → ia_H → Option (Int32 × ia_H)) (s0 : Int32) (h : ia_H) : Option (Int32 × ia_H) := kr s0 (ia_wI h 417 18 ((ia_i h 417 18) + 1))
theorem tj_M_heavier_46 {w : ia_O0} {d N1 W1 : Nat} {K : ia_K} (hK : ia_isK (d + 5) mm_M_heavier N1 W1 K) {x1 : Int32} {r : Int32} {h1 : ia_H} (hret : ∀ (pc : Nat) (lv : ia_L), ia_ret mm_M_heavier pc (some (.inl r)) → K pc lv ((some (.inl r)) : Option ia_V).toList h1) {kr : Int32 → ia_H → Option (Int32 × ia_H)} {k60 : Int32 → ia_H → Option (Int32 × ia_H)} (hkr : ∀ (x2 : Int32) (h : ia_H), gd_ w h → kr x2 h = some (r, h1) → K 12 [some (.inr (.inr 417)), none, some (.inl x2)] [] h) (hk60 : ∀ (x2 : Int32) (h : ia_H), gd_ w h → k60 x2 h = some (r, h1) → K 60 [some (.inr (.inr 417)), none, some (.inl x2)] [] h) : ∀ (s0 : Int32) (h : ia_H), gd_ w h → j_M_heavier_46 x1 kr k60 s0 h = some (r, h1) → K 46 [some (.inr (.inr 417)), none, none] [.inl s0] h := by
  intro s0 h hg hm
  unfold j_M_heavier_46 at hm
  refine ia_go hK ck_M_heavier_46 ⟨gk_12 hg pk_417, gk_12 hg pk_417, ?_⟩
  show K 12 [some (.inr (.inr 417)), none, some (.inl s0)] [] (ia_wI h 417 18 ((ia_i h 417 18) + 1))
  exact hkr s0 (ia_wI h 417 18 ((ia_i h 417 18) + 1)) (gd_wI hg (ko_12 pk_417)) hm
theorem gj_M_heavier_46 {w : ia_O0} {x1 : Int32} {r : Int32} {h1 : ia_H} {kr : Int32 → ia_H → Option (Int32 × ia_H)} {k60 : Int32 → ia_H → Option (Int32 × ia_H)} (hkr : ∀ (x2 : Int32) (h : ia_H), gd_ w h → kr x2 h = some (r, h1) → gd_ w h1) (hk60 : ∀ (x2 : Int32) (h : ia_H), gd_ w h → k60 x2 h = some (r, h1) → gd_ w h1) : ∀ (s0 : Int32) (h : ia_H), gd_ w h → j_M_heavier_46 x1 kr k60 s0 h = some (r, h1) → gd_ w h1 := by
  intro s0 h hg hm
  unfold j_M_heavier_46 at hm
  exact hkr s0 (ia_wI h 417 18 ((ia_i h 417 18) + 1)) (gd_wI hg (ko_12 pk_417)) hm
def l_M_heavier_12 (x1 : Int32) (k60 : Int32 → ia_H → Option (Int32 × ia_H)) (n : Nat) (x2 : Int32) (h : ia_H) : Option (Int32 × ia_H) := match n with
  | 0 => none
  | n + 1 => if 100 ≤ (ia_i h 417 18) then (k60 x2 h) else (if x2 = ((ia_i h 417 18) - 1) then ((f_M_firstFalling h).bind fun v1 => (if 0 ≤ v1 then (j_M_heavier_46 x1 (l_M_heavier_12 x1 k60 n) k60 x2 h) else (j_M_heavier_46 x1 (l_M_heavier_12 x1 k60 n) k60 (ia_i h 417 18) h))) else (k60 x2 h))
theorem tl_M_heavier_12 {w : ia_O0} {d N1 W1 : Nat} {K : ia_K} (hK : ia_isK (d + 5) mm_M_heavier N1 W1 K) {x1 : Int32} {r : Int32} {h1 : ia_H} (hret : ∀ (pc : Nat) (lv : ia_L), ia_ret mm_M_heavier pc (some (.inl r)) → K pc lv ((some (.inl r)) : Option ia_V).toList h1) {k60 : Int32 → ia_H → Option (Int32 × ia_H)} (hk60 : ∀ (x2 : Int32) (h : ia_H), gd_ w h → k60 x2 h = some (r, h1) → K 60 [some (.inr (.inr 417)), none, some (.inl x2)] [] h) : ∀ (n : Nat) (x2 : Int32) (h : ia_H), gd_ w h → l_M_heavier_12 x1 k60 n x2 h = some (r, h1) → K 12 [some (.inr (.inr 417)), none, some (.inl x2)] [] h := by
  intro n
  induction n with
  | zero =>
    intro x2 h hg hm
    cases (show (none : Option (Int32 × ia_H)) = some _ from hm)
  | succ n ih =>
    intro x2 h hg hm
    rw [l_M_heavier_12] at hm
    refine ia_go hK ck_M_heavier_12 ⟨gk_12 hg pk_417, fun c => ?_, fun c => ?_⟩
    · replace hm := ia_ifp hm c
      show K 60 [some (.inr (.inr 417)), none, some (.inl x2)] [] h
      exact hk60 x2 h hg hm
    · replace hm := ia_ifn hm c
      show K 21 [some (.inr (.inr 417)), none, some (.inl x2)] [] h
      refine ia_go hK ck_M_heavier_21 ⟨gk_12 hg pk_417, fun c => ?_, fun c => ?_⟩
      · replace hm := ia_ifn hm c
        show K 60 [some (.inr (.inr 417)), none, some (.inl x2)] [] h
        exact hk60 x2 h hg hm
      · replace hm := ia_ifp hm c
        show K 31 [some (.inr (.inr 417)), none, some (.inl x2)] [] h
        refine ia_go hK ck_M_heavier_31 ?_
        show K 32 [some (.inr (.inr 417)), none, some (.inl x2)] [.inr (.inr 417)] h
        obtain ⟨v1, hv1, hm⟩ := ia_bnd hm
        have ev1 := t_M_firstFalling (d + 0) hg hv1
        refine ia_cV hK mk_M_firstFalling lk_12_231 dc_M_heavier_32 417 [] [] rfl rfl (Nat.le_of_ble_eq_true rfl) (by decide) rfl (gk_12 hg pk_417) ev1 ⟨rfl, rfl⟩ ?_
        show K 35 [some (.inr (.inr 417)), none, some (.inl x2)] [.inl v1] h
        refine ia_go hK ck_M_heavier_35 ⟨fun c => ?_, fun c => ?_⟩
        · replace hm := ia_ifp hm c
          show K 45 [some (.inr (.inr 417)), none, some (.inl x2)] [] h
          refine ia_go hK ck_M_heavier_45 ?_
          show K 46 [some (.inr (.inr 417)), none, some (.inl x2)] [.inl x2] h
          refine ia_fg hK (lv' := [some (.inr (.inr 417)), none, none]) ⟨rfl, trivial⟩ ?_
          exact tj_M_heavier_46 hK hret ih hk60 x2 h hg hm
        · replace hm := ia_ifn hm c
          show K 38 [some (.inr (.inr 417)), none, some (.inl x2)] [] h
          refine ia_go hK ck_M_heavier_38 ⟨gk_12 hg pk_417, ?_⟩
          show K 46 [some (.inr (.inr 417)), none, some (.inl x2)] [.inl (ia_i h 417 18)] h
          refine ia_fg hK (lv' := [some (.inr (.inr 417)), none, none]) ⟨rfl, trivial⟩ ?_
          exact tj_M_heavier_46 hK hret ih hk60 (ia_i h 417 18) h hg hm
theorem gl_M_heavier_12 {w : ia_O0} {x1 : Int32} {r : Int32} {h1 : ia_H} {k60 : Int32 → ia_H → Option (Int32 × ia_H)} (hk60 : ∀ (x2 : Int32) (h : ia_H), gd_ w h → k60 x2 h = some (r, h1) → gd_ w h1) : ∀ (n : Nat) (x2 : Int32) (h : ia_H), gd_ w h → l_M_heavier_12 x1 k60 n x2 h = some (r, h1) → gd_ w h1 := by
  intro n
  induction n with
  | zero =>
    intro x2 h hg hm
    cases (show (none : Option (Int32 × ia_H)) = some _ from hm)
  | succ n ih =>
    intro x2 h hg hm
    rw [l_M_heavier_12] at hm
    by_cases c : 100 ≤ (ia_i h 417 18)
    · replace hm := ia_ifp hm c
      exact hk60 x2 h hg hm
    · replace hm := ia_ifn hm c
      by_cases c : x2 = ((ia_i h 417 18) - 1)
      · replace hm := ia_ifp hm c
        obtain ⟨v1, hv1, hm⟩ := ia_bnd hm
        by_cases c : 0 ≤ v1
        · replace hm := ia_ifp hm c
          exact gj_M_heavier_46 ih hk60 x2 h hg hm
        · replace hm := ia_ifn hm c
          exact gj_M_heavier_46 ih hk60 (ia_i h 417 18) h hg hm
      · replace hm := ia_ifn hm c
        exact hk60 x2 h hg hm
def j_M_heavier_60 (x1 : Int32) (x2 : Int32) (h : ia_H) : Option (Int32 × ia_H) := some (x2, ia_wI (ia_wI h 417 17 (-1)) 417 18 0)
theorem tj_M_heavier_60 {w : ia_O0} {d N1 W1 : Nat} {K : ia_K} (hK : ia_isK (d + 5) mm_M_heavier N1 W1 K) {x1 : Int32} {r : Int32} {h1 : ia_H} (hret : ∀ (pc : Nat) (lv : ia_L), ia_ret mm_M_heavier pc (some (.inl r)) → K pc lv ((some (.inl r)) : Option ia_V).toList h1) : ∀ (x2 : Int32) (h : ia_H), gd_ w h → j_M_heavier_60 x1 x2 h = some (r, h1) → K 60 [some (.inr (.inr 417)), none, some (.inl x2)] [] h := by
  intro x2 h hg hm
  unfold j_M_heavier_60 at hm
  refine ia_go hK ck_M_heavier_60 ⟨gk_12 hg pk_417, gk_12 (gd_wI hg (ko_12 pk_417)) pk_417, ?_⟩
  show K 71 [some (.inr (.inr 417)), none, some (.inl x2)] [.inl x2] (ia_wI (ia_wI h 417 17 (-1)) 417 18 0)
  obtain ⟨rfl, rfl⟩ := Prod.mk.inj (Option.some.inj hm)
  exact hret 71 _ dc_M_heavier_71
theorem gj_M_heavier_60 {w : ia_O0} {x1 : Int32} {r : Int32} {h1 : ia_H} : ∀ (x2 : Int32) (h : ia_H), gd_ w h → j_M_heavier_60 x1 x2 h = some (r, h1) → gd_ w h1 := by
  intro x2 h hg hm
  unfold j_M_heavier_60 at hm
  obtain ⟨rfl, rfl⟩ := Prod.mk.inj (Option.some.inj hm)
  exact (gd_wI (gd_wI hg (ko_12 pk_417)) (ko_12 pk_417))
def f_M_heavier (x1 : Int32) (h : ia_H) : Option (Int32 × ia_H) := l_M_heavier_12 x1 (fun x2 h => j_M_heavier_60 x1 x2 h) fu_ (-1) (ia_wI (ia_wI h 417 17 x1) 417 18 0)
theorem g_M_heavier {w : ia_O0} {x1 : Int32} {h : ia_H} (hg : gd_ w h) {q : (Int32 × ia_H)} (hm : f_M_heavier x1 h = some q) : gd_ w q.2 := by
  obtain ⟨r, h1⟩ := q
  unfold f_M_heavier at hm
  refine gl_M_heavier_12 ?_ fu_ (-1) (ia_wI (ia_wI h 417 17 x1) 417 18 0) (gd_wI (gd_wI hg (ko_12 pk_417)) (ko_12 pk_417)) hm
  · intro x2 h hg hm
    exact gj_M_heavier_60 x2 h hg hm
theorem t_M_heavier {w : ia_O0} (d : Nat) {x1 : Int32} {h : ia_H} (hg : gd_ w h) {q : (Int32 × ia_H)} (hm : f_M_heavier x1 h = some q) : ia_Ev (d + 5) mm_M_heavier [.inr (.inr 417), .inl x1] h (some (.inl q.1)) q.2 := by
  have gq := g_M_heavier hg hm
  refine ia_Ev_intro ok_M_heavier (gd_le hg gq).1 (gd_le hg gq).2 (Nat.le_of_ble_eq_true rfl) (fun K hK hret => ?_)
  obtain ⟨r, h1⟩ := q
  show K 0 [some (.inr (.inr 417)), some (.inl x1), none] [] h
  unfold f_M_heavier at hm
  refine ia_go hK ck_M_heavier_0 ⟨gk_12 hg pk_417, gk_12 (gd_wI hg (ko_12 pk_417)) pk_417, ?_⟩
  show K 12 [some (.inr (.inr 417)), some (.inl x1), some (.inl (-1))] [] (ia_wI (ia_wI h 417 17 x1) 417 18 0)
  refine ia_fg hK (lv' := [some (.inr (.inr 417)), none, some (.inl (-1))]) ⟨rfl, rfl, trivial⟩ ?_
  refine tl_M_heavier_12 hK hret ?_ fu_ (-1) (ia_wI (ia_wI h 417 17 x1) 417 18 0) (gd_wI (gd_wI hg (ko_12 pk_417)) (ko_12 pk_417)) hm
  · intro x2 h hg hm
    exact tj_M_heavier_60 hK hret x2 h hg hm
def mm_M_latest : ia_M := (⟨"IceStreetModel", "latest", "(I)I"⟩, prog_14_method_122_code, 4, (some .int), 12, false)
theorem ok_M_latest : ia_mok mm_M_latest := ⟨by decide +kernel, by decide +kernel, by decide +kernel, by decide +kernel⟩
theorem mk_M_latest : ia_mkn mm_M_latest 1 1 := ⟨ia_tb_in (List.mem_of_getElem? (i := 2204) (by decide +kernel)) rfl, ia_tb_in (List.mem_of_getElem? (i := 146) (by decide +kernel)) rfl, by decide +kernel, by decide +kernel, ⟨ia_tb_in (List.mem_of_getElem? (i := 2203) (by decide +kernel)) rfl, ia_tb_in (List.mem_of_getElem? (i := 130) (by decide +kernel)) rfl⟩⟩
theorem ck_M_latest_0 : ia_cks 12 4 false prog_14_method_122_code 0 [(.iconst (-1), 0, 0, 0, 0), (.istore_n 2, 0, 0, 0, 0), (.iconst 0, 0, 0, 0, 0), (.istore_n 3, 0, 0, 0, 0)] = true := by decide +kernel
theorem ck_M_latest_4 : ia_cks 12 4 false prog_14_method_122_code 4 [(.iload_n 3, 0, 0, 0, 0), (.bipush 60, 0, 0, 0, 0), (.if_icmp .gt 23, 0, 0, 0, 0)] = true := by decide +kernel
theorem ck_M_latest_10 : ia_cks 12 4 false prog_14_method_122_code 10 [(.aload_n 0, 0, 0, 0, 0), (.iload_n 1, 0, 0, 0, 0)] = true := by decide +kernel
theorem ck_M_latest_15 : ia_cks 12 4 false prog_14_method_122_code 15 [(.ifCond .eq 5, 0, 0, 0, 0)] = true := by decide +kernel
theorem ck_M_latest_20 : ia_cks 12 4 false prog_14_method_122_code 20 [(.aload_n 0, 0, 0, 0, 0)] = true := by decide +kernel
theorem ck_M_latest_24 : ia_cks 12 4 false prog_14_method_122_code 24 [(.iinc 3 1, 0, 0, 0, 0), (.goto (-23), 0, 0, 0, 0)] = true := by decide +kernel
theorem ck_M_latest_18 : ia_cks 12 4 false prog_14_method_122_code 18 [(.iload_n 3, 0, 0, 0, 0), (.istore_n 2, 0, 0, 0, 0)] = true := by decide +kernel
theorem ck_M_latest_30 : ia_cks 12 4 false prog_14_method_122_code 30 [(.iload_n 2, 0, 0, 0, 0)] = true := by decide +kernel
theorem dc_M_latest_12 : decode prog_14_method_122_code 12 = .ok (.invokevirtual 284, 3) := by decide +kernel
theorem dc_M_latest_21 : decode prog_14_method_122_code 21 = .ok (.invokevirtual 290, 3) := by decide +kernel
theorem dc_M_latest_31 : decode prog_14_method_122_code 31 = .ok (.ireturn, 1) := by decide +kernel
def j_M_latest_20 (x1 : Int32) (kr : Int32 → Int32 → ia_H → Option (Int32 × ia_H)) (k30 : Int32 → ia_H → Option (Int32 × ia_H)) (x2 : Int32) (x3 : Int32) (h : ia_H) : Option (Int32 × ia_H) := (f_M_aDay h).bind fun v2 => (kr x2 (x3 + 1) v2)
theorem tj_M_latest_20 {w : ia_O0} {d N1 W1 : Nat} {K : ia_K} (hK : ia_isK (d + 8) mm_M_latest N1 W1 K) {x1 : Int32} {r : Int32} {h1 : ia_H} (hret : ∀ (pc : Nat) (lv : ia_L), ia_ret mm_M_latest pc (some (.inl r)) → K pc lv ((some (.inl r)) : Option ia_V).toList h1) {kr : Int32 → Int32 → ia_H → Option (Int32 × ia_H)} {k30 : Int32 → ia_H → Option (Int32 × ia_H)} (hkr : ∀ (x2 : Int32) (x3 : Int32) (h : ia_H), gd_ w h → kr x2 x3 h = some (r, h1) → K 4 [some (.inr (.inr 417)), some (.inl x1), some (.inl x2), some (.inl x3)] [] h) (hk30 : ∀ (x2 : Int32) (h : ia_H), gd_ w h → k30 x2 h = some (r, h1) → K 30 [none, none, some (.inl x2), none] [] h) : ∀ (x2 : Int32) (x3 : Int32) (h : ia_H), gd_ w h → j_M_latest_20 x1 kr k30 x2 x3 h = some (r, h1) → K 20 [some (.inr (.inr 417)), some (.inl x1), some (.inl x2), some (.inl x3)] [] h := by
  intro x2 x3 h hg hm
  unfold j_M_latest_20 at hm
  refine ia_go hK ck_M_latest_20 ?_
  show K 21 [some (.inr (.inr 417)), some (.inl x1), some (.inl x2), some (.inl x3)] [.inr (.inr 417)] h
  obtain ⟨v2, hv2, hm⟩ := ia_bnd hm
  have ev2 := t_M_aDay (d + 0) hg hv2
  have gv2 := g_M_aDay hg hv2
  refine ia_cV hK mk_M_aDay lk_12_290 dc_M_latest_21 417 [] [] rfl rfl (Nat.le_of_ble_eq_true rfl) (by decide) rfl (gk_12 hg pk_417) ev2 (gd_nm hg gv2) ?_
  show K 24 [some (.inr (.inr 417)), some (.inl x1), some (.inl x2), some (.inl x3)] [] v2
  refine ia_go hK ck_M_latest_24 ?_
  show K 4 [some (.inr (.inr 417)), some (.inl x1), some (.inl x2), some (.inl (x3 + 1))] [] v2
  exact hkr x2 (x3 + 1) v2 gv2 hm
theorem gj_M_latest_20 {w : ia_O0} {x1 : Int32} {r : Int32} {h1 : ia_H} {kr : Int32 → Int32 → ia_H → Option (Int32 × ia_H)} {k30 : Int32 → ia_H → Option (Int32 × ia_H)} (hkr : ∀ (x2 : Int32) (x3 : Int32) (h : ia_H), gd_ w h → kr x2 x3 h = some (r, h1) → gd_ w h1) (hk30 : ∀ (x2 : Int32) (h : ia_H), gd_ w h → k30 x2 h = some (r, h1) → gd_ w h1) : ∀ (x2 : Int32) (x3 : Int32) (h : ia_H), gd_ w h → j_M_latest_20 x1 kr k30 x2 x3 h = some (r, h1) → gd_ w h1 := by
  intro x2 x3 h hg hm
  unfold j_M_latest_20 at hm
  obtain ⟨v2, hv2, hm⟩ := ia_bnd hm
  have gv2 := g_M_aDay hg hv2
  exact hkr x2 (x3 + 1) v2 gv2 hm
def l_M_latest_4 (x1 : Int32) (k30 : Int32 → ia_H → Option (Int32 × ia_H)) (n : Nat) (x2 : Int32) (x3 : Int32) (h : ia_H) : Option (Int32 × ia_H) := match n with
  | 0 => none
  | n + 1 => if 60 < x3 then (k30 x2 h) else ((f_M_canGoOff x1 h).bind fun v1 => (if v1.1 = 0 then (j_M_latest_20 x1 (l_M_latest_4 x1 k30 n) k30 x2 x3 v1.2) else (j_M_latest_20 x1 (l_M_latest_4 x1 k30 n) k30 x3 x3 v1.2)))
theorem tl_M_latest_4 {w : ia_O0} {d N1 W1 : Nat} {K : ia_K} (hK : ia_isK (d + 8) mm_M_latest N1 W1 K) {x1 : Int32} {r : Int32} {h1 : ia_H} (hret : ∀ (pc : Nat) (lv : ia_L), ia_ret mm_M_latest pc (some (.inl r)) → K pc lv ((some (.inl r)) : Option ia_V).toList h1) {k30 : Int32 → ia_H → Option (Int32 × ia_H)} (hk30 : ∀ (x2 : Int32) (h : ia_H), gd_ w h → k30 x2 h = some (r, h1) → K 30 [none, none, some (.inl x2), none] [] h) : ∀ (n : Nat) (x2 : Int32) (x3 : Int32) (h : ia_H), gd_ w h → l_M_latest_4 x1 k30 n x2 x3 h = some (r, h1) → K 4 [some (.inr (.inr 417)), some (.inl x1), some (.inl x2), some (.inl x3)] [] h := by
  intro n
  induction n with
  | zero =>
    intro x2 x3 h hg hm
    cases (show (none : Option (Int32 × ia_H)) = some _ from hm)
  | succ n ih =>
    intro x2 x3 h hg hm
    rw [l_M_latest_4] at hm
    refine ia_go hK ck_M_latest_4 ⟨fun c => ?_, fun c => ?_⟩
    · replace hm := ia_ifp hm c
      show K 30 [some (.inr (.inr 417)), some (.inl x1), some (.inl x2), some (.inl x3)] [] h
      refine ia_fg hK (lv' := [none, none, some (.inl x2), none]) ⟨rfl, trivial⟩ ?_
      exact hk30 x2 h hg hm
    · replace hm := ia_ifn hm c
      show K 10 [some (.inr (.inr 417)), some (.inl x1), some (.inl x2), some (.inl x3)] [] h
      refine ia_go hK ck_M_latest_10 ?_
      show K 12 [some (.inr (.inr 417)), some (.inl x1), some (.inl x2), some (.inl x3)] [.inl x1, .inr (.inr 417)] h
      obtain ⟨v1, hv1, hm⟩ := ia_bnd hm
      have ev1 := t_M_canGoOff (d + 0) hg hv1
      have gv1 := g_M_canGoOff hg hv1
      refine ia_cV hK mk_M_canGoOff lk_12_284 dc_M_latest_12 417 [.inl x1] [] rfl rfl (Nat.le_of_ble_eq_true rfl) (by decide) rfl (gk_12 hg pk_417) ev1 (gd_nm hg gv1) ?_
      show K 15 [some (.inr (.inr 417)), some (.inl x1), some (.inl x2), some (.inl x3)] [.inl v1.1] v1.2
      refine ia_go hK ck_M_latest_15 ⟨fun c => ?_, fun c => ?_⟩
      · replace hm := ia_ifp hm c
        show K 20 [some (.inr (.inr 417)), some (.inl x1), some (.inl x2), some (.inl x3)] [] v1.2
        exact tj_M_latest_20 hK hret ih hk30 x2 x3 v1.2 gv1 hm
      · replace hm := ia_ifn hm c
        show K 18 [some (.inr (.inr 417)), some (.inl x1), some (.inl x2), some (.inl x3)] [] v1.2
        refine ia_go hK ck_M_latest_18 ?_
        show K 20 [some (.inr (.inr 417)), some (.inl x1), some (.inl x3), some (.inl x3)] [] v1.2
        exact tj_M_latest_20 hK hret ih hk30 x3 x3 v1.2 gv1 hm
theorem gl_M_latest_4 {w : ia_O0} {x1 : Int32} {r : Int32} {h1 : ia_H} {k30 : Int32 → ia_H → Option (Int32 × ia_H)} (hk30 : ∀ (x2 : Int32) (h : ia_H), gd_ w h → k30 x2 h = some (r, h1) → gd_ w h1) : ∀ (n : Nat) (x2 : Int32) (x3 : Int32) (h : ia_H), gd_ w h → l_M_latest_4 x1 k30 n x2 x3 h = some (r, h1) → gd_ w h1 := by
  intro n
  induction n with
  | zero =>
    intro x2 x3 h hg hm
    cases (show (none : Option (Int32 × ia_H)) = some _ from hm)
  | succ n ih =>
    intro x2 x3 h hg hm
    rw [l_M_latest_4] at hm
    by_cases c : 60 < x3
    · replace hm := ia_ifp hm c
      exact hk30 x2 h hg hm
    · replace hm := ia_ifn hm c
      obtain ⟨v1, hv1, hm⟩ := ia_bnd hm
      have gv1 := g_M_canGoOff hg hv1
      by_cases c : v1.1 = 0
      · replace hm := ia_ifp hm c
        exact gj_M_latest_20 ih hk30 x2 x3 v1.2 gv1 hm
      · replace hm := ia_ifn hm c
        exact gj_M_latest_20 ih hk30 x3 x3 v1.2 gv1 hm
def f_M_latest (x1 : Int32) (h : ia_H) : Option (Int32 × ia_H) := l_M_latest_4 x1 (fun x2 h => some (x2, h)) fu_ (-1) 0 h
theorem g_M_latest {w : ia_O0} {x1 : Int32} {h : ia_H} (hg : gd_ w h) {q : (Int32 × ia_H)} (hm : f_M_latest x1 h = some q) : gd_ w q.2 := by
  obtain ⟨r, h1⟩ := q
  unfold f_M_latest at hm
  refine gl_M_latest_4 ?_ fu_ (-1) 0 h hg hm
  · intro x2 h hg hm
    obtain ⟨rfl, rfl⟩ := Prod.mk.inj (Option.some.inj hm)
    exact hg
theorem t_M_latest {w : ia_O0} (d : Nat) {x1 : Int32} {h : ia_H} (hg : gd_ w h) {q : (Int32 × ia_H)} (hm : f_M_latest x1 h = some q) : ia_Ev (d + 8) mm_M_latest [.inr (.inr 417), .inl x1] h (some (.inl q.1)) q.2 := by
  have gq := g_M_latest hg hm
  refine ia_Ev_intro ok_M_latest (gd_le hg gq).1 (gd_le hg gq).2 (Nat.le_of_ble_eq_true rfl) (fun K hK hret => ?_)
  obtain ⟨r, h1⟩ := q
  show K 0 [some (.inr (.inr 417)), some (.inl x1), none, none] [] h
  unfold f_M_latest at hm
  refine ia_go hK ck_M_latest_0 ?_
  show K 4 [some (.inr (.inr 417)), some (.inl x1), some (.inl (-1)), some (.inl 0)] [] h
  refine tl_M_latest_4 hK hret ?_ fu_ (-1) 0 h hg hm
  · intro x2 h hg hm
    refine ia_go hK ck_M_latest_30 ?_
    show K 31 [none, none, some (.inl x2), none] [.inl x2] h
    obtain ⟨rfl, rfl⟩ := Prod.mk.inj (Option.some.inj hm)
    exact hret 31 _ dc_M_latest_31
def mm_M_shopping : ia_M := (⟨"IceStreetModel", "shopping", "(IIIIII)I"⟩, prog_14_method_123_code, 7, (some .int), 12, false)
theorem ok_M_shopping : ia_mok mm_M_shopping := ⟨by decide +kernel, by decide +kernel, by decide +kernel, by decide +kernel⟩
theorem mk_M_shopping : ia_mkn mm_M_shopping 1 6 := ⟨ia_tb_in (List.mem_of_getElem? (i := 2192) (by decide +kernel)) rfl, ia_tb_in (List.mem_of_getElem? (i := 146) (by decide +kernel)) rfl, by decide +kernel, by decide +kernel, ⟨ia_tb_in (List.mem_of_getElem? (i := 2190) (by decide +kernel)) rfl, ia_tb_in (List.mem_of_getElem? (i := 2191) (by decide +kernel)) rfl⟩⟩
theorem ck_M_shopping_0 : ia_cks 12 7 false prog_14_method_123_code 0 [(.iload 6, 0, 0, 0, 0), (.iconst 0, 0, 0, 0, 0), (.iconst 2, 0, 0, 0, 0)] = true := by decide +kernel
theorem ck_M_shopping_7 : ia_cks 12 7 false prog_14_method_123_code 7 [(.ifCond .eq 17, 0, 0, 0, 0)] = true := by decide +kernel
theorem ck_M_shopping_24 : ia_cks 12 7 false prog_14_method_123_code 24 [(.iconst (-1), 0, 0, 0, 0)] = true := by decide +kernel
theorem ck_M_shopping_10 : ia_cks 12 7 false prog_14_method_123_code 10 [(.aload_n 0, 0, 0, 0, 0), (.iload_n 1, 0, 0, 0, 0), (.iload_n 2, 0, 0, 0, 0), (.iload_n 3, 0, 0, 0, 0), (.iload 4, 0, 0, 0, 0), (.iload 5, 0, 0, 0, 0)] = true := by decide +kernel
theorem ck_M_shopping_21 : ia_cks 12 7 false prog_14_method_123_code 21 [(.ifCond .ne 5, 0, 0, 0, 0)] = true := by decide +kernel
theorem ck_M_shopping_26 : ia_cks 12 7 false prog_14_method_123_code 26 [(.aload_n 0, 0, 0, 0, 0), (.iconst 0, 0, 0, 0, 0), (.iconst 1, 0, 0, 0, 0)] = true := by decide +kernel
theorem ck_M_shopping_32 : ia_cks 12 7 false prog_14_method_123_code 32 [(.iload 6, 0, 0, 0, 0), (.ifCond .ne 12, 0, 0, 0, 0)] = true := by decide +kernel
theorem ck_M_shopping_46 : ia_cks 12 7 false prog_14_method_123_code 46 [(.iload 6, 0, 0, 0, 0), (.iconst 1, 0, 0, 0, 0), (.if_icmp .ne 12, 0, 0, 0, 0)] = true := by decide +kernel
theorem ck_M_shopping_61 : ia_cks 12 7 false prog_14_method_123_code 61 [(.aload_n 0, 0, 0, 0, 0), (.iload 5, 0, 0, 0, 0)] = true := by decide +kernel
theorem ck_M_shopping_52 : ia_cks 12 7 false prog_14_method_123_code 52 [(.aload_n 0, 0, 0, 0, 0), (.iload 5, 0, 0, 0, 0)] = true := by decide +kernel
theorem ck_M_shopping_58 : ia_cks 12 7 false prog_14_method_123_code 58 [(.goto 9, 0, 0, 0, 0)] = true := by decide +kernel
theorem ck_M_shopping_37 : ia_cks 12 7 false prog_14_method_123_code 37 [(.aload_n 0, 0, 0, 0, 0), (.iload 5, 0, 0, 0, 0)] = true := by decide +kernel
theorem ck_M_shopping_43 : ia_cks 12 7 false prog_14_method_123_code 43 [(.goto 24, 0, 0, 0, 0)] = true := by decide +kernel
theorem dc_M_shopping_4 : decode prog_14_method_123_code 4 = .ok (.invokestatic 116, 3) := by decide +kernel
theorem dc_M_shopping_25 : decode prog_14_method_123_code 25 = .ok (.ireturn, 1) := by decide +kernel
theorem dc_M_shopping_18 : decode prog_14_method_123_code 18 = .ok (.invokevirtual 356, 3) := by decide +kernel
theorem dc_M_shopping_29 : decode prog_14_method_123_code 29 = .ok (.invokevirtual 365, 3) := by decide +kernel
theorem dc_M_shopping_64 : decode prog_14_method_123_code 64 = .ok (.invokevirtual 420, 3) := by decide +kernel
theorem dc_M_shopping_67 : decode prog_14_method_123_code 67 = .ok (.ireturn, 1) := by decide +kernel
theorem dc_M_shopping_55 : decode prog_14_method_123_code 55 = .ok (.invokevirtual 417, 3) := by decide +kernel
theorem dc_M_shopping_40 : decode prog_14_method_123_code 40 = .ok (.invokevirtual 414, 3) := by decide +kernel
def f_M_shopping (x1 : Int32) (x2 : Int32) (x3 : Int32) (x4 : Int32) (x5 : Int32) (x6 : Int32) (h : ia_H) : Option (Int32 × ia_H) := (f_M_isIn x6 0 2 h).bind fun v1 => (if v1 = 0 then (some ((-1), h)) else ((f_M_isStanding x1 x2 x3 x4 x5 h).bind fun v2 => (if v2.1 = 0 then (some ((-1), v2.2)) else ((f_M_copies 0 1 v2.2).bind fun v3 => (if x6 = 0 then ((f_M_swept x5 v3).bind fun v6 => (some (v6.1, v6.2))) else (if x6 = 1 then ((f_M_heavier x5 v3).bind fun v5 => (some (v5.1, v5.2))) else ((f_M_latest x5 v3).bind fun v4 => (some (v4.1, v4.2)))))))))
theorem g_M_shopping {w : ia_O0} {x1 : Int32} {x2 : Int32} {x3 : Int32} {x4 : Int32} {x5 : Int32} {x6 : Int32} {h : ia_H} (hg : gd_ w h) {q : (Int32 × ia_H)} (hm : f_M_shopping x1 x2 x3 x4 x5 x6 h = some q) : gd_ w q.2 := by
  obtain ⟨r, h1⟩ := q
  unfold f_M_shopping at hm
  obtain ⟨v1, hv1, hm⟩ := ia_bnd hm
  by_cases c : v1 = 0
  · replace hm := ia_ifp hm c
    obtain ⟨rfl, rfl⟩ := Prod.mk.inj (Option.some.inj hm)
    exact hg
  · replace hm := ia_ifn hm c
    obtain ⟨v2, hv2, hm⟩ := ia_bnd hm
    have gv2 := g_M_isStanding hg hv2
    by_cases c : v2.1 = 0
    · replace hm := ia_ifp hm c
      obtain ⟨rfl, rfl⟩ := Prod.mk.inj (Option.some.inj hm)
      exact gv2
    · replace hm := ia_ifn hm c
      obtain ⟨v3, hv3, hm⟩ := ia_bnd hm
      have gv3 := g_M_copies gv2 hv3
      by_cases c : x6 = 0
      · replace hm := ia_ifp hm c
        obtain ⟨v6, hv6, hm⟩ := ia_bnd hm
        have gv6 := g_M_swept gv3 hv6
        obtain ⟨rfl, rfl⟩ := Prod.mk.inj (Option.some.inj hm)
        exact gv6
      · replace hm := ia_ifn hm c
        by_cases c : x6 = 1
        · replace hm := ia_ifp hm c
          obtain ⟨v5, hv5, hm⟩ := ia_bnd hm
          have gv5 := g_M_heavier gv3 hv5
          obtain ⟨rfl, rfl⟩ := Prod.mk.inj (Option.some.inj hm)
          exact gv5
        · replace hm := ia_ifn hm c
          obtain ⟨v4, hv4, hm⟩ := ia_bnd hm
          have gv4 := g_M_latest gv3 hv4
          obtain ⟨rfl, rfl⟩ := Prod.mk.inj (Option.some.inj hm)
          exact gv4
theorem t_M_shopping {w : ia_O0} (d : Nat) {x1 : Int32} {x2 : Int32} {x3 : Int32} {x4 : Int32} {x5 : Int32} {x6 : Int32} {h : ia_H} (hg : gd_ w h) {q : (Int32 × ia_H)} (hm : f_M_shopping x1 x2 x3 x4 x5 x6 h = some q) : ia_Ev (d + 12) mm_M_shopping [.inr (.inr 417), .inl x1, .inl x2, .inl x3, .inl x4, .inl x5, .inl x6] h (some (.inl q.1)) q.2 := by
  have gq := g_M_shopping hg hm
  refine ia_Ev_intro ok_M_shopping (gd_le hg gq).1 (gd_le hg gq).2 (Nat.le_of_ble_eq_true rfl) (fun K hK hret => ?_)
  obtain ⟨r, h1⟩ := q
  show K 0 [some (.inr (.inr 417)), some (.inl x1), some (.inl x2), some (.inl x3), some (.inl x4), some (.inl x5), some (.inl x6)] [] h
  unfold f_M_shopping at hm
  refine ia_go hK ck_M_shopping_0 ?_
  show K 4 [some (.inr (.inr 417)), some (.inl x1), some (.inl x2), some (.inl x3), some (.inl x4), some (.inl x5), some (.inl x6)] [.inl 2, .inl 0, .inl x6] h
  obtain ⟨v1, hv1, hm⟩ := ia_bnd hm
  have ev1 := t_M_isIn (d + 11) hg hv1
  refine ia_cS hK mk_M_isIn lk_12_116 dc_M_shopping_4 [.inl x6, .inl 0, .inl 2] [] rfl rfl (Nat.le_of_ble_eq_true rfl) ev1 ⟨rfl, rfl⟩ ?_
  show K 7 [some (.inr (.inr 417)), some (.inl x1), some (.inl x2), some (.inl x3), some (.inl x4), some (.inl x5), some (.inl x6)] [.inl v1] h
  refine ia_go hK ck_M_shopping_7 ⟨fun c => ?_, fun c => ?_⟩
  · replace hm := ia_ifp hm c
    show K 24 [some (.inr (.inr 417)), some (.inl x1), some (.inl x2), some (.inl x3), some (.inl x4), some (.inl x5), some (.inl x6)] [] h
    refine ia_go hK ck_M_shopping_24 ?_
    show K 25 [some (.inr (.inr 417)), some (.inl x1), some (.inl x2), some (.inl x3), some (.inl x4), some (.inl x5), some (.inl x6)] [.inl (-1)] h
    obtain ⟨rfl, rfl⟩ := Prod.mk.inj (Option.some.inj hm)
    exact hret 25 _ dc_M_shopping_25
  · replace hm := ia_ifn hm c
    show K 10 [some (.inr (.inr 417)), some (.inl x1), some (.inl x2), some (.inl x3), some (.inl x4), some (.inl x5), some (.inl x6)] [] h
    refine ia_go hK ck_M_shopping_10 ?_
    show K 18 [some (.inr (.inr 417)), some (.inl x1), some (.inl x2), some (.inl x3), some (.inl x4), some (.inl x5), some (.inl x6)] [.inl x5, .inl x4, .inl x3, .inl x2, .inl x1, .inr (.inr 417)] h
    obtain ⟨v2, hv2, hm⟩ := ia_bnd hm
    have ev2 := t_M_isStanding (d + 0) hg hv2
    have gv2 := g_M_isStanding hg hv2
    refine ia_cV hK mk_M_isStanding lk_12_356 dc_M_shopping_18 417 [.inl x1, .inl x2, .inl x3, .inl x4, .inl x5] [] rfl rfl (Nat.le_of_ble_eq_true rfl) (by decide) rfl (gk_12 hg pk_417) ev2 (gd_nm hg gv2) ?_
    show K 21 [some (.inr (.inr 417)), some (.inl x1), some (.inl x2), some (.inl x3), some (.inl x4), some (.inl x5), some (.inl x6)] [.inl v2.1] v2.2
    refine ia_go hK ck_M_shopping_21 ⟨fun c => ?_, fun c => ?_⟩
    · replace hm := ia_ifn hm c
      show K 26 [some (.inr (.inr 417)), some (.inl x1), some (.inl x2), some (.inl x3), some (.inl x4), some (.inl x5), some (.inl x6)] [] v2.2
      refine ia_go hK ck_M_shopping_26 ?_
      show K 29 [some (.inr (.inr 417)), some (.inl x1), some (.inl x2), some (.inl x3), some (.inl x4), some (.inl x5), some (.inl x6)] [.inl 1, .inl 0, .inr (.inr 417)] v2.2
      obtain ⟨v3, hv3, hm⟩ := ia_bnd hm
      have ev3 := t_M_copies (d + 11) gv2 hv3
      have gv3 := g_M_copies gv2 hv3
      refine ia_cV hK mk_M_copies lk_12_365 dc_M_shopping_29 417 [.inl 0, .inl 1] [] rfl rfl (Nat.le_of_ble_eq_true rfl) (by decide) rfl (gk_12 gv2 pk_417) ev3 (gd_nm gv2 gv3) ?_
      show K 32 [some (.inr (.inr 417)), some (.inl x1), some (.inl x2), some (.inl x3), some (.inl x4), some (.inl x5), some (.inl x6)] [] v3
      refine ia_go hK ck_M_shopping_32 ⟨fun c => ?_, fun c => ?_⟩
      · replace hm := ia_ifn hm c
        show K 46 [some (.inr (.inr 417)), some (.inl x1), some (.inl x2), some (.inl x3), some (.inl x4), some (.inl x5), some (.inl x6)] [] v3
        refine ia_go hK ck_M_shopping_46 ⟨fun c => ?_, fun c => ?_⟩
        · replace hm := ia_ifn hm c
          show K 61 [some (.inr (.inr 417)), some (.inl x1), some (.inl x2), some (.inl x3), some (.inl x4), some (.inl x5), some (.inl x6)] [] v3
          refine ia_go hK ck_M_shopping_61 ?_
          show K 64 [some (.inr (.inr 417)), some (.inl x1), some (.inl x2), some (.inl x3), some (.inl x4), some (.inl x5), some (.inl x6)] [.inl x5, .inr (.inr 417)] v3
          obtain ⟨v4, hv4, hm⟩ := ia_bnd hm
          have ev4 := t_M_latest (d + 3) gv3 hv4
          have gv4 := g_M_latest gv3 hv4
          refine ia_cV hK mk_M_latest lk_12_420 dc_M_shopping_64 417 [.inl x5] [] rfl rfl (Nat.le_of_ble_eq_true rfl) (by decide) rfl (gk_12 gv3 pk_417) ev4 (gd_nm gv3 gv4) ?_
          show K 67 [some (.inr (.inr 417)), some (.inl x1), some (.inl x2), some (.inl x3), some (.inl x4), some (.inl x5), some (.inl x6)] [.inl v4.1] v4.2
          obtain ⟨rfl, rfl⟩ := Prod.mk.inj (Option.some.inj hm)
          exact hret 67 _ dc_M_shopping_67
        · replace hm := ia_ifp hm c
          show K 52 [some (.inr (.inr 417)), some (.inl x1), some (.inl x2), some (.inl x3), some (.inl x4), some (.inl x5), some (.inl x6)] [] v3
          refine ia_go hK ck_M_shopping_52 ?_
          show K 55 [some (.inr (.inr 417)), some (.inl x1), some (.inl x2), some (.inl x3), some (.inl x4), some (.inl x5), some (.inl x6)] [.inl x5, .inr (.inr 417)] v3
          obtain ⟨v5, hv5, hm⟩ := ia_bnd hm
          have ev5 := t_M_heavier (d + 6) gv3 hv5
          have gv5 := g_M_heavier gv3 hv5
          refine ia_cV hK mk_M_heavier lk_12_417 dc_M_shopping_55 417 [.inl x5] [] rfl rfl (Nat.le_of_ble_eq_true rfl) (by decide) rfl (gk_12 gv3 pk_417) ev5 (gd_nm gv3 gv5) ?_
          show K 58 [some (.inr (.inr 417)), some (.inl x1), some (.inl x2), some (.inl x3), some (.inl x4), some (.inl x5), some (.inl x6)] [.inl v5.1] v5.2
          refine ia_go hK ck_M_shopping_58 ?_
          show K 67 [some (.inr (.inr 417)), some (.inl x1), some (.inl x2), some (.inl x3), some (.inl x4), some (.inl x5), some (.inl x6)] [.inl v5.1] v5.2
          obtain ⟨rfl, rfl⟩ := Prod.mk.inj (Option.some.inj hm)
          exact hret 67 _ dc_M_shopping_67
      · replace hm := ia_ifp hm c
        show K 37 [some (.inr (.inr 417)), some (.inl x1), some (.inl x2), some (.inl x3), some (.inl x4), some (.inl x5), some (.inl x6)] [] v3
        refine ia_go hK ck_M_shopping_37 ?_
        show K 40 [some (.inr (.inr 417)), some (.inl x1), some (.inl x2), some (.inl x3), some (.inl x4), some (.inl x5), some (.inl x6)] [.inl x5, .inr (.inr 417)] v3
        obtain ⟨v6, hv6, hm⟩ := ia_bnd hm
        have ev6 := t_M_swept (d + 2) gv3 hv6
        have gv6 := g_M_swept gv3 hv6
        refine ia_cV hK mk_M_swept lk_12_414 dc_M_shopping_40 417 [.inl x5] [] rfl rfl (Nat.le_of_ble_eq_true rfl) (by decide) rfl (gk_12 gv3 pk_417) ev6 (gd_nm gv3 gv6) ?_
        show K 43 [some (.inr (.inr 417)), some (.inl x1), some (.inl x2), some (.inl x3), some (.inl x4), some (.inl x5), some (.inl x6)] [.inl v6.1] v6.2
        refine ia_go hK ck_M_shopping_43 ?_
        show K 67 [some (.inr (.inr 417)), some (.inl x1), some (.inl x2), some (.inl x3), some (.inl x4), some (.inl x5), some (.inl x6)] [.inl v6.1] v6.2
        obtain ⟨rfl, rfl⟩ := Prod.mk.inj (Option.some.inj hm)
        exact hret 67 _ dc_M_shopping_67
    · replace hm := ia_ifp hm c
      show K 24 [some (.inr (.inr 417)), some (.inl x1), some (.inl x2), some (.inl x3), some (.inl x4), some (.inl x5), some (.inl x6)] [] v2.2
      refine ia_go hK ck_M_shopping_24 ?_
      show K 25 [some (.inr (.inr 417)), some (.inl x1), some (.inl x2), some (.inl x3), some (.inl x4), some (.inl x5), some (.inl x6)] [.inl (-1)] v2.2
      obtain ⟨rfl, rfl⟩ := Prod.mk.inj (Option.some.inj hm)
      exact hret 25 _ dc_M_shopping_25
def mm_M_cold : ia_M := (⟨"IceStreetModel", "cold", "(IIIIII)I"⟩, prog_14_method_124_code, 9, (some .int), 12, false)
theorem ok_M_cold : ia_mok mm_M_cold := ⟨by decide +kernel, by decide +kernel, by decide +kernel, by decide +kernel⟩
theorem mk_M_cold : ia_mkn mm_M_cold 1 6 := ⟨ia_tb_in (List.mem_of_getElem? (i := 2208) (by decide +kernel)) rfl, ia_tb_in (List.mem_of_getElem? (i := 146) (by decide +kernel)) rfl, by decide +kernel, by decide +kernel, ⟨ia_tb_in (List.mem_of_getElem? (i := 2206) (by decide +kernel)) rfl, ia_tb_in (List.mem_of_getElem? (i := 2207) (by decide +kernel)) rfl⟩⟩
theorem ck_M_cold_0 : ia_cks 12 9 false prog_14_method_124_code 0 [(.iload 6, 0, 0, 0, 0), (.iconst 1, 0, 0, 0, 0), (.bipush 60, 0, 0, 0, 0)] = true := by decide +kernel
theorem ck_M_cold_8 : ia_cks 12 9 false prog_14_method_124_code 8 [(.ifCond .eq 17, 0, 0, 0, 0)] = true := by decide +kernel
theorem ck_M_cold_25 : ia_cks 12 9 false prog_14_method_124_code 25 [(.bipush (-100), 0, 0, 0, 0)] = true := by decide +kernel
theorem ck_M_cold_11 : ia_cks 12 9 false prog_14_method_124_code 11 [(.aload_n 0, 0, 0, 0, 0), (.iload_n 1, 0, 0, 0, 0), (.iload_n 2, 0, 0, 0, 0), (.iload_n 3, 0, 0, 0, 0), (.iload 4, 0, 0, 0, 0), (.iload 5, 0, 0, 0, 0)] = true := by decide +kernel
theorem ck_M_cold_22 : ia_cks 12 9 false prog_14_method_124_code 22 [(.ifCond .ne 6, 0, 0, 0, 0)] = true := by decide +kernel
theorem ck_M_cold_28 : ia_cks 12 9 false prog_14_method_124_code 28 [(.aload_n 0, 0, 0, 0, 0), (.iconst 0, 0, 0, 0, 0), (.iconst 1, 0, 0, 0, 0)] = true := by decide +kernel
theorem ck_M_cold_34 : ia_cks 12 9 false prog_14_method_124_code 34 [(.bipush (-20), 0, 0, 0, 0), (.istore 7, 0, 0, 0, 0)] = true := by decide +kernel
theorem ck_M_cold_38 : ia_cks 12 9 false prog_14_method_124_code 38 [(.iload 7, 0, 0, 0, 0), (.bipush 20, 0, 0, 0, 0), (.if_icmp .gt 58, 0, 0, 0, 0)] = true := by decide +kernel
theorem ck_M_cold_45 : ia_cks 12 9 false prog_14_method_124_code 45 [(.aload_n 0, 0, 0, 0, 0), (.iconst 1, 0, 0, 0, 0), (.iconst 0, 0, 0, 0, 0)] = true := by decide +kernel
theorem ck_M_cold_51 : ia_cks 12 9 false prog_14_method_124_code 51 [(.iconst 0, 0, 0, 0, 0), (.istore 8, 0, 0, 0, 0)] = true := by decide +kernel
theorem ck_M_cold_54 : ia_cks 12 9 false prog_14_method_124_code 54 [(.iload 8, 0, 0, 0, 0), (.iload 6, 0, 0, 0, 0), (.if_icmp .ge 24, 0, 0, 0, 0)] = true := by decide +kernel
theorem ck_M_cold_61 : ia_cks 12 9 false prog_14_method_124_code 61 [(.aload_n 0, 0, 0, 0, 0), (.iload 5, 0, 0, 0, 0)] = true := by decide +kernel
theorem ck_M_cold_67 : ia_cks 12 9 false prog_14_method_124_code 67 [(.ifCond .eq 15, 0, 0, 0, 0)] = true := by decide +kernel
theorem ck_M_cold_70 : ia_cks 12 9 false prog_14_method_124_code 70 [(.aload_n 0, 0, 0, 0, 0), (.iload 7, 0, 0, 0, 0)] = true := by decide +kernel
theorem ck_M_cold_76 : ia_cks 12 9 false prog_14_method_124_code 76 [(.iinc 8 1, 0, 0, 0, 0), (.goto (-25), 0, 0, 0, 0)] = true := by decide +kernel
theorem ck_M_cold_82 : ia_cks 12 9 false prog_14_method_124_code 82 [(.aload_n 0, 0, 0, 0, 0), (.iload 5, 0, 0, 0, 0)] = true := by decide +kernel
theorem ck_M_cold_88 : ia_cks 12 9 false prog_14_method_124_code 88 [(.ifCond .eq 6, 0, 0, 0, 0)] = true := by decide +kernel
theorem ck_M_cold_94 : ia_cks 12 9 false prog_14_method_124_code 94 [(.iinc 7 1, 0, 0, 0, 0), (.goto (-59), 0, 0, 0, 0)] = true := by decide +kernel
theorem ck_M_cold_91 : ia_cks 12 9 false prog_14_method_124_code 91 [(.iload 7, 0, 0, 0, 0)] = true := by decide +kernel
theorem ck_M_cold_100 : ia_cks 12 9 false prog_14_method_124_code 100 [(.bipush (-100), 0, 0, 0, 0)] = true := by decide +kernel
theorem dc_M_cold_5 : decode prog_14_method_124_code 5 = .ok (.invokestatic 116, 3) := by decide +kernel
theorem dc_M_cold_27 : decode prog_14_method_124_code 27 = .ok (.ireturn, 1) := by decide +kernel
theorem dc_M_cold_19 : decode prog_14_method_124_code 19 = .ok (.invokevirtual 356, 3) := by decide +kernel
theorem dc_M_cold_31 : decode prog_14_method_124_code 31 = .ok (.invokevirtual 365, 3) := by decide +kernel
theorem dc_M_cold_48 : decode prog_14_method_124_code 48 = .ok (.invokevirtual 365, 3) := by decide +kernel
theorem dc_M_cold_64 : decode prog_14_method_124_code 64 = .ok (.invokevirtual 222, 3) := by decide +kernel
theorem dc_M_cold_73 : decode prog_14_method_124_code 73 = .ok (.invokevirtual 246, 3) := by decide +kernel
theorem dc_M_cold_85 : decode prog_14_method_124_code 85 = .ok (.invokevirtual 222, 3) := by decide +kernel
theorem dc_M_cold_93 : decode prog_14_method_124_code 93 = .ok (.ireturn, 1) := by decide +kernel
theorem dc_M_cold_102 : decode prog_14_method_124_code 102 = .ok (.ireturn, 1) := by decide +kernel
def l_M_cold_54 (x1 : Int32) (x2 : Int32) (x3 : Int32) (x4 : Int32) (x5 : Int32) (x6 : Int32) (k82 : Int32 → ia_H → Option (Int32 × ia_H)) (n : Nat) (x7 : Int32) (x8 : Int32) (h : ia_H) : Option (Int32 × ia_H) := match n with
  | 0 => none
  | n + 1 => if x6 ≤ x8 then (k82 x7 h) else ((f_M_stands x5 h).bind fun v5 => (if v5 = 0 then (k82 x7 h) else ((f_M_passDay x7 h).bind fun v6 => (l_M_cold_54 x1 x2 x3 x4 x5 x6 k82 n x7 (x8 + 1) v6))))
theorem tl_M_cold_54 {w : ia_O0} {d N1 W1 : Nat} {K : ia_K} (hK : ia_isK (d + 12) mm_M_cold N1 W1 K) {x1 : Int32} {x2 : Int32} {x3 : Int32} {x4 : Int32} {x5 : Int32} {x6 : Int32} {r : Int32} {h1 : ia_H} (hret : ∀ (pc : Nat) (lv : ia_L), ia_ret mm_M_cold pc (some (.inl r)) → K pc lv ((some (.inl r)) : Option ia_V).toList h1) {k82 : Int32 → ia_H → Option (Int32 × ia_H)} (hk82 : ∀ (x7 : Int32) (h : ia_H), gd_ w h → k82 x7 h = some (r, h1) → K 82 [some (.inr (.inr 417)), none, none, none, none, some (.inl x5), some (.inl x6), some (.inl x7), none] [] h) : ∀ (n : Nat) (x7 : Int32) (x8 : Int32) (h : ia_H), gd_ w h → l_M_cold_54 x1 x2 x3 x4 x5 x6 k82 n x7 x8 h = some (r, h1) → K 54 [some (.inr (.inr 417)), none, none, none, none, some (.inl x5), some (.inl x6), some (.inl x7), some (.inl x8)] [] h := by
  intro n
  induction n with
  | zero =>
    intro x7 x8 h hg hm
    cases (show (none : Option (Int32 × ia_H)) = some _ from hm)
  | succ n ih =>
    intro x7 x8 h hg hm
    rw [l_M_cold_54] at hm
    refine ia_go hK ck_M_cold_54 ⟨fun c => ?_, fun c => ?_⟩
    · replace hm := ia_ifp hm c
      show K 82 [some (.inr (.inr 417)), none, none, none, none, some (.inl x5), some (.inl x6), some (.inl x7), some (.inl x8)] [] h
      refine ia_fg hK (lv' := [some (.inr (.inr 417)), none, none, none, none, some (.inl x5), some (.inl x6), some (.inl x7), none]) ⟨rfl, rfl, rfl, rfl, trivial⟩ ?_
      exact hk82 x7 h hg hm
    · replace hm := ia_ifn hm c
      show K 61 [some (.inr (.inr 417)), none, none, none, none, some (.inl x5), some (.inl x6), some (.inl x7), some (.inl x8)] [] h
      refine ia_go hK ck_M_cold_61 ?_
      show K 64 [some (.inr (.inr 417)), none, none, none, none, some (.inl x5), some (.inl x6), some (.inl x7), some (.inl x8)] [.inl x5, .inr (.inr 417)] h
      obtain ⟨v5, hv5, hm⟩ := ia_bnd hm
      have ev5 := t_M_stands (d + 9) hg hv5
      refine ia_cV hK mk_M_stands lk_12_222 dc_M_cold_64 417 [.inl x5] [] rfl rfl (Nat.le_of_ble_eq_true rfl) (by decide) rfl (gk_12 hg pk_417) ev5 ⟨rfl, rfl⟩ ?_
      show K 67 [some (.inr (.inr 417)), none, none, none, none, some (.inl x5), some (.inl x6), some (.inl x7), some (.inl x8)] [.inl v5] h
      refine ia_go hK ck_M_cold_67 ⟨fun c => ?_, fun c => ?_⟩
      · replace hm := ia_ifp hm c
        show K 82 [some (.inr (.inr 417)), none, none, none, none, some (.inl x5), some (.inl x6), some (.inl x7), some (.inl x8)] [] h
        refine ia_fg hK (lv' := [some (.inr (.inr 417)), none, none, none, none, some (.inl x5), some (.inl x6), some (.inl x7), none]) ⟨rfl, rfl, rfl, rfl, trivial⟩ ?_
        exact hk82 x7 h hg hm
      · replace hm := ia_ifn hm c
        show K 70 [some (.inr (.inr 417)), none, none, none, none, some (.inl x5), some (.inl x6), some (.inl x7), some (.inl x8)] [] h
        refine ia_go hK ck_M_cold_70 ?_
        show K 73 [some (.inr (.inr 417)), none, none, none, none, some (.inl x5), some (.inl x6), some (.inl x7), some (.inl x8)] [.inl x7, .inr (.inr 417)] h
        obtain ⟨v6, hv6, hm⟩ := ia_bnd hm
        have ev6 := t_M_passDay (d + 5) hg hv6
        have gv6 := g_M_passDay hg hv6
        refine ia_cV hK mk_M_passDay lk_12_246 dc_M_cold_73 417 [.inl x7] [] rfl rfl (Nat.le_of_ble_eq_true rfl) (by decide) rfl (gk_12 hg pk_417) ev6 (gd_nm hg gv6) ?_
        show K 76 [some (.inr (.inr 417)), none, none, none, none, some (.inl x5), some (.inl x6), some (.inl x7), some (.inl x8)] [] v6
        refine ia_go hK ck_M_cold_76 ?_
        show K 54 [some (.inr (.inr 417)), none, none, none, none, some (.inl x5), some (.inl x6), some (.inl x7), some (.inl (x8 + 1))] [] v6
        exact ih x7 (x8 + 1) v6 gv6 hm
theorem gl_M_cold_54 {w : ia_O0} {x1 : Int32} {x2 : Int32} {x3 : Int32} {x4 : Int32} {x5 : Int32} {x6 : Int32} {r : Int32} {h1 : ia_H} {k82 : Int32 → ia_H → Option (Int32 × ia_H)} (hk82 : ∀ (x7 : Int32) (h : ia_H), gd_ w h → k82 x7 h = some (r, h1) → gd_ w h1) : ∀ (n : Nat) (x7 : Int32) (x8 : Int32) (h : ia_H), gd_ w h → l_M_cold_54 x1 x2 x3 x4 x5 x6 k82 n x7 x8 h = some (r, h1) → gd_ w h1 := by
  intro n
  induction n with
  | zero =>
    intro x7 x8 h hg hm
    cases (show (none : Option (Int32 × ia_H)) = some _ from hm)
  | succ n ih =>
    intro x7 x8 h hg hm
    rw [l_M_cold_54] at hm
    by_cases c : x6 ≤ x8
    · replace hm := ia_ifp hm c
      exact hk82 x7 h hg hm
    · replace hm := ia_ifn hm c
      obtain ⟨v5, hv5, hm⟩ := ia_bnd hm
      by_cases c : v5 = 0
      · replace hm := ia_ifp hm c
        exact hk82 x7 h hg hm
      · replace hm := ia_ifn hm c
        obtain ⟨v6, hv6, hm⟩ := ia_bnd hm
        have gv6 := g_M_passDay hg hv6
        exact ih x7 (x8 + 1) v6 gv6 hm
def j_M_cold_82 (x1 : Int32) (x2 : Int32) (x3 : Int32) (x4 : Int32) (x5 : Int32) (x6 : Int32) (kr : Int32 → ia_H → Option (Int32 × ia_H)) (k91 : Int32 → ia_H → Option (Int32 × ia_H)) (k100 : ia_H → Option (Int32 × ia_H)) (x7 : Int32) (h : ia_H) : Option (Int32 × ia_H) := (f_M_stands x5 h).bind fun v7 => (if v7 = 0 then (kr (x7 + 1) h) else (k91 x7 h))
theorem tj_M_cold_82 {w : ia_O0} {d N1 W1 : Nat} {K : ia_K} (hK : ia_isK (d + 12) mm_M_cold N1 W1 K) {x1 : Int32} {x2 : Int32} {x3 : Int32} {x4 : Int32} {x5 : Int32} {x6 : Int32} {r : Int32} {h1 : ia_H} (hret : ∀ (pc : Nat) (lv : ia_L), ia_ret mm_M_cold pc (some (.inl r)) → K pc lv ((some (.inl r)) : Option ia_V).toList h1) {kr : Int32 → ia_H → Option (Int32 × ia_H)} {k91 : Int32 → ia_H → Option (Int32 × ia_H)} {k100 : ia_H → Option (Int32 × ia_H)} (hkr : ∀ (x7 : Int32) (h : ia_H), gd_ w h → kr x7 h = some (r, h1) → K 38 [some (.inr (.inr 417)), none, none, none, none, some (.inl x5), some (.inl x6), some (.inl x7), none] [] h) (hk91 : ∀ (x7 : Int32) (h : ia_H), gd_ w h → k91 x7 h = some (r, h1) → K 91 [none, none, none, none, none, none, none, some (.inl x7), none] [] h) (hk100 : ∀ (h : ia_H), gd_ w h → k100 h = some (r, h1) → K 100 [none, none, none, none, none, none, none, none, none] [] h) : ∀ (x7 : Int32) (h : ia_H), gd_ w h → j_M_cold_82 x1 x2 x3 x4 x5 x6 kr k91 k100 x7 h = some (r, h1) → K 82 [some (.inr (.inr 417)), none, none, none, none, some (.inl x5), some (.inl x6), some (.inl x7), none] [] h := by
  intro x7 h hg hm
  unfold j_M_cold_82 at hm
  refine ia_go hK ck_M_cold_82 ?_
  show K 85 [some (.inr (.inr 417)), none, none, none, none, some (.inl x5), some (.inl x6), some (.inl x7), none] [.inl x5, .inr (.inr 417)] h
  obtain ⟨v7, hv7, hm⟩ := ia_bnd hm
  have ev7 := t_M_stands (d + 9) hg hv7
  refine ia_cV hK mk_M_stands lk_12_222 dc_M_cold_85 417 [.inl x5] [] rfl rfl (Nat.le_of_ble_eq_true rfl) (by decide) rfl (gk_12 hg pk_417) ev7 ⟨rfl, rfl⟩ ?_
  show K 88 [some (.inr (.inr 417)), none, none, none, none, some (.inl x5), some (.inl x6), some (.inl x7), none] [.inl v7] h
  refine ia_go hK ck_M_cold_88 ⟨fun c => ?_, fun c => ?_⟩
  · replace hm := ia_ifp hm c
    show K 94 [some (.inr (.inr 417)), none, none, none, none, some (.inl x5), some (.inl x6), some (.inl x7), none] [] h
    refine ia_go hK ck_M_cold_94 ?_
    show K 38 [some (.inr (.inr 417)), none, none, none, none, some (.inl x5), some (.inl x6), some (.inl (x7 + 1)), none] [] h
    exact hkr (x7 + 1) h hg hm
  · replace hm := ia_ifn hm c
    show K 91 [some (.inr (.inr 417)), none, none, none, none, some (.inl x5), some (.inl x6), some (.inl x7), none] [] h
    refine ia_fg hK (lv' := [none, none, none, none, none, none, none, some (.inl x7), none]) ⟨rfl, trivial⟩ ?_
    exact hk91 x7 h hg hm
theorem gj_M_cold_82 {w : ia_O0} {x1 : Int32} {x2 : Int32} {x3 : Int32} {x4 : Int32} {x5 : Int32} {x6 : Int32} {r : Int32} {h1 : ia_H} {kr : Int32 → ia_H → Option (Int32 × ia_H)} {k91 : Int32 → ia_H → Option (Int32 × ia_H)} {k100 : ia_H → Option (Int32 × ia_H)} (hkr : ∀ (x7 : Int32) (h : ia_H), gd_ w h → kr x7 h = some (r, h1) → gd_ w h1) (hk91 : ∀ (x7 : Int32) (h : ia_H), gd_ w h → k91 x7 h = some (r, h1) → gd_ w h1) (hk100 : ∀ (h : ia_H), gd_ w h → k100 h = some (r, h1) → gd_ w h1) : ∀ (x7 : Int32) (h : ia_H), gd_ w h → j_M_cold_82 x1 x2 x3 x4 x5 x6 kr k91 k100 x7 h = some (r, h1) → gd_ w h1 := by
  intro x7 h hg hm
  unfold j_M_cold_82 at hm
  obtain ⟨v7, hv7, hm⟩ := ia_bnd hm
  by_cases c : v7 = 0
  · replace hm := ia_ifp hm c
    exact hkr (x7 + 1) h hg hm
  · replace hm := ia_ifn hm c
    exact hk91 x7 h hg hm
def l_M_cold_38 (x1 : Int32) (x2 : Int32) (x3 : Int32) (x4 : Int32) (x5 : Int32) (x6 : Int32) (k91 : Int32 → ia_H → Option (Int32 × ia_H)) (k100 : ia_H → Option (Int32 × ia_H)) (n : Nat) (x7 : Int32) (h : ia_H) : Option (Int32 × ia_H) := match n with
  | 0 => none
  | n + 1 => if 20 < x7 then (k100 h) else ((f_M_copies 1 0 h).bind fun v4 => (l_M_cold_54 x1 x2 x3 x4 x5 x6 (fun x7 h => j_M_cold_82 x1 x2 x3 x4 x5 x6 (l_M_cold_38 x1 x2 x3 x4 x5 x6 k91 k100 n) k91 k100 x7 h) fu_ x7 0 v4))
theorem tl_M_cold_38 {w : ia_O0} {d N1 W1 : Nat} {K : ia_K} (hK : ia_isK (d + 12) mm_M_cold N1 W1 K) {x1 : Int32} {x2 : Int32} {x3 : Int32} {x4 : Int32} {x5 : Int32} {x6 : Int32} {r : Int32} {h1 : ia_H} (hret : ∀ (pc : Nat) (lv : ia_L), ia_ret mm_M_cold pc (some (.inl r)) → K pc lv ((some (.inl r)) : Option ia_V).toList h1) {k91 : Int32 → ia_H → Option (Int32 × ia_H)} {k100 : ia_H → Option (Int32 × ia_H)} (hk91 : ∀ (x7 : Int32) (h : ia_H), gd_ w h → k91 x7 h = some (r, h1) → K 91 [none, none, none, none, none, none, none, some (.inl x7), none] [] h) (hk100 : ∀ (h : ia_H), gd_ w h → k100 h = some (r, h1) → K 100 [none, none, none, none, none, none, none, none, none] [] h) : ∀ (n : Nat) (x7 : Int32) (h : ia_H), gd_ w h → l_M_cold_38 x1 x2 x3 x4 x5 x6 k91 k100 n x7 h = some (r, h1) → K 38 [some (.inr (.inr 417)), none, none, none, none, some (.inl x5), some (.inl x6), some (.inl x7), none] [] h := by
  intro n
  induction n with
  | zero =>
    intro x7 h hg hm
    cases (show (none : Option (Int32 × ia_H)) = some _ from hm)
  | succ n ih =>
    intro x7 h hg hm
    rw [l_M_cold_38] at hm
    refine ia_go hK ck_M_cold_38 ⟨fun c => ?_, fun c => ?_⟩
    · replace hm := ia_ifp hm c
      show K 100 [some (.inr (.inr 417)), none, none, none, none, some (.inl x5), some (.inl x6), some (.inl x7), none] [] h
      refine ia_fg hK (lv' := [none, none, none, none, none, none, none, none, none]) trivial ?_
      exact hk100 h hg hm
    · replace hm := ia_ifn hm c
      show K 45 [some (.inr (.inr 417)), none, none, none, none, some (.inl x5), some (.inl x6), some (.inl x7), none] [] h
      refine ia_go hK ck_M_cold_45 ?_
      show K 48 [some (.inr (.inr 417)), none, none, none, none, some (.inl x5), some (.inl x6), some (.inl x7), none] [.inl 0, .inl 1, .inr (.inr 417)] h
      obtain ⟨v4, hv4, hm⟩ := ia_bnd hm
      have ev4 := t_M_copies (d + 11) hg hv4
      have gv4 := g_M_copies hg hv4
      refine ia_cV hK mk_M_copies lk_12_365 dc_M_cold_48 417 [.inl 1, .inl 0] [] rfl rfl (Nat.le_of_ble_eq_true rfl) (by decide) rfl (gk_12 hg pk_417) ev4 (gd_nm hg gv4) ?_
      show K 51 [some (.inr (.inr 417)), none, none, none, none, some (.inl x5), some (.inl x6), some (.inl x7), none] [] v4
      refine ia_go hK ck_M_cold_51 ?_
      show K 54 [some (.inr (.inr 417)), none, none, none, none, some (.inl x5), some (.inl x6), some (.inl x7), some (.inl 0)] [] v4
      refine tl_M_cold_54 hK hret ?_ fu_ x7 0 v4 gv4 hm
      · intro x7 h hg hm
        exact tj_M_cold_82 hK hret ih hk91 hk100 x7 h hg hm
theorem gl_M_cold_38 {w : ia_O0} {x1 : Int32} {x2 : Int32} {x3 : Int32} {x4 : Int32} {x5 : Int32} {x6 : Int32} {r : Int32} {h1 : ia_H} {k91 : Int32 → ia_H → Option (Int32 × ia_H)} {k100 : ia_H → Option (Int32 × ia_H)} (hk91 : ∀ (x7 : Int32) (h : ia_H), gd_ w h → k91 x7 h = some (r, h1) → gd_ w h1) (hk100 : ∀ (h : ia_H), gd_ w h → k100 h = some (r, h1) → gd_ w h1) : ∀ (n : Nat) (x7 : Int32) (h : ia_H), gd_ w h → l_M_cold_38 x1 x2 x3 x4 x5 x6 k91 k100 n x7 h = some (r, h1) → gd_ w h1 := by
  intro n
  induction n with
  | zero =>
    intro x7 h hg hm
    cases (show (none : Option (Int32 × ia_H)) = some _ from hm)
  | succ n ih =>
    intro x7 h hg hm
    rw [l_M_cold_38] at hm
    by_cases c : 20 < x7
    · replace hm := ia_ifp hm c
      exact hk100 h hg hm
    · replace hm := ia_ifn hm c
      obtain ⟨v4, hv4, hm⟩ := ia_bnd hm
      have gv4 := g_M_copies hg hv4
      refine gl_M_cold_54 ?_ fu_ x7 0 v4 gv4 hm
      · intro x7 h hg hm
        exact gj_M_cold_82 ih hk91 hk100 x7 h hg hm
def f_M_cold (x1 : Int32) (x2 : Int32) (x3 : Int32) (x4 : Int32) (x5 : Int32) (x6 : Int32) (h : ia_H) : Option (Int32 × ia_H) := (f_M_isIn x6 1 60 h).bind fun v1 => (if v1 = 0 then (some ((-100), h)) else ((f_M_isStanding x1 x2 x3 x4 x5 h).bind fun v2 => (if v2.1 = 0 then (some ((-100), v2.2)) else ((f_M_copies 0 1 v2.2).bind fun v3 => (l_M_cold_38 x1 x2 x3 x4 x5 x6 (fun x7 h => some (x7, h)) (fun h => some ((-100), h)) fu_ (-20) v3)))))
theorem g_M_cold {w : ia_O0} {x1 : Int32} {x2 : Int32} {x3 : Int32} {x4 : Int32} {x5 : Int32} {x6 : Int32} {h : ia_H} (hg : gd_ w h) {q : (Int32 × ia_H)} (hm : f_M_cold x1 x2 x3 x4 x5 x6 h = some q) : gd_ w q.2 := by
  obtain ⟨r, h1⟩ := q
  unfold f_M_cold at hm
  obtain ⟨v1, hv1, hm⟩ := ia_bnd hm
  by_cases c : v1 = 0
  · replace hm := ia_ifp hm c
    obtain ⟨rfl, rfl⟩ := Prod.mk.inj (Option.some.inj hm)
    exact hg
  · replace hm := ia_ifn hm c
    obtain ⟨v2, hv2, hm⟩ := ia_bnd hm
    have gv2 := g_M_isStanding hg hv2
    by_cases c : v2.1 = 0
    · replace hm := ia_ifp hm c
      obtain ⟨rfl, rfl⟩ := Prod.mk.inj (Option.some.inj hm)
      exact gv2
    · replace hm := ia_ifn hm c
      obtain ⟨v3, hv3, hm⟩ := ia_bnd hm
      have gv3 := g_M_copies gv2 hv3
      refine gl_M_cold_38 ?_ ?_ fu_ (-20) v3 gv3 hm
      · intro x7 h hg hm
        obtain ⟨rfl, rfl⟩ := Prod.mk.inj (Option.some.inj hm)
        exact hg
      · intro h hg hm
        obtain ⟨rfl, rfl⟩ := Prod.mk.inj (Option.some.inj hm)
        exact hg
theorem t_M_cold {w : ia_O0} (d : Nat) {x1 : Int32} {x2 : Int32} {x3 : Int32} {x4 : Int32} {x5 : Int32} {x6 : Int32} {h : ia_H} (hg : gd_ w h) {q : (Int32 × ia_H)} (hm : f_M_cold x1 x2 x3 x4 x5 x6 h = some q) : ia_Ev (d + 12) mm_M_cold [.inr (.inr 417), .inl x1, .inl x2, .inl x3, .inl x4, .inl x5, .inl x6] h (some (.inl q.1)) q.2 := by
  have gq := g_M_cold hg hm
  refine ia_Ev_intro ok_M_cold (gd_le hg gq).1 (gd_le hg gq).2 (Nat.le_of_ble_eq_true rfl) (fun K hK hret => ?_)
  obtain ⟨r, h1⟩ := q
  show K 0 [some (.inr (.inr 417)), some (.inl x1), some (.inl x2), some (.inl x3), some (.inl x4), some (.inl x5), some (.inl x6), none, none] [] h
  unfold f_M_cold at hm
  refine ia_go hK ck_M_cold_0 ?_
  show K 5 [some (.inr (.inr 417)), some (.inl x1), some (.inl x2), some (.inl x3), some (.inl x4), some (.inl x5), some (.inl x6), none, none] [.inl 60, .inl 1, .inl x6] h
  obtain ⟨v1, hv1, hm⟩ := ia_bnd hm
  have ev1 := t_M_isIn (d + 11) hg hv1
  refine ia_cS hK mk_M_isIn lk_12_116 dc_M_cold_5 [.inl x6, .inl 1, .inl 60] [] rfl rfl (Nat.le_of_ble_eq_true rfl) ev1 ⟨rfl, rfl⟩ ?_
  show K 8 [some (.inr (.inr 417)), some (.inl x1), some (.inl x2), some (.inl x3), some (.inl x4), some (.inl x5), some (.inl x6), none, none] [.inl v1] h
  refine ia_go hK ck_M_cold_8 ⟨fun c => ?_, fun c => ?_⟩
  · replace hm := ia_ifp hm c
    show K 25 [some (.inr (.inr 417)), some (.inl x1), some (.inl x2), some (.inl x3), some (.inl x4), some (.inl x5), some (.inl x6), none, none] [] h
    refine ia_go hK ck_M_cold_25 ?_
    show K 27 [some (.inr (.inr 417)), some (.inl x1), some (.inl x2), some (.inl x3), some (.inl x4), some (.inl x5), some (.inl x6), none, none] [.inl (-100)] h
    obtain ⟨rfl, rfl⟩ := Prod.mk.inj (Option.some.inj hm)
    exact hret 27 _ dc_M_cold_27
  · replace hm := ia_ifn hm c
    show K 11 [some (.inr (.inr 417)), some (.inl x1), some (.inl x2), some (.inl x3), some (.inl x4), some (.inl x5), some (.inl x6), none, none] [] h
    refine ia_go hK ck_M_cold_11 ?_
    show K 19 [some (.inr (.inr 417)), some (.inl x1), some (.inl x2), some (.inl x3), some (.inl x4), some (.inl x5), some (.inl x6), none, none] [.inl x5, .inl x4, .inl x3, .inl x2, .inl x1, .inr (.inr 417)] h
    obtain ⟨v2, hv2, hm⟩ := ia_bnd hm
    have ev2 := t_M_isStanding (d + 0) hg hv2
    have gv2 := g_M_isStanding hg hv2
    refine ia_cV hK mk_M_isStanding lk_12_356 dc_M_cold_19 417 [.inl x1, .inl x2, .inl x3, .inl x4, .inl x5] [] rfl rfl (Nat.le_of_ble_eq_true rfl) (by decide) rfl (gk_12 hg pk_417) ev2 (gd_nm hg gv2) ?_
    show K 22 [some (.inr (.inr 417)), some (.inl x1), some (.inl x2), some (.inl x3), some (.inl x4), some (.inl x5), some (.inl x6), none, none] [.inl v2.1] v2.2
    refine ia_go hK ck_M_cold_22 ⟨fun c => ?_, fun c => ?_⟩
    · replace hm := ia_ifn hm c
      show K 28 [some (.inr (.inr 417)), some (.inl x1), some (.inl x2), some (.inl x3), some (.inl x4), some (.inl x5), some (.inl x6), none, none] [] v2.2
      refine ia_go hK ck_M_cold_28 ?_
      show K 31 [some (.inr (.inr 417)), some (.inl x1), some (.inl x2), some (.inl x3), some (.inl x4), some (.inl x5), some (.inl x6), none, none] [.inl 1, .inl 0, .inr (.inr 417)] v2.2
      obtain ⟨v3, hv3, hm⟩ := ia_bnd hm
      have ev3 := t_M_copies (d + 11) gv2 hv3
      have gv3 := g_M_copies gv2 hv3
      refine ia_cV hK mk_M_copies lk_12_365 dc_M_cold_31 417 [.inl 0, .inl 1] [] rfl rfl (Nat.le_of_ble_eq_true rfl) (by decide) rfl (gk_12 gv2 pk_417) ev3 (gd_nm gv2 gv3) ?_
      show K 34 [some (.inr (.inr 417)), some (.inl x1), some (.inl x2), some (.inl x3), some (.inl x4), some (.inl x5), some (.inl x6), none, none] [] v3
      refine ia_go hK ck_M_cold_34 ?_
      show K 38 [some (.inr (.inr 417)), some (.inl x1), some (.inl x2), some (.inl x3), some (.inl x4), some (.inl x5), some (.inl x6), some (.inl (-20)), none] [] v3
      refine ia_fg hK (lv' := [some (.inr (.inr 417)), none, none, none, none, some (.inl x5), some (.inl x6), some (.inl (-20)), none]) ⟨rfl, rfl, rfl, rfl, trivial⟩ ?_
      refine tl_M_cold_38 hK hret ?_ ?_ fu_ (-20) v3 gv3 hm
      · intro x7 h hg hm
        refine ia_go hK ck_M_cold_91 ?_
        show K 93 [none, none, none, none, none, none, none, some (.inl x7), none] [.inl x7] h
        obtain ⟨rfl, rfl⟩ := Prod.mk.inj (Option.some.inj hm)
        exact hret 93 _ dc_M_cold_93
      · intro h hg hm
        refine ia_go hK ck_M_cold_100 ?_
        show K 102 [none, none, none, none, none, none, none, none, none] [.inl (-100)] h
        obtain ⟨rfl, rfl⟩ := Prod.mk.inj (Option.some.inj hm)
        exact hret 102 _ dc_M_cold_102
    · replace hm := ia_ifp hm c
      show K 25 [some (.inr (.inr 417)), some (.inl x1), some (.inl x2), some (.inl x3), some (.inl x4), some (.inl x5), some (.inl x6), none, none] [] v2.2
      refine ia_go hK ck_M_cold_25 ?_
      show K 27 [some (.inr (.inr 417)), some (.inl x1), some (.inl x2), some (.inl x3), some (.inl x4), some (.inl x5), some (.inl x6), none, none] [.inl (-100)] v2.2
      obtain ⟨rfl, rfl⟩ := Prod.mk.inj (Option.some.inj hm)
      exact hret 27 _ dc_M_cold_27
def mm_M_thickerBy : ia_M := (⟨"IceStreetModel", "thickerBy", "(III)I"⟩, prog_14_method_125_code, 5, (some .int), 12, false)
theorem ok_M_thickerBy : ia_mok mm_M_thickerBy := ⟨by decide +kernel, by decide +kernel, by decide +kernel, by decide +kernel⟩
theorem mk_M_thickerBy : ia_mkn mm_M_thickerBy 1 3 := ⟨ia_tb_in (List.mem_of_getElem? (i := 2216) (by decide +kernel)) rfl, ia_tb_in (List.mem_of_getElem? (i := 146) (by decide +kernel)) rfl, by decide +kernel, by decide +kernel, ⟨ia_tb_in (List.mem_of_getElem? (i := 2215) (by decide +kernel)) rfl, ia_tb_in (List.mem_of_getElem? (i := 131) (by decide +kernel)) rfl⟩⟩
theorem ck_M_thickerBy_0 : ia_cks 12 5 false prog_14_method_125_code 0 [(.iconst (-1), 0, 0, 0, 0), (.istore 4, 0, 0, 0, 0), (.aload_n 0, 0, 0, 0, 0), (.iconst 0, 0, 0, 0, 0), (.putfield 207, 12, 19, 0, 0)] = true := by decide +kernel
theorem ck_M_thickerBy_8 : ia_cks 12 5 false prog_14_method_125_code 8 [(.aload_n 0, 0, 0, 0, 0), (.getfield 207, 12, 19, 0, 0), (.bipush 100, 0, 0, 0, 0), (.if_icmp .ge 42, 0, 0, 0, 0)] = true := by decide +kernel
theorem ck_M_thickerBy_17 : ia_cks 12 5 false prog_14_method_125_code 17 [(.iload 4, 0, 0, 0, 0), (.ifCond .ge 37, 0, 0, 0, 0)] = true := by decide +kernel
theorem ck_M_thickerBy_22 : ia_cks 12 5 false prog_14_method_125_code 22 [(.aload_n 0, 0, 0, 0, 0), (.iload_n 1, 0, 0, 0, 0), (.iload_n 2, 0, 0, 0, 0), (.iload_n 3, 0, 0, 0, 0), (.iconst (-1), 0, 0, 0, 0)] = true := by decide +kernel
theorem ck_M_thickerBy_30 : ia_cks 12 5 false prog_14_method_125_code 30 [(.ifCond .eq 10, 0, 0, 0, 0)] = true := by decide +kernel
theorem ck_M_thickerBy_40 : ia_cks 12 5 false prog_14_method_125_code 40 [(.iconst (-1), 0, 0, 0, 0)] = true := by decide +kernel
theorem ck_M_thickerBy_41 : ia_cks 12 5 false prog_14_method_125_code 41 [(.istore 4, 0, 0, 0, 0), (.aload_n 0, 0, 0, 0, 0), (.dup, 0, 0, 0, 0), (.getfield 207, 12, 19, 0, 0), (.iconst 1, 0, 0, 0, 0), (.iadd, 0, 0, 0, 0), (.putfield 207, 12, 19, 0, 0), (.goto (-45), 0, 0, 0, 0)] = true := by decide +kernel
theorem ck_M_thickerBy_33 : ia_cks 12 5 false prog_14_method_125_code 33 [(.aload_n 0, 0, 0, 0, 0), (.getfield 207, 12, 19, 0, 0), (.goto 4, 0, 0, 0, 0)] = true := by decide +kernel
theorem ck_M_thickerBy_56 : ia_cks 12 5 false prog_14_method_125_code 56 [(.aload_n 0, 0, 0, 0, 0), (.iconst 0, 0, 0, 0, 0), (.putfield 207, 12, 19, 0, 0), (.iload 4, 0, 0, 0, 0)] = true := by decide +kernel
theorem dc_M_thickerBy_27 : decode prog_14_method_125_code 27 = .ok (.invokevirtual 269, 3) := by decide +kernel
theorem dc_M_thickerBy_63 : decode prog_14_method_125_code 63 = .ok (.ireturn, 1) := by decide +kernel
def j_M_thickerBy_41 (x1 : Int32) (x2 : Int32) (x3 : Int32) (kr : Int32 → ia_H → Option (Int32 × ia_H)) (k56 : Int32 → ia_H → Option (Int32 × ia_H)) (s0 : Int32) (h : ia_H) : Option (Int32 × ia_H) := kr s0 (ia_wI h 417 19 ((ia_i h 417 19) + 1))
theorem tj_M_thickerBy_41 {w : ia_O0} {d N1 W1 : Nat} {K : ia_K} (hK : ia_isK (d + 7) mm_M_thickerBy N1 W1 K) {x1 : Int32} {x2 : Int32} {x3 : Int32} {r : Int32} {h1 : ia_H} (hret : ∀ (pc : Nat) (lv : ia_L), ia_ret mm_M_thickerBy pc (some (.inl r)) → K pc lv ((some (.inl r)) : Option ia_V).toList h1) {kr : Int32 → ia_H → Option (Int32 × ia_H)} {k56 : Int32 → ia_H → Option (Int32 × ia_H)} (hkr : ∀ (x4 : Int32) (h : ia_H), gd_ w h → kr x4 h = some (r, h1) → K 8 [some (.inr (.inr 417)), some (.inl x1), some (.inl x2), some (.inl x3), some (.inl x4)] [] h) (hk56 : ∀ (x4 : Int32) (h : ia_H), gd_ w h → k56 x4 h = some (r, h1) → K 56 [some (.inr (.inr 417)), none, none, none, some (.inl x4)] [] h) : ∀ (s0 : Int32) (h : ia_H), gd_ w h → j_M_thickerBy_41 x1 x2 x3 kr k56 s0 h = some (r, h1) → K 41 [some (.inr (.inr 417)), some (.inl x1), some (.inl x2), some (.inl x3), none] [.inl s0] h := by
  intro s0 h hg hm
  unfold j_M_thickerBy_41 at hm
  refine ia_go hK ck_M_thickerBy_41 ⟨gk_12 hg pk_417, gk_12 hg pk_417, ?_⟩
  show K 8 [some (.inr (.inr 417)), some (.inl x1), some (.inl x2), some (.inl x3), some (.inl s0)] [] (ia_wI h 417 19 ((ia_i h 417 19) + 1))
  exact hkr s0 (ia_wI h 417 19 ((ia_i h 417 19) + 1)) (gd_wI hg (ko_12 pk_417)) hm
theorem gj_M_thickerBy_41 {w : ia_O0} {x1 : Int32} {x2 : Int32} {x3 : Int32} {r : Int32} {h1 : ia_H} {kr : Int32 → ia_H → Option (Int32 × ia_H)} {k56 : Int32 → ia_H → Option (Int32 × ia_H)} (hkr : ∀ (x4 : Int32) (h : ia_H), gd_ w h → kr x4 h = some (r, h1) → gd_ w h1) (hk56 : ∀ (x4 : Int32) (h : ia_H), gd_ w h → k56 x4 h = some (r, h1) → gd_ w h1) : ∀ (s0 : Int32) (h : ia_H), gd_ w h → j_M_thickerBy_41 x1 x2 x3 kr k56 s0 h = some (r, h1) → gd_ w h1 := by
  intro s0 h hg hm
  unfold j_M_thickerBy_41 at hm
  exact hkr s0 (ia_wI h 417 19 ((ia_i h 417 19) + 1)) (gd_wI hg (ko_12 pk_417)) hm
def l_M_thickerBy_8 (x1 : Int32) (x2 : Int32) (x3 : Int32) (k56 : Int32 → ia_H → Option (Int32 × ia_H)) (n : Nat) (x4 : Int32) (h : ia_H) : Option (Int32 × ia_H) := match n with
  | 0 => none
  | n + 1 => if 100 ≤ (ia_i h 417 19) then (k56 x4 h) else (if 0 ≤ x4 then (k56 x4 h) else ((f_M_isWay x1 x2 x3 (-1) h).bind fun v1 => (if v1.1 = 0 then (j_M_thickerBy_41 x1 x2 x3 (l_M_thickerBy_8 x1 x2 x3 k56 n) k56 (-1) v1.2) else (j_M_thickerBy_41 x1 x2 x3 (l_M_thickerBy_8 x1 x2 x3 k56 n) k56 (ia_i v1.2 417 19) v1.2))))
theorem tl_M_thickerBy_8 {w : ia_O0} {d N1 W1 : Nat} {K : ia_K} (hK : ia_isK (d + 7) mm_M_thickerBy N1 W1 K) {x1 : Int32} {x2 : Int32} {x3 : Int32} {r : Int32} {h1 : ia_H} (hret : ∀ (pc : Nat) (lv : ia_L), ia_ret mm_M_thickerBy pc (some (.inl r)) → K pc lv ((some (.inl r)) : Option ia_V).toList h1) {k56 : Int32 → ia_H → Option (Int32 × ia_H)} (hk56 : ∀ (x4 : Int32) (h : ia_H), gd_ w h → k56 x4 h = some (r, h1) → K 56 [some (.inr (.inr 417)), none, none, none, some (.inl x4)] [] h) : ∀ (n : Nat) (x4 : Int32) (h : ia_H), gd_ w h → l_M_thickerBy_8 x1 x2 x3 k56 n x4 h = some (r, h1) → K 8 [some (.inr (.inr 417)), some (.inl x1), some (.inl x2), some (.inl x3), some (.inl x4)] [] h := by
  intro n
  induction n with
  | zero =>
    intro x4 h hg hm
    cases (show (none : Option (Int32 × ia_H)) = some _ from hm)
  | succ n ih =>
    intro x4 h hg hm
    rw [l_M_thickerBy_8] at hm
    refine ia_go hK ck_M_thickerBy_8 ⟨gk_12 hg pk_417, fun c => ?_, fun c => ?_⟩
    · replace hm := ia_ifp hm c
      show K 56 [some (.inr (.inr 417)), some (.inl x1), some (.inl x2), some (.inl x3), some (.inl x4)] [] h
      refine ia_fg hK (lv' := [some (.inr (.inr 417)), none, none, none, some (.inl x4)]) ⟨rfl, rfl, trivial⟩ ?_
      exact hk56 x4 h hg hm
    · replace hm := ia_ifn hm c
      show K 17 [some (.inr (.inr 417)), some (.inl x1), some (.inl x2), some (.inl x3), some (.inl x4)] [] h
      refine ia_go hK ck_M_thickerBy_17 ⟨fun c => ?_, fun c => ?_⟩
      · replace hm := ia_ifp hm c
        show K 56 [some (.inr (.inr 417)), some (.inl x1), some (.inl x2), some (.inl x3), some (.inl x4)] [] h
        refine ia_fg hK (lv' := [some (.inr (.inr 417)), none, none, none, some (.inl x4)]) ⟨rfl, rfl, trivial⟩ ?_
        exact hk56 x4 h hg hm
      · replace hm := ia_ifn hm c
        show K 22 [some (.inr (.inr 417)), some (.inl x1), some (.inl x2), some (.inl x3), some (.inl x4)] [] h
        refine ia_go hK ck_M_thickerBy_22 ?_
        show K 27 [some (.inr (.inr 417)), some (.inl x1), some (.inl x2), some (.inl x3), some (.inl x4)] [.inl (-1), .inl x3, .inl x2, .inl x1, .inr (.inr 417)] h
        obtain ⟨v1, hv1, hm⟩ := ia_bnd hm
        have ev1 := t_M_isWay (d + 0) hg hv1
        have gv1 := g_M_isWay hg hv1
        refine ia_cV hK mk_M_isWay lk_12_269 dc_M_thickerBy_27 417 [.inl x1, .inl x2, .inl x3, .inl (-1)] [] rfl rfl (Nat.le_of_ble_eq_true rfl) (by decide) rfl (gk_12 hg pk_417) ev1 (gd_nm hg gv1) ?_
        show K 30 [some (.inr (.inr 417)), some (.inl x1), some (.inl x2), some (.inl x3), some (.inl x4)] [.inl v1.1] v1.2
        refine ia_go hK ck_M_thickerBy_30 ⟨fun c => ?_, fun c => ?_⟩
        · replace hm := ia_ifp hm c
          show K 40 [some (.inr (.inr 417)), some (.inl x1), some (.inl x2), some (.inl x3), some (.inl x4)] [] v1.2
          refine ia_go hK ck_M_thickerBy_40 ?_
          show K 41 [some (.inr (.inr 417)), some (.inl x1), some (.inl x2), some (.inl x3), some (.inl x4)] [.inl (-1)] v1.2
          refine ia_fg hK (lv' := [some (.inr (.inr 417)), some (.inl x1), some (.inl x2), some (.inl x3), none]) ⟨rfl, rfl, rfl, rfl, trivial⟩ ?_
          exact tj_M_thickerBy_41 hK hret ih hk56 (-1) v1.2 gv1 hm
        · replace hm := ia_ifn hm c
          show K 33 [some (.inr (.inr 417)), some (.inl x1), some (.inl x2), some (.inl x3), some (.inl x4)] [] v1.2
          refine ia_go hK ck_M_thickerBy_33 ⟨gk_12 gv1 pk_417, ?_⟩
          show K 41 [some (.inr (.inr 417)), some (.inl x1), some (.inl x2), some (.inl x3), some (.inl x4)] [.inl (ia_i v1.2 417 19)] v1.2
          refine ia_fg hK (lv' := [some (.inr (.inr 417)), some (.inl x1), some (.inl x2), some (.inl x3), none]) ⟨rfl, rfl, rfl, rfl, trivial⟩ ?_
          exact tj_M_thickerBy_41 hK hret ih hk56 (ia_i v1.2 417 19) v1.2 gv1 hm
theorem gl_M_thickerBy_8 {w : ia_O0} {x1 : Int32} {x2 : Int32} {x3 : Int32} {r : Int32} {h1 : ia_H} {k56 : Int32 → ia_H → Option (Int32 × ia_H)} (hk56 : ∀ (x4 : Int32) (h : ia_H), gd_ w h → k56 x4 h = some (r, h1) → gd_ w h1) : ∀ (n : Nat) (x4 : Int32) (h : ia_H), gd_ w h → l_M_thickerBy_8 x1 x2 x3 k56 n x4 h = some (r, h1) → gd_ w h1 := by
  intro n
  induction n with
  | zero =>
    intro x4 h hg hm
    cases (show (none : Option (Int32 × ia_H)) = some _ from hm)
  | succ n ih =>
    intro x4 h hg hm
    rw [l_M_thickerBy_8] at hm
    by_cases c : 100 ≤ (ia_i h 417 19)
    · replace hm := ia_ifp hm c
      exact hk56 x4 h hg hm
    · replace hm := ia_ifn hm c
      by_cases c : 0 ≤ x4
      · replace hm := ia_ifp hm c
        exact hk56 x4 h hg hm
      · replace hm := ia_ifn hm c
        obtain ⟨v1, hv1, hm⟩ := ia_bnd hm
        have gv1 := g_M_isWay hg hv1
        by_cases c : v1.1 = 0
        · replace hm := ia_ifp hm c
          exact gj_M_thickerBy_41 ih hk56 (-1) v1.2 gv1 hm
        · replace hm := ia_ifn hm c
          exact gj_M_thickerBy_41 ih hk56 (ia_i v1.2 417 19) v1.2 gv1 hm
def j_M_thickerBy_56 (x1 : Int32) (x2 : Int32) (x3 : Int32) (x4 : Int32) (h : ia_H) : Option (Int32 × ia_H) := some (x4, ia_wI h 417 19 0)
theorem tj_M_thickerBy_56 {w : ia_O0} {d N1 W1 : Nat} {K : ia_K} (hK : ia_isK (d + 7) mm_M_thickerBy N1 W1 K) {x1 : Int32} {x2 : Int32} {x3 : Int32} {r : Int32} {h1 : ia_H} (hret : ∀ (pc : Nat) (lv : ia_L), ia_ret mm_M_thickerBy pc (some (.inl r)) → K pc lv ((some (.inl r)) : Option ia_V).toList h1) : ∀ (x4 : Int32) (h : ia_H), gd_ w h → j_M_thickerBy_56 x1 x2 x3 x4 h = some (r, h1) → K 56 [some (.inr (.inr 417)), none, none, none, some (.inl x4)] [] h := by
  intro x4 h hg hm
  unfold j_M_thickerBy_56 at hm
  refine ia_go hK ck_M_thickerBy_56 ⟨gk_12 hg pk_417, ?_⟩
  show K 63 [some (.inr (.inr 417)), none, none, none, some (.inl x4)] [.inl x4] (ia_wI h 417 19 0)
  obtain ⟨rfl, rfl⟩ := Prod.mk.inj (Option.some.inj hm)
  exact hret 63 _ dc_M_thickerBy_63
theorem gj_M_thickerBy_56 {w : ia_O0} {x1 : Int32} {x2 : Int32} {x3 : Int32} {r : Int32} {h1 : ia_H} : ∀ (x4 : Int32) (h : ia_H), gd_ w h → j_M_thickerBy_56 x1 x2 x3 x4 h = some (r, h1) → gd_ w h1 := by
  intro x4 h hg hm
  unfold j_M_thickerBy_56 at hm
  obtain ⟨rfl, rfl⟩ := Prod.mk.inj (Option.some.inj hm)
  exact (gd_wI hg (ko_12 pk_417))
def f_M_thickerBy (x1 : Int32) (x2 : Int32) (x3 : Int32) (h : ia_H) : Option (Int32 × ia_H) := l_M_thickerBy_8 x1 x2 x3 (fun x4 h => j_M_thickerBy_56 x1 x2 x3 x4 h) fu_ (-1) (ia_wI h 417 19 0)
theorem g_M_thickerBy {w : ia_O0} {x1 : Int32} {x2 : Int32} {x3 : Int32} {h : ia_H} (hg : gd_ w h) {q : (Int32 × ia_H)} (hm : f_M_thickerBy x1 x2 x3 h = some q) : gd_ w q.2 := by
  obtain ⟨r, h1⟩ := q
  unfold f_M_thickerBy at hm
  refine gl_M_thickerBy_8 ?_ fu_ (-1) (ia_wI h 417 19 0) (gd_wI hg (ko_12 pk_417)) hm
  · intro x4 h hg hm
    exact gj_M_thickerBy_56 x4 h hg hm
theorem t_M_thickerBy {w : ia_O0} (d : Nat) {x1 : Int32} {x2 : Int32} {x3 : Int32} {h : ia_H} (hg : gd_ w h) {q : (Int32 × ia_H)} (hm : f_M_thickerBy x1 x2 x3 h = some q) : ia_Ev (d + 7) mm_M_thickerBy [.inr (.inr 417), .inl x1, .inl x2, .inl x3] h (some (.inl q.1)) q.2 := by
  have gq := g_M_thickerBy hg hm
  refine ia_Ev_intro ok_M_thickerBy (gd_le hg gq).1 (gd_le hg gq).2 (Nat.le_of_ble_eq_true rfl) (fun K hK hret => ?_)
  obtain ⟨r, h1⟩ := q
  show K 0 [some (.inr (.inr 417)), some (.inl x1), some (.inl x2), some (.inl x3), none] [] h
  unfold f_M_thickerBy at hm
  refine ia_go hK ck_M_thickerBy_0 ⟨gk_12 hg pk_417, ?_⟩
  show K 8 [some (.inr (.inr 417)), some (.inl x1), some (.inl x2), some (.inl x3), some (.inl (-1))] [] (ia_wI h 417 19 0)
  refine tl_M_thickerBy_8 hK hret ?_ fu_ (-1) (ia_wI h 417 19 0) (gd_wI hg (ko_12 pk_417)) hm
  · intro x4 h hg hm
    exact tj_M_thickerBy_56 hK hret x4 h hg hm
def mm_M_lacks : ia_M := (⟨"IceStreetModel", "lacks", "(IIIIIIII)I"⟩, prog_14_method_126_code, 9, (some .int), 12, false)
theorem ok_M_lacks : ia_mok mm_M_lacks := ⟨by decide +kernel, by decide +kernel, by decide +kernel, by decide +kernel⟩
theorem mk_M_lacks : ia_mkn mm_M_lacks 1 8 := ⟨ia_tb_in (List.mem_of_getElem? (i := 2212) (by decide +kernel)) rfl, ia_tb_in (List.mem_of_getElem? (i := 146) (by decide +kernel)) rfl, by decide +kernel, by decide +kernel, ⟨ia_tb_in (List.mem_of_getElem? (i := 2210) (by decide +kernel)) rfl, ia_tb_in (List.mem_of_getElem? (i := 2211) (by decide +kernel)) rfl⟩⟩
theorem ck_M_lacks_0 : ia_cks 12 9 false prog_14_method_126_code 0 [(.iload 5, 0, 0, 0, 0)] = true := by decide +kernel
theorem ck_M_lacks_5 : ia_cks 12 9 false prog_14_method_126_code 5 [(.ifCond .eq 29, 0, 0, 0, 0)] = true := by decide +kernel
theorem ck_M_lacks_34 : ia_cks 12 9 false prog_14_method_126_code 34 [(.iconst (-1), 0, 0, 0, 0)] = true := by decide +kernel
theorem ck_M_lacks_8 : ia_cks 12 9 false prog_14_method_126_code 8 [(.iload 8, 0, 0, 0, 0), (.iconst 0, 0, 0, 0, 0), (.iconst 2, 0, 0, 0, 0)] = true := by decide +kernel
theorem ck_M_lacks_15 : ia_cks 12 9 false prog_14_method_126_code 15 [(.ifCond .eq 19, 0, 0, 0, 0)] = true := by decide +kernel
theorem ck_M_lacks_18 : ia_cks 12 9 false prog_14_method_126_code 18 [(.aload_n 0, 0, 0, 0, 0), (.iload_n 1, 0, 0, 0, 0), (.iload_n 2, 0, 0, 0, 0), (.iload_n 3, 0, 0, 0, 0), (.iload 4, 0, 0, 0, 0), (.iload 6, 0, 0, 0, 0), (.iload 7, 0, 0, 0, 0)] = true := by decide +kernel
theorem ck_M_lacks_31 : ia_cks 12 9 false prog_14_method_126_code 31 [(.ifCond .ne 5, 0, 0, 0, 0)] = true := by decide +kernel
theorem ck_M_lacks_36 : ia_cks 12 9 false prog_14_method_126_code 36 [(.iload 8, 0, 0, 0, 0), (.iconst 1, 0, 0, 0, 0), (.if_icmp .ne 14, 0, 0, 0, 0)] = true := by decide +kernel
theorem ck_M_lacks_53 : ia_cks 12 9 false prog_14_method_126_code 53 [(.iload 8, 0, 0, 0, 0), (.iconst 2, 0, 0, 0, 0), (.if_icmp .ne 15, 0, 0, 0, 0)] = true := by decide +kernel
theorem ck_M_lacks_71 : ia_cks 12 9 false prog_14_method_126_code 71 [(.aload_n 0, 0, 0, 0, 0), (.iload 7, 0, 0, 0, 0), (.iload 5, 0, 0, 0, 0), (.iconst (-1), 0, 0, 0, 0), (.iconst 1, 0, 0, 0, 0)] = true := by decide +kernel
theorem ck_M_lacks_81 : ia_cks 12 9 false prog_14_method_126_code 81 [(.aload_n 0, 0, 0, 0, 0), (.getfield 39, 12, 22, 3, 8), (.iload 6, 0, 0, 0, 0), (.iaload, 0, 0, 0, 0)] = true := by decide +kernel
theorem ck_M_lacks_90 : ia_cks 12 9 false prog_14_method_126_code 90 [(.if_icmp .ge 13, 0, 0, 0, 0)] = true := by decide +kernel
theorem ck_M_lacks_103 : ia_cks 12 9 false prog_14_method_126_code 103 [(.iconst (-1), 0, 0, 0, 0)] = true := by decide +kernel
theorem ck_M_lacks_93 : ia_cks 12 9 false prog_14_method_126_code 93 [(.aload_n 0, 0, 0, 0, 0), (.getfield 39, 12, 22, 3, 8), (.iload 6, 0, 0, 0, 0), (.iaload, 0, 0, 0, 0), (.goto 4, 0, 0, 0, 0)] = true := by decide +kernel
theorem ck_M_lacks_59 : ia_cks 12 9 false prog_14_method_126_code 59 [(.aload_n 0, 0, 0, 0, 0), (.iload 6, 0, 0, 0, 0), (.iload 7, 0, 0, 0, 0), (.iload 5, 0, 0, 0, 0), (.iconst 1, 0, 0, 0, 0)] = true := by decide +kernel
theorem ck_M_lacks_42 : ia_cks 12 9 false prog_14_method_126_code 42 [(.aload_n 0, 0, 0, 0, 0), (.iload 6, 0, 0, 0, 0), (.iload 7, 0, 0, 0, 0), (.iload 5, 0, 0, 0, 0)] = true := by decide +kernel
theorem dc_M_lacks_2 : decode prog_14_method_126_code 2 = .ok (.invokestatic 349, 3) := by decide +kernel
theorem dc_M_lacks_35 : decode prog_14_method_126_code 35 = .ok (.ireturn, 1) := by decide +kernel
theorem dc_M_lacks_12 : decode prog_14_method_126_code 12 = .ok (.invokestatic 116, 3) := by decide +kernel
theorem dc_M_lacks_28 : decode prog_14_method_126_code 28 = .ok (.invokevirtual 325, 3) := by decide +kernel
theorem dc_M_lacks_78 : decode prog_14_method_126_code 78 = .ok (.invokevirtual 262, 3) := by decide +kernel
theorem dc_M_lacks_88 : decode prog_14_method_126_code 88 = .ok (.ldc 255, 2) := by decide +kernel
theorem dc_M_lacks_104 : decode prog_14_method_126_code 104 = .ok (.ireturn, 1) := by decide +kernel
theorem dc_M_lacks_67 : decode prog_14_method_126_code 67 = .ok (.invokevirtual 385, 3) := by decide +kernel
theorem dc_M_lacks_70 : decode prog_14_method_126_code 70 = .ok (.ireturn, 1) := by decide +kernel
theorem dc_M_lacks_49 : decode prog_14_method_126_code 49 = .ok (.invokevirtual 423, 3) := by decide +kernel
theorem dc_M_lacks_52 : decode prog_14_method_126_code 52 = .ok (.ireturn, 1) := by decide +kernel
def f_M_lacks (x1 : Int32) (x2 : Int32) (x3 : Int32) (x4 : Int32) (x5 : Int32) (x6 : Int32) (x7 : Int32) (x8 : Int32) (h : ia_H) : Option (Int32 × ia_H) := (f_M_isLoad x5 h).bind fun v1 => (if v1 = 0 then (some ((-1), h)) else ((f_M_isIn x8 0 2 h).bind fun v2 => (if v2 = 0 then (some ((-1), h)) else ((f_M_areWays x1 x2 x3 x4 x6 x7 h).bind fun v3 => (if v3.1 = 0 then (some ((-1), v3.2)) else (if x8 = 1 then ((f_M_thickerBy x6 x7 x5 v3.2).bind fun v8 => (some (v8.1, v8.2))) else (if x8 = 2 then ((f_M_firstDay x6 x7 x5 1 v3.2).bind fun v7 => (some (v7.1, v7.2))) else ((f_M_measures x7 x5 (-1) 1 v3.2).bind fun v4 => (ia_gd (ia_ib x6 36) (if 1000000 ≤ (ia_i v4 425 ((x6).toNatClampNeg)) then (some ((-1), v4)) else (ia_gd (ia_ib x6 36) (some (ia_i v4 425 ((x6).toNatClampNeg), v4)))))))))))))
theorem g_M_lacks {w : ia_O0} {x1 : Int32} {x2 : Int32} {x3 : Int32} {x4 : Int32} {x5 : Int32} {x6 : Int32} {x7 : Int32} {x8 : Int32} {h : ia_H} (hg : gd_ w h) {q : (Int32 × ia_H)} (hm : f_M_lacks x1 x2 x3 x4 x5 x6 x7 x8 h = some q) : gd_ w q.2 := by
  obtain ⟨r, h1⟩ := q
  unfold f_M_lacks at hm
  obtain ⟨v1, hv1, hm⟩ := ia_bnd hm
  by_cases c : v1 = 0
  · replace hm := ia_ifp hm c
    obtain ⟨rfl, rfl⟩ := Prod.mk.inj (Option.some.inj hm)
    exact hg
  · replace hm := ia_ifn hm c
    obtain ⟨v2, hv2, hm⟩ := ia_bnd hm
    by_cases c : v2 = 0
    · replace hm := ia_ifp hm c
      obtain ⟨rfl, rfl⟩ := Prod.mk.inj (Option.some.inj hm)
      exact hg
    · replace hm := ia_ifn hm c
      obtain ⟨v3, hv3, hm⟩ := ia_bnd hm
      have gv3 := g_M_areWays hg hv3
      by_cases c : v3.1 = 0
      · replace hm := ia_ifp hm c
        obtain ⟨rfl, rfl⟩ := Prod.mk.inj (Option.some.inj hm)
        exact gv3
      · replace hm := ia_ifn hm c
        by_cases c : x8 = 1
        · replace hm := ia_ifp hm c
          obtain ⟨v8, hv8, hm⟩ := ia_bnd hm
          have gv8 := g_M_thickerBy gv3 hv8
          obtain ⟨rfl, rfl⟩ := Prod.mk.inj (Option.some.inj hm)
          exact gv8
        · replace hm := ia_ifn hm c
          by_cases c : x8 = 2
          · replace hm := ia_ifp hm c
            obtain ⟨v7, hv7, hm⟩ := ia_bnd hm
            have gv7 := g_M_firstDay gv3 hv7
            obtain ⟨rfl, rfl⟩ := Prod.mk.inj (Option.some.inj hm)
            exact gv7
          · replace hm := ia_ifn hm c
            obtain ⟨v4, hv4, hm⟩ := ia_bnd hm
            have gv4 := g_M_measures gv3 hv4
            obtain ⟨c5, hm⟩ := ia_gd_some hm
            by_cases c : 1000000 ≤ (ia_i v4 425 ((x6).toNatClampNeg))
            · replace hm := ia_ifp hm c
              obtain ⟨rfl, rfl⟩ := Prod.mk.inj (Option.some.inj hm)
              exact gv4
            · replace hm := ia_ifn hm c
              obtain ⟨c6, hm⟩ := ia_gd_some hm
              obtain ⟨rfl, rfl⟩ := Prod.mk.inj (Option.some.inj hm)
              exact gv4
theorem t_M_lacks {w : ia_O0} (d : Nat) {x1 : Int32} {x2 : Int32} {x3 : Int32} {x4 : Int32} {x5 : Int32} {x6 : Int32} {x7 : Int32} {x8 : Int32} {h : ia_H} (hg : gd_ w h) {q : (Int32 × ia_H)} (hm : f_M_lacks x1 x2 x3 x4 x5 x6 x7 x8 h = some q) : ia_Ev (d + 12) mm_M_lacks [.inr (.inr 417), .inl x1, .inl x2, .inl x3, .inl x4, .inl x5, .inl x6, .inl x7, .inl x8] h (some (.inl q.1)) q.2 := by
  have gq := g_M_lacks hg hm
  refine ia_Ev_intro ok_M_lacks (gd_le hg gq).1 (gd_le hg gq).2 (Nat.le_of_ble_eq_true rfl) (fun K hK hret => ?_)
  obtain ⟨r, h1⟩ := q
  show K 0 [some (.inr (.inr 417)), some (.inl x1), some (.inl x2), some (.inl x3), some (.inl x4), some (.inl x5), some (.inl x6), some (.inl x7), some (.inl x8)] [] h
  unfold f_M_lacks at hm
  refine ia_go hK ck_M_lacks_0 ?_
  show K 2 [some (.inr (.inr 417)), some (.inl x1), some (.inl x2), some (.inl x3), some (.inl x4), some (.inl x5), some (.inl x6), some (.inl x7), some (.inl x8)] [.inl x5] h
  obtain ⟨v1, hv1, hm⟩ := ia_bnd hm
  have ev1 := t_M_isLoad (d + 10) hg hv1
  refine ia_cS hK mk_M_isLoad lk_12_349 dc_M_lacks_2 [.inl x5] [] rfl rfl (Nat.le_of_ble_eq_true rfl) ev1 ⟨rfl, rfl⟩ ?_
  show K 5 [some (.inr (.inr 417)), some (.inl x1), some (.inl x2), some (.inl x3), some (.inl x4), some (.inl x5), some (.inl x6), some (.inl x7), some (.inl x8)] [.inl v1] h
  refine ia_go hK ck_M_lacks_5 ⟨fun c => ?_, fun c => ?_⟩
  · replace hm := ia_ifp hm c
    show K 34 [some (.inr (.inr 417)), some (.inl x1), some (.inl x2), some (.inl x3), some (.inl x4), some (.inl x5), some (.inl x6), some (.inl x7), some (.inl x8)] [] h
    refine ia_go hK ck_M_lacks_34 ?_
    show K 35 [some (.inr (.inr 417)), some (.inl x1), some (.inl x2), some (.inl x3), some (.inl x4), some (.inl x5), some (.inl x6), some (.inl x7), some (.inl x8)] [.inl (-1)] h
    obtain ⟨rfl, rfl⟩ := Prod.mk.inj (Option.some.inj hm)
    exact hret 35 _ dc_M_lacks_35
  · replace hm := ia_ifn hm c
    show K 8 [some (.inr (.inr 417)), some (.inl x1), some (.inl x2), some (.inl x3), some (.inl x4), some (.inl x5), some (.inl x6), some (.inl x7), some (.inl x8)] [] h
    refine ia_go hK ck_M_lacks_8 ?_
    show K 12 [some (.inr (.inr 417)), some (.inl x1), some (.inl x2), some (.inl x3), some (.inl x4), some (.inl x5), some (.inl x6), some (.inl x7), some (.inl x8)] [.inl 2, .inl 0, .inl x8] h
    obtain ⟨v2, hv2, hm⟩ := ia_bnd hm
    have ev2 := t_M_isIn (d + 11) hg hv2
    refine ia_cS hK mk_M_isIn lk_12_116 dc_M_lacks_12 [.inl x8, .inl 0, .inl 2] [] rfl rfl (Nat.le_of_ble_eq_true rfl) ev2 ⟨rfl, rfl⟩ ?_
    show K 15 [some (.inr (.inr 417)), some (.inl x1), some (.inl x2), some (.inl x3), some (.inl x4), some (.inl x5), some (.inl x6), some (.inl x7), some (.inl x8)] [.inl v2] h
    refine ia_go hK ck_M_lacks_15 ⟨fun c => ?_, fun c => ?_⟩
    · replace hm := ia_ifp hm c
      show K 34 [some (.inr (.inr 417)), some (.inl x1), some (.inl x2), some (.inl x3), some (.inl x4), some (.inl x5), some (.inl x6), some (.inl x7), some (.inl x8)] [] h
      refine ia_go hK ck_M_lacks_34 ?_
      show K 35 [some (.inr (.inr 417)), some (.inl x1), some (.inl x2), some (.inl x3), some (.inl x4), some (.inl x5), some (.inl x6), some (.inl x7), some (.inl x8)] [.inl (-1)] h
      obtain ⟨rfl, rfl⟩ := Prod.mk.inj (Option.some.inj hm)
      exact hret 35 _ dc_M_lacks_35
    · replace hm := ia_ifn hm c
      show K 18 [some (.inr (.inr 417)), some (.inl x1), some (.inl x2), some (.inl x3), some (.inl x4), some (.inl x5), some (.inl x6), some (.inl x7), some (.inl x8)] [] h
      refine ia_go hK ck_M_lacks_18 ?_
      show K 28 [some (.inr (.inr 417)), some (.inl x1), some (.inl x2), some (.inl x3), some (.inl x4), some (.inl x5), some (.inl x6), some (.inl x7), some (.inl x8)] [.inl x7, .inl x6, .inl x4, .inl x3, .inl x2, .inl x1, .inr (.inr 417)] h
      obtain ⟨v3, hv3, hm⟩ := ia_bnd hm
      have ev3 := t_M_areWays (d + 0) hg hv3
      have gv3 := g_M_areWays hg hv3
      refine ia_cV hK mk_M_areWays lk_12_325 dc_M_lacks_28 417 [.inl x1, .inl x2, .inl x3, .inl x4, .inl x6, .inl x7] [] rfl rfl (Nat.le_of_ble_eq_true rfl) (by decide) rfl (gk_12 hg pk_417) ev3 (gd_nm hg gv3) ?_
      show K 31 [some (.inr (.inr 417)), some (.inl x1), some (.inl x2), some (.inl x3), some (.inl x4), some (.inl x5), some (.inl x6), some (.inl x7), some (.inl x8)] [.inl v3.1] v3.2
      refine ia_go hK ck_M_lacks_31 ⟨fun c => ?_, fun c => ?_⟩
      · replace hm := ia_ifn hm c
        show K 36 [some (.inr (.inr 417)), some (.inl x1), some (.inl x2), some (.inl x3), some (.inl x4), some (.inl x5), some (.inl x6), some (.inl x7), some (.inl x8)] [] v3.2
        refine ia_go hK ck_M_lacks_36 ⟨fun c => ?_, fun c => ?_⟩
        · replace hm := ia_ifn hm c
          show K 53 [some (.inr (.inr 417)), some (.inl x1), some (.inl x2), some (.inl x3), some (.inl x4), some (.inl x5), some (.inl x6), some (.inl x7), some (.inl x8)] [] v3.2
          refine ia_go hK ck_M_lacks_53 ⟨fun c => ?_, fun c => ?_⟩
          · replace hm := ia_ifn hm c
            show K 71 [some (.inr (.inr 417)), some (.inl x1), some (.inl x2), some (.inl x3), some (.inl x4), some (.inl x5), some (.inl x6), some (.inl x7), some (.inl x8)] [] v3.2
            refine ia_go hK ck_M_lacks_71 ?_
            show K 78 [some (.inr (.inr 417)), some (.inl x1), some (.inl x2), some (.inl x3), some (.inl x4), some (.inl x5), some (.inl x6), some (.inl x7), some (.inl x8)] [.inl 1, .inl (-1), .inl x5, .inl x7, .inr (.inr 417)] v3.2
            obtain ⟨v4, hv4, hm⟩ := ia_bnd hm
            have ev4 := t_M_measures (d + 6) gv3 hv4
            have gv4 := g_M_measures gv3 hv4
            refine ia_cV hK mk_M_measures lk_12_262 dc_M_lacks_78 417 [.inl x7, .inl x5, .inl (-1), .inl 1] [] rfl rfl (Nat.le_of_ble_eq_true rfl) (by decide) rfl (gk_12 gv3 pk_417) ev4 (gd_nm gv3 gv4) ?_
            show K 81 [some (.inr (.inr 417)), some (.inl x1), some (.inl x2), some (.inl x3), some (.inl x4), some (.inl x5), some (.inl x6), some (.inl x7), some (.inl x8)] [] v4
            obtain ⟨c5, hm⟩ := ia_gd_some hm
            refine ia_go hK ck_M_lacks_81 ⟨gk_12 gv4 pk_417, gr_12_22 gv4 pk_417, ga_i100 gv4 (ka_12_22 pk_417) c5, ?_⟩
            show K 88 [some (.inr (.inr 417)), some (.inl x1), some (.inl x2), some (.inl x3), some (.inl x4), some (.inl x5), some (.inl x6), some (.inl x7), some (.inl x8)] [.inl (ia_i v4 425 ((x6).toNatClampNeg))] v4
            refine ia_ldc hK (v := 1000000) (ia_tb_in (List.mem_of_getElem? (i := 1959) (by decide +kernel)) rfl) dc_M_lacks_88 ?_
            show K 90 [some (.inr (.inr 417)), some (.inl x1), some (.inl x2), some (.inl x3), some (.inl x4), some (.inl x5), some (.inl x6), some (.inl x7), some (.inl x8)] [.inl 1000000, .inl (ia_i v4 425 ((x6).toNatClampNeg))] v4
            refine ia_go hK ck_M_lacks_90 ⟨fun c => ?_, fun c => ?_⟩
            · replace hm := ia_ifp hm c
              show K 103 [some (.inr (.inr 417)), some (.inl x1), some (.inl x2), some (.inl x3), some (.inl x4), some (.inl x5), some (.inl x6), some (.inl x7), some (.inl x8)] [] v4
              refine ia_go hK ck_M_lacks_103 ?_
              show K 104 [some (.inr (.inr 417)), some (.inl x1), some (.inl x2), some (.inl x3), some (.inl x4), some (.inl x5), some (.inl x6), some (.inl x7), some (.inl x8)] [.inl (-1)] v4
              obtain ⟨rfl, rfl⟩ := Prod.mk.inj (Option.some.inj hm)
              exact hret 104 _ dc_M_lacks_104
            · replace hm := ia_ifn hm c
              show K 93 [some (.inr (.inr 417)), some (.inl x1), some (.inl x2), some (.inl x3), some (.inl x4), some (.inl x5), some (.inl x6), some (.inl x7), some (.inl x8)] [] v4
              obtain ⟨c6, hm⟩ := ia_gd_some hm
              refine ia_go hK ck_M_lacks_93 ⟨gk_12 gv4 pk_417, gr_12_22 gv4 pk_417, ga_i100 gv4 (ka_12_22 pk_417) c6, ?_⟩
              show K 104 [some (.inr (.inr 417)), some (.inl x1), some (.inl x2), some (.inl x3), some (.inl x4), some (.inl x5), some (.inl x6), some (.inl x7), some (.inl x8)] [.inl (ia_i v4 425 ((x6).toNatClampNeg))] v4
              obtain ⟨rfl, rfl⟩ := Prod.mk.inj (Option.some.inj hm)
              exact hret 104 _ dc_M_lacks_104
          · replace hm := ia_ifp hm c
            show K 59 [some (.inr (.inr 417)), some (.inl x1), some (.inl x2), some (.inl x3), some (.inl x4), some (.inl x5), some (.inl x6), some (.inl x7), some (.inl x8)] [] v3.2
            refine ia_go hK ck_M_lacks_59 ?_
            show K 67 [some (.inr (.inr 417)), some (.inl x1), some (.inl x2), some (.inl x3), some (.inl x4), some (.inl x5), some (.inl x6), some (.inl x7), some (.inl x8)] [.inl 1, .inl x5, .inl x7, .inl x6, .inr (.inr 417)] v3.2
            obtain ⟨v7, hv7, hm⟩ := ia_bnd hm
            have ev7 := t_M_firstDay (d + 3) gv3 hv7
            have gv7 := g_M_firstDay gv3 hv7
            refine ia_cV hK mk_M_firstDay lk_12_385 dc_M_lacks_67 417 [.inl x6, .inl x7, .inl x5, .inl 1] [] rfl rfl (Nat.le_of_ble_eq_true rfl) (by decide) rfl (gk_12 gv3 pk_417) ev7 (gd_nm gv3 gv7) ?_
            show K 70 [some (.inr (.inr 417)), some (.inl x1), some (.inl x2), some (.inl x3), some (.inl x4), some (.inl x5), some (.inl x6), some (.inl x7), some (.inl x8)] [.inl v7.1] v7.2
            obtain ⟨rfl, rfl⟩ := Prod.mk.inj (Option.some.inj hm)
            exact hret 70 _ dc_M_lacks_70
        · replace hm := ia_ifp hm c
          show K 42 [some (.inr (.inr 417)), some (.inl x1), some (.inl x2), some (.inl x3), some (.inl x4), some (.inl x5), some (.inl x6), some (.inl x7), some (.inl x8)] [] v3.2
          refine ia_go hK ck_M_lacks_42 ?_
          show K 49 [some (.inr (.inr 417)), some (.inl x1), some (.inl x2), some (.inl x3), some (.inl x4), some (.inl x5), some (.inl x6), some (.inl x7), some (.inl x8)] [.inl x5, .inl x7, .inl x6, .inr (.inr 417)] v3.2
          obtain ⟨v8, hv8, hm⟩ := ia_bnd hm
          have ev8 := t_M_thickerBy (d + 4) gv3 hv8
          have gv8 := g_M_thickerBy gv3 hv8
          refine ia_cV hK mk_M_thickerBy lk_12_423 dc_M_lacks_49 417 [.inl x6, .inl x7, .inl x5] [] rfl rfl (Nat.le_of_ble_eq_true rfl) (by decide) rfl (gk_12 gv3 pk_417) ev8 (gd_nm gv3 gv8) ?_
          show K 52 [some (.inr (.inr 417)), some (.inl x1), some (.inl x2), some (.inl x3), some (.inl x4), some (.inl x5), some (.inl x6), some (.inl x7), some (.inl x8)] [.inl v8.1] v8.2
          obtain ⟨rfl, rfl⟩ := Prod.mk.inj (Option.some.inj hm)
          exact hret 52 _ dc_M_lacks_52
      · replace hm := ia_ifp hm c
        show K 34 [some (.inr (.inr 417)), some (.inl x1), some (.inl x2), some (.inl x3), some (.inl x4), some (.inl x5), some (.inl x6), some (.inl x7), some (.inl x8)] [] v3.2
        refine ia_go hK ck_M_lacks_34 ?_
        show K 35 [some (.inr (.inr 417)), some (.inl x1), some (.inl x2), some (.inl x3), some (.inl x4), some (.inl x5), some (.inl x6), some (.inl x7), some (.inl x8)] [.inl (-1)] v3.2
        obtain ⟨rfl, rfl⟩ := Prod.mk.inj (Option.some.inj hm)
        exact hret 35 _ dc_M_lacks_35
def mm_M_spread : ia_M := (⟨"IceStreetModel", "spread", "(IIII)I"⟩, prog_14_method_127_code, 9, (some .int), 12, false)
theorem ok_M_spread : ia_mok mm_M_spread := ⟨by decide +kernel, by decide +kernel, by decide +kernel, by decide +kernel⟩
theorem mk_M_spread : ia_mkn mm_M_spread 1 4 := ⟨ia_tb_in (List.mem_of_getElem? (i := 2220) (by decide +kernel)) rfl, ia_tb_in (List.mem_of_getElem? (i := 146) (by decide +kernel)) rfl, by decide +kernel, by decide +kernel, ⟨ia_tb_in (List.mem_of_getElem? (i := 2218) (by decide +kernel)) rfl, ia_tb_in (List.mem_of_getElem? (i := 2219) (by decide +kernel)) rfl⟩⟩
theorem ck_M_spread_0 : ia_cks 12 9 false prog_14_method_127_code 0 [(.aload_n 0, 0, 0, 0, 0), (.iload_n 1, 0, 0, 0, 0), (.iload_n 2, 0, 0, 0, 0), (.iload_n 3, 0, 0, 0, 0), (.iload 4, 0, 0, 0, 0)] = true := by decide +kernel
theorem ck_M_spread_9 : ia_cks 12 9 false prog_14_method_127_code 9 [(.ifCond .ne 5, 0, 0, 0, 0)] = true := by decide +kernel
theorem ck_M_spread_14 : ia_cks 12 9 false prog_14_method_127_code 14 [(.iconst (-1), 0, 0, 0, 0), (.istore 5, 0, 0, 0, 0), (.iconst 0, 0, 0, 0, 0), (.istore 6, 0, 0, 0, 0)] = true := by decide +kernel
theorem ck_M_spread_20 : ia_cks 12 9 false prog_14_method_127_code 20 [(.iload 6, 0, 0, 0, 0), (.aload_n 0, 0, 0, 0, 0), (.getfield 7, 12, 0, 3, 1), (.aload_n 0, 0, 0, 0, 0), (.getfield 201, 12, 14, 0, 0), (.iconst 4, 0, 0, 0, 0), (.iadd, 0, 0, 0, 0), (.iaload, 0, 0, 0, 0), (.if_icmp .ge 111, 0, 0, 0, 0)] = true := by decide +kernel
theorem ck_M_spread_36 : ia_cks 12 9 false prog_14_method_127_code 36 [(.iconst 0, 0, 0, 0, 0), (.istore 7, 0, 0, 0, 0)] = true := by decide +kernel
theorem ck_M_spread_39 : ia_cks 12 9 false prog_14_method_127_code 39 [(.iload 7, 0, 0, 0, 0), (.iload 6, 0, 0, 0, 0), (.if_icmp .ge 95, 0, 0, 0, 0)] = true := by decide +kernel
theorem ck_M_spread_46 : ia_cks 12 9 false prog_14_method_127_code 46 [(.aload_n 0, 0, 0, 0, 0), (.iload 6, 0, 0, 0, 0)] = true := by decide +kernel
theorem ck_M_spread_52 : ia_cks 12 9 false prog_14_method_127_code 52 [(.ifCond .eq 80, 0, 0, 0, 0)] = true := by decide +kernel
theorem ck_M_spread_132 : ia_cks 12 9 false prog_14_method_127_code 132 [(.iinc 7 1, 0, 0, 0, 0), (.goto (-96), 0, 0, 0, 0)] = true := by decide +kernel
theorem ck_M_spread_55 : ia_cks 12 9 false prog_14_method_127_code 55 [(.aload_n 0, 0, 0, 0, 0), (.iload 7, 0, 0, 0, 0)] = true := by decide +kernel
theorem ck_M_spread_61 : ia_cks 12 9 false prog_14_method_127_code 61 [(.ifCond .eq 71, 0, 0, 0, 0)] = true := by decide +kernel
theorem ck_M_spread_64 : ia_cks 12 9 false prog_14_method_127_code 64 [(.aload_n 0, 0, 0, 0, 0), (.iload 6, 0, 0, 0, 0)] = true := by decide +kernel
theorem ck_M_spread_70 : ia_cks 12 9 false prog_14_method_127_code 70 [(.ifCond .eq 62, 0, 0, 0, 0)] = true := by decide +kernel
theorem ck_M_spread_73 : ia_cks 12 9 false prog_14_method_127_code 73 [(.aload_n 0, 0, 0, 0, 0), (.iload 7, 0, 0, 0, 0)] = true := by decide +kernel
theorem ck_M_spread_79 : ia_cks 12 9 false prog_14_method_127_code 79 [(.ifCond .ne 6, 0, 0, 0, 0)] = true := by decide +kernel
theorem ck_M_spread_85 : ia_cks 12 9 false prog_14_method_127_code 85 [(.aload_n 0, 0, 0, 0, 0), (.aload_n 0, 0, 0, 0, 0), (.getfield 23, 12, 13, 3, 5), (.bipush 72, 0, 0, 0, 0), (.iload 6, 0, 0, 0, 0), (.iadd, 0, 0, 0, 0), (.iaload, 0, 0, 0, 0), (.aload_n 0, 0, 0, 0, 0), (.getfield 23, 12, 13, 3, 5), (.bipush 72, 0, 0, 0, 0), (.iload 7, 0, 0, 0, 0), (.iadd, 0, 0, 0, 0), (.iaload, 0, 0, 0, 0)] = true := by decide +kernel
theorem ck_M_spread_109 : ia_cks 12 9 false prog_14_method_127_code 109 [(.istore 8, 0, 0, 0, 0), (.iload 5, 0, 0, 0, 0), (.ifCond .lt 10, 0, 0, 0, 0)] = true := by decide +kernel
theorem ck_M_spread_123 : ia_cks 12 9 false prog_14_method_127_code 123 [(.iload 8, 0, 0, 0, 0), (.goto 5, 0, 0, 0, 0)] = true := by decide +kernel
theorem ck_M_spread_130 : ia_cks 12 9 false prog_14_method_127_code 130 [(.istore 5, 0, 0, 0, 0), (.iinc 7 1, 0, 0, 0, 0), (.goto (-96), 0, 0, 0, 0)] = true := by decide +kernel
theorem ck_M_spread_116 : ia_cks 12 9 false prog_14_method_127_code 116 [(.iload 8, 0, 0, 0, 0), (.iload 5, 0, 0, 0, 0), (.if_icmp .ge 8, 0, 0, 0, 0)] = true := by decide +kernel
theorem ck_M_spread_128 : ia_cks 12 9 false prog_14_method_127_code 128 [(.iload 5, 0, 0, 0, 0), (.istore 5, 0, 0, 0, 0), (.iinc 7 1, 0, 0, 0, 0), (.goto (-96), 0, 0, 0, 0)] = true := by decide +kernel
theorem ck_M_spread_82 : ia_cks 12 9 false prog_14_method_127_code 82 [(.goto 50, 0, 0, 0, 0)] = true := by decide +kernel
theorem ck_M_spread_138 : ia_cks 12 9 false prog_14_method_127_code 138 [(.iinc 6 1, 0, 0, 0, 0), (.goto (-121), 0, 0, 0, 0)] = true := by decide +kernel
theorem ck_M_spread_144 : ia_cks 12 9 false prog_14_method_127_code 144 [(.iload 5, 0, 0, 0, 0)] = true := by decide +kernel
theorem ck_M_spread_12 : ia_cks 12 9 false prog_14_method_127_code 12 [(.iconst (-1), 0, 0, 0, 0)] = true := by decide +kernel
theorem dc_M_spread_6 : decode prog_14_method_127_code 6 = .ok (.invokevirtual 309, 3) := by decide +kernel
theorem dc_M_spread_49 : decode prog_14_method_127_code 49 = .ok (.invokevirtual 222, 3) := by decide +kernel
theorem dc_M_spread_58 : decode prog_14_method_127_code 58 = .ok (.invokevirtual 222, 3) := by decide +kernel
theorem dc_M_spread_67 : decode prog_14_method_127_code 67 = .ok (.invokevirtual 237, 3) := by decide +kernel
theorem dc_M_spread_76 : decode prog_14_method_127_code 76 = .ok (.invokevirtual 237, 3) := by decide +kernel
theorem dc_M_spread_106 : decode prog_14_method_127_code 106 = .ok (.invokevirtual 275, 3) := by decide +kernel
theorem dc_M_spread_146 : decode prog_14_method_127_code 146 = .ok (.ireturn, 1) := by decide +kernel
theorem dc_M_spread_13 : decode prog_14_method_127_code 13 = .ok (.ireturn, 1) := by decide +kernel
def l_M_spread_39 (x1 : Int32) (x2 : Int32) (x3 : Int32) (x4 : Int32) (k138 : Int32 → Int32 → ia_H → Option (Int32 × ia_H)) (n : Nat) (x5 : Int32) (x6 : Int32) (x7 : Int32) (h : ia_H) : Option (Int32 × ia_H) := match n with
  | 0 => none
  | n + 1 => if x6 ≤ x7 then (k138 x5 x6 h) else ((f_M_stands x6 h).bind fun v3 => (if v3 = 0 then (l_M_spread_39 x1 x2 x3 x4 k138 n x5 x6 (x7 + 1) h) else ((f_M_stands x7 h).bind fun v4 => (if v4 = 0 then (l_M_spread_39 x1 x2 x3 x4 k138 n x5 x6 (x7 + 1) h) else ((f_M_stoveOf x6 h).bind fun v5 => (if v5 = 0 then (l_M_spread_39 x1 x2 x3 x4 k138 n x5 x6 (x7 + 1) h) else ((f_M_stoveOf x7 h).bind fun v6 => (if v6 = 0 then (l_M_spread_39 x1 x2 x3 x4 k138 n x5 x6 (x7 + 1) h) else (ia_gd (ia_ib (72 + x6) 1120) (ia_gd (ia_ib (72 + x7) 1120) ((f_M_steps (ia_i h 422 ((72 + x6).toNatClampNeg)) (ia_i h 422 ((72 + x7).toNatClampNeg)) h).bind fun v9 => (if x5 < 0 then (l_M_spread_39 x1 x2 x3 x4 k138 n v9 x6 (x7 + 1) h) else (if x5 ≤ v9 then (l_M_spread_39 x1 x2 x3 x4 k138 n x5 x6 (x7 + 1) h) else (l_M_spread_39 x1 x2 x3 x4 k138 n v9 x6 (x7 + 1) h))))))))))))))
theorem tl_M_spread_39 {w : ia_O0} {d N1 W1 : Nat} {K : ia_K} (hK : ia_isK (d + 11) mm_M_spread N1 W1 K) {x1 : Int32} {x2 : Int32} {x3 : Int32} {x4 : Int32} {r : Int32} {h1 : ia_H} (hret : ∀ (pc : Nat) (lv : ia_L), ia_ret mm_M_spread pc (some (.inl r)) → K pc lv ((some (.inl r)) : Option ia_V).toList h1) {k138 : Int32 → Int32 → ia_H → Option (Int32 × ia_H)} (hk138 : ∀ (x5 : Int32) (x6 : Int32) (h : ia_H), gd_ w h → k138 x5 x6 h = some (r, h1) → K 138 [some (.inr (.inr 417)), none, none, none, none, some (.inl x5), some (.inl x6), none, none] [] h) : ∀ (n : Nat) (x5 : Int32) (x6 : Int32) (x7 : Int32) (h : ia_H), gd_ w h → l_M_spread_39 x1 x2 x3 x4 k138 n x5 x6 x7 h = some (r, h1) → K 39 [some (.inr (.inr 417)), none, none, none, none, some (.inl x5), some (.inl x6), some (.inl x7), none] [] h := by
  intro n
  induction n with
  | zero =>
    intro x5 x6 x7 h hg hm
    cases (show (none : Option (Int32 × ia_H)) = some _ from hm)
  | succ n ih =>
    intro x5 x6 x7 h hg hm
    rw [l_M_spread_39] at hm
    refine ia_go hK ck_M_spread_39 ⟨fun c => ?_, fun c => ?_⟩
    · replace hm := ia_ifp hm c
      show K 138 [some (.inr (.inr 417)), none, none, none, none, some (.inl x5), some (.inl x6), some (.inl x7), none] [] h
      refine ia_fg hK (lv' := [some (.inr (.inr 417)), none, none, none, none, some (.inl x5), some (.inl x6), none, none]) ⟨rfl, rfl, rfl, trivial⟩ ?_
      exact hk138 x5 x6 h hg hm
    · replace hm := ia_ifn hm c
      show K 46 [some (.inr (.inr 417)), none, none, none, none, some (.inl x5), some (.inl x6), some (.inl x7), none] [] h
      refine ia_go hK ck_M_spread_46 ?_
      show K 49 [some (.inr (.inr 417)), none, none, none, none, some (.inl x5), some (.inl x6), some (.inl x7), none] [.inl x6, .inr (.inr 417)] h
      obtain ⟨v3, hv3, hm⟩ := ia_bnd hm
      have ev3 := t_M_stands (d + 8) hg hv3
      refine ia_cV hK mk_M_stands lk_12_222 dc_M_spread_49 417 [.inl x6] [] rfl rfl (Nat.le_of_ble_eq_true rfl) (by decide) rfl (gk_12 hg pk_417) ev3 ⟨rfl, rfl⟩ ?_
      show K 52 [some (.inr (.inr 417)), none, none, none, none, some (.inl x5), some (.inl x6), some (.inl x7), none] [.inl v3] h
      refine ia_go hK ck_M_spread_52 ⟨fun c => ?_, fun c => ?_⟩
      · replace hm := ia_ifp hm c
        show K 132 [some (.inr (.inr 417)), none, none, none, none, some (.inl x5), some (.inl x6), some (.inl x7), none] [] h
        refine ia_go hK ck_M_spread_132 ?_
        show K 39 [some (.inr (.inr 417)), none, none, none, none, some (.inl x5), some (.inl x6), some (.inl (x7 + 1)), none] [] h
        exact ih x5 x6 (x7 + 1) h hg hm
      · replace hm := ia_ifn hm c
        show K 55 [some (.inr (.inr 417)), none, none, none, none, some (.inl x5), some (.inl x6), some (.inl x7), none] [] h
        refine ia_go hK ck_M_spread_55 ?_
        show K 58 [some (.inr (.inr 417)), none, none, none, none, some (.inl x5), some (.inl x6), some (.inl x7), none] [.inl x7, .inr (.inr 417)] h
        obtain ⟨v4, hv4, hm⟩ := ia_bnd hm
        have ev4 := t_M_stands (d + 8) hg hv4
        refine ia_cV hK mk_M_stands lk_12_222 dc_M_spread_58 417 [.inl x7] [] rfl rfl (Nat.le_of_ble_eq_true rfl) (by decide) rfl (gk_12 hg pk_417) ev4 ⟨rfl, rfl⟩ ?_
        show K 61 [some (.inr (.inr 417)), none, none, none, none, some (.inl x5), some (.inl x6), some (.inl x7), none] [.inl v4] h
        refine ia_go hK ck_M_spread_61 ⟨fun c => ?_, fun c => ?_⟩
        · replace hm := ia_ifp hm c
          show K 132 [some (.inr (.inr 417)), none, none, none, none, some (.inl x5), some (.inl x6), some (.inl x7), none] [] h
          refine ia_go hK ck_M_spread_132 ?_
          show K 39 [some (.inr (.inr 417)), none, none, none, none, some (.inl x5), some (.inl x6), some (.inl (x7 + 1)), none] [] h
          exact ih x5 x6 (x7 + 1) h hg hm
        · replace hm := ia_ifn hm c
          show K 64 [some (.inr (.inr 417)), none, none, none, none, some (.inl x5), some (.inl x6), some (.inl x7), none] [] h
          refine ia_go hK ck_M_spread_64 ?_
          show K 67 [some (.inr (.inr 417)), none, none, none, none, some (.inl x5), some (.inl x6), some (.inl x7), none] [.inl x6, .inr (.inr 417)] h
          obtain ⟨v5, hv5, hm⟩ := ia_bnd hm
          have ev5 := t_M_stoveOf (d + 9) hg hv5
          refine ia_cV hK mk_M_stoveOf lk_12_237 dc_M_spread_67 417 [.inl x6] [] rfl rfl (Nat.le_of_ble_eq_true rfl) (by decide) rfl (gk_12 hg pk_417) ev5 ⟨rfl, rfl⟩ ?_
          show K 70 [some (.inr (.inr 417)), none, none, none, none, some (.inl x5), some (.inl x6), some (.inl x7), none] [.inl v5] h
          refine ia_go hK ck_M_spread_70 ⟨fun c => ?_, fun c => ?_⟩
          · replace hm := ia_ifp hm c
            show K 132 [some (.inr (.inr 417)), none, none, none, none, some (.inl x5), some (.inl x6), some (.inl x7), none] [] h
            refine ia_go hK ck_M_spread_132 ?_
            show K 39 [some (.inr (.inr 417)), none, none, none, none, some (.inl x5), some (.inl x6), some (.inl (x7 + 1)), none] [] h
            exact ih x5 x6 (x7 + 1) h hg hm
          · replace hm := ia_ifn hm c
            show K 73 [some (.inr (.inr 417)), none, none, none, none, some (.inl x5), some (.inl x6), some (.inl x7), none] [] h
            refine ia_go hK ck_M_spread_73 ?_
            show K 76 [some (.inr (.inr 417)), none, none, none, none, some (.inl x5), some (.inl x6), some (.inl x7), none] [.inl x7, .inr (.inr 417)] h
            obtain ⟨v6, hv6, hm⟩ := ia_bnd hm
            have ev6 := t_M_stoveOf (d + 9) hg hv6
            refine ia_cV hK mk_M_stoveOf lk_12_237 dc_M_spread_76 417 [.inl x7] [] rfl rfl (Nat.le_of_ble_eq_true rfl) (by decide) rfl (gk_12 hg pk_417) ev6 ⟨rfl, rfl⟩ ?_
            show K 79 [some (.inr (.inr 417)), none, none, none, none, some (.inl x5), some (.inl x6), some (.inl x7), none] [.inl v6] h
            refine ia_go hK ck_M_spread_79 ⟨fun c => ?_, fun c => ?_⟩
            · replace hm := ia_ifn hm c
              show K 85 [some (.inr (.inr 417)), none, none, none, none, some (.inl x5), some (.inl x6), some (.inl x7), none] [] h
              obtain ⟨c7, hm⟩ := ia_gd_some hm
              obtain ⟨c8, hm⟩ := ia_gd_some hm
              refine ia_go hK ck_M_spread_85 ⟨gk_12 hg pk_417, gr_12_13 hg pk_417, ga_i100 hg (ka_12_13 pk_417) c7, gk_12 hg pk_417, gr_12_13 hg pk_417, ga_i100 hg (ka_12_13 pk_417) c8, ?_⟩
              show K 106 [some (.inr (.inr 417)), none, none, none, none, some (.inl x5), some (.inl x6), some (.inl x7), none] [.inl (ia_i h 422 ((72 + x7).toNatClampNeg)), .inl (ia_i h 422 ((72 + x6).toNatClampNeg)), .inr (.inr 417)] h
              obtain ⟨v9, hv9, hm⟩ := ia_bnd hm
              have ev9 := t_M_steps (d + 9) hg hv9
              refine ia_cV hK mk_M_steps lk_12_275 dc_M_spread_106 417 [.inl (ia_i h 422 ((72 + x6).toNatClampNeg)), .inl (ia_i h 422 ((72 + x7).toNatClampNeg))] [] rfl rfl (Nat.le_of_ble_eq_true rfl) (by decide) rfl (gk_12 hg pk_417) ev9 ⟨rfl, rfl⟩ ?_
              show K 109 [some (.inr (.inr 417)), none, none, none, none, some (.inl x5), some (.inl x6), some (.inl x7), none] [.inl v9] h
              refine ia_go hK ck_M_spread_109 ⟨fun c => ?_, fun c => ?_⟩
              · replace hm := ia_ifp hm c
                show K 123 [some (.inr (.inr 417)), none, none, none, none, some (.inl x5), some (.inl x6), some (.inl x7), some (.inl v9)] [] h
                refine ia_go hK ck_M_spread_123 ?_
                show K 130 [some (.inr (.inr 417)), none, none, none, none, some (.inl x5), some (.inl x6), some (.inl x7), some (.inl v9)] [.inl v9] h
                refine ia_go hK ck_M_spread_130 ?_
                show K 39 [some (.inr (.inr 417)), none, none, none, none, some (.inl v9), some (.inl x6), some (.inl (x7 + 1)), some (.inl v9)] [] h
                refine ia_fg hK (lv' := [some (.inr (.inr 417)), none, none, none, none, some (.inl v9), some (.inl x6), some (.inl (x7 + 1)), none]) ⟨rfl, rfl, rfl, rfl, trivial⟩ ?_
                exact ih v9 x6 (x7 + 1) h hg hm
              · replace hm := ia_ifn hm c
                show K 116 [some (.inr (.inr 417)), none, none, none, none, some (.inl x5), some (.inl x6), some (.inl x7), some (.inl v9)] [] h
                refine ia_go hK ck_M_spread_116 ⟨fun c => ?_, fun c => ?_⟩
                · replace hm := ia_ifp hm c
                  show K 128 [some (.inr (.inr 417)), none, none, none, none, some (.inl x5), some (.inl x6), some (.inl x7), some (.inl v9)] [] h
                  refine ia_go hK ck_M_spread_128 ?_
                  show K 39 [some (.inr (.inr 417)), none, none, none, none, some (.inl x5), some (.inl x6), some (.inl (x7 + 1)), some (.inl v9)] [] h
                  refine ia_fg hK (lv' := [some (.inr (.inr 417)), none, none, none, none, some (.inl x5), some (.inl x6), some (.inl (x7 + 1)), none]) ⟨rfl, rfl, rfl, rfl, trivial⟩ ?_
                  exact ih x5 x6 (x7 + 1) h hg hm
                · replace hm := ia_ifn hm c
                  show K 123 [some (.inr (.inr 417)), none, none, none, none, some (.inl x5), some (.inl x6), some (.inl x7), some (.inl v9)] [] h
                  refine ia_go hK ck_M_spread_123 ?_
                  show K 130 [some (.inr (.inr 417)), none, none, none, none, some (.inl x5), some (.inl x6), some (.inl x7), some (.inl v9)] [.inl v9] h
                  refine ia_go hK ck_M_spread_130 ?_
                  show K 39 [some (.inr (.inr 417)), none, none, none, none, some (.inl v9), some (.inl x6), some (.inl (x7 + 1)), some (.inl v9)] [] h
                  refine ia_fg hK (lv' := [some (.inr (.inr 417)), none, none, none, none, some (.inl v9), some (.inl x6), some (.inl (x7 + 1)), none]) ⟨rfl, rfl, rfl, rfl, trivial⟩ ?_
                  exact ih v9 x6 (x7 + 1) h hg hm
            · replace hm := ia_ifp hm c
              show K 82 [some (.inr (.inr 417)), none, none, none, none, some (.inl x5), some (.inl x6), some (.inl x7), none] [] h
              refine ia_go hK ck_M_spread_82 ?_
              show K 132 [some (.inr (.inr 417)), none, none, none, none, some (.inl x5), some (.inl x6), some (.inl x7), none] [] h
              refine ia_go hK ck_M_spread_132 ?_
              show K 39 [some (.inr (.inr 417)), none, none, none, none, some (.inl x5), some (.inl x6), some (.inl (x7 + 1)), none] [] h
              exact ih x5 x6 (x7 + 1) h hg hm
theorem gl_M_spread_39 {w : ia_O0} {x1 : Int32} {x2 : Int32} {x3 : Int32} {x4 : Int32} {r : Int32} {h1 : ia_H} {k138 : Int32 → Int32 → ia_H → Option (Int32 × ia_H)} (hk138 : ∀ (x5 : Int32) (x6 : Int32) (h : ia_H), gd_ w h → k138 x5 x6 h = some (r, h1) → gd_ w h1) : ∀ (n : Nat) (x5 : Int32) (x6 : Int32) (x7 : Int32) (h : ia_H), gd_ w h → l_M_spread_39 x1 x2 x3 x4 k138 n x5 x6 x7 h = some (r, h1) → gd_ w h1 := by
  intro n
  induction n with
  | zero =>
    intro x5 x6 x7 h hg hm
    cases (show (none : Option (Int32 × ia_H)) = some _ from hm)
  | succ n ih =>
    intro x5 x6 x7 h hg hm
    rw [l_M_spread_39] at hm
    by_cases c : x6 ≤ x7
    · replace hm := ia_ifp hm c
      exact hk138 x5 x6 h hg hm
    · replace hm := ia_ifn hm c
      obtain ⟨v3, hv3, hm⟩ := ia_bnd hm
      by_cases c : v3 = 0
      · replace hm := ia_ifp hm c
        exact ih x5 x6 (x7 + 1) h hg hm
      · replace hm := ia_ifn hm c
        obtain ⟨v4, hv4, hm⟩ := ia_bnd hm
        by_cases c : v4 = 0
        · replace hm := ia_ifp hm c
          exact ih x5 x6 (x7 + 1) h hg hm
        · replace hm := ia_ifn hm c
          obtain ⟨v5, hv5, hm⟩ := ia_bnd hm
          by_cases c : v5 = 0
          · replace hm := ia_ifp hm c
            exact ih x5 x6 (x7 + 1) h hg hm
          · replace hm := ia_ifn hm c
            obtain ⟨v6, hv6, hm⟩ := ia_bnd hm
            by_cases c : v6 = 0
            · replace hm := ia_ifp hm c
              exact ih x5 x6 (x7 + 1) h hg hm
            · replace hm := ia_ifn hm c
              obtain ⟨c7, hm⟩ := ia_gd_some hm
              obtain ⟨c8, hm⟩ := ia_gd_some hm
              obtain ⟨v9, hv9, hm⟩ := ia_bnd hm
              by_cases c : x5 < 0
              · replace hm := ia_ifp hm c
                exact ih v9 x6 (x7 + 1) h hg hm
              · replace hm := ia_ifn hm c
                by_cases c : x5 ≤ v9
                · replace hm := ia_ifp hm c
                  exact ih x5 x6 (x7 + 1) h hg hm
                · replace hm := ia_ifn hm c
                  exact ih v9 x6 (x7 + 1) h hg hm
def l_M_spread_20 (x1 : Int32) (x2 : Int32) (x3 : Int32) (x4 : Int32) (k144 : Int32 → ia_H → Option (Int32 × ia_H)) (n : Nat) (x5 : Int32) (x6 : Int32) (h : ia_H) : Option (Int32 × ia_H) := match n with
  | 0 => none
  | n + 1 => ia_gd (ia_ib ((ia_i h 417 14) + 4) 6528) (if (ia_i h 418 (((ia_i h 417 14) + 4).toNatClampNeg)) ≤ x6 then (k144 x5 h) else (l_M_spread_39 x1 x2 x3 x4 (fun x5 x6 h => l_M_spread_20 x1 x2 x3 x4 k144 n x5 (x6 + 1) h) fu_ x5 x6 0 h))
theorem tl_M_spread_20 {w : ia_O0} {d N1 W1 : Nat} {K : ia_K} (hK : ia_isK (d + 11) mm_M_spread N1 W1 K) {x1 : Int32} {x2 : Int32} {x3 : Int32} {x4 : Int32} {r : Int32} {h1 : ia_H} (hret : ∀ (pc : Nat) (lv : ia_L), ia_ret mm_M_spread pc (some (.inl r)) → K pc lv ((some (.inl r)) : Option ia_V).toList h1) {k144 : Int32 → ia_H → Option (Int32 × ia_H)} (hk144 : ∀ (x5 : Int32) (h : ia_H), gd_ w h → k144 x5 h = some (r, h1) → K 144 [none, none, none, none, none, some (.inl x5), none, none, none] [] h) : ∀ (n : Nat) (x5 : Int32) (x6 : Int32) (h : ia_H), gd_ w h → l_M_spread_20 x1 x2 x3 x4 k144 n x5 x6 h = some (r, h1) → K 20 [some (.inr (.inr 417)), none, none, none, none, some (.inl x5), some (.inl x6), none, none] [] h := by
  intro n
  induction n with
  | zero =>
    intro x5 x6 h hg hm
    cases (show (none : Option (Int32 × ia_H)) = some _ from hm)
  | succ n ih =>
    intro x5 x6 h hg hm
    rw [l_M_spread_20] at hm
    obtain ⟨c2, hm⟩ := ia_gd_some hm
    refine ia_go hK ck_M_spread_20 ⟨gk_12 hg pk_417, gr_12_0 hg pk_417, gk_12 hg pk_417, ga_i100 hg (ka_12_0 pk_417) c2, fun c => ?_, fun c => ?_⟩
    · replace hm := ia_ifp hm c
      show K 144 [some (.inr (.inr 417)), none, none, none, none, some (.inl x5), some (.inl x6), none, none] [] h
      refine ia_fg hK (lv' := [none, none, none, none, none, some (.inl x5), none, none, none]) ⟨rfl, trivial⟩ ?_
      exact hk144 x5 h hg hm
    · replace hm := ia_ifn hm c
      show K 36 [some (.inr (.inr 417)), none, none, none, none, some (.inl x5), some (.inl x6), none, none] [] h
      refine ia_go hK ck_M_spread_36 ?_
      show K 39 [some (.inr (.inr 417)), none, none, none, none, some (.inl x5), some (.inl x6), some (.inl 0), none] [] h
      refine tl_M_spread_39 hK hret ?_ fu_ x5 x6 0 h hg hm
      · intro x5 x6 h hg hm
        refine ia_go hK ck_M_spread_138 ?_
        show K 20 [some (.inr (.inr 417)), none, none, none, none, some (.inl x5), some (.inl (x6 + 1)), none, none] [] h
        exact ih x5 (x6 + 1) h hg hm
theorem gl_M_spread_20 {w : ia_O0} {x1 : Int32} {x2 : Int32} {x3 : Int32} {x4 : Int32} {r : Int32} {h1 : ia_H} {k144 : Int32 → ia_H → Option (Int32 × ia_H)} (hk144 : ∀ (x5 : Int32) (h : ia_H), gd_ w h → k144 x5 h = some (r, h1) → gd_ w h1) : ∀ (n : Nat) (x5 : Int32) (x6 : Int32) (h : ia_H), gd_ w h → l_M_spread_20 x1 x2 x3 x4 k144 n x5 x6 h = some (r, h1) → gd_ w h1 := by
  intro n
  induction n with
  | zero =>
    intro x5 x6 h hg hm
    cases (show (none : Option (Int32 × ia_H)) = some _ from hm)
  | succ n ih =>
    intro x5 x6 h hg hm
    rw [l_M_spread_20] at hm
    obtain ⟨c2, hm⟩ := ia_gd_some hm
    by_cases c : (ia_i h 418 (((ia_i h 417 14) + 4).toNatClampNeg)) ≤ x6
    · replace hm := ia_ifp hm c
      exact hk144 x5 h hg hm
    · replace hm := ia_ifn hm c
      refine gl_M_spread_39 ?_ fu_ x5 x6 0 h hg hm
      · intro x5 x6 h hg hm
        exact ih x5 (x6 + 1) h hg hm
def f_M_spread (x1 : Int32) (x2 : Int32) (x3 : Int32) (x4 : Int32) (h : ia_H) : Option (Int32 × ia_H) := (f_M_isState x1 x2 x3 x4 h).bind fun v1 => (if v1.1 = 0 then (some ((-1), v1.2)) else (l_M_spread_20 x1 x2 x3 x4 (fun x5 h => some (x5, h)) fu_ (-1) 0 v1.2))
theorem g_M_spread {w : ia_O0} {x1 : Int32} {x2 : Int32} {x3 : Int32} {x4 : Int32} {h : ia_H} (hg : gd_ w h) {q : (Int32 × ia_H)} (hm : f_M_spread x1 x2 x3 x4 h = some q) : gd_ w q.2 := by
  obtain ⟨r, h1⟩ := q
  unfold f_M_spread at hm
  obtain ⟨v1, hv1, hm⟩ := ia_bnd hm
  have gv1 := g_M_isState hg hv1
  by_cases c : v1.1 = 0
  · replace hm := ia_ifp hm c
    obtain ⟨rfl, rfl⟩ := Prod.mk.inj (Option.some.inj hm)
    exact gv1
  · replace hm := ia_ifn hm c
    refine gl_M_spread_20 ?_ fu_ (-1) 0 v1.2 gv1 hm
    · intro x5 h hg hm
      obtain ⟨rfl, rfl⟩ := Prod.mk.inj (Option.some.inj hm)
      exact hg
theorem t_M_spread {w : ia_O0} (d : Nat) {x1 : Int32} {x2 : Int32} {x3 : Int32} {x4 : Int32} {h : ia_H} (hg : gd_ w h) {q : (Int32 × ia_H)} (hm : f_M_spread x1 x2 x3 x4 h = some q) : ia_Ev (d + 11) mm_M_spread [.inr (.inr 417), .inl x1, .inl x2, .inl x3, .inl x4] h (some (.inl q.1)) q.2 := by
  have gq := g_M_spread hg hm
  refine ia_Ev_intro ok_M_spread (gd_le hg gq).1 (gd_le hg gq).2 (Nat.le_of_ble_eq_true rfl) (fun K hK hret => ?_)
  obtain ⟨r, h1⟩ := q
  show K 0 [some (.inr (.inr 417)), some (.inl x1), some (.inl x2), some (.inl x3), some (.inl x4), none, none, none, none] [] h
  unfold f_M_spread at hm
  refine ia_go hK ck_M_spread_0 ?_
  show K 6 [some (.inr (.inr 417)), some (.inl x1), some (.inl x2), some (.inl x3), some (.inl x4), none, none, none, none] [.inl x4, .inl x3, .inl x2, .inl x1, .inr (.inr 417)] h
  obtain ⟨v1, hv1, hm⟩ := ia_bnd hm
  have ev1 := t_M_isState (d + 0) hg hv1
  have gv1 := g_M_isState hg hv1
  refine ia_cV hK mk_M_isState lk_12_309 dc_M_spread_6 417 [.inl x1, .inl x2, .inl x3, .inl x4] [] rfl rfl (Nat.le_of_ble_eq_true rfl) (by decide) rfl (gk_12 hg pk_417) ev1 (gd_nm hg gv1) ?_
  show K 9 [some (.inr (.inr 417)), some (.inl x1), some (.inl x2), some (.inl x3), some (.inl x4), none, none, none, none] [.inl v1.1] v1.2
  refine ia_go hK ck_M_spread_9 ⟨fun c => ?_, fun c => ?_⟩
  · replace hm := ia_ifn hm c
    show K 14 [some (.inr (.inr 417)), some (.inl x1), some (.inl x2), some (.inl x3), some (.inl x4), none, none, none, none] [] v1.2
    refine ia_go hK ck_M_spread_14 ?_
    show K 20 [some (.inr (.inr 417)), some (.inl x1), some (.inl x2), some (.inl x3), some (.inl x4), some (.inl (-1)), some (.inl 0), none, none] [] v1.2
    refine ia_fg hK (lv' := [some (.inr (.inr 417)), none, none, none, none, some (.inl (-1)), some (.inl 0), none, none]) ⟨rfl, rfl, rfl, trivial⟩ ?_
    refine tl_M_spread_20 hK hret ?_ fu_ (-1) 0 v1.2 gv1 hm
    · intro x5 h hg hm
      refine ia_go hK ck_M_spread_144 ?_
      show K 146 [none, none, none, none, none, some (.inl x5), none, none, none] [.inl x5] h
      obtain ⟨rfl, rfl⟩ := Prod.mk.inj (Option.some.inj hm)
      exact hret 146 _ dc_M_spread_146
  · replace hm := ia_ifp hm c
    show K 12 [some (.inr (.inr 417)), some (.inl x1), some (.inl x2), some (.inl x3), some (.inl x4), none, none, none, none] [] v1.2
    refine ia_go hK ck_M_spread_12 ?_
    show K 13 [some (.inr (.inr 417)), some (.inl x1), some (.inl x2), some (.inl x3), some (.inl x4), none, none, none, none] [.inl (-1)] v1.2
    obtain ⟨rfl, rfl⟩ := Prod.mk.inj (Option.some.inj hm)
    exact hret 13 _ dc_M_spread_13
def mm_M_count : ia_M := (⟨"IceStreetModel", "count", "(I)I"⟩, prog_14_method_128_code, 2, (some .int), 12, false)
theorem ok_M_count : ia_mok mm_M_count := ⟨by decide +kernel, by decide +kernel, by decide +kernel, by decide +kernel⟩
theorem mk_M_count : ia_mkn mm_M_count 1 1 := ⟨ia_tb_in (List.mem_of_getElem? (i := 2224) (by decide +kernel)) rfl, ia_tb_in (List.mem_of_getElem? (i := 146) (by decide +kernel)) rfl, by decide +kernel, by decide +kernel, ⟨ia_tb_in (List.mem_of_getElem? (i := 2222) (by decide +kernel)) rfl, ia_tb_in (List.mem_of_getElem? (i := 2223) (by decide +kernel)) rfl⟩⟩
theorem ck_M_count_0 : ia_cks 12 2 false prog_14_method_128_code 0 [(.iload_n 1, 0, 0, 0, 0), (.iconst 0, 0, 0, 0, 0), (.iconst 2, 0, 0, 0, 0)] = true := by decide +kernel
theorem ck_M_count_6 : ia_cks 12 2 false prog_14_method_128_code 6 [(.ifCond .eq 12, 0, 0, 0, 0)] = true := by decide +kernel
theorem ck_M_count_18 : ia_cks 12 2 false prog_14_method_128_code 18 [(.bipush (-2), 0, 0, 0, 0)] = true := by decide +kernel
theorem ck_M_count_9 : ia_cks 12 2 false prog_14_method_128_code 9 [(.aload_n 0, 0, 0, 0, 0), (.getfield 7, 12, 0, 3, 1), (.iload_n 1, 0, 0, 0, 0), (.iaload, 0, 0, 0, 0), (.goto 5, 0, 0, 0, 0)] = true := by decide +kernel
theorem dc_M_count_3 : decode prog_14_method_128_code 3 = .ok (.invokestatic 116, 3) := by decide +kernel
theorem dc_M_count_20 : decode prog_14_method_128_code 20 = .ok (.ireturn, 1) := by decide +kernel
def f_M_count (x1 : Int32) (h : ia_H) : Option Int32 := (f_M_isIn x1 0 2 h).bind fun v1 => (if v1 = 0 then (some (-2)) else (ia_gd (ia_ib x1 6528) (some (ia_i h 418 ((x1).toNatClampNeg)))))
theorem t_M_count {w : ia_O0} (d : Nat) {x1 : Int32} {h : ia_H} (hg : gd_ w h) {r : Int32} (hm : f_M_count x1 h = some r) : ia_Ev (d + 1) mm_M_count [.inr (.inr 417), .inl x1] h (some (.inl r)) h := by
  refine ia_Ev_intro ok_M_count (Nat.le_refl _) (Nat.le_refl _) (Nat.le_of_ble_eq_true rfl) (fun K hK hret => ?_)
  show K 0 [some (.inr (.inr 417)), some (.inl x1)] [] h
  unfold f_M_count at hm
  refine ia_go hK ck_M_count_0 ?_
  show K 3 [some (.inr (.inr 417)), some (.inl x1)] [.inl 2, .inl 0, .inl x1] h
  obtain ⟨v1, hv1, hm⟩ := ia_bnd hm
  have ev1 := t_M_isIn (d + 0) hg hv1
  refine ia_cS hK mk_M_isIn lk_12_116 dc_M_count_3 [.inl x1, .inl 0, .inl 2] [] rfl rfl (Nat.le_of_ble_eq_true rfl) ev1 ⟨rfl, rfl⟩ ?_
  show K 6 [some (.inr (.inr 417)), some (.inl x1)] [.inl v1] h
  refine ia_go hK ck_M_count_6 ⟨fun c => ?_, fun c => ?_⟩
  · replace hm := ia_ifp hm c
    show K 18 [some (.inr (.inr 417)), some (.inl x1)] [] h
    refine ia_go hK ck_M_count_18 ?_
    show K 20 [some (.inr (.inr 417)), some (.inl x1)] [.inl (-2)] h
    obtain rfl := Option.some.inj hm
    exact hret 20 _ dc_M_count_20
  · replace hm := ia_ifn hm c
    show K 9 [some (.inr (.inr 417)), some (.inl x1)] [] h
    obtain ⟨c2, hm⟩ := ia_gd_some hm
    refine ia_go hK ck_M_count_9 ⟨gk_12 hg pk_417, gr_12_0 hg pk_417, ga_i100 hg (ka_12_0 pk_417) c2, ?_⟩
    show K 20 [some (.inr (.inr 417)), some (.inl x1)] [.inl (ia_i h 418 ((x1).toNatClampNeg))] h
    obtain rfl := Option.some.inj hm
    exact hret 20 _ dc_M_count_20
def mm_M_image : ia_M := (⟨"IceStreetModel", "image", "(I)Z"⟩, prog_14_method_129_code, 3, (some .boolean), 12, false)
theorem ok_M_image : ia_mok mm_M_image := ⟨by decide +kernel, by decide +kernel, by decide +kernel, by decide +kernel⟩
theorem mk_M_image : ia_mkn mm_M_image 1 1 := ⟨ia_tb_in (List.mem_of_getElem? (i := 2228) (by decide +kernel)) rfl, ia_tb_in (List.mem_of_getElem? (i := 146) (by decide +kernel)) rfl, by decide +kernel, by decide +kernel, ⟨ia_tb_in (List.mem_of_getElem? (i := 2226) (by decide +kernel)) rfl, ia_tb_in (List.mem_of_getElem? (i := 2227) (by decide +kernel)) rfl⟩⟩
theorem ck_M_image_0 : ia_cks 12 3 false prog_14_method_129_code 0 [(.iload_n 1, 0, 0, 0, 0), (.iconst 0, 0, 0, 0, 0), (.iconst 2, 0, 0, 0, 0)] = true := by decide +kernel
theorem ck_M_image_6 : ia_cks 12 3 false prog_14_method_129_code 6 [(.ifCond .ne 5, 0, 0, 0, 0)] = true := by decide +kernel
theorem ck_M_image_11 : ia_cks 12 3 false prog_14_method_129_code 11 [(.aload_n 0, 0, 0, 0, 0), (.getfield 13, 12, 1, 3, 2), (.iload_n 1, 0, 0, 0, 0), (.iconst 1, 0, 0, 0, 0), (.bastore, 101, 0, 0, 0), (.iconst 0, 0, 0, 0, 0), (.istore_n 2, 0, 0, 0, 0)] = true := by decide +kernel
theorem ck_M_image_20 : ia_cks 12 3 false prog_14_method_129_code 20 [(.iload_n 2, 0, 0, 0, 0), (.sipush 1632, 0, 0, 0, 0), (.if_icmp .ge 29, 0, 0, 0, 0)] = true := by decide +kernel
theorem ck_M_image_27 : ia_cks 12 3 false prog_14_method_129_code 27 [(.aload_n 0, 0, 0, 0, 0), (.getfield 7, 12, 0, 3, 1), (.sipush 1632, 0, 0, 0, 0), (.iload_n 1, 0, 0, 0, 0), (.iconst 1, 0, 0, 0, 0), (.iadd, 0, 0, 0, 0), (.imul, 0, 0, 0, 0), (.iload_n 2, 0, 0, 0, 0), (.iadd, 0, 0, 0, 0), (.aload_n 0, 0, 0, 0, 0), (.getfield 7, 12, 0, 3, 1), (.iload_n 2, 0, 0, 0, 0), (.iaload, 0, 0, 0, 0), (.iastore, 0, 0, 0, 0), (.iinc 2 1, 0, 0, 0, 0), (.goto (-30), 0, 0, 0, 0)] = true := by decide +kernel
theorem ck_M_image_53 : ia_cks 12 3 false prog_14_method_129_code 53 [(.iconst 1, 0, 0, 0, 0)] = true := by decide +kernel
theorem ck_M_image_9 : ia_cks 12 3 false prog_14_method_129_code 9 [(.iconst 0, 0, 0, 0, 0)] = true := by decide +kernel
theorem dc_M_image_3 : decode prog_14_method_129_code 3 = .ok (.invokestatic 116, 3) := by decide +kernel
theorem dc_M_image_54 : decode prog_14_method_129_code 54 = .ok (.ireturn, 1) := by decide +kernel
theorem dc_M_image_10 : decode prog_14_method_129_code 10 = .ok (.ireturn, 1) := by decide +kernel
def l_M_image_20 (x1 : Int32) (k53 : ia_H → Option (Int32 × ia_H)) (n : Nat) (x2 : Int32) (h : ia_H) : Option (Int32 × ia_H) := match n with
  | 0 => none
  | n + 1 => if 1632 ≤ x2 then (k53 h) else (ia_gd (ia_ib x2 6528) (ia_gd (ia_ib ((1632 * (x1 + 1)) + x2) 6528) (l_M_image_20 x1 k53 n (x2 + 1) (ia_wI h 418 (((1632 * (x1 + 1)) + x2).toNatClampNeg) (ia_i h 418 ((x2).toNatClampNeg))))))
theorem tl_M_image_20 {w : ia_O0} {d N1 W1 : Nat} {K : ia_K} (hK : ia_isK (d + 1) mm_M_image N1 W1 K) {x1 : Int32} {r : Int32} {h1 : ia_H} (hret : ∀ (pc : Nat) (lv : ia_L), ia_ret mm_M_image pc (some (.inl r)) → K pc lv ((some (.inl r)) : Option ia_V).toList h1) {k53 : ia_H → Option (Int32 × ia_H)} (hk53 : ∀ (h : ia_H), gd_ w h → k53 h = some (r, h1) → K 53 [none, none, none] [] h) : ∀ (n : Nat) (x2 : Int32) (h : ia_H), gd_ w h → l_M_image_20 x1 k53 n x2 h = some (r, h1) → K 20 [some (.inr (.inr 417)), some (.inl x1), some (.inl x2)] [] h := by
  intro n
  induction n with
  | zero =>
    intro x2 h hg hm
    cases (show (none : Option (Int32 × ia_H)) = some _ from hm)
  | succ n ih =>
    intro x2 h hg hm
    rw [l_M_image_20] at hm
    refine ia_go hK ck_M_image_20 ⟨fun c => ?_, fun c => ?_⟩
    · replace hm := ia_ifp hm c
      show K 53 [some (.inr (.inr 417)), some (.inl x1), some (.inl x2)] [] h
      refine ia_fg hK (lv' := [none, none, none]) trivial ?_
      exact hk53 h hg hm
    · replace hm := ia_ifn hm c
      show K 27 [some (.inr (.inr 417)), some (.inl x1), some (.inl x2)] [] h
      obtain ⟨c3, hm⟩ := ia_gd_some hm
      obtain ⟨c4, hm⟩ := ia_gd_some hm
      refine ia_go hK ck_M_image_27 ⟨gk_12 hg pk_417, gr_12_0 hg pk_417, gk_12 hg pk_417, gr_12_0 hg pk_417, ga_i100 hg (ka_12_0 pk_417) c3, ga_s100 hg (ka_12_0 pk_417) c4, ?_⟩
      show K 20 [some (.inr (.inr 417)), some (.inl x1), some (.inl (x2 + 1))] [] (ia_wI h 418 (((1632 * (x1 + 1)) + x2).toNatClampNeg) (ia_i h 418 ((x2).toNatClampNeg)))
      exact ih (x2 + 1) (ia_wI h 418 (((1632 * (x1 + 1)) + x2).toNatClampNeg) (ia_i h 418 ((x2).toNatClampNeg))) (gd_wI hg (kx_100 (ka_12_0 pk_417))) hm
theorem gl_M_image_20 {w : ia_O0} {x1 : Int32} {r : Int32} {h1 : ia_H} {k53 : ia_H → Option (Int32 × ia_H)} (hk53 : ∀ (h : ia_H), gd_ w h → k53 h = some (r, h1) → gd_ w h1) : ∀ (n : Nat) (x2 : Int32) (h : ia_H), gd_ w h → l_M_image_20 x1 k53 n x2 h = some (r, h1) → gd_ w h1 := by
  intro n
  induction n with
  | zero =>
    intro x2 h hg hm
    cases (show (none : Option (Int32 × ia_H)) = some _ from hm)
  | succ n ih =>
    intro x2 h hg hm
    rw [l_M_image_20] at hm
    by_cases c : 1632 ≤ x2
    · replace hm := ia_ifp hm c
      exact hk53 h hg hm
    · replace hm := ia_ifn hm c
      obtain ⟨c3, hm⟩ := ia_gd_some hm
      obtain ⟨c4, hm⟩ := ia_gd_some hm
      exact ih (x2 + 1) (ia_wI h 418 (((1632 * (x1 + 1)) + x2).toNatClampNeg) (ia_i h 418 ((x2).toNatClampNeg))) (gd_wI hg (kx_100 (ka_12_0 pk_417))) hm
def f_M_image (x1 : Int32) (h : ia_H) : Option (Int32 × ia_H) := (f_M_isIn x1 0 2 h).bind fun v1 => (if v1 = 0 then (some (0, h)) else (ia_gd (ia_ib x1 3) (l_M_image_20 x1 (fun h => some (1, h)) fu_ 0 (ia_wI h 419 ((x1).toNatClampNeg) (vp_nar .boolean 1)))))
theorem g_M_image {w : ia_O0} {x1 : Int32} {h : ia_H} (hg : gd_ w h) {q : (Int32 × ia_H)} (hm : f_M_image x1 h = some q) : gd_ w q.2 := by
  obtain ⟨r, h1⟩ := q
  unfold f_M_image at hm
  obtain ⟨v1, hv1, hm⟩ := ia_bnd hm
  by_cases c : v1 = 0
  · replace hm := ia_ifp hm c
    obtain ⟨rfl, rfl⟩ := Prod.mk.inj (Option.some.inj hm)
    exact hg
  · replace hm := ia_ifn hm c
    obtain ⟨c2, hm⟩ := ia_gd_some hm
    refine gl_M_image_20 ?_ fu_ 0 (ia_wI h 419 ((x1).toNatClampNeg) (vp_nar .boolean 1)) (gd_wI hg (kx_101 (ka_12_1 pk_417))) hm
    · intro h hg hm
      obtain ⟨rfl, rfl⟩ := Prod.mk.inj (Option.some.inj hm)
      exact hg
theorem t_M_image {w : ia_O0} (d : Nat) {x1 : Int32} {h : ia_H} (hg : gd_ w h) {q : (Int32 × ia_H)} (hm : f_M_image x1 h = some q) : ia_Ev (d + 1) mm_M_image [.inr (.inr 417), .inl x1] h (some (.inl q.1)) q.2 := by
  have gq := g_M_image hg hm
  refine ia_Ev_intro ok_M_image (gd_le hg gq).1 (gd_le hg gq).2 (Nat.le_of_ble_eq_true rfl) (fun K hK hret => ?_)
  obtain ⟨r, h1⟩ := q
  show K 0 [some (.inr (.inr 417)), some (.inl x1), none] [] h
  unfold f_M_image at hm
  refine ia_go hK ck_M_image_0 ?_
  show K 3 [some (.inr (.inr 417)), some (.inl x1), none] [.inl 2, .inl 0, .inl x1] h
  obtain ⟨v1, hv1, hm⟩ := ia_bnd hm
  have ev1 := t_M_isIn (d + 0) hg hv1
  refine ia_cS hK mk_M_isIn lk_12_116 dc_M_image_3 [.inl x1, .inl 0, .inl 2] [] rfl rfl (Nat.le_of_ble_eq_true rfl) ev1 ⟨rfl, rfl⟩ ?_
  show K 6 [some (.inr (.inr 417)), some (.inl x1), none] [.inl v1] h
  refine ia_go hK ck_M_image_6 ⟨fun c => ?_, fun c => ?_⟩
  · replace hm := ia_ifn hm c
    show K 11 [some (.inr (.inr 417)), some (.inl x1), none] [] h
    obtain ⟨c2, hm⟩ := ia_gd_some hm
    refine ia_go hK ck_M_image_11 ⟨gk_12 hg pk_417, gr_12_1 hg pk_417, ga_s101 hg (ka_12_1 pk_417) c2, ?_⟩
    show K 20 [some (.inr (.inr 417)), some (.inl x1), some (.inl 0)] [] (ia_wI h 419 ((x1).toNatClampNeg) (vp_nar .boolean 1))
    refine tl_M_image_20 hK hret ?_ fu_ 0 (ia_wI h 419 ((x1).toNatClampNeg) (vp_nar .boolean 1)) (gd_wI hg (kx_101 (ka_12_1 pk_417))) hm
    · intro h hg hm
      refine ia_go hK ck_M_image_53 ?_
      show K 54 [none, none, none] [.inl 1] h
      obtain ⟨rfl, rfl⟩ := Prod.mk.inj (Option.some.inj hm)
      exact hret 54 _ ⟨Or.inr rfl, dc_M_image_54⟩
  · replace hm := ia_ifp hm c
    show K 9 [some (.inr (.inr 417)), some (.inl x1), none] [] h
    refine ia_go hK ck_M_image_9 ?_
    show K 10 [some (.inr (.inr 417)), some (.inl x1), none] [.inl 0] h
    obtain ⟨rfl, rfl⟩ := Prod.mk.inj (Option.some.inj hm)
    exact hret 10 _ ⟨Or.inl rfl, dc_M_image_10⟩
def mm_M_again : ia_M := (⟨"IceStreetModel", "again", "(I)Z"⟩, prog_14_method_130_code, 3, (some .boolean), 12, false)
theorem ok_M_again : ia_mok mm_M_again := ⟨by decide +kernel, by decide +kernel, by decide +kernel, by decide +kernel⟩
theorem mk_M_again : ia_mkn mm_M_again 1 1 := ⟨ia_tb_in (List.mem_of_getElem? (i := 2232) (by decide +kernel)) rfl, ia_tb_in (List.mem_of_getElem? (i := 146) (by decide +kernel)) rfl, by decide +kernel, by decide +kernel, ⟨ia_tb_in (List.mem_of_getElem? (i := 2230) (by decide +kernel)) rfl, ia_tb_in (List.mem_of_getElem? (i := 2231) (by decide +kernel)) rfl⟩⟩
theorem ck_M_again_0 : ia_cks 12 3 false prog_14_method_130_code 0 [(.iload_n 1, 0, 0, 0, 0), (.iconst 0, 0, 0, 0, 0), (.iconst 2, 0, 0, 0, 0)] = true := by decide +kernel
theorem ck_M_again_6 : ia_cks 12 3 false prog_14_method_130_code 6 [(.ifCond .eq 12, 0, 0, 0, 0)] = true := by decide +kernel
theorem ck_M_again_18 : ia_cks 12 3 false prog_14_method_130_code 18 [(.iconst 0, 0, 0, 0, 0)] = true := by decide +kernel
theorem ck_M_again_9 : ia_cks 12 3 false prog_14_method_130_code 9 [(.aload_n 0, 0, 0, 0, 0), (.getfield 13, 12, 1, 3, 2), (.iload_n 1, 0, 0, 0, 0), (.baload, 101, 0, 0, 0), (.ifCond .ne 5, 0, 0, 0, 0)] = true := by decide +kernel
theorem ck_M_again_20 : ia_cks 12 3 false prog_14_method_130_code 20 [(.iconst 0, 0, 0, 0, 0), (.istore_n 2, 0, 0, 0, 0)] = true := by decide +kernel
theorem ck_M_again_22 : ia_cks 12 3 false prog_14_method_130_code 22 [(.iload_n 2, 0, 0, 0, 0), (.sipush 1632, 0, 0, 0, 0), (.if_icmp .ge 29, 0, 0, 0, 0)] = true := by decide +kernel
theorem ck_M_again_29 : ia_cks 12 3 false prog_14_method_130_code 29 [(.aload_n 0, 0, 0, 0, 0), (.getfield 7, 12, 0, 3, 1), (.iload_n 2, 0, 0, 0, 0), (.aload_n 0, 0, 0, 0, 0), (.getfield 7, 12, 0, 3, 1), (.sipush 1632, 0, 0, 0, 0), (.iload_n 1, 0, 0, 0, 0), (.iconst 1, 0, 0, 0, 0), (.iadd, 0, 0, 0, 0), (.imul, 0, 0, 0, 0), (.iload_n 2, 0, 0, 0, 0), (.iadd, 0, 0, 0, 0), (.iaload, 0, 0, 0, 0), (.iastore, 0, 0, 0, 0), (.iinc 2 1, 0, 0, 0, 0), (.goto (-30), 0, 0, 0, 0)] = true := by decide +kernel
theorem ck_M_again_55 : ia_cks 12 3 false prog_14_method_130_code 55 [(.iconst 1, 0, 0, 0, 0)] = true := by decide +kernel
theorem dc_M_again_3 : decode prog_14_method_130_code 3 = .ok (.invokestatic 116, 3) := by decide +kernel
theorem dc_M_again_19 : decode prog_14_method_130_code 19 = .ok (.ireturn, 1) := by decide +kernel
theorem dc_M_again_56 : decode prog_14_method_130_code 56 = .ok (.ireturn, 1) := by decide +kernel
def l_M_again_22 (x1 : Int32) (k55 : ia_H → Option (Int32 × ia_H)) (n : Nat) (x2 : Int32) (h : ia_H) : Option (Int32 × ia_H) := match n with
  | 0 => none
  | n + 1 => if 1632 ≤ x2 then (k55 h) else (ia_gd (ia_ib ((1632 * (x1 + 1)) + x2) 6528) (ia_gd (ia_ib x2 6528) (l_M_again_22 x1 k55 n (x2 + 1) (ia_wI h 418 ((x2).toNatClampNeg) (ia_i h 418 (((1632 * (x1 + 1)) + x2).toNatClampNeg))))))
theorem tl_M_again_22 {w : ia_O0} {d N1 W1 : Nat} {K : ia_K} (hK : ia_isK (d + 1) mm_M_again N1 W1 K) {x1 : Int32} {r : Int32} {h1 : ia_H} (hret : ∀ (pc : Nat) (lv : ia_L), ia_ret mm_M_again pc (some (.inl r)) → K pc lv ((some (.inl r)) : Option ia_V).toList h1) {k55 : ia_H → Option (Int32 × ia_H)} (hk55 : ∀ (h : ia_H), gd_ w h → k55 h = some (r, h1) → K 55 [none, none, none] [] h) : ∀ (n : Nat) (x2 : Int32) (h : ia_H), gd_ w h → l_M_again_22 x1 k55 n x2 h = some (r, h1) → K 22 [some (.inr (.inr 417)), some (.inl x1), some (.inl x2)] [] h := by
  intro n
  induction n with
  | zero =>
    intro x2 h hg hm
    cases (show (none : Option (Int32 × ia_H)) = some _ from hm)
  | succ n ih =>
    intro x2 h hg hm
    rw [l_M_again_22] at hm
    refine ia_go hK ck_M_again_22 ⟨fun c => ?_, fun c => ?_⟩
    · replace hm := ia_ifp hm c
      show K 55 [some (.inr (.inr 417)), some (.inl x1), some (.inl x2)] [] h
      refine ia_fg hK (lv' := [none, none, none]) trivial ?_
      exact hk55 h hg hm
    · replace hm := ia_ifn hm c
      show K 29 [some (.inr (.inr 417)), some (.inl x1), some (.inl x2)] [] h
      obtain ⟨c3, hm⟩ := ia_gd_some hm
      obtain ⟨c4, hm⟩ := ia_gd_some hm
      refine ia_go hK ck_M_again_29 ⟨gk_12 hg pk_417, gr_12_0 hg pk_417, gk_12 hg pk_417, gr_12_0 hg pk_417, ga_i100 hg (ka_12_0 pk_417) c3, ga_s100 hg (ka_12_0 pk_417) c4, ?_⟩
      show K 22 [some (.inr (.inr 417)), some (.inl x1), some (.inl (x2 + 1))] [] (ia_wI h 418 ((x2).toNatClampNeg) (ia_i h 418 (((1632 * (x1 + 1)) + x2).toNatClampNeg)))
      exact ih (x2 + 1) (ia_wI h 418 ((x2).toNatClampNeg) (ia_i h 418 (((1632 * (x1 + 1)) + x2).toNatClampNeg))) (gd_wI hg (kx_100 (ka_12_0 pk_417))) hm
theorem gl_M_again_22 {w : ia_O0} {x1 : Int32} {r : Int32} {h1 : ia_H} {k55 : ia_H → Option (Int32 × ia_H)} (hk55 : ∀ (h : ia_H), gd_ w h → k55 h = some (r, h1) → gd_ w h1) : ∀ (n : Nat) (x2 : Int32) (h : ia_H), gd_ w h → l_M_again_22 x1 k55 n x2 h = some (r, h1) → gd_ w h1 := by
  intro n
  induction n with
  | zero =>
    intro x2 h hg hm
    cases (show (none : Option (Int32 × ia_H)) = some _ from hm)
  | succ n ih =>
    intro x2 h hg hm
    rw [l_M_again_22] at hm
    by_cases c : 1632 ≤ x2
    · replace hm := ia_ifp hm c
      exact hk55 h hg hm
    · replace hm := ia_ifn hm c
      obtain ⟨c3, hm⟩ := ia_gd_some hm
      obtain ⟨c4, hm⟩ := ia_gd_some hm
      exact ih (x2 + 1) (ia_wI h 418 ((x2).toNatClampNeg) (ia_i h 418 (((1632 * (x1 + 1)) + x2).toNatClampNeg))) (gd_wI hg (kx_100 (ka_12_0 pk_417))) hm
def f_M_again (x1 : Int32) (h : ia_H) : Option (Int32 × ia_H) := (f_M_isIn x1 0 2 h).bind fun v1 => (if v1 = 0 then (some (0, h)) else (ia_gd (ia_ib x1 3) (if (ia_i h 419 ((x1).toNatClampNeg)) = 0 then (some (0, h)) else (l_M_again_22 x1 (fun h => some (1, h)) fu_ 0 h))))
theorem g_M_again {w : ia_O0} {x1 : Int32} {h : ia_H} (hg : gd_ w h) {q : (Int32 × ia_H)} (hm : f_M_again x1 h = some q) : gd_ w q.2 := by
  obtain ⟨r, h1⟩ := q
  unfold f_M_again at hm
  obtain ⟨v1, hv1, hm⟩ := ia_bnd hm
  by_cases c : v1 = 0
  · replace hm := ia_ifp hm c
    obtain ⟨rfl, rfl⟩ := Prod.mk.inj (Option.some.inj hm)
    exact hg
  · replace hm := ia_ifn hm c
    obtain ⟨c2, hm⟩ := ia_gd_some hm
    by_cases c : (ia_i h 419 ((x1).toNatClampNeg)) = 0
    · replace hm := ia_ifp hm c
      obtain ⟨rfl, rfl⟩ := Prod.mk.inj (Option.some.inj hm)
      exact hg
    · replace hm := ia_ifn hm c
      refine gl_M_again_22 ?_ fu_ 0 h hg hm
      · intro h hg hm
        obtain ⟨rfl, rfl⟩ := Prod.mk.inj (Option.some.inj hm)
        exact hg
theorem t_M_again {w : ia_O0} (d : Nat) {x1 : Int32} {h : ia_H} (hg : gd_ w h) {q : (Int32 × ia_H)} (hm : f_M_again x1 h = some q) : ia_Ev (d + 1) mm_M_again [.inr (.inr 417), .inl x1] h (some (.inl q.1)) q.2 := by
  have gq := g_M_again hg hm
  refine ia_Ev_intro ok_M_again (gd_le hg gq).1 (gd_le hg gq).2 (Nat.le_of_ble_eq_true rfl) (fun K hK hret => ?_)
  obtain ⟨r, h1⟩ := q
  show K 0 [some (.inr (.inr 417)), some (.inl x1), none] [] h
  unfold f_M_again at hm
  refine ia_go hK ck_M_again_0 ?_
  show K 3 [some (.inr (.inr 417)), some (.inl x1), none] [.inl 2, .inl 0, .inl x1] h
  obtain ⟨v1, hv1, hm⟩ := ia_bnd hm
  have ev1 := t_M_isIn (d + 0) hg hv1
  refine ia_cS hK mk_M_isIn lk_12_116 dc_M_again_3 [.inl x1, .inl 0, .inl 2] [] rfl rfl (Nat.le_of_ble_eq_true rfl) ev1 ⟨rfl, rfl⟩ ?_
  show K 6 [some (.inr (.inr 417)), some (.inl x1), none] [.inl v1] h
  refine ia_go hK ck_M_again_6 ⟨fun c => ?_, fun c => ?_⟩
  · replace hm := ia_ifp hm c
    show K 18 [some (.inr (.inr 417)), some (.inl x1), none] [] h
    refine ia_go hK ck_M_again_18 ?_
    show K 19 [some (.inr (.inr 417)), some (.inl x1), none] [.inl 0] h
    obtain ⟨rfl, rfl⟩ := Prod.mk.inj (Option.some.inj hm)
    exact hret 19 _ ⟨Or.inl rfl, dc_M_again_19⟩
  · replace hm := ia_ifn hm c
    show K 9 [some (.inr (.inr 417)), some (.inl x1), none] [] h
    obtain ⟨c2, hm⟩ := ia_gd_some hm
    refine ia_go hK ck_M_again_9 ⟨gk_12 hg pk_417, gr_12_1 hg pk_417, ga_s101 hg (ka_12_1 pk_417) c2, fun c => ?_, fun c => ?_⟩
    · replace hm := ia_ifn hm c
      show K 20 [some (.inr (.inr 417)), some (.inl x1), none] [] h
      refine ia_go hK ck_M_again_20 ?_
      show K 22 [some (.inr (.inr 417)), some (.inl x1), some (.inl 0)] [] h
      refine tl_M_again_22 hK hret ?_ fu_ 0 h hg hm
      · intro h hg hm
        refine ia_go hK ck_M_again_55 ?_
        show K 56 [none, none, none] [.inl 1] h
        obtain ⟨rfl, rfl⟩ := Prod.mk.inj (Option.some.inj hm)
        exact hret 56 _ ⟨Or.inr rfl, dc_M_again_56⟩
    · replace hm := ia_ifp hm c
      show K 18 [some (.inr (.inr 417)), some (.inl x1), none] [] h
      refine ia_go hK ck_M_again_18 ?_
      show K 19 [some (.inr (.inr 417)), some (.inl x1), none] [.inl 0] h
      obtain ⟨rfl, rfl⟩ := Prod.mk.inj (Option.some.inj hm)
      exact hret 19 _ ⟨Or.inl rfl, dc_M_again_19⟩
