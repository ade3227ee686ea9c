def mm_Ar_fill : ia_M := (⟨"java/util/Arrays", "fill", "([II)V"⟩, prog_21_method_103_code, 4, none, 20, false)
theorem ok_Ar_fill : ia_mok mm_Ar_fill := ⟨by decide +kernel, by decide +kernel, by decide +kernel, by decide +kernel⟩
theorem mk_Ar_fill : ia_mkn mm_Ar_fill 0 2 := ⟨ia_tb_in (List.mem_of_getElem? (i := 181) (by decide +kernel)) rfl, ia_tb_in (List.mem_of_getElem? (i := 136) (by decide +kernel)) rfl, by decide +kernel, by decide +kernel, ia_tb_in (List.mem_of_getElem? (i := 180) (by decide +kernel)) rfl⟩
theorem ck_Ar_fill_0 : ia_cks 20 4 false prog_21_method_103_code 0 [(.iconst 0, 0, 0, 0, 0), (.istore_n 2, 0, 0, 0, 0), (.aload_n 0, 0, 0, 0, 0), (.arraylength, 0, 0, 0, 0)] = true := by decide +kernel
theorem ck_Ar_fill_4 : ia_cks 20 4 false prog_21_method_103_code 4 [(.istore_n 3, 0, 0, 0, 0)] = true := by decide +kernel
theorem ck_Ar_fill_5 : ia_cks 20 4 false prog_21_method_103_code 5 [(.iload_n 2, 0, 0, 0, 0), (.iload_n 3, 0, 0, 0, 0), (.if_icmp .ge 13, 0, 0, 0, 0)] = true := by decide +kernel
theorem ck_Ar_fill_10 : ia_cks 20 4 false prog_21_method_103_code 10 [(.aload_n 0, 0, 0, 0, 0), (.iload_n 2, 0, 0, 0, 0), (.iload_n 1, 0, 0, 0, 0), (.iastore, 0, 0, 0, 0), (.iinc 2 1, 0, 0, 0, 0), (.goto (-12), 0, 0, 0, 0)] = true := by decide +kernel
theorem dc_Ar_fill_20 : decode prog_21_method_103_code 20 = .ok (.return_, 1) := by decide +kernel
def l_Ar_fill_5 (a0 : Nat) (x1 : Int32) (k20 : ia_H → Option ia_H) (n : Nat) (x2 : Int32) (x3 : Int32) (h : ia_H) : Option ia_H := match n with
  | 0 => none
  | n + 1 => if x3 ≤ x2 then (k20 h) else (ia_gd (ia_ib x2 (kd_D a0).2) (l_Ar_fill_5 a0 x1 k20 n (x2 + 1) x3 (ia_wI h a0 ((x2).toNatClampNeg) x1)))
theorem tl_Ar_fill_5 {w : ia_O0} {d N1 W1 : Nat} {K : ia_K} (hK : ia_isK (d + 0) mm_Ar_fill N1 W1 K) {a0 : Nat} {x1 : Int32} (p0 : (kd_D a0).1 = 100) {h1 : ia_H} (hret : ∀ (pc : Nat) (lv : ia_L), ia_ret mm_Ar_fill pc none → K pc lv (none : Option ia_V).toList h1) {k20 : ia_H → Option ia_H} (hk20 : ∀ (h : ia_H), gd_ w h → k20 h = some h1 → K 20 [none, none, none, none] [] h) : ∀ (n : Nat) (x2 : Int32) (x3 : Int32) (h : ia_H), gd_ w h → l_Ar_fill_5 a0 x1 k20 n x2 x3 h = some h1 → K 5 [some (.inr (.inr a0)), some (.inl x1), some (.inl x2), some (.inl x3)] [] h := by
  intro n
  induction n with
  | zero =>
    intro x2 x3 h hg hm
    cases (show (none : Option ia_H) = some _ from hm)
  | succ n ih =>
    intro x2 x3 h hg hm
    rw [l_Ar_fill_5] at hm
    refine ia_go hK ck_Ar_fill_5 ⟨fun c => ?_, fun c => ?_⟩
    · replace hm := ia_ifp hm c
      show K 20 [some (.inr (.inr a0)), some (.inl x1), some (.inl x2), some (.inl x3)] [] h
      refine ia_fg hK (lv' := [none, none, none, none]) trivial ?_
      exact hk20 h hg hm
    · replace hm := ia_ifn hm c
      show K 10 [some (.inr (.inr a0)), some (.inl x1), some (.inl x2), some (.inl x3)] [] h
      obtain ⟨c1, hm⟩ := ia_gd_some hm
      refine ia_go hK ck_Ar_fill_10 ⟨ga_s100 hg (kd_pr p0) c1, ?_⟩
      show K 5 [some (.inr (.inr a0)), some (.inl x1), some (.inl (x2 + 1)), some (.inl x3)] [] (ia_wI h a0 ((x2).toNatClampNeg) x1)
      exact ih (x2 + 1) x3 (ia_wI h a0 ((x2).toNatClampNeg) x1) (gd_wI hg (kx_100 (kd_pr p0))) hm
theorem gl_Ar_fill_5 {w : ia_O0} {a0 : Nat} {x1 : Int32} (p0 : (kd_D a0).1 = 100) {h1 : ia_H} {k20 : ia_H → Option ia_H} (hk20 : ∀ (h : ia_H), gd_ w h → k20 h = some h1 → gd_ w h1) : ∀ (n : Nat) (x2 : Int32) (x3 : Int32) (h : ia_H), gd_ w h → l_Ar_fill_5 a0 x1 k20 n x2 x3 h = some h1 → gd_ w h1 := by
  intro n
  induction n with
  | zero =>
    intro x2 x3 h hg hm
    cases (show (none : Option ia_H) = some _ from hm)
  | succ n ih =>
    intro x2 x3 h hg hm
    rw [l_Ar_fill_5] at hm
    by_cases c : x3 ≤ x2
    · replace hm := ia_ifp hm c
      exact hk20 h hg hm
    · replace hm := ia_ifn hm c
      obtain ⟨c1, hm⟩ := ia_gd_some hm
      exact ih (x2 + 1) x3 (ia_wI h a0 ((x2).toNatClampNeg) x1) (gd_wI hg (kx_100 (kd_pr p0))) hm
def f_Ar_fill (a0 : Nat) (x1 : Int32) (h : ia_H) : Option ia_H := l_Ar_fill_5 a0 x1 (fun h => some h) fu_ 0 (Int32.ofNat ((kd_D a0).2)) h
theorem g_Ar_fill {w : ia_O0} {a0 : Nat} {x1 : Int32} {h : ia_H} (hg : gd_ w h) (p0 : (kd_D a0).1 = 100) {q : ia_H} (hm : f_Ar_fill a0 x1 h = some q) : gd_ w q := by
  obtain ⟨h1, e1⟩ : ∃ x, x = q := ⟨_, rfl⟩
  subst e1
  unfold f_Ar_fill at hm
  refine gl_Ar_fill_5 p0 ?_ fu_ 0 (Int32.ofNat ((kd_D a0).2)) h hg hm
  · intro h hg hm
    obtain rfl := Option.some.inj hm
    exact hg
theorem t_Ar_fill {w : ia_O0} (d : Nat) {a0 : Nat} {x1 : Int32} {h : ia_H} (hg : gd_ w h) (p0 : (kd_D a0).1 = 100) {q : ia_H} (hm : f_Ar_fill a0 x1 h = some q) : ia_Ev (d + 0) mm_Ar_fill [.inr (.inr a0), .inl x1] h none q := by
  have gq := g_Ar_fill hg p0 hm
  refine ia_Ev_intro ok_Ar_fill (gd_le hg gq).1 (gd_le hg gq).2 (Nat.le_of_ble_eq_true rfl) (fun K hK hret => ?_)
  obtain ⟨h1, e1⟩ : ∃ x, x = q := ⟨_, rfl⟩
  subst e1
  show K 0 [some (.inr (.inr a0)), some (.inl x1), none, none] [] h
  unfold f_Ar_fill at hm
  refine ia_go hK ck_Ar_fill_0 ⟨ga_len hg (kd_pr p0) ⟨by decide, by decide⟩, ?_⟩
  show K 4 [some (.inr (.inr a0)), some (.inl x1), some (.inl 0), none] [.inl (Int32.ofNat (ia_k h a0).2)] h
  rw [ga_ln hg (kd_pr p0) ⟨by decide, by decide⟩]
  refine ia_go hK ck_Ar_fill_4 ?_
  show K 5 [some (.inr (.inr a0)), some (.inl x1), some (.inl 0), some (.inl (Int32.ofNat ((kd_D a0).2)))] [] h
  refine tl_Ar_fill_5 hK p0 hret ?_ fu_ 0 (Int32.ofNat ((kd_D a0).2)) h hg hm
  · intro h hg hm
    obtain rfl := Option.some.inj hm
    exact hret 20 _ dc_Ar_fill_20
def mm_Ar_fill2 : ia_M := (⟨"java/util/Arrays", "fill", "([JJ)V"⟩, prog_21_method_101_code, 5, none, 20, false)
theorem ok_Ar_fill2 : ia_mok mm_Ar_fill2 := ⟨by decide +kernel, by decide +kernel, by decide +kernel, by decide +kernel⟩
theorem mk_Ar_fill2 : ia_mkn mm_Ar_fill2 0 2 := ⟨ia_tb_in (List.mem_of_getElem? (i := 184) (by decide +kernel)) rfl, ia_tb_in (List.mem_of_getElem? (i := 136) (by decide +kernel)) rfl, by decide +kernel, by decide +kernel, ia_tb_in (List.mem_of_getElem? (i := 183) (by decide +kernel)) rfl⟩
theorem ck_Ar_fill2_0 : ia_cks 20 5 false prog_21_method_101_code 0 [(.iconst 0, 0, 0, 0, 0), (.istore_n 3, 0, 0, 0, 0), (.aload_n 0, 0, 0, 0, 0), (.arraylength, 0, 0, 0, 0)] = true := by decide +kernel
theorem ck_Ar_fill2_4 : ia_cks 20 5 false prog_21_method_101_code 4 [(.istore 4, 0, 0, 0, 0)] = true := by decide +kernel
theorem ck_Ar_fill2_6 : ia_cks 20 5 false prog_21_method_101_code 6 [(.iload_n 3, 0, 0, 0, 0), (.iload 4, 0, 0, 0, 0), (.if_icmp .ge 13, 0, 0, 0, 0)] = true := by decide +kernel
theorem ck_Ar_fill2_12 : ia_cks 20 5 false prog_21_method_101_code 12 [(.aload_n 0, 0, 0, 0, 0), (.iload_n 3, 0, 0, 0, 0), (.lload_n 1, 0, 0, 0, 0), (.lastore, 0, 0, 0, 0), (.iinc 3 1, 0, 0, 0, 0), (.goto (-13), 0, 0, 0, 0)] = true := by decide +kernel
theorem dc_Ar_fill2_22 : decode prog_21_method_101_code 22 = .ok (.return_, 1) := by decide +kernel
def l_Ar_fill2_6 (a0 : Nat) (y1 : Int64) (k22 : ia_H → Option ia_H) (n : Nat) (x3 : Int32) (x4 : Int32) (h : ia_H) : Option ia_H := match n with
  | 0 => none
  | n + 1 => if x4 ≤ x3 then (k22 h) else (ia_gd (ia_ib x3 (kd_D a0).2) (l_Ar_fill2_6 a0 y1 k22 n (x3 + 1) x4 (ia_wL h a0 ((x3).toNatClampNeg) y1)))
theorem tl_Ar_fill2_6 {w : ia_O0} {d N1 W1 : Nat} {K : ia_K} (hK : ia_isK (d + 0) mm_Ar_fill2 N1 W1 K) {a0 : Nat} {y1 : Int64} (p0 : (kd_D a0).1 = 103) {h1 : ia_H} (hret : ∀ (pc : Nat) (lv : ia_L), ia_ret mm_Ar_fill2 pc none → K pc lv (none : Option ia_V).toList h1) {k22 : ia_H → Option ia_H} (hk22 : ∀ (h : ia_H), gd_ w h → k22 h = some h1 → K 22 [none, none, none, none, none] [] h) : ∀ (n : Nat) (x3 : Int32) (x4 : Int32) (h : ia_H), gd_ w h → l_Ar_fill2_6 a0 y1 k22 n x3 x4 h = some h1 → K 6 [some (.inr (.inr a0)), some (.inr (.inl y1)), none, some (.inl x3), some (.inl x4)] [] h := by
  intro n
  induction n with
  | zero =>
    intro x3 x4 h hg hm
    cases (show (none : Option ia_H) = some _ from hm)
  | succ n ih =>
    intro x3 x4 h hg hm
    rw [l_Ar_fill2_6] at hm
    refine ia_go hK ck_Ar_fill2_6 ⟨fun c => ?_, fun c => ?_⟩
    · replace hm := ia_ifp hm c
      show K 22 [some (.inr (.inr a0)), some (.inr (.inl y1)), none, some (.inl x3), some (.inl x4)] [] h
      refine ia_fg hK (lv' := [none, none, none, none, none]) trivial ?_
      exact hk22 h hg hm
    · replace hm := ia_ifn hm c
      show K 12 [some (.inr (.inr a0)), some (.inr (.inl y1)), none, some (.inl x3), some (.inl x4)] [] h
      obtain ⟨c1, hm⟩ := ia_gd_some hm
      refine ia_go hK ck_Ar_fill2_12 ⟨ga_s103 hg (kd_pr p0) c1, ?_⟩
      show K 6 [some (.inr (.inr a0)), some (.inr (.inl y1)), none, some (.inl (x3 + 1)), some (.inl x4)] [] (ia_wL h a0 ((x3).toNatClampNeg) y1)
      exact ih (x3 + 1) x4 (ia_wL h a0 ((x3).toNatClampNeg) y1) (gd_wL hg) hm
theorem gl_Ar_fill2_6 {w : ia_O0} {a0 : Nat} {y1 : Int64} (p0 : (kd_D a0).1 = 103) {h1 : ia_H} {k22 : ia_H → Option ia_H} (hk22 : ∀ (h : ia_H), gd_ w h → k22 h = some h1 → gd_ w h1) : ∀ (n : Nat) (x3 : Int32) (x4 : Int32) (h : ia_H), gd_ w h → l_Ar_fill2_6 a0 y1 k22 n x3 x4 h = some h1 → gd_ w h1 := by
  intro n
  induction n with
  | zero =>
    intro x3 x4 h hg hm
    cases (show (none : Option ia_H) = some _ from hm)
  | succ n ih =>
    intro x3 x4 h hg hm
    rw [l_Ar_fill2_6] at hm
    by_cases c : x4 ≤ x3
    · replace hm := ia_ifp hm c
      exact hk22 h hg hm
    · replace hm := ia_ifn hm c
      obtain ⟨c1, hm⟩ := ia_gd_some hm
      exact ih (x3 + 1) x4 (ia_wL h a0 ((x3).toNatClampNeg) y1) (gd_wL hg) hm
def f_Ar_fill2 (a0 : Nat) (y1 : Int64) (h : ia_H) : Option ia_H := l_Ar_fill2_6 a0 y1 (fun h => some h) fu_ 0 (Int32.ofNat ((kd_D a0).2)) h
theorem g_Ar_fill2 {w : ia_O0} {a0 : Nat} {y1 : Int64} {h : ia_H} (hg : gd_ w h) (p0 : (kd_D a0).1 = 103) {q : ia_H} (hm : f_Ar_fill2 a0 y1 h = some q) : gd_ w q := by
  obtain ⟨h1, e1⟩ : ∃ x, x = q := ⟨_, rfl⟩
  subst e1
  unfold f_Ar_fill2 at hm
  refine gl_Ar_fill2_6 p0 ?_ fu_ 0 (Int32.ofNat ((kd_D a0).2)) h hg hm
  · intro h hg hm
    obtain rfl := Option.some.inj hm
    exact hg
theorem t_Ar_fill2 {w : ia_O0} (d : Nat) {a0 : Nat} {y1 : Int64} {h : ia_H} (hg : gd_ w h) (p0 : (kd_D a0).1 = 103) {q : ia_H} (hm : f_Ar_fill2 a0 y1 h = some q) : ia_Ev (d + 0) mm_Ar_fill2 [.inr (.inr a0), .inr (.inl y1)] h none q := by
  have gq := g_Ar_fill2 hg p0 hm
  refine ia_Ev_intro ok_Ar_fill2 (gd_le hg gq).1 (gd_le hg gq).2 (Nat.le_of_ble_eq_true rfl) (fun K hK hret => ?_)
  obtain ⟨h1, e1⟩ : ∃ x, x = q := ⟨_, rfl⟩
  subst e1
  show K 0 [some (.inr (.inr a0)), some (.inr (.inl y1)), none, none, none] [] h
  unfold f_Ar_fill2 at hm
  refine ia_go hK ck_Ar_fill2_0 ⟨ga_len hg (kd_pr p0) ⟨by decide, by decide⟩, ?_⟩
  show K 4 [some (.inr (.inr a0)), some (.inr (.inl y1)), none, some (.inl 0), none] [.inl (Int32.ofNat (ia_k h a0).2)] h
  rw [ga_ln hg (kd_pr p0) ⟨by decide, by decide⟩]
  refine ia_go hK ck_Ar_fill2_4 ?_
  show K 6 [some (.inr (.inr a0)), some (.inr (.inl y1)), none, some (.inl 0), some (.inl (Int32.ofNat ((kd_D a0).2)))] [] h
  refine tl_Ar_fill2_6 hK p0 hret ?_ fu_ 0 (Int32.ofNat ((kd_D a0).2)) h hg hm
  · intro h hg hm
    obtain rfl := Option.some.inj hm
    exact hret 22 _ dc_Ar_fill2_22
def mm_I_hasBit : ia_M := (⟨"IceStreet", "hasBit", "(JI)Z"⟩, prog_1_method_46_code, 3, (some .boolean), 0, false)
theorem ok_I_hasBit : ia_mok mm_I_hasBit := ⟨by decide +kernel, by decide +kernel, by decide +kernel, by decide +kernel⟩
theorem mk_I_hasBit : ia_mkn mm_I_hasBit 0 2 := ⟨ia_tb_in (List.mem_of_getElem? (i := 195) (by decide +kernel)) rfl, ia_tb_in (List.mem_of_getElem? (i := 133) (by decide +kernel)) rfl, by decide +kernel, by decide +kernel, ia_tb_in (List.mem_of_getElem? (i := 194) (by decide +kernel)) rfl⟩
theorem ck_I_hasBit_0 : ia_cks 0 3 false prog_1_method_46_code 0 [(.lload_n 0, 0, 0, 0, 0), (.iload_n 2, 0, 0, 0, 0), (.lushr, 0, 0, 0, 0), (.lconst 1, 0, 0, 0, 0), (.land, 0, 0, 0, 0), (.lconst 0, 0, 0, 0, 0), (.lcmp, 0, 0, 0, 0), (.ifCond .eq 7, 0, 0, 0, 0)] = true := by decide +kernel
theorem ck_I_hasBit_14 : ia_cks 0 3 false prog_1_method_46_code 14 [(.iconst 0, 0, 0, 0, 0)] = true := by decide +kernel
theorem ck_I_hasBit_10 : ia_cks 0 3 false prog_1_method_46_code 10 [(.iconst 1, 0, 0, 0, 0), (.goto 4, 0, 0, 0, 0)] = true := by decide +kernel
theorem dc_I_hasBit_15 : decode prog_1_method_46_code 15 = .ok (.ireturn, 1) := by decide +kernel
def f_I_hasBit (y0 : Int64) (x2 : Int32) (h : ia_H) : Option Int32 := if (lg_cmp (((y0.toUInt64 >>> (x2.toInt64.toUInt64 &&& Int64.toUInt64 63)).toInt64) &&& 1) 0) = 0 then (some 0) else (some 1)
theorem t_I_hasBit {w : ia_O0} (d : Nat) {y0 : Int64} {x2 : Int32} {h : ia_H} (hg : gd_ w h) {r : Int32} (hm : f_I_hasBit y0 x2 h = some r) : ia_Ev (d + 0) mm_I_hasBit [.inr (.inl y0), .inl x2] h (some (.inl r)) h := by
  refine ia_Ev_intro ok_I_hasBit (Nat.le_refl _) (Nat.le_refl _) (Nat.le_of_ble_eq_true rfl) (fun K hK hret => ?_)
  show K 0 [some (.inr (.inl y0)), none, some (.inl x2)] [] h
  unfold f_I_hasBit at hm
  refine ia_go hK ck_I_hasBit_0 ⟨fun c => ?_, fun c => ?_⟩
  · replace hm := ia_ifp hm c
    show K 14 [some (.inr (.inl y0)), none, some (.inl x2)] [] h
    refine ia_go hK ck_I_hasBit_14 ?_
    show K 15 [some (.inr (.inl y0)), none, some (.inl x2)] [.inl 0] h
    obtain rfl := Option.some.inj hm
    exact hret 15 _ ⟨Or.inl rfl, dc_I_hasBit_15⟩
  · replace hm := ia_ifn hm c
    show K 10 [some (.inr (.inl y0)), none, some (.inl x2)] [] h
    refine ia_go hK ck_I_hasBit_10 ?_
    show K 15 [some (.inr (.inl y0)), none, some (.inl x2)] [.inl 1] h
    obtain rfl := Option.some.inj hm
    exact hret 15 _ ⟨Or.inr rfl, dc_I_hasBit_15⟩
def mm_La_join : ia_M := (⟨"IceStreet$Lake", "join", "(IIZI)V"⟩, prog_4_method_13_code, 5, none, 3, false)
theorem ok_La_join : ia_mok mm_La_join := ⟨by decide +kernel, by decide +kernel, by decide +kernel, by decide +kernel⟩
theorem mk_La_join : ia_mkn mm_La_join 1 4 := ⟨ia_tb_in (List.mem_of_getElem? (i := 192) (by decide +kernel)) rfl, ia_tb_in (List.mem_of_getElem? (i := 135) (by decide +kernel)) rfl, by decide +kernel, by decide +kernel, ⟨ia_tb_in (List.mem_of_getElem? (i := 191) (by decide +kernel)) rfl, ia_tb_in (List.mem_of_getElem? (i := 0) (by decide +kernel)) rfl⟩⟩
theorem ck_La_join_0 : ia_cks 3 5 false prog_4_method_13_code 0 [(.iload_n 3, 0, 0, 0, 0), (.ifCond .eq 45, 0, 0, 0, 0)] = true := by decide +kernel
theorem ck_La_join_4 : ia_cks 3 5 false prog_4_method_13_code 4 [(.aload_n 0, 0, 0, 0, 0), (.getfield 40, 3, 16, 3, 10), (.iload_n 1, 0, 0, 0, 0), (.iconst 4, 0, 0, 0, 0), (.imul, 0, 0, 0, 0), (.iload_n 2, 0, 0, 0, 0), (.iadd, 0, 0, 0, 0), (.iload 4, 0, 0, 0, 0), (.iastore, 0, 0, 0, 0), (.aload_n 0, 0, 0, 0, 0), (.getfield 43, 3, 17, 3, 11), (.iload_n 1, 0, 0, 0, 0), (.iconst 4, 0, 0, 0, 0), (.imul, 0, 0, 0, 0), (.iload_n 2, 0, 0, 0, 0), (.iadd, 0, 0, 0, 0), (.aload_n 0, 0, 0, 0, 0), (.getfield 21, 3, 6, 3, 4), (.iload_n 1, 0, 0, 0, 0), (.laload, 0, 0, 0, 0), (.iload 4, 0, 0, 0, 0)] = true := by decide +kernel
theorem ck_La_join_36 : ia_cks 3 5 false prog_4_method_13_code 36 [(.ifCond .eq 7, 0, 0, 0, 0)] = true := by decide +kernel
theorem ck_La_join_43 : ia_cks 3 5 false prog_4_method_13_code 43 [(.iload 4, 0, 0, 0, 0), (.iastore, 0, 0, 0, 0)] = true := by decide +kernel
theorem ck_La_join_39 : ia_cks 3 5 false prog_4_method_13_code 39 [(.iconst (-1), 0, 0, 0, 0), (.goto 5, 0, 0, 0, 0)] = true := by decide +kernel
theorem ck_La_join_45 : ia_cks 3 5 false prog_4_method_13_code 45 [(.iastore, 0, 0, 0, 0)] = true := by decide +kernel
theorem dc_La_join_46 : decode prog_4_method_13_code 46 = .ok (.return_, 1) := by decide +kernel
theorem dc_La_join_33 : decode prog_4_method_13_code 33 = .ok (.invokestatic 104, 3) := by decide +kernel
def f_La_join (a0 : Nat) (x1 : Int32) (x2 : Int32) (x3 : Int32) (x4 : Int32) (h : ia_H) : Option ia_H := if x3 = 0 then (some h) else (ia_gd (ia_ib ((x1 * 4) + x2) 144) (ia_gd (ia_ib x1 36) ((f_I_hasBit (ia_l (ia_wI h (a0 + 10) (((x1 * 4) + x2).toNatClampNeg) x4) (a0 + 4) ((x1).toNatClampNeg)) x4 (ia_wI h (a0 + 10) (((x1 * 4) + x2).toNatClampNeg) x4)).bind fun v3 => (if v3 = 0 then (ia_gd (ia_ib ((x1 * 4) + x2) 144) (some (ia_wI (ia_wI h (a0 + 10) (((x1 * 4) + x2).toNatClampNeg) x4) (a0 + 11) (((x1 * 4) + x2).toNatClampNeg) x4))) else (ia_gd (ia_ib ((x1 * 4) + x2) 144) (some (ia_wI (ia_wI h (a0 + 10) (((x1 * 4) + x2).toNatClampNeg) x4) (a0 + 11) (((x1 * 4) + x2).toNatClampNeg) (-1))))))))
theorem g_La_join {w : ia_O0} {a0 : Nat} {x1 : Int32} {x2 : Int32} {x3 : Int32} {x4 : Int32} {h : ia_H} (hg : gd_ w h) (p0 : (kd_D a0).1 = 3) {q : ia_H} (hm : f_La_join a0 x1 x2 x3 x4 h = some q) : gd_ w q := by
  obtain ⟨h1, e1⟩ : ∃ x, x = q := ⟨_, rfl⟩
  subst e1
  unfold f_La_join at hm
  by_cases c : x3 = 0
  · replace hm := ia_ifp hm c
    obtain rfl := Option.some.inj hm
    exact hg
  · replace hm := ia_ifn hm c
    obtain ⟨c1, hm⟩ := ia_gd_some hm
    obtain ⟨c2, hm⟩ := ia_gd_some hm
    obtain ⟨v3, hv3, hm⟩ := ia_bnd hm
    by_cases c : v3 = 0
    · replace hm := ia_ifp hm c
      obtain ⟨c4, hm⟩ := ia_gd_some hm
      obtain rfl := Option.some.inj hm
      exact (gd_wI (gd_wI hg (kx_100 (ka_3_16 p0))) (kx_100 (ka_3_17 p0)))
    · replace hm := ia_ifn hm c
      obtain ⟨c5, hm⟩ := ia_gd_some hm
      obtain rfl := Option.some.inj hm
      exact (gd_wI (gd_wI hg (kx_100 (ka_3_16 p0))) (kx_100 (ka_3_17 p0)))
theorem t_La_join {w : ia_O0} (d : Nat) {a0 : Nat} {x1 : Int32} {x2 : Int32} {x3 : Int32} {x4 : Int32} {h : ia_H} (hg : gd_ w h) (p0 : (kd_D a0).1 = 3) {q : ia_H} (hm : f_La_join a0 x1 x2 x3 x4 h = some q) : ia_Ev (d + 1) mm_La_join [.inr (.inr a0), .inl x1, .inl x2, .inl x3, .inl x4] h none q := by
  have gq := g_La_join hg p0 hm
  refine ia_Ev_intro ok_La_join (gd_le hg gq).1 (gd_le hg gq).2 (Nat.le_of_ble_eq_true rfl) (fun K hK hret => ?_)
  obtain ⟨h1, e1⟩ : ∃ x, x = q := ⟨_, rfl⟩
  subst e1
  show K 0 [some (.inr (.inr a0)), some (.inl x1), some (.inl x2), some (.inl x3), some (.inl x4)] [] h
  unfold f_La_join at hm
  refine ia_go hK ck_La_join_0 ⟨fun c => ?_, fun c => ?_⟩
  · replace hm := ia_ifp hm c
    show K 46 [some (.inr (.inr a0)), some (.inl x1), some (.inl x2), some (.inl x3), some (.inl x4)] [] h
    obtain rfl := Option.some.inj hm
    exact hret 46 _ dc_La_join_46
  · replace hm := ia_ifn hm c
    show K 4 [some (.inr (.inr a0)), some (.inl x1), some (.inl x2), some (.inl x3), some (.inl x4)] [] h
    obtain ⟨c1, hm⟩ := ia_gd_some hm
    obtain ⟨c2, hm⟩ := ia_gd_some hm
    refine ia_go hK ck_La_join_4 ⟨gk_3 hg p0, gr_3_16 hg p0, ga_s100 hg (ka_3_16 p0) c1, gk_3 (gd_wI hg (kx_100 (ka_3_16 p0))) p0, gr_3_17 (gd_wI hg (kx_100 (ka_3_16 p0))) p0, gk_3 (gd_wI hg (kx_100 (ka_3_16 p0))) p0, gr_3_6 (gd_wI hg (kx_100 (ka_3_16 p0))) p0, ga_s103 (gd_wI hg (kx_100 (ka_3_16 p0))) (ka_3_6 p0) c2, ?_⟩
    show K 33 [some (.inr (.inr a0)), some (.inl x1), some (.inl x2), some (.inl x3), some (.inl x4)] [.inl x4, .inr (.inl (ia_l (ia_wI h (a0 + 10) (((x1 * 4) + x2).toNatClampNeg) x4) (a0 + 4) ((x1).toNatClampNeg))), .inl ((x1 * 4) + x2), .inr (.inr (a0 + 11))] (ia_wI h (a0 + 10) (((x1 * 4) + x2).toNatClampNeg) x4)
    obtain ⟨v3, hv3, hm⟩ := ia_bnd hm
    have ev3 := t_I_hasBit (d + 0) (gd_wI hg (kx_100 (ka_3_16 p0))) hv3
    refine ia_cS hK mk_I_hasBit lk_3_104 dc_La_join_33 [.inr (.inl (ia_l (ia_wI h (a0 + 10) (((x1 * 4) + x2).toNatClampNeg) x4) (a0 + 4) ((x1).toNatClampNeg))), .inl x4] [.inl ((x1 * 4) + x2), .inr (.inr (a0 + 11))] rfl rfl (Nat.le_of_ble_eq_true rfl) ev3 ⟨rfl, rfl⟩ ?_
    show K 36 [some (.inr (.inr a0)), some (.inl x1), some (.inl x2), some (.inl x3), some (.inl x4)] [.inl v3, .inl ((x1 * 4) + x2), .inr (.inr (a0 + 11))] (ia_wI h (a0 + 10) (((x1 * 4) + x2).toNatClampNeg) x4)
    refine ia_go hK ck_La_join_36 ⟨fun c => ?_, fun c => ?_⟩
    · replace hm := ia_ifp hm c
      show K 43 [some (.inr (.inr a0)), some (.inl x1), some (.inl x2), some (.inl x3), some (.inl x4)] [.inl ((x1 * 4) + x2), .inr (.inr (a0 + 11))] (ia_wI h (a0 + 10) (((x1 * 4) + x2).toNatClampNeg) x4)
      obtain ⟨c4, hm⟩ := ia_gd_some hm
      refine ia_go hK ck_La_join_43 ⟨ga_s100 (gd_wI hg (kx_100 (ka_3_16 p0))) (ka_3_17 p0) c4, ?_⟩
      show K 46 [some (.inr (.inr a0)), some (.inl x1), some (.inl x2), some (.inl x3), some (.inl x4)] [] (ia_wI (ia_wI h (a0 + 10) (((x1 * 4) + x2).toNatClampNeg) x4) (a0 + 11) (((x1 * 4) + x2).toNatClampNeg) x4)
      obtain rfl := Option.some.inj hm
      exact hret 46 _ dc_La_join_46
    · replace hm := ia_ifn hm c
      show K 39 [some (.inr (.inr a0)), some (.inl x1), some (.inl x2), some (.inl x3), some (.inl x4)] [.inl ((x1 * 4) + x2), .inr (.inr (a0 + 11))] (ia_wI h (a0 + 10) (((x1 * 4) + x2).toNatClampNeg) x4)
      refine ia_go hK ck_La_join_39 ?_
      show K 45 [some (.inr (.inr a0)), some (.inl x1), some (.inl x2), some (.inl x3), some (.inl x4)] [.inl (-1), .inl ((x1 * 4) + x2), .inr (.inr (a0 + 11))] (ia_wI h (a0 + 10) (((x1 * 4) + x2).toNatClampNeg) x4)
      obtain ⟨c5, hm⟩ := ia_gd_some hm
      refine ia_go hK ck_La_join_45 ⟨ga_s100 (gd_wI hg (kx_100 (ka_3_16 p0))) (ka_3_17 p0) c5, ?_⟩
      show K 46 [some (.inr (.inr a0)), some (.inl x1), some (.inl x2), some (.inl x3), some (.inl x4)] [] (ia_wI (ia_wI h (a0 + 10) (((x1 * 4) + x2).toNatClampNeg) x4) (a0 + 11) (((x1 * 4) + x2).toNatClampNeg) (-1))
      obtain rfl := Option.some.inj hm
      exact hret 46 _ dc_La_join_46
def mm_La_chart : ia_M := (⟨"IceStreet$Lake", "chart", "()V"⟩, prog_4_method_12_code, 4, none, 3, false)
theorem ok_La_chart : ia_mok mm_La_chart := ⟨by decide +kernel, by decide +kernel, by decide +kernel, by decide +kernel⟩
theorem mk_La_chart : ia_mkn mm_La_chart 1 0 := ⟨ia_tb_in (List.mem_of_getElem? (i := 188) (by decide +kernel)) rfl, ia_tb_in (List.mem_of_getElem? (i := 135) (by decide +kernel)) rfl, by decide +kernel, by decide +kernel, ⟨ia_tb_in (List.mem_of_getElem? (i := 186) (by decide +kernel)) rfl, ia_tb_in (List.mem_of_getElem? (i := 187) (by decide +kernel)) rfl⟩⟩
theorem ck_La_chart_0 : ia_cks 3 4 false prog_4_method_12_code 0 [(.aload_n 0, 0, 0, 0, 0), (.getfield 40, 3, 16, 3, 10), (.iconst (-1), 0, 0, 0, 0)] = true := by decide +kernel
theorem ck_La_chart_8 : ia_cks 3 4 false prog_4_method_12_code 8 [(.aload_n 0, 0, 0, 0, 0), (.getfield 43, 3, 17, 3, 11), (.iconst (-1), 0, 0, 0, 0)] = true := by decide +kernel
theorem ck_La_chart_16 : ia_cks 3 4 false prog_4_method_12_code 16 [(.iconst 0, 0, 0, 0, 0), (.istore_n 1, 0, 0, 0, 0)] = true := by decide +kernel
theorem ck_La_chart_18 : ia_cks 3 4 false prog_4_method_12_code 18 [(.iload_n 1, 0, 0, 0, 0), (.aload_n 0, 0, 0, 0, 0), (.getfield 53, 3, 1, 0, 0), (.if_icmp .ge 124, 0, 0, 0, 0)] = true := by decide +kernel
theorem ck_La_chart_26 : ia_cks 3 4 false prog_4_method_12_code 26 [(.iconst 0, 0, 0, 0, 0), (.istore_n 2, 0, 0, 0, 0)] = true := by decide +kernel
theorem ck_La_chart_28 : ia_cks 3 4 false prog_4_method_12_code 28 [(.iload_n 2, 0, 0, 0, 0), (.aload_n 0, 0, 0, 0, 0), (.getfield 49, 3, 0, 0, 0), (.if_icmp .ge 108, 0, 0, 0, 0)] = true := by decide +kernel
theorem ck_La_chart_36 : ia_cks 3 4 false prog_4_method_12_code 36 [(.iload_n 1, 0, 0, 0, 0), (.aload_n 0, 0, 0, 0, 0), (.getfield 49, 3, 0, 0, 0), (.imul, 0, 0, 0, 0), (.iload_n 2, 0, 0, 0, 0), (.iadd, 0, 0, 0, 0), (.istore_n 3, 0, 0, 0, 0), (.aload_n 0, 0, 0, 0, 0), (.iload_n 3, 0, 0, 0, 0), (.iconst 0, 0, 0, 0, 0), (.iload_n 1, 0, 0, 0, 0), (.ifCond .le 7, 0, 0, 0, 0)] = true := by decide +kernel
theorem ck_La_chart_56 : ia_cks 3 4 false prog_4_method_12_code 56 [(.iconst 0, 0, 0, 0, 0)] = true := by decide +kernel
theorem ck_La_chart_57 : ia_cks 3 4 false prog_4_method_12_code 57 [(.iload_n 3, 0, 0, 0, 0), (.aload_n 0, 0, 0, 0, 0), (.getfield 49, 3, 0, 0, 0), (.isub, 0, 0, 0, 0)] = true := by decide +kernel
theorem ck_La_chart_66 : ia_cks 3 4 false prog_4_method_12_code 66 [(.aload_n 0, 0, 0, 0, 0), (.iload_n 3, 0, 0, 0, 0), (.iconst 1, 0, 0, 0, 0), (.iload_n 2, 0, 0, 0, 0), (.ifCond .le 7, 0, 0, 0, 0)] = true := by decide +kernel
theorem ck_La_chart_77 : ia_cks 3 4 false prog_4_method_12_code 77 [(.iconst 0, 0, 0, 0, 0)] = true := by decide +kernel
theorem ck_La_chart_78 : ia_cks 3 4 false prog_4_method_12_code 78 [(.iload_n 3, 0, 0, 0, 0), (.iconst 1, 0, 0, 0, 0), (.isub, 0, 0, 0, 0)] = true := by decide +kernel
theorem ck_La_chart_84 : ia_cks 3 4 false prog_4_method_12_code 84 [(.aload_n 0, 0, 0, 0, 0), (.iload_n 3, 0, 0, 0, 0), (.iconst 2, 0, 0, 0, 0), (.iload_n 2, 0, 0, 0, 0), (.iconst 1, 0, 0, 0, 0), (.iadd, 0, 0, 0, 0), (.aload_n 0, 0, 0, 0, 0), (.getfield 49, 3, 0, 0, 0), (.if_icmp .ge 7, 0, 0, 0, 0)] = true := by decide +kernel
theorem ck_La_chart_101 : ia_cks 3 4 false prog_4_method_12_code 101 [(.iconst 0, 0, 0, 0, 0)] = true := by decide +kernel
theorem ck_La_chart_102 : ia_cks 3 4 false prog_4_method_12_code 102 [(.iload_n 3, 0, 0, 0, 0), (.iconst 1, 0, 0, 0, 0), (.iadd, 0, 0, 0, 0)] = true := by decide +kernel
theorem ck_La_chart_108 : ia_cks 3 4 false prog_4_method_12_code 108 [(.aload_n 0, 0, 0, 0, 0), (.iload_n 3, 0, 0, 0, 0), (.iconst 3, 0, 0, 0, 0), (.iload_n 1, 0, 0, 0, 0), (.iconst 1, 0, 0, 0, 0), (.iadd, 0, 0, 0, 0), (.aload_n 0, 0, 0, 0, 0), (.getfield 53, 3, 1, 0, 0), (.if_icmp .ge 7, 0, 0, 0, 0)] = true := by decide +kernel
theorem ck_La_chart_125 : ia_cks 3 4 false prog_4_method_12_code 125 [(.iconst 0, 0, 0, 0, 0)] = true := by decide +kernel
theorem ck_La_chart_126 : ia_cks 3 4 false prog_4_method_12_code 126 [(.iload_n 3, 0, 0, 0, 0), (.aload_n 0, 0, 0, 0, 0), (.getfield 49, 3, 0, 0, 0), (.iadd, 0, 0, 0, 0)] = true := by decide +kernel
theorem ck_La_chart_135 : ia_cks 3 4 false prog_4_method_12_code 135 [(.iinc 2 1, 0, 0, 0, 0), (.goto (-110), 0, 0, 0, 0)] = true := by decide +kernel
theorem ck_La_chart_121 : ia_cks 3 4 false prog_4_method_12_code 121 [(.iconst 1, 0, 0, 0, 0), (.goto 4, 0, 0, 0, 0)] = true := by decide +kernel
theorem ck_La_chart_97 : ia_cks 3 4 false prog_4_method_12_code 97 [(.iconst 1, 0, 0, 0, 0), (.goto 4, 0, 0, 0, 0)] = true := by decide +kernel
theorem ck_La_chart_73 : ia_cks 3 4 false prog_4_method_12_code 73 [(.iconst 1, 0, 0, 0, 0), (.goto 4, 0, 0, 0, 0)] = true := by decide +kernel
theorem ck_La_chart_52 : ia_cks 3 4 false prog_4_method_12_code 52 [(.iconst 1, 0, 0, 0, 0), (.goto 4, 0, 0, 0, 0)] = true := by decide +kernel
theorem ck_La_chart_141 : ia_cks 3 4 false prog_4_method_12_code 141 [(.iinc 1 1, 0, 0, 0, 0), (.goto (-126), 0, 0, 0, 0)] = true := by decide +kernel
theorem dc_La_chart_5 : decode prog_4_method_12_code 5 = .ok (.invokestatic 59, 3) := by decide +kernel
theorem dc_La_chart_13 : decode prog_4_method_12_code 13 = .ok (.invokestatic 59, 3) := by decide +kernel
theorem dc_La_chart_63 : decode prog_4_method_12_code 63 = .ok (.invokevirtual 112, 3) := by decide +kernel
theorem dc_La_chart_81 : decode prog_4_method_12_code 81 = .ok (.invokevirtual 112, 3) := by decide +kernel
theorem dc_La_chart_105 : decode prog_4_method_12_code 105 = .ok (.invokevirtual 112, 3) := by decide +kernel
theorem dc_La_chart_132 : decode prog_4_method_12_code 132 = .ok (.invokevirtual 112, 3) := by decide +kernel
theorem dc_La_chart_147 : decode prog_4_method_12_code 147 = .ok (.return_, 1) := by decide +kernel
def j_La_chart_126 (a0 : Nat) (kr : Int32 → Int32 → ia_H → Option ia_H) (k141 : Int32 → ia_H → Option ia_H) (x1 : Int32) (x2 : Int32) (x3 : Int32) (b0 : Nat) (s1 : Int32) (s2 : Int32) (s3 : Int32) (h : ia_H) : Option ia_H := (f_La_join b0 s1 s2 s3 (x3 + (ia_i h a0 0)) h).bind fun v6 => (kr x1 (x2 + 1) v6)
theorem tj_La_chart_126 {w : ia_O0} {d N1 W1 : Nat} {K : ia_K} (hK : ia_isK (d + 2) mm_La_chart N1 W1 K) {a0 : Nat} (p0 : (kd_D a0).1 = 3) {h1 : ia_H} (hret : ∀ (pc : Nat) (lv : ia_L), ia_ret mm_La_chart pc none → K pc lv (none : Option ia_V).toList h1) {kr : Int32 → Int32 → ia_H → Option ia_H} {k141 : Int32 → ia_H → Option ia_H} (hkr : ∀ (x1 : Int32) (x2 : Int32) (h : ia_H), gd_ w h → kr x1 x2 h = some h1 → K 28 [some (.inr (.inr a0)), some (.inl x1), some (.inl x2), none] [] h) (hk141 : ∀ (x1 : Int32) (h : ia_H), gd_ w h → k141 x1 h = some h1 → K 141 [some (.inr (.inr a0)), some (.inl x1), none, none] [] h) : ∀ (x1 : Int32) (x2 : Int32) (x3 : Int32) (b0 : Nat) (s1 : Int32) (s2 : Int32) (s3 : Int32) (h : ia_H), gd_ w h → (kd_D b0).1 = 3 → j_La_chart_126 a0 kr k141 x1 x2 x3 b0 s1 s2 s3 h = some h1 → K 126 [some (.inr (.inr a0)), some (.inl x1), some (.inl x2), some (.inl x3)] [.inl s3, .inl s2, .inl s1, .inr (.inr b0)] h := by
  intro x1 x2 x3 b0 s1 s2 s3 h hg q_b0 hm
  unfold j_La_chart_126 at hm
  refine ia_go hK ck_La_chart_126 ⟨gk_3 hg p0, ?_⟩
  show K 132 [some (.inr (.inr a0)), some (.inl x1), some (.inl x2), some (.inl x3)] [.inl (x3 + (ia_i h a0 0)), .inl s3, .inl s2, .inl s1, .inr (.inr b0)] h
  obtain ⟨v6, hv6, hm⟩ := ia_bnd hm
  have ev6 := t_La_join (d + 0) hg q_b0 hv6
  have gv6 := g_La_join hg q_b0 hv6
  refine ia_cV hK mk_La_join lk_3_112 dc_La_chart_132 b0 [.inl s1, .inl s2, .inl s3, .inl (x3 + (ia_i h a0 0))] [] rfl rfl (Nat.le_of_ble_eq_true rfl) (by decide) rfl (gk_3 hg q_b0) ev6 (gd_nm hg gv6) ?_
  show K 135 [some (.inr (.inr a0)), some (.inl x1), some (.inl x2), some (.inl x3)] [] v6
  refine ia_go hK ck_La_chart_135 ?_
  show K 28 [some (.inr (.inr a0)), some (.inl x1), some (.inl (x2 + 1)), some (.inl x3)] [] v6
  refine ia_fg hK (lv' := [some (.inr (.inr a0)), some (.inl x1), some (.inl (x2 + 1)), none]) ⟨rfl, rfl, rfl, trivial⟩ ?_
  exact hkr x1 (x2 + 1) v6 gv6 hm
theorem gj_La_chart_126 {w : ia_O0} {a0 : Nat} (p0 : (kd_D a0).1 = 3) {h1 : ia_H} {kr : Int32 → Int32 → ia_H → Option ia_H} {k141 : Int32 → ia_H → Option ia_H} (hkr : ∀ (x1 : Int32) (x2 : Int32) (h : ia_H), gd_ w h → kr x1 x2 h = some h1 → gd_ w h1) (hk141 : ∀ (x1 : Int32) (h : ia_H), gd_ w h → k141 x1 h = some h1 → gd_ w h1) : ∀ (x1 : Int32) (x2 : Int32) (x3 : Int32) (b0 : Nat) (s1 : Int32) (s2 : Int32) (s3 : Int32) (h : ia_H), gd_ w h → (kd_D b0).1 = 3 → j_La_chart_126 a0 kr k141 x1 x2 x3 b0 s1 s2 s3 h = some h1 → gd_ w h1 := by
  intro x1 x2 x3 b0 s1 s2 s3 h hg q_b0 hm
  unfold j_La_chart_126 at hm
  obtain ⟨v6, hv6, hm⟩ := ia_bnd hm
  have gv6 := g_La_join hg q_b0 hv6
  exact hkr x1 (x2 + 1) v6 gv6 hm
def j_La_chart_102 (a0 : Nat) (kr : Int32 → Int32 → ia_H → Option ia_H) (k141 : Int32 → ia_H → Option ia_H) (x1 : Int32) (x2 : Int32) (x3 : Int32) (b0 : Nat) (s1 : Int32) (s2 : Int32) (s3 : Int32) (h : ia_H) : Option ia_H := (f_La_join b0 s1 s2 s3 (x3 + 1) h).bind fun v5 => (if (ia_i v5 a0 1) ≤ (x1 + 1) then (j_La_chart_126 a0 kr k141 x1 x2 x3 a0 x3 3 0 v5) else (j_La_chart_126 a0 kr k141 x1 x2 x3 a0 x3 3 1 v5))
theorem tj_La_chart_102 {w : ia_O0} {d N1 W1 : Nat} {K : ia_K} (hK : ia_isK (d + 2) mm_La_chart N1 W1 K) {a0 : Nat} (p0 : (kd_D a0).1 = 3) {h1 : ia_H} (hret : ∀ (pc : Nat) (lv : ia_L), ia_ret mm_La_chart pc none → K pc lv (none : Option ia_V).toList h1) {kr : Int32 → Int32 → ia_H → Option ia_H} {k141 : Int32 → ia_H → Option ia_H} (hkr : ∀ (x1 : Int32) (x2 : Int32) (h : ia_H), gd_ w h → kr x1 x2 h = some h1 → K 28 [some (.inr (.inr a0)), some (.inl x1), some (.inl x2), none] [] h) (hk141 : ∀ (x1 : Int32) (h : ia_H), gd_ w h → k141 x1 h = some h1 → K 141 [some (.inr (.inr a0)), some (.inl x1), none, none] [] h) : ∀ (x1 : Int32) (x2 : Int32) (x3 : Int32) (b0 : Nat) (s1 : Int32) (s2 : Int32) (s3 : Int32) (h : ia_H), gd_ w h → (kd_D b0).1 = 3 → j_La_chart_102 a0 kr k141 x1 x2 x3 b0 s1 s2 s3 h = some h1 → K 102 [some (.inr (.inr a0)), some (.inl x1), some (.inl x2), some (.inl x3)] [.inl s3, .inl s2, .inl s1, .inr (.inr b0)] h := by
  intro x1 x2 x3 b0 s1 s2 s3 h hg q_b0 hm
  unfold j_La_chart_102 at hm
  refine ia_go hK ck_La_chart_102 ?_
  show K 105 [some (.inr (.inr a0)), some (.inl x1), some (.inl x2), some (.inl x3)] [.inl (x3 + 1), .inl s3, .inl s2, .inl s1, .inr (.inr b0)] h
  obtain ⟨v5, hv5, hm⟩ := ia_bnd hm
  have ev5 := t_La_join (d + 0) hg q_b0 hv5
  have gv5 := g_La_join hg q_b0 hv5
  refine ia_cV hK mk_La_join lk_3_112 dc_La_chart_105 b0 [.inl s1, .inl s2, .inl s3, .inl (x3 + 1)] [] rfl rfl (Nat.le_of_ble_eq_true rfl) (by decide) rfl (gk_3 hg q_b0) ev5 (gd_nm hg gv5) ?_
  show K 108 [some (.inr (.inr a0)), some (.inl x1), some (.inl x2), some (.inl x3)] [] v5
  refine ia_go hK ck_La_chart_108 ⟨gk_3 gv5 p0, fun c => ?_, fun c => ?_⟩
  · replace hm := ia_ifp hm c
    show K 125 [some (.inr (.inr a0)), some (.inl x1), some (.inl x2), some (.inl x3)] [.inl 3, .inl x3, .inr (.inr a0)] v5
    refine ia_go hK ck_La_chart_125 ?_
    show K 126 [some (.inr (.inr a0)), some (.inl x1), some (.inl x2), some (.inl x3)] [.inl 0, .inl 3, .inl x3, .inr (.inr a0)] v5
    exact tj_La_chart_126 hK p0 hret hkr hk141 x1 x2 x3 a0 x3 3 0 v5 gv5 p0 hm
  · replace hm := ia_ifn hm c
    show K 121 [some (.inr (.inr a0)), some (.inl x1), some (.inl x2), some (.inl x3)] [.inl 3, .inl x3, .inr (.inr a0)] v5
    refine ia_go hK ck_La_chart_121 ?_
    show K 126 [some (.inr (.inr a0)), some (.inl x1), some (.inl x2), some (.inl x3)] [.inl 1, .inl 3, .inl x3, .inr (.inr a0)] v5
    exact tj_La_chart_126 hK p0 hret hkr hk141 x1 x2 x3 a0 x3 3 1 v5 gv5 p0 hm
theorem gj_La_chart_102 {w : ia_O0} {a0 : Nat} (p0 : (kd_D a0).1 = 3) {h1 : ia_H} {kr : Int32 → Int32 → ia_H → Option ia_H} {k141 : Int32 → ia_H → Option ia_H} (hkr : ∀ (x1 : Int32) (x2 : Int32) (h : ia_H), gd_ w h → kr x1 x2 h = some h1 → gd_ w h1) (hk141 : ∀ (x1 : Int32) (h : ia_H), gd_ w h → k141 x1 h = some h1 → gd_ w h1) : ∀ (x1 : Int32) (x2 : Int32) (x3 : Int32) (b0 : Nat) (s1 : Int32) (s2 : Int32) (s3 : Int32) (h : ia_H), gd_ w h → (kd_D b0).1 = 3 → j_La_chart_102 a0 kr k141 x1 x2 x3 b0 s1 s2 s3 h = some h1 → gd_ w h1 := by
  intro x1 x2 x3 b0 s1 s2 s3 h hg q_b0 hm
  unfold j_La_chart_102 at hm
  obtain ⟨v5, hv5, hm⟩ := ia_bnd hm
  have gv5 := g_La_join hg q_b0 hv5
  by_cases c : (ia_i v5 a0 1) ≤ (x1 + 1)
  · replace hm := ia_ifp hm c
    exact gj_La_chart_126 p0 hkr hk141 x1 x2 x3 a0 x3 3 0 v5 gv5 p0 hm
  · replace hm := ia_ifn hm c
    exact gj_La_chart_126 p0 hkr hk141 x1 x2 x3 a0 x3 3 1 v5 gv5 p0 hm
def j_La_chart_78 (a0 : Nat) (kr : Int32 → Int32 → ia_H → Option ia_H) (k141 : Int32 → ia_H → Option ia_H) (x1 : Int32) (x2 : Int32) (x3 : Int32) (b0 : Nat) (s1 : Int32) (s2 : Int32) (s3 : Int32) (h : ia_H) : Option ia_H := (f_La_join b0 s1 s2 s3 (x3 - 1) h).bind fun v4 => (if (ia_i v4 a0 0) ≤ (x2 + 1) then (j_La_chart_102 a0 kr k141 x1 x2 x3 a0 x3 2 0 v4) else (j_La_chart_102 a0 kr k141 x1 x2 x3 a0 x3 2 1 v4))
theorem tj_La_chart_78 {w : ia_O0} {d N1 W1 : Nat} {K : ia_K} (hK : ia_isK (d + 2) mm_La_chart N1 W1 K) {a0 : Nat} (p0 : (kd_D a0).1 = 3) {h1 : ia_H} (hret : ∀ (pc : Nat) (lv : ia_L), ia_ret mm_La_chart pc none → K pc lv (none : Option ia_V).toList h1) {kr : Int32 → Int32 → ia_H → Option ia_H} {k141 : Int32 → ia_H → Option ia_H} (hkr : ∀ (x1 : Int32) (x2 : Int32) (h : ia_H), gd_ w h → kr x1 x2 h = some h1 → K 28 [some (.inr (.inr a0)), some (.inl x1), some (.inl x2), none] [] h) (hk141 : ∀ (x1 : Int32) (h : ia_H), gd_ w h → k141 x1 h = some h1 → K 141 [some (.inr (.inr a0)), some (.inl x1), none, none] [] h) : ∀ (x1 : Int32) (x2 : Int32) (x3 : Int32) (b0 : Nat) (s1 : Int32) (s2 : Int32) (s3 : Int32) (h : ia_H), gd_ w h → (kd_D b0).1 = 3 → j_La_chart_78 a0 kr k141 x1 x2 x3 b0 s1 s2 s3 h = some h1 → K 78 [some (.inr (.inr a0)), some (.inl x1), some (.inl x2), some (.inl x3)] [.inl s3, .inl s2, .inl s1, .inr (.inr b0)] h := by
  intro x1 x2 x3 b0 s1 s2 s3 h hg q_b0 hm
  unfold j_La_chart_78 at hm
  refine ia_go hK ck_La_chart_78 ?_
  show K 81 [some (.inr (.inr a0)), some (.inl x1), some (.inl x2), some (.inl x3)] [.inl (x3 - 1), .inl s3, .inl s2, .inl s1, .inr (.inr b0)] h
  obtain ⟨v4, hv4, hm⟩ := ia_bnd hm
  have ev4 := t_La_join (d + 0) hg q_b0 hv4
  have gv4 := g_La_join hg q_b0 hv4
  refine ia_cV hK mk_La_join lk_3_112 dc_La_chart_81 b0 [.inl s1, .inl s2, .inl s3, .inl (x3 - 1)] [] rfl rfl (Nat.le_of_ble_eq_true rfl) (by decide) rfl (gk_3 hg q_b0) ev4 (gd_nm hg gv4) ?_
  show K 84 [some (.inr (.inr a0)), some (.inl x1), some (.inl x2), some (.inl x3)] [] v4
  refine ia_go hK ck_La_chart_84 ⟨gk_3 gv4 p0, fun c => ?_, fun c => ?_⟩
  · replace hm := ia_ifp hm c
    show K 101 [some (.inr (.inr a0)), some (.inl x1), some (.inl x2), some (.inl x3)] [.inl 2, .inl x3, .inr (.inr a0)] v4
    refine ia_go hK ck_La_chart_101 ?_
    show K 102 [some (.inr (.inr a0)), some (.inl x1), some (.inl x2), some (.inl x3)] [.inl 0, .inl 2, .inl x3, .inr (.inr a0)] v4
    exact tj_La_chart_102 hK p0 hret hkr hk141 x1 x2 x3 a0 x3 2 0 v4 gv4 p0 hm
  · replace hm := ia_ifn hm c
    show K 97 [some (.inr (.inr a0)), some (.inl x1), some (.inl x2), some (.inl x3)] [.inl 2, .inl x3, .inr (.inr a0)] v4
    refine ia_go hK ck_La_chart_97 ?_
    show K 102 [some (.inr (.inr a0)), some (.inl x1), some (.inl x2), some (.inl x3)] [.inl 1, .inl 2, .inl x3, .inr (.inr a0)] v4
    exact tj_La_chart_102 hK p0 hret hkr hk141 x1 x2 x3 a0 x3 2 1 v4 gv4 p0 hm
theorem gj_La_chart_78 {w : ia_O0} {a0 : Nat} (p0 : (kd_D a0).1 = 3) {h1 : ia_H} {kr : Int32 → Int32 → ia_H → Option ia_H} {k141 : Int32 → ia_H → Option ia_H} (hkr : ∀ (x1 : Int32) (x2 : Int32) (h : ia_H), gd_ w h → kr x1 x2 h = some h1 → gd_ w h1) (hk141 : ∀ (x1 : Int32) (h : ia_H), gd_ w h → k141 x1 h = some h1 → gd_ w h1) : ∀ (x1 : Int32) (x2 : Int32) (x3 : Int32) (b0 : Nat) (s1 : Int32) (s2 : Int32) (s3 : Int32) (h : ia_H), gd_ w h → (kd_D b0).1 = 3 → j_La_chart_78 a0 kr k141 x1 x2 x3 b0 s1 s2 s3 h = some h1 → gd_ w h1 := by
  intro x1 x2 x3 b0 s1 s2 s3 h hg q_b0 hm
  unfold j_La_chart_78 at hm
  obtain ⟨v4, hv4, hm⟩ := ia_bnd hm
  have gv4 := g_La_join hg q_b0 hv4
  by_cases c : (ia_i v4 a0 0) ≤ (x2 + 1)
  · replace hm := ia_ifp hm c
    exact gj_La_chart_102 p0 hkr hk141 x1 x2 x3 a0 x3 2 0 v4 gv4 p0 hm
  · replace hm := ia_ifn hm c
    exact gj_La_chart_102 p0 hkr hk141 x1 x2 x3 a0 x3 2 1 v4 gv4 p0 hm
def j_La_chart_57 (a0 : Nat) (kr : Int32 → Int32 → ia_H → Option ia_H) (k141 : Int32 → ia_H → Option ia_H) (x1 : Int32) (x2 : Int32) (x3 : Int32) (b0 : Nat) (s1 : Int32) (s2 : Int32) (s3 : Int32) (h : ia_H) : Option ia_H := (f_La_join b0 s1 s2 s3 (x3 - (ia_i h a0 0)) h).bind fun v3 => (if x2 ≤ 0 then (j_La_chart_78 a0 kr k141 x1 x2 x3 a0 x3 1 0 v3) else (j_La_chart_78 a0 kr k141 x1 x2 x3 a0 x3 1 1 v3))
theorem tj_La_chart_57 {w : ia_O0} {d N1 W1 : Nat} {K : ia_K} (hK : ia_isK (d + 2) mm_La_chart N1 W1 K) {a0 : Nat} (p0 : (kd_D a0).1 = 3) {h1 : ia_H} (hret : ∀ (pc : Nat) (lv : ia_L), ia_ret mm_La_chart pc none → K pc lv (none : Option ia_V).toList h1) {kr : Int32 → Int32 → ia_H → Option ia_H} {k141 : Int32 → ia_H → Option ia_H} (hkr : ∀ (x1 : Int32) (x2 : Int32) (h : ia_H), gd_ w h → kr x1 x2 h = some h1 → K 28 [some (.inr (.inr a0)), some (.inl x1), some (.inl x2), none] [] h) (hk141 : ∀ (x1 : Int32) (h : ia_H), gd_ w h → k141 x1 h = some h1 → K 141 [some (.inr (.inr a0)), some (.inl x1), none, none] [] h) : ∀ (x1 : Int32) (x2 : Int32) (x3 : Int32) (b0 : Nat) (s1 : Int32) (s2 : Int32) (s3 : Int32) (h : ia_H), gd_ w h → (kd_D b0).1 = 3 → j_La_chart_57 a0 kr k141 x1 x2 x3 b0 s1 s2 s3 h = some h1 → K 57 [some (.inr (.inr a0)), some (.inl x1), some (.inl x2), some (.inl x3)] [.inl s3, .inl s2, .inl s1, .inr (.inr b0)] h := by
  intro x1 x2 x3 b0 s1 s2 s3 h hg q_b0 hm
  unfold j_La_chart_57 at hm
  refine ia_go hK ck_La_chart_57 ⟨gk_3 hg p0, ?_⟩
  show K 63 [some (.inr (.inr a0)), some (.inl x1), some (.inl x2), some (.inl x3)] [.inl (x3 - (ia_i h a0 0)), .inl s3, .inl s2, .inl s1, .inr (.inr b0)] h
  obtain ⟨v3, hv3, hm⟩ := ia_bnd hm
  have ev3 := t_La_join (d + 0) hg q_b0 hv3
  have gv3 := g_La_join hg q_b0 hv3
  refine ia_cV hK mk_La_join lk_3_112 dc_La_chart_63 b0 [.inl s1, .inl s2, .inl s3, .inl (x3 - (ia_i h a0 0))] [] rfl rfl (Nat.le_of_ble_eq_true rfl) (by decide) rfl (gk_3 hg q_b0) ev3 (gd_nm hg gv3) ?_
  show K 66 [some (.inr (.inr a0)), some (.inl x1), some (.inl x2), some (.inl x3)] [] v3
  refine ia_go hK ck_La_chart_66 ⟨fun c => ?_, fun c => ?_⟩
  · replace hm := ia_ifp hm c
    show K 77 [some (.inr (.inr a0)), some (.inl x1), some (.inl x2), some (.inl x3)] [.inl 1, .inl x3, .inr (.inr a0)] v3
    refine ia_go hK ck_La_chart_77 ?_
    show K 78 [some (.inr (.inr a0)), some (.inl x1), some (.inl x2), some (.inl x3)] [.inl 0, .inl 1, .inl x3, .inr (.inr a0)] v3
    exact tj_La_chart_78 hK p0 hret hkr hk141 x1 x2 x3 a0 x3 1 0 v3 gv3 p0 hm
  · replace hm := ia_ifn hm c
    show K 73 [some (.inr (.inr a0)), some (.inl x1), some (.inl x2), some (.inl x3)] [.inl 1, .inl x3, .inr (.inr a0)] v3
    refine ia_go hK ck_La_chart_73 ?_
    show K 78 [some (.inr (.inr a0)), some (.inl x1), some (.inl x2), some (.inl x3)] [.inl 1, .inl 1, .inl x3, .inr (.inr a0)] v3
    exact tj_La_chart_78 hK p0 hret hkr hk141 x1 x2 x3 a0 x3 1 1 v3 gv3 p0 hm
theorem gj_La_chart_57 {w : ia_O0} {a0 : Nat} (p0 : (kd_D a0).1 = 3) {h1 : ia_H} {kr : Int32 → Int32 → ia_H → Option ia_H} {k141 : Int32 → ia_H → Option ia_H} (hkr : ∀ (x1 : Int32) (x2 : Int32) (h : ia_H), gd_ w h → kr x1 x2 h = some h1 → gd_ w h1) (hk141 : ∀ (x1 : Int32) (h : ia_H), gd_ w h → k141 x1 h = some h1 → gd_ w h1) : ∀ (x1 : Int32) (x2 : Int32) (x3 : Int32) (b0 : Nat) (s1 : Int32) (s2 : Int32) (s3 : Int32) (h : ia_H), gd_ w h → (kd_D b0).1 = 3 → j_La_chart_57 a0 kr k141 x1 x2 x3 b0 s1 s2 s3 h = some h1 → gd_ w h1 := by
  intro x1 x2 x3 b0 s1 s2 s3 h hg q_b0 hm
  unfold j_La_chart_57 at hm
  obtain ⟨v3, hv3, hm⟩ := ia_bnd hm
  have gv3 := g_La_join hg q_b0 hv3
  by_cases c : x2 ≤ 0
  · replace hm := ia_ifp hm c
    exact gj_La_chart_78 p0 hkr hk141 x1 x2 x3 a0 x3 1 0 v3 gv3 p0 hm
  · replace hm := ia_ifn hm c
    exact gj_La_chart_78 p0 hkr hk141 x1 x2 x3 a0 x3 1 1 v3 gv3 p0 hm
def l_La_chart_28 (a0 : Nat) (k141 : Int32 → ia_H → Option ia_H) (n : Nat) (x1 : Int32) (x2 : Int32) (h : ia_H) : Option ia_H := match n with
  | 0 => none
  | n + 1 => if (ia_i h a0 0) ≤ x2 then (k141 x1 h) else (if x1 ≤ 0 then (j_La_chart_57 a0 (l_La_chart_28 a0 k141 n) k141 x1 x2 ((x1 * (ia_i h a0 0)) + x2) a0 ((x1 * (ia_i h a0 0)) + x2) 0 0 h) else (j_La_chart_57 a0 (l_La_chart_28 a0 k141 n) k141 x1 x2 ((x1 * (ia_i h a0 0)) + x2) a0 ((x1 * (ia_i h a0 0)) + x2) 0 1 h))
theorem tl_La_chart_28 {w : ia_O0} {d N1 W1 : Nat} {K : ia_K} (hK : ia_isK (d + 2) mm_La_chart N1 W1 K) {a0 : Nat} (p0 : (kd_D a0).1 = 3) {h1 : ia_H} (hret : ∀ (pc : Nat) (lv : ia_L), ia_ret mm_La_chart pc none → K pc lv (none : Option ia_V).toList h1) {k141 : Int32 → ia_H → Option ia_H} (hk141 : ∀ (x1 : Int32) (h : ia_H), gd_ w h → k141 x1 h = some h1 → K 141 [some (.inr (.inr a0)), some (.inl x1), none, none] [] h) : ∀ (n : Nat) (x1 : Int32) (x2 : Int32) (h : ia_H), gd_ w h → l_La_chart_28 a0 k141 n x1 x2 h = some h1 → K 28 [some (.inr (.inr a0)), some (.inl x1), some (.inl x2), none] [] h := by
  intro n
  induction n with
  | zero =>
    intro x1 x2 h hg hm
    cases (show (none : Option ia_H) = some _ from hm)
  | succ n ih =>
    intro x1 x2 h hg hm
    rw [l_La_chart_28] at hm
    refine ia_go hK ck_La_chart_28 ⟨gk_3 hg p0, fun c => ?_, fun c => ?_⟩
    · replace hm := ia_ifp hm c
      show K 141 [some (.inr (.inr a0)), some (.inl x1), some (.inl x2), none] [] h
      refine ia_fg hK (lv' := [some (.inr (.inr a0)), some (.inl x1), none, none]) ⟨rfl, rfl, trivial⟩ ?_
      exact hk141 x1 h hg hm
    · replace hm := ia_ifn hm c
      show K 36 [some (.inr (.inr a0)), some (.inl x1), some (.inl x2), none] [] h
      refine ia_go hK ck_La_chart_36 ⟨gk_3 hg p0, fun c => ?_, fun c => ?_⟩
      · replace hm := ia_ifp hm c
        show K 56 [some (.inr (.inr a0)), some (.inl x1), some (.inl x2), some (.inl ((x1 * (ia_i h a0 0)) + x2))] [.inl 0, .inl ((x1 * (ia_i h a0 0)) + x2), .inr (.inr a0)] h
        refine ia_go hK ck_La_chart_56 ?_
        show K 57 [some (.inr (.inr a0)), some (.inl x1), some (.inl x2), some (.inl ((x1 * (ia_i h a0 0)) + x2))] [.inl 0, .inl 0, .inl ((x1 * (ia_i h a0 0)) + x2), .inr (.inr a0)] h
        exact tj_La_chart_57 hK p0 hret ih hk141 x1 x2 ((x1 * (ia_i h a0 0)) + x2) a0 ((x1 * (ia_i h a0 0)) + x2) 0 0 h hg p0 hm
      · replace hm := ia_ifn hm c
        show K 52 [some (.inr (.inr a0)), some (.inl x1), some (.inl x2), some (.inl ((x1 * (ia_i h a0 0)) + x2))] [.inl 0, .inl ((x1 * (ia_i h a0 0)) + x2), .inr (.inr a0)] h
        refine ia_go hK ck_La_chart_52 ?_
        show K 57 [some (.inr (.inr a0)), some (.inl x1), some (.inl x2), some (.inl ((x1 * (ia_i h a0 0)) + x2))] [.inl 1, .inl 0, .inl ((x1 * (ia_i h a0 0)) + x2), .inr (.inr a0)] h
        exact tj_La_chart_57 hK p0 hret ih hk141 x1 x2 ((x1 * (ia_i h a0 0)) + x2) a0 ((x1 * (ia_i h a0 0)) + x2) 0 1 h hg p0 hm
theorem gl_La_chart_28 {w : ia_O0} {a0 : Nat} (p0 : (kd_D a0).1 = 3) {h1 : ia_H} {k141 : Int32 → ia_H → Option ia_H} (hk141 : ∀ (x1 : Int32) (h : ia_H), gd_ w h → k141 x1 h = some h1 → gd_ w h1) : ∀ (n : Nat) (x1 : Int32) (x2 : Int32) (h : ia_H), gd_ w h → l_La_chart_28 a0 k141 n x1 x2 h = some h1 → gd_ w h1 := by
  intro n
  induction n with
  | zero =>
    intro x1 x2 h hg hm
    cases (show (none : Option ia_H) = some _ from hm)
  | succ n ih =>
    intro x1 x2 h hg hm
    rw [l_La_chart_28] at hm
    by_cases c : (ia_i h a0 0) ≤ x2
    · replace hm := ia_ifp hm c
      exact hk141 x1 h hg hm
    · replace hm := ia_ifn hm c
      by_cases c : x1 ≤ 0
      · replace hm := ia_ifp hm c
        exact gj_La_chart_57 p0 ih hk141 x1 x2 ((x1 * (ia_i h a0 0)) + x2) a0 ((x1 * (ia_i h a0 0)) + x2) 0 0 h hg p0 hm
      · replace hm := ia_ifn hm c
        exact gj_La_chart_57 p0 ih hk141 x1 x2 ((x1 * (ia_i h a0 0)) + x2) a0 ((x1 * (ia_i h a0 0)) + x2) 0 1 h hg p0 hm
def l_La_chart_18 (a0 : Nat) (k147 : ia_H → Option ia_H) (n : Nat) (x1 : Int32) (h : ia_H) : Option ia_H := match n with
  | 0 => none
  | n + 1 => if (ia_i h a0 1) ≤ x1 then (k147 h) else (l_La_chart_28 a0 (fun x1 h => l_La_chart_18 a0 k147 n (x1 + 1) h) fu_ x1 0 h)
theorem tl_La_chart_18 {w : ia_O0} {d N1 W1 : Nat} {K : ia_K} (hK : ia_isK (d + 2) mm_La_chart N1 W1 K) {a0 : Nat} (p0 : (kd_D a0).1 = 3) {h1 : ia_H} (hret : ∀ (pc : Nat) (lv : ia_L), ia_ret mm_La_chart pc none → K pc lv (none : Option ia_V).toList h1) {k147 : ia_H → Option ia_H} (hk147 : ∀ (h : ia_H), gd_ w h → k147 h = some h1 → K 147 [none, none, none, none] [] h) : ∀ (n : Nat) (x1 : Int32) (h : ia_H), gd_ w h → l_La_chart_18 a0 k147 n x1 h = some h1 → K 18 [some (.inr (.inr a0)), some (.inl x1), none, none] [] h := by
  intro n
  induction n with
  | zero =>
    intro x1 h hg hm
    cases (show (none : Option ia_H) = some _ from hm)
  | succ n ih =>
    intro x1 h hg hm
    rw [l_La_chart_18] at hm
    refine ia_go hK ck_La_chart_18 ⟨gk_3 hg p0, fun c => ?_, fun c => ?_⟩
    · replace hm := ia_ifp hm c
      show K 147 [some (.inr (.inr a0)), some (.inl x1), none, none] [] h
      refine ia_fg hK (lv' := [none, none, none, none]) trivial ?_
      exact hk147 h hg hm
    · replace hm := ia_ifn hm c
      show K 26 [some (.inr (.inr a0)), some (.inl x1), none, none] [] h
      refine ia_go hK ck_La_chart_26 ?_
      show K 28 [some (.inr (.inr a0)), some (.inl x1), some (.inl 0), none] [] h
      refine tl_La_chart_28 hK p0 hret ?_ fu_ x1 0 h hg hm
      · intro x1 h hg hm
        refine ia_go hK ck_La_chart_141 ?_
        show K 18 [some (.inr (.inr a0)), some (.inl (x1 + 1)), none, none] [] h
        exact ih (x1 + 1) h hg hm
theorem gl_La_chart_18 {w : ia_O0} {a0 : Nat} (p0 : (kd_D a0).1 = 3) {h1 : ia_H} {k147 : ia_H → Option ia_H} (hk147 : ∀ (h : ia_H), gd_ w h → k147 h = some h1 → gd_ w h1) : ∀ (n : Nat) (x1 : Int32) (h : ia_H), gd_ w h → l_La_chart_18 a0 k147 n x1 h = some h1 → gd_ w h1 := by
  intro n
  induction n with
  | zero =>
    intro x1 h hg hm
    cases (show (none : Option ia_H) = some _ from hm)
  | succ n ih =>
    intro x1 h hg hm
    rw [l_La_chart_18] at hm
    by_cases c : (ia_i h a0 1) ≤ x1
    · replace hm := ia_ifp hm c
      exact hk147 h hg hm
    · replace hm := ia_ifn hm c
      refine gl_La_chart_28 p0 ?_ fu_ x1 0 h hg hm
      · intro x1 h hg hm
        exact ih (x1 + 1) h hg hm
def f_La_chart (a0 : Nat) (h : ia_H) : Option ia_H := (f_Ar_fill (a0 + 10) (-1) h).bind fun v1 => ((f_Ar_fill (a0 + 11) (-1) v1).bind fun v2 => (l_La_chart_18 a0 (fun h => some h) fu_ 0 v2))
theorem g_La_chart {w : ia_O0} {a0 : Nat} {h : ia_H} (hg : gd_ w h) (p0 : (kd_D a0).1 = 3) {q : ia_H} (hm : f_La_chart a0 h = some q) : gd_ w q := by
  obtain ⟨h1, e1⟩ : ∃ x, x = q := ⟨_, rfl⟩
  subst e1
  unfold f_La_chart at hm
  obtain ⟨v1, hv1, hm⟩ := ia_bnd hm
  have gv1 := g_Ar_fill hg (congrArg Prod.fst (ka_3_16 p0)) hv1
  obtain ⟨v2, hv2, hm⟩ := ia_bnd hm
  have gv2 := g_Ar_fill gv1 (congrArg Prod.fst (ka_3_17 p0)) hv2
  refine gl_La_chart_18 p0 ?_ fu_ 0 v2 gv2 hm
  · intro h hg hm
    obtain rfl := Option.some.inj hm
    exact hg
theorem t_La_chart {w : ia_O0} (d : Nat) {a0 : Nat} {h : ia_H} (hg : gd_ w h) (p0 : (kd_D a0).1 = 3) {q : ia_H} (hm : f_La_chart a0 h = some q) : ia_Ev (d + 2) mm_La_chart [.inr (.inr a0)] h none q := by
  have gq := g_La_chart hg p0 hm
  refine ia_Ev_intro ok_La_chart (gd_le hg gq).1 (gd_le hg gq).2 (Nat.le_of_ble_eq_true rfl) (fun K hK hret => ?_)
  obtain ⟨h1, e1⟩ : ∃ x, x = q := ⟨_, rfl⟩
  subst e1
  show K 0 [some (.inr (.inr a0)), none, none, none] [] h
  unfold f_La_chart at hm
  refine ia_go hK ck_La_chart_0 ⟨gk_3 hg p0, gr_3_16 hg p0, ?_⟩
  show K 5 [some (.inr (.inr a0)), none, none, none] [.inl (-1), .inr (.inr (a0 + 10))] h
  obtain ⟨v1, hv1, hm⟩ := ia_bnd hm
  have ev1 := t_Ar_fill (d + 1) hg (congrArg Prod.fst (ka_3_16 p0)) hv1
  have gv1 := g_Ar_fill hg (congrArg Prod.fst (ka_3_16 p0)) hv1
  refine ia_cS hK mk_Ar_fill lk_3_59 dc_La_chart_5 [.inr (.inr (a0 + 10)), .inl (-1)] [] rfl rfl (Nat.le_of_ble_eq_true rfl) ev1 (gd_nm hg gv1) ?_
  show K 8 [some (.inr (.inr a0)), none, none, none] [] v1
  refine ia_go hK ck_La_chart_8 ⟨gk_3 gv1 p0, gr_3_17 gv1 p0, ?_⟩
  show K 13 [some (.inr (.inr a0)), none, none, none] [.inl (-1), .inr (.inr (a0 + 11))] v1
  obtain ⟨v2, hv2, hm⟩ := ia_bnd hm
  have ev2 := t_Ar_fill (d + 1) gv1 (congrArg Prod.fst (ka_3_17 p0)) hv2
  have gv2 := g_Ar_fill gv1 (congrArg Prod.fst (ka_3_17 p0)) hv2
  refine ia_cS hK mk_Ar_fill lk_3_59 dc_La_chart_13 [.inr (.inr (a0 + 11)), .inl (-1)] [] rfl rfl (Nat.le_of_ble_eq_true rfl) ev2 (gd_nm gv1 gv2) ?_
  show K 16 [some (.inr (.inr a0)), none, none, none] [] v2
  refine ia_go hK ck_La_chart_16 ?_
  show K 18 [some (.inr (.inr a0)), some (.inl 0), none, none] [] v2
  refine tl_La_chart_18 hK p0 hret ?_ fu_ 0 v2 gv2 hm
  · intro h hg hm
    obtain rfl := Option.some.inj hm
    exact hret 147 _ dc_La_chart_147
def mm_La_clear : ia_M := (⟨"IceStreet$Lake", "clear", "()V"⟩, prog_4_method_2_code, 1, none, 3, false)
theorem ok_La_clear : ia_mok mm_La_clear := ⟨by decide +kernel, by decide +kernel, by decide +kernel, by decide +kernel⟩
theorem mk_La_clear : ia_mkn mm_La_clear 1 0 := ⟨ia_tb_in (List.mem_of_getElem? (i := 178) (by decide +kernel)) rfl, ia_tb_in (List.mem_of_getElem? (i := 135) (by decide +kernel)) rfl, by decide +kernel, by decide +kernel, ⟨ia_tb_in (List.mem_of_getElem? (i := 176) (by decide +kernel)) rfl, ia_tb_in (List.mem_of_getElem? (i := 177) (by decide +kernel)) rfl⟩⟩
theorem ck_La_clear_0 : ia_cks 3 1 false prog_4_method_2_code 0 [(.aload_n 0, 0, 0, 0, 0), (.iconst 4, 0, 0, 0, 0), (.putfield 49, 3, 0, 0, 0), (.aload_n 0, 0, 0, 0, 0), (.iconst 4, 0, 0, 0, 0), (.putfield 53, 3, 1, 0, 0), (.aload_n 0, 0, 0, 0, 0), (.bipush 10, 0, 0, 0, 0), (.putfield 56, 3, 2, 0, 0), (.aload_n 0, 0, 0, 0, 0), (.getfield 9, 3, 3, 3, 1), (.bipush 20, 0, 0, 0, 0)] = true := by decide +kernel
theorem ck_La_clear_25 : ia_cks 3 1 false prog_4_method_2_code 25 [(.aload_n 0, 0, 0, 0, 0), (.getfield 15, 3, 4, 3, 2), (.iconst 0, 0, 0, 0, 0)] = true := by decide +kernel
theorem ck_La_clear_33 : ia_cks 3 1 false prog_4_method_2_code 33 [(.aload_n 0, 0, 0, 0, 0), (.getfield 18, 3, 5, 3, 3), (.iconst 0, 0, 0, 0, 0)] = true := by decide +kernel
theorem ck_La_clear_41 : ia_cks 3 1 false prog_4_method_2_code 41 [(.aload_n 0, 0, 0, 0, 0), (.getfield 21, 3, 6, 3, 4), (.lconst 0, 0, 0, 0, 0)] = true := by decide +kernel
theorem ck_La_clear_49 : ia_cks 3 1 false prog_4_method_2_code 49 [(.aload_n 0, 0, 0, 0, 0), (.lconst 0, 0, 0, 0, 0), (.putfield 68, 3, 7, 1, 0), (.aload_n 0, 0, 0, 0, 0), (.lconst 0, 0, 0, 0, 0), (.putfield 72, 3, 8, 1, 0), (.aload_n 0, 0, 0, 0, 0), (.getfield 25, 3, 9, 3, 5), (.iconst 0, 0, 0, 0, 0), (.iconst 0, 0, 0, 0, 0), (.iastore, 0, 0, 0, 0), (.aload_n 0, 0, 0, 0, 0), (.iconst 1, 0, 0, 0, 0), (.putfield 75, 3, 10, 0, 0), (.aload_n 0, 0, 0, 0, 0), (.iconst 0, 0, 0, 0, 0), (.putfield 78, 3, 11, 0, 0), (.aload_n 0, 0, 0, 0, 0)] = true := by decide +kernel
theorem dc_La_clear_22 : decode prog_4_method_2_code 22 = .ok (.invokestatic 59, 3) := by decide +kernel
theorem dc_La_clear_30 : decode prog_4_method_2_code 30 = .ok (.invokestatic 59, 3) := by decide +kernel
theorem dc_La_clear_38 : decode prog_4_method_2_code 38 = .ok (.invokestatic 59, 3) := by decide +kernel
theorem dc_La_clear_46 : decode prog_4_method_2_code 46 = .ok (.invokestatic 65, 3) := by decide +kernel
theorem dc_La_clear_77 : decode prog_4_method_2_code 77 = .ok (.invokevirtual 81, 3) := by decide +kernel
theorem dc_La_clear_80 : decode prog_4_method_2_code 80 = .ok (.return_, 1) := by decide +kernel
def f_La_clear (a0 : Nat) (h : ia_H) : Option ia_H := (f_Ar_fill (a0 + 1) 20 (ia_wI (ia_wI (ia_wI h a0 0 4) a0 1 4) a0 2 10)).bind fun v1 => ((f_Ar_fill (a0 + 2) 0 v1).bind fun v2 => ((f_Ar_fill (a0 + 3) 0 v2).bind fun v3 => ((f_Ar_fill2 (a0 + 4) 0 v3).bind fun v4 => ((f_La_chart a0 (ia_wI (ia_wI (ia_wI (ia_wL (ia_wL v4 a0 7 0) a0 8 0) (a0 + 5) 0 0) a0 10 1) a0 11 0)).bind fun v5 => (some v5)))))
theorem g_La_clear {w : ia_O0} {a0 : Nat} {h : ia_H} (hg : gd_ w h) (p0 : (kd_D a0).1 = 3) {q : ia_H} (hm : f_La_clear a0 h = some q) : gd_ w q := by
  obtain ⟨h1, e1⟩ : ∃ x, x = q := ⟨_, rfl⟩
  subst e1
  unfold f_La_clear at hm
  obtain ⟨v1, hv1, hm⟩ := ia_bnd hm
  have gv1 := g_Ar_fill (gd_wI (gd_wI (gd_wI hg (ko_3 p0)) (ko_3 p0)) (ko_3 p0)) (congrArg Prod.fst (ka_3_3 p0)) hv1
  obtain ⟨v2, hv2, hm⟩ := ia_bnd hm
  have gv2 := g_Ar_fill gv1 (congrArg Prod.fst (ka_3_4 p0)) hv2
  obtain ⟨v3, hv3, hm⟩ := ia_bnd hm
  have gv3 := g_Ar_fill gv2 (congrArg Prod.fst (ka_3_5 p0)) hv3
  obtain ⟨v4, hv4, hm⟩ := ia_bnd hm
  have gv4 := g_Ar_fill2 gv3 (congrArg Prod.fst (ka_3_6 p0)) hv4
  obtain ⟨v5, hv5, hm⟩ := ia_bnd hm
  have gv5 := g_La_chart (gd_wI (gd_wI (gd_wI (gd_wL (gd_wL gv4)) (kx_100 (ka_3_9 p0))) (ko_3 p0)) (ko_3 p0)) p0 hv5
  obtain rfl := Option.some.inj hm
  exact gv5
theorem t_La_clear {w : ia_O0} (d : Nat) {a0 : Nat} {h : ia_H} (hg : gd_ w h) (p0 : (kd_D a0).1 = 3) {q : ia_H} (hm : f_La_clear a0 h = some q) : ia_Ev (d + 3) mm_La_clear [.inr (.inr a0)] h none q := by
  have gq := g_La_clear hg p0 hm
  refine ia_Ev_intro ok_La_clear (gd_le hg gq).1 (gd_le hg gq).2 (Nat.le_of_ble_eq_true rfl) (fun K hK hret => ?_)
  obtain ⟨h1, e1⟩ : ∃ x, x = q := ⟨_, rfl⟩
  subst e1
  show K 0 [some (.inr (.inr a0))] [] h
  unfold f_La_clear at hm
  refine ia_go hK ck_La_clear_0 ⟨gk_3 hg p0, gk_3 (gd_wI hg (ko_3 p0)) p0, gk_3 (gd_wI (gd_wI hg (ko_3 p0)) (ko_3 p0)) p0, gk_3 (gd_wI (gd_wI (gd_wI hg (ko_3 p0)) (ko_3 p0)) (ko_3 p0)) p0, gr_3_3 (gd_wI (gd_wI (gd_wI hg (ko_3 p0)) (ko_3 p0)) (ko_3 p0)) p0, ?_⟩
  show K 22 [some (.inr (.inr a0))] [.inl 20, .inr (.inr (a0 + 1))] (ia_wI (ia_wI (ia_wI h a0 0 4) a0 1 4) a0 2 10)
  obtain ⟨v1, hv1, hm⟩ := ia_bnd hm
  have ev1 := t_Ar_fill (d + 2) (gd_wI (gd_wI (gd_wI hg (ko_3 p0)) (ko_3 p0)) (ko_3 p0)) (congrArg Prod.fst (ka_3_3 p0)) hv1
  have gv1 := g_Ar_fill (gd_wI (gd_wI (gd_wI hg (ko_3 p0)) (ko_3 p0)) (ko_3 p0)) (congrArg Prod.fst (ka_3_3 p0)) hv1
  refine ia_cS hK mk_Ar_fill lk_3_59 dc_La_clear_22 [.inr (.inr (a0 + 1)), .inl 20] [] rfl rfl (Nat.le_of_ble_eq_true rfl) ev1 (gd_nm (gd_wI (gd_wI (gd_wI hg (ko_3 p0)) (ko_3 p0)) (ko_3 p0)) gv1) ?_
  show K 25 [some (.inr (.inr a0))] [] v1
  refine ia_go hK ck_La_clear_25 ⟨gk_3 gv1 p0, gr_3_4 gv1 p0, ?_⟩
  show K 30 [some (.inr (.inr a0))] [.inl 0, .inr (.inr (a0 + 2))] v1
  obtain ⟨v2, hv2, hm⟩ := ia_bnd hm
  have ev2 := t_Ar_fill (d + 2) gv1 (congrArg Prod.fst (ka_3_4 p0)) hv2
  have gv2 := g_Ar_fill gv1 (congrArg Prod.fst (ka_3_4 p0)) hv2
  refine ia_cS hK mk_Ar_fill lk_3_59 dc_La_clear_30 [.inr (.inr (a0 + 2)), .inl 0] [] rfl rfl (Nat.le_of_ble_eq_true rfl) ev2 (gd_nm gv1 gv2) ?_
  show K 33 [some (.inr (.inr a0))] [] v2
  refine ia_go hK ck_La_clear_33 ⟨gk_3 gv2 p0, gr_3_5 gv2 p0, ?_⟩
  show K 38 [some (.inr (.inr a0))] [.inl 0, .inr (.inr (a0 + 3))] v2
  obtain ⟨v3, hv3, hm⟩ := ia_bnd hm
  have ev3 := t_Ar_fill (d + 2) gv2 (congrArg Prod.fst (ka_3_5 p0)) hv3
  have gv3 := g_Ar_fill gv2 (congrArg Prod.fst (ka_3_5 p0)) hv3
  refine ia_cS hK mk_Ar_fill lk_3_59 dc_La_clear_38 [.inr (.inr (a0 + 3)), .inl 0] [] rfl rfl (Nat.le_of_ble_eq_true rfl) ev3 (gd_nm gv2 gv3) ?_
  show K 41 [some (.inr (.inr a0))] [] v3
  refine ia_go hK ck_La_clear_41 ⟨gk_3 gv3 p0, gr_3_6 gv3 p0, ?_⟩
  show K 46 [some (.inr (.inr a0))] [.inr (.inl 0), .inr (.inr (a0 + 4))] v3
  obtain ⟨v4, hv4, hm⟩ := ia_bnd hm
  have ev4 := t_Ar_fill2 (d + 2) gv3 (congrArg Prod.fst (ka_3_6 p0)) hv4
  have gv4 := g_Ar_fill2 gv3 (congrArg Prod.fst (ka_3_6 p0)) hv4
  refine ia_cS hK mk_Ar_fill2 lk_3_65 dc_La_clear_46 [.inr (.inr (a0 + 4)), .inr (.inl 0)] [] rfl rfl (Nat.le_of_ble_eq_true rfl) ev4 (gd_nm gv3 gv4) ?_
  show K 49 [some (.inr (.inr a0))] [] v4
  refine ia_go hK ck_La_clear_49 ⟨gk_3 gv4 p0, gk_3 (gd_wL gv4) p0, gk_3 (gd_wL (gd_wL gv4)) p0, gr_3_9 (gd_wL (gd_wL gv4)) p0, ga_s100 (gd_wL (gd_wL gv4)) (ka_3_9 p0) (by decide), gk_3 (gd_wI (gd_wL (gd_wL gv4)) (kx_100 (ka_3_9 p0))) p0, gk_3 (gd_wI (gd_wI (gd_wL (gd_wL gv4)) (kx_100 (ka_3_9 p0))) (ko_3 p0)) p0, ?_⟩
  show K 77 [some (.inr (.inr a0))] [.inr (.inr a0)] (ia_wI (ia_wI (ia_wI (ia_wL (ia_wL v4 a0 7 0) a0 8 0) (a0 + 5) 0 0) a0 10 1) a0 11 0)
  obtain ⟨v5, hv5, hm⟩ := ia_bnd hm
  have ev5 := t_La_chart (d + 0) (gd_wI (gd_wI (gd_wI (gd_wL (gd_wL gv4)) (kx_100 (ka_3_9 p0))) (ko_3 p0)) (ko_3 p0)) p0 hv5
  have gv5 := g_La_chart (gd_wI (gd_wI (gd_wI (gd_wL (gd_wL gv4)) (kx_100 (ka_3_9 p0))) (ko_3 p0)) (ko_3 p0)) p0 hv5
  refine ia_cV hK mk_La_chart lk_3_81 dc_La_clear_77 a0 [] [] rfl rfl (Nat.le_of_ble_eq_true rfl) (by decide) rfl (gk_3 (gd_wI (gd_wI (gd_wI (gd_wL (gd_wL gv4)) (kx_100 (ka_3_9 p0))) (ko_3 p0)) (ko_3 p0)) p0) ev5 (gd_nm (gd_wI (gd_wI (gd_wI (gd_wL (gd_wL gv4)) (kx_100 (ka_3_9 p0))) (ko_3 p0)) (ko_3 p0)) gv5) ?_
  show K 80 [some (.inr (.inr a0))] [] v5
  obtain rfl := Option.some.inj hm
  exact hret 80 _ dc_La_clear_80
def mm_Lw_clear : ia_M := (⟨"IceStreet$Law", "clear", "()V"⟩, prog_5_method_2_code, 1, none, 4, false)
theorem ok_Lw_clear : ia_mok mm_Lw_clear := ⟨by decide +kernel, by decide +kernel, by decide +kernel, by decide +kernel⟩
theorem mk_Lw_clear : ia_mkn mm_Lw_clear 1 0 := ⟨ia_tb_in (List.mem_of_getElem? (i := 309) (by decide +kernel)) rfl, ia_tb_in (List.mem_of_getElem? (i := 137) (by decide +kernel)) rfl, by decide +kernel, by decide +kernel, ⟨ia_tb_in (List.mem_of_getElem? (i := 307) (by decide +kernel)) rfl, ia_tb_in (List.mem_of_getElem? (i := 308) (by decide +kernel)) rfl⟩⟩
theorem ck_Lw_clear_0 : ia_cks 4 1 false prog_5_method_2_code 0 [(.aload_n 0, 0, 0, 0, 0), (.iconst 0, 0, 0, 0, 0), (.putfield 25, 4, 0, 0, 0), (.aload_n 0, 0, 0, 0, 0), (.iconst 0, 0, 0, 0, 0), (.putfield 29, 4, 1, 0, 0), (.aload_n 0, 0, 0, 0, 0), (.iconst 5, 0, 0, 0, 0), (.putfield 32, 4, 2, 0, 0), (.aload_n 0, 0, 0, 0, 0), (.iconst 1, 0, 0, 0, 0), (.putfield 35, 4, 3, 0, 0), (.aload_n 0, 0, 0, 0, 0), (.iconst 0, 0, 0, 0, 0), (.putfield 38, 4, 4, 0, 0), (.aload_n 0, 0, 0, 0, 0), (.lconst 0, 0, 0, 0, 0), (.putfield 41, 4, 7, 1, 0), (.aload_n 0, 0, 0, 0, 0), (.getfield 18, 4, 8, 3, 3), (.lconst 0, 0, 0, 0, 0)] = true := by decide +kernel
theorem dc_Lw_clear_35 : decode prog_5_method_2_code 35 = .ok (.invokestatic 45, 3) := by decide +kernel
theorem dc_Lw_clear_38 : decode prog_5_method_2_code 38 = .ok (.return_, 1) := by decide +kernel
def f_Lw_clear (a0 : Nat) (h : ia_H) : Option ia_H := (f_Ar_fill2 (a0 + 3) 0 (ia_wL (ia_wI (ia_wI (ia_wI (ia_wI (ia_wI h a0 0 0) a0 1 0) a0 2 5) a0 3 1) a0 4 0) a0 7 0)).bind fun v1 => (some v1)
theorem g_Lw_clear {w : ia_O0} {a0 : Nat} {h : ia_H} (hg : gd_ w h) (p0 : (kd_D a0).1 = 4) {q : ia_H} (hm : f_Lw_clear a0 h = some q) : gd_ w q := by
  obtain ⟨h1, e1⟩ : ∃ x, x = q := ⟨_, rfl⟩
  subst e1
  unfold f_Lw_clear at hm
  obtain ⟨v1, hv1, hm⟩ := ia_bnd hm
  have gv1 := g_Ar_fill2 (gd_wL (gd_wI (gd_wI (gd_wI (gd_wI (gd_wI hg (ko_4 p0)) (ko_4 p0)) (ko_4 p0)) (ko_4 p0)) (ko_4 p0))) (congrArg Prod.fst (ka_4_8 p0)) hv1
  obtain rfl := Option.some.inj hm
  exact gv1
theorem t_Lw_clear {w : ia_O0} (d : Nat) {a0 : Nat} {h : ia_H} (hg : gd_ w h) (p0 : (kd_D a0).1 = 4) {q : ia_H} (hm : f_Lw_clear a0 h = some q) : ia_Ev (d + 1) mm_Lw_clear [.inr (.inr a0)] h none q := by
  have gq := g_Lw_clear hg p0 hm
  refine ia_Ev_intro ok_Lw_clear (gd_le hg gq).1 (gd_le hg gq).2 (Nat.le_of_ble_eq_true rfl) (fun K hK hret => ?_)
  obtain ⟨h1, e1⟩ : ∃ x, x = q := ⟨_, rfl⟩
  subst e1
  show K 0 [some (.inr (.inr a0))] [] h
  unfold f_Lw_clear at hm
  refine ia_go hK ck_Lw_clear_0 ⟨gk_4 hg p0, gk_4 (gd_wI hg (ko_4 p0)) p0, gk_4 (gd_wI (gd_wI hg (ko_4 p0)) (ko_4 p0)) p0, gk_4 (gd_wI (gd_wI (gd_wI hg (ko_4 p0)) (ko_4 p0)) (ko_4 p0)) p0, gk_4 (gd_wI (gd_wI (gd_wI (gd_wI hg (ko_4 p0)) (ko_4 p0)) (ko_4 p0)) (ko_4 p0)) p0, gk_4 (gd_wI (gd_wI (gd_wI (gd_wI (gd_wI hg (ko_4 p0)) (ko_4 p0)) (ko_4 p0)) (ko_4 p0)) (ko_4 p0)) p0, gk_4 (gd_wL (gd_wI (gd_wI (gd_wI (gd_wI (gd_wI hg (ko_4 p0)) (ko_4 p0)) (ko_4 p0)) (ko_4 p0)) (ko_4 p0))) p0, gr_4_8 (gd_wL (gd_wI (gd_wI (gd_wI (gd_wI (gd_wI hg (ko_4 p0)) (ko_4 p0)) (ko_4 p0)) (ko_4 p0)) (ko_4 p0))) p0, ?_⟩
  show K 35 [some (.inr (.inr a0))] [.inr (.inl 0), .inr (.inr (a0 + 3))] (ia_wL (ia_wI (ia_wI (ia_wI (ia_wI (ia_wI h a0 0 0) a0 1 0) a0 2 5) a0 3 1) a0 4 0) a0 7 0)
  obtain ⟨v1, hv1, hm⟩ := ia_bnd hm
  have ev1 := t_Ar_fill2 (d + 0) (gd_wL (gd_wI (gd_wI (gd_wI (gd_wI (gd_wI hg (ko_4 p0)) (ko_4 p0)) (ko_4 p0)) (ko_4 p0)) (ko_4 p0))) (congrArg Prod.fst (ka_4_8 p0)) hv1
  have gv1 := g_Ar_fill2 (gd_wL (gd_wI (gd_wI (gd_wI (gd_wI (gd_wI hg (ko_4 p0)) (ko_4 p0)) (ko_4 p0)) (ko_4 p0)) (ko_4 p0))) (congrArg Prod.fst (ka_4_8 p0)) hv1
  refine ia_cS hK mk_Ar_fill2 lk_4_45 dc_Lw_clear_35 [.inr (.inr (a0 + 3)), .inr (.inl 0)] [] rfl rfl (Nat.le_of_ble_eq_true rfl) ev1 (gd_nm (gd_wL (gd_wI (gd_wI (gd_wI (gd_wI (gd_wI hg (ko_4 p0)) (ko_4 p0)) (ko_4 p0)) (ko_4 p0)) (ko_4 p0))) gv1) ?_
  show K 38 [some (.inr (.inr a0))] [] v1
  obtain rfl := Option.some.inj hm
  exact hret 38 _ dc_Lw_clear_38
def mm_To_tapeNumber : ia_M := (⟨"IceStreet$Told", "tapeNumber", "(I)V"⟩, prog_11_method_3_code, 3, none, 10, false)
theorem ok_To_tapeNumber : ia_mok mm_To_tapeNumber := ⟨by decide +kernel, by decide +kernel, by decide +kernel, by decide +kernel⟩
theorem mk_To_tapeNumber : ia_mkn mm_To_tapeNumber 1 1 := ⟨ia_tb_in (List.mem_of_getElem? (i := 726) (by decide +kernel)) rfl, ia_tb_in (List.mem_of_getElem? (i := 134) (by decide +kernel)) rfl, by decide +kernel, by decide +kernel, ⟨ia_tb_in (List.mem_of_getElem? (i := 724) (by decide +kernel)) rfl, ia_tb_in (List.mem_of_getElem? (i := 725) (by decide +kernel)) rfl⟩⟩
theorem ck_To_tapeNumber_0 : ia_cks 10 3 false prog_11_method_3_code 0 [(.bipush 24, 0, 0, 0, 0), (.istore_n 2, 0, 0, 0, 0)] = true := by decide +kernel
theorem ck_To_tapeNumber_3 : ia_cks 10 3 false prog_11_method_3_code 3 [(.iload_n 2, 0, 0, 0, 0), (.ifCond .lt 39, 0, 0, 0, 0)] = true := by decide +kernel
theorem ck_To_tapeNumber_7 : ia_cks 10 3 false prog_11_method_3_code 7 [(.aload_n 0, 0, 0, 0, 0), (.getfield 44, 10, 1, 0, 0), (.sipush 600, 0, 0, 0, 0), (.if_icmp .ge 29, 0, 0, 0, 0)] = true := by decide +kernel
theorem ck_To_tapeNumber_17 : ia_cks 10 3 false prog_11_method_3_code 17 [(.aload_n 0, 0, 0, 0, 0), (.getfield 9, 10, 0, 3, 1), (.aload_n 0, 0, 0, 0, 0), (.dup, 0, 0, 0, 0), (.getfield 44, 10, 1, 0, 0), (.dup_x1, 0, 0, 0, 0), (.iconst 1, 0, 0, 0, 0), (.iadd, 0, 0, 0, 0), (.putfield 44, 10, 1, 0, 0), (.iload_n 1, 0, 0, 0, 0), (.iload_n 2, 0, 0, 0, 0), (.iushr, 0, 0, 0, 0), (.i2b, 0, 0, 0, 0), (.bastore, 102, 0, 0, 0), (.iinc 2 (-8), 0, 0, 0, 0), (.goto (-37), 0, 0, 0, 0)] = true := by decide +kernel
theorem dc_To_tapeNumber_43 : decode prog_11_method_3_code 43 = .ok (.return_, 1) := by decide +kernel
def l_To_tapeNumber_3 (a0 : Nat) (x1 : Int32) (k43 : ia_H → Option ia_H) (n : Nat) (x2 : Int32) (h : ia_H) : Option ia_H := match n with
  | 0 => none
  | n + 1 => if x2 < 0 then (k43 h) else (if 600 ≤ (ia_i h a0 1) then (k43 h) else (ia_gd (ia_ib (ia_i h a0 1) 600) (l_To_tapeNumber_3 a0 x1 k43 n (x2 + (-8)) (ia_wI (ia_wI h a0 1 ((ia_i h a0 1) + 1)) (a0 + 1) ((ia_i h a0 1).toNatClampNeg) (vp_nar .byte (((x1.toUInt32 >>> (x2.toUInt32 &&& Int32.toUInt32 31)).toInt32).toInt8.toInt32))))))
theorem tl_To_tapeNumber_3 {w : ia_O0} {d N1 W1 : Nat} {K : ia_K} (hK : ia_isK (d + 0) mm_To_tapeNumber N1 W1 K) {a0 : Nat} {x1 : Int32} (p0 : (kd_D a0).1 = 10) {h1 : ia_H} (hret : ∀ (pc : Nat) (lv : ia_L), ia_ret mm_To_tapeNumber pc none → K pc lv (none : Option ia_V).toList h1) {k43 : ia_H → Option ia_H} (hk43 : ∀ (h : ia_H), gd_ w h → k43 h = some h1 → K 43 [none, none, none] [] h) : ∀ (n : Nat) (x2 : Int32) (h : ia_H), gd_ w h → l_To_tapeNumber_3 a0 x1 k43 n x2 h = some h1 → K 3 [some (.inr (.inr a0)), some (.inl x1), some (.inl x2)] [] h := by
  intro n
  induction n with
  | zero =>
    intro x2 h hg hm
    cases (show (none : Option ia_H) = some _ from hm)
  | succ n ih =>
    intro x2 h hg hm
    rw [l_To_tapeNumber_3] at hm
    refine ia_go hK ck_To_tapeNumber_3 ⟨fun c => ?_, fun c => ?_⟩
    · replace hm := ia_ifp hm c
      show K 43 [some (.inr (.inr a0)), some (.inl x1), some (.inl x2)] [] h
      refine ia_fg hK (lv' := [none, none, none]) trivial ?_
      exact hk43 h hg hm
    · replace hm := ia_ifn hm c
      show K 7 [some (.inr (.inr a0)), some (.inl x1), some (.inl x2)] [] h
      refine ia_go hK ck_To_tapeNumber_7 ⟨gk_10 hg p0, fun c => ?_, fun c => ?_⟩
      · replace hm := ia_ifp hm c
        show K 43 [some (.inr (.inr a0)), some (.inl x1), some (.inl x2)] [] h
        refine ia_fg hK (lv' := [none, none, none]) trivial ?_
        exact hk43 h hg hm
      · replace hm := ia_ifn hm c
        show K 17 [some (.inr (.inr a0)), some (.inl x1), some (.inl x2)] [] h
        obtain ⟨c1, hm⟩ := ia_gd_some hm
        refine ia_go hK ck_To_tapeNumber_17 ⟨gk_10 hg p0, gr_10_0 hg p0, gk_10 hg p0, gk_10 hg p0, ga_s102 (gd_wI hg (ko_10 p0)) (ka_10_0 p0) c1, ?_⟩
        show K 3 [some (.inr (.inr a0)), some (.inl x1), some (.inl (x2 + (-8)))] [] (ia_wI (ia_wI h a0 1 ((ia_i h a0 1) + 1)) (a0 + 1) ((ia_i h a0 1).toNatClampNeg) (vp_nar .byte (((x1.toUInt32 >>> (x2.toUInt32 &&& Int32.toUInt32 31)).toInt32).toInt8.toInt32)))
        exact ih (x2 + (-8)) (ia_wI (ia_wI h a0 1 ((ia_i h a0 1) + 1)) (a0 + 1) ((ia_i h a0 1).toNatClampNeg) (vp_nar .byte (((x1.toUInt32 >>> (x2.toUInt32 &&& Int32.toUInt32 31)).toInt32).toInt8.toInt32))) (gd_wI (gd_wI hg (ko_10 p0)) (kx_102 (ka_10_0 p0))) hm
theorem gl_To_tapeNumber_3 {w : ia_O0} {a0 : Nat} {x1 : Int32} (p0 : (kd_D a0).1 = 10) {h1 : ia_H} {k43 : ia_H → Option ia_H} (hk43 : ∀ (h : ia_H), gd_ w h → k43 h = some h1 → gd_ w h1) : ∀ (n : Nat) (x2 : Int32) (h : ia_H), gd_ w h → l_To_tapeNumber_3 a0 x1 k43 n x2 h = some h1 → gd_ w h1 := by
  intro n
  induction n with
  | zero =>
    intro x2 h hg hm
    cases (show (none : Option ia_H) = some _ from hm)
  | succ n ih =>
    intro x2 h hg hm
    rw [l_To_tapeNumber_3] at hm
    by_cases c : x2 < 0
    · replace hm := ia_ifp hm c
      exact hk43 h hg hm
    · replace hm := ia_ifn hm c
      by_cases c : 600 ≤ (ia_i h a0 1)
      · replace hm := ia_ifp hm c
        exact hk43 h hg hm
      · replace hm := ia_ifn hm c
        obtain ⟨c1, hm⟩ := ia_gd_some hm
        exact ih (x2 + (-8)) (ia_wI (ia_wI h a0 1 ((ia_i h a0 1) + 1)) (a0 + 1) ((ia_i h a0 1).toNatClampNeg) (vp_nar .byte (((x1.toUInt32 >>> (x2.toUInt32 &&& Int32.toUInt32 31)).toInt32).toInt8.toInt32))) (gd_wI (gd_wI hg (ko_10 p0)) (kx_102 (ka_10_0 p0))) hm
def f_To_tapeNumber (a0 : Nat) (x1 : Int32) (h : ia_H) : Option ia_H := l_To_tapeNumber_3 a0 x1 (fun h => some h) fu_ 24 h
theorem g_To_tapeNumber {w : ia_O0} {a0 : Nat} {x1 : Int32} {h : ia_H} (hg : gd_ w h) (p0 : (kd_D a0).1 = 10) {q : ia_H} (hm : f_To_tapeNumber a0 x1 h = some q) : gd_ w q := by
  obtain ⟨h1, e1⟩ : ∃ x, x = q := ⟨_, rfl⟩
  subst e1
  unfold f_To_tapeNumber at hm
  refine gl_To_tapeNumber_3 p0 ?_ fu_ 24 h hg hm
  · intro h hg hm
    obtain rfl := Option.some.inj hm
    exact hg
theorem t_To_tapeNumber {w : ia_O0} (d : Nat) {a0 : Nat} {x1 : Int32} {h : ia_H} (hg : gd_ w h) (p0 : (kd_D a0).1 = 10) {q : ia_H} (hm : f_To_tapeNumber a0 x1 h = some q) : ia_Ev (d + 0) mm_To_tapeNumber [.inr (.inr a0), .inl x1] h none q := by
  have gq := g_To_tapeNumber hg p0 hm
  refine ia_Ev_intro ok_To_tapeNumber (gd_le hg gq).1 (gd_le hg gq).2 (Nat.le_of_ble_eq_true rfl) (fun K hK hret => ?_)
  obtain ⟨h1, e1⟩ : ∃ x, x = q := ⟨_, rfl⟩
  subst e1
  show K 0 [some (.inr (.inr a0)), some (.inl x1), none] [] h
  unfold f_To_tapeNumber at hm
  refine ia_go hK ck_To_tapeNumber_0 ?_
  show K 3 [some (.inr (.inr a0)), some (.inl x1), some (.inl 24)] [] h
  refine tl_To_tapeNumber_3 hK p0 hret ?_ fu_ 24 h hg hm
  · intro h hg hm
    obtain rfl := Option.some.inj hm
    exact hret 43 _ dc_To_tapeNumber_43
def mm_I_feed : ia_M := (⟨"IceStreet", "feed", "(IIIII)I"⟩, prog_1_method_2_code, 6, (some .int), 0, false)
theorem ok_I_feed : ia_mok mm_I_feed := ⟨by decide +kernel, by decide +kernel, by decide +kernel, by decide +kernel⟩
theorem mk_I_feed : ia_mkn mm_I_feed 1 5 := ⟨ia_tb_in (List.mem_of_getElem? (i := 722) (by decide +kernel)) rfl, ia_tb_in (List.mem_of_getElem? (i := 133) (by decide +kernel)) rfl, by decide +kernel, by decide +kernel, ⟨ia_tb_in (List.mem_of_getElem? (i := 720) (by decide +kernel)) rfl, ia_tb_in (List.mem_of_getElem? (i := 721) (by decide +kernel)) rfl⟩⟩
theorem ck_I_feed_0 : ia_cks 0 6 false prog_1_method_2_code 0 [(.aload_n 0, 0, 0, 0, 0), (.getfield 10, 0, 0, 3, 1), (.getfield 90, 10, 1, 0, 0), (.bipush 20, 0, 0, 0, 0), (.iadd, 0, 0, 0, 0), (.sipush 600, 0, 0, 0, 0), (.if_icmp .le 5, 0, 0, 0, 0)] = true := by decide +kernel
theorem ck_I_feed_18 : ia_cks 0 6 false prog_1_method_2_code 18 [(.aload_n 0, 0, 0, 0, 0), (.getfield 10, 0, 0, 3, 1), (.iload_n 1, 0, 0, 0, 0)] = true := by decide +kernel
theorem ck_I_feed_26 : ia_cks 0 6 false prog_1_method_2_code 26 [(.aload_n 0, 0, 0, 0, 0), (.getfield 10, 0, 0, 3, 1), (.iload_n 2, 0, 0, 0, 0)] = true := by decide +kernel
theorem ck_I_feed_34 : ia_cks 0 6 false prog_1_method_2_code 34 [(.aload_n 0, 0, 0, 0, 0), (.getfield 10, 0, 0, 3, 1), (.iload_n 3, 0, 0, 0, 0)] = true := by decide +kernel
theorem ck_I_feed_42 : ia_cks 0 6 false prog_1_method_2_code 42 [(.aload_n 0, 0, 0, 0, 0), (.getfield 10, 0, 0, 3, 1), (.iload 4, 0, 0, 0, 0)] = true := by decide +kernel
theorem ck_I_feed_51 : ia_cks 0 6 false prog_1_method_2_code 51 [(.aload_n 0, 0, 0, 0, 0), (.getfield 10, 0, 0, 3, 1), (.iload 5, 0, 0, 0, 0)] = true := by decide +kernel
theorem ck_I_feed_60 : ia_cks 0 6 false prog_1_method_2_code 60 [(.aload_n 0, 0, 0, 0, 0), (.getfield 10, 0, 0, 3, 1), (.getfield 90, 10, 1, 0, 0)] = true := by decide +kernel
theorem ck_I_feed_16 : ia_cks 0 6 false prog_1_method_2_code 16 [(.iconst (-1), 0, 0, 0, 0)] = true := by decide +kernel
theorem dc_I_feed_23 : decode prog_1_method_2_code 23 = .ok (.invokevirtual 94, 3) := by decide +kernel
theorem dc_I_feed_31 : decode prog_1_method_2_code 31 = .ok (.invokevirtual 94, 3) := by decide +kernel
theorem dc_I_feed_39 : decode prog_1_method_2_code 39 = .ok (.invokevirtual 94, 3) := by decide +kernel
theorem dc_I_feed_48 : decode prog_1_method_2_code 48 = .ok (.invokevirtual 94, 3) := by decide +kernel
theorem dc_I_feed_57 : decode prog_1_method_2_code 57 = .ok (.invokevirtual 94, 3) := by decide +kernel
theorem dc_I_feed_67 : decode prog_1_method_2_code 67 = .ok (.ireturn, 1) := by decide +kernel
theorem dc_I_feed_17 : decode prog_1_method_2_code 17 = .ok (.ireturn, 1) := by decide +kernel
def f_I_feed (x1 : Int32) (x2 : Int32) (x3 : Int32) (x4 : Int32) (x5 : Int32) (h : ia_H) : Option (Int32 × ia_H) := if ((ia_i h 65 1) + 20) ≤ 600 then ((f_To_tapeNumber 65 x1 h).bind fun v1 => ((f_To_tapeNumber 65 x2 v1).bind fun v2 => ((f_To_tapeNumber 65 x3 v2).bind fun v3 => ((f_To_tapeNumber 65 x4 v3).bind fun v4 => ((f_To_tapeNumber 65 x5 v4).bind fun v5 => (some (ia_i v5 65 1, v5))))))) else (some ((-1), h))
theorem g_I_feed {w : ia_O0} {x1 : Int32} {x2 : Int32} {x3 : Int32} {x4 : Int32} {x5 : Int32} {h : ia_H} (hg : gd_ w h) {q : (Int32 × ia_H)} (hm : f_I_feed x1 x2 x3 x4 x5 h = some q) : gd_ w q.2 := by
  obtain ⟨r, h1⟩ := q
  unfold f_I_feed at hm
  by_cases c : ((ia_i h 65 1) + 20) ≤ 600
  · replace hm := ia_ifp hm c
    obtain ⟨v1, hv1, hm⟩ := ia_bnd hm
    have gv1 := g_To_tapeNumber hg (ka_0_0 pk_64) hv1
    obtain ⟨v2, hv2, hm⟩ := ia_bnd hm
    have gv2 := g_To_tapeNumber gv1 (ka_0_0 pk_64) hv2
    obtain ⟨v3, hv3, hm⟩ := ia_bnd hm
    have gv3 := g_To_tapeNumber gv2 (ka_0_0 pk_64) hv3
    obtain ⟨v4, hv4, hm⟩ := ia_bnd hm
    have gv4 := g_To_tapeNumber gv3 (ka_0_0 pk_64) hv4
    obtain ⟨v5, hv5, hm⟩ := ia_bnd hm
    have gv5 := g_To_tapeNumber gv4 (ka_0_0 pk_64) hv5
    obtain ⟨rfl, rfl⟩ := Prod.mk.inj (Option.some.inj hm)
    exact gv5
  · replace hm := ia_ifn hm c
    obtain ⟨rfl, rfl⟩ := Prod.mk.inj (Option.some.inj hm)
    exact hg
theorem t_I_feed {w : ia_O0} (d : Nat) {x1 : Int32} {x2 : Int32} {x3 : Int32} {x4 : Int32} {x5 : Int32} {h : ia_H} (hg : gd_ w h) {q : (Int32 × ia_H)} (hm : f_I_feed x1 x2 x3 x4 x5 h = some q) : ia_Ev (d + 1) mm_I_feed [.inr (.inr 64), .inl x1, .inl x2, .inl x3, .inl x4, .inl x5] h (some (.inl q.1)) q.2 := by
  have gq := g_I_feed hg hm
  refine ia_Ev_intro ok_I_feed (gd_le hg gq).1 (gd_le hg gq).2 (Nat.le_of_ble_eq_true rfl) (fun K hK hret => ?_)
  obtain ⟨r, h1⟩ := q
  show K 0 [some (.inr (.inr 64)), some (.inl x1), some (.inl x2), some (.inl x3), some (.inl x4), some (.inl x5)] [] h
  unfold f_I_feed at hm
  refine ia_go hK ck_I_feed_0 ⟨gk_0 hg pk_64, gr_0_0 hg pk_64, gk_10 hg (ka_0_0 pk_64), fun c => ?_, fun c => ?_⟩
  · replace hm := ia_ifp hm c
    show K 18 [some (.inr (.inr 64)), some (.inl x1), some (.inl x2), some (.inl x3), some (.inl x4), some (.inl x5)] [] h
    refine ia_go hK ck_I_feed_18 ⟨gk_0 hg pk_64, gr_0_0 hg pk_64, ?_⟩
    show K 23 [some (.inr (.inr 64)), some (.inl x1), some (.inl x2), some (.inl x3), some (.inl x4), some (.inl x5)] [.inl x1, .inr (.inr 65)] h
    obtain ⟨v1, hv1, hm⟩ := ia_bnd hm
    have ev1 := t_To_tapeNumber (d + 0) hg (ka_0_0 pk_64) hv1
    have gv1 := g_To_tapeNumber hg (ka_0_0 pk_64) hv1
    refine ia_cV hK mk_To_tapeNumber lk_0_94 dc_I_feed_23 65 [.inl x1] [] rfl rfl (Nat.le_of_ble_eq_true rfl) (by decide) rfl (gk_10 hg (ka_0_0 pk_64)) ev1 (gd_nm hg gv1) ?_
    show K 26 [some (.inr (.inr 64)), some (.inl x1), some (.inl x2), some (.inl x3), some (.inl x4), some (.inl x5)] [] v1
    refine ia_go hK ck_I_feed_26 ⟨gk_0 gv1 pk_64, gr_0_0 gv1 pk_64, ?_⟩
    show K 31 [some (.inr (.inr 64)), some (.inl x1), some (.inl x2), some (.inl x3), some (.inl x4), some (.inl x5)] [.inl x2, .inr (.inr 65)] v1
    obtain ⟨v2, hv2, hm⟩ := ia_bnd hm
    have ev2 := t_To_tapeNumber (d + 0) gv1 (ka_0_0 pk_64) hv2
    have gv2 := g_To_tapeNumber gv1 (ka_0_0 pk_64) hv2
    refine ia_cV hK mk_To_tapeNumber lk_0_94 dc_I_feed_31 65 [.inl x2] [] rfl rfl (Nat.le_of_ble_eq_true rfl) (by decide) rfl (gk_10 gv1 (ka_0_0 pk_64)) ev2 (gd_nm gv1 gv2) ?_
    show K 34 [some (.inr (.inr 64)), some (.inl x1), some (.inl x2), some (.inl x3), some (.inl x4), some (.inl x5)] [] v2
    refine ia_go hK ck_I_feed_34 ⟨gk_0 gv2 pk_64, gr_0_0 gv2 pk_64, ?_⟩
    show K 39 [some (.inr (.inr 64)), some (.inl x1), some (.inl x2), some (.inl x3), some (.inl x4), some (.inl x5)] [.inl x3, .inr (.inr 65)] v2
    obtain ⟨v3, hv3, hm⟩ := ia_bnd hm
    have ev3 := t_To_tapeNumber (d + 0) gv2 (ka_0_0 pk_64) hv3
    have gv3 := g_To_tapeNumber gv2 (ka_0_0 pk_64) hv3
    refine ia_cV hK mk_To_tapeNumber lk_0_94 dc_I_feed_39 65 [.inl x3] [] rfl rfl (Nat.le_of_ble_eq_true rfl) (by decide) rfl (gk_10 gv2 (ka_0_0 pk_64)) ev3 (gd_nm gv2 gv3) ?_
    show K 42 [some (.inr (.inr 64)), some (.inl x1), some (.inl x2), some (.inl x3), some (.inl x4), some (.inl x5)] [] v3
    refine ia_go hK ck_I_feed_42 ⟨gk_0 gv3 pk_64, gr_0_0 gv3 pk_64, ?_⟩
    show K 48 [some (.inr (.inr 64)), some (.inl x1), some (.inl x2), some (.inl x3), some (.inl x4), some (.inl x5)] [.inl x4, .inr (.inr 65)] v3
    obtain ⟨v4, hv4, hm⟩ := ia_bnd hm
    have ev4 := t_To_tapeNumber (d + 0) gv3 (ka_0_0 pk_64) hv4
    have gv4 := g_To_tapeNumber gv3 (ka_0_0 pk_64) hv4
    refine ia_cV hK mk_To_tapeNumber lk_0_94 dc_I_feed_48 65 [.inl x4] [] rfl rfl (Nat.le_of_ble_eq_true rfl) (by decide) rfl (gk_10 gv3 (ka_0_0 pk_64)) ev4 (gd_nm gv3 gv4) ?_
    show K 51 [some (.inr (.inr 64)), some (.inl x1), some (.inl x2), some (.inl x3), some (.inl x4), some (.inl x5)] [] v4
    refine ia_go hK ck_I_feed_51 ⟨gk_0 gv4 pk_64, gr_0_0 gv4 pk_64, ?_⟩
    show K 57 [some (.inr (.inr 64)), some (.inl x1), some (.inl x2), some (.inl x3), some (.inl x4), some (.inl x5)] [.inl x5, .inr (.inr 65)] v4
    obtain ⟨v5, hv5, hm⟩ := ia_bnd hm
    have ev5 := t_To_tapeNumber (d + 0) gv4 (ka_0_0 pk_64) hv5
    have gv5 := g_To_tapeNumber gv4 (ka_0_0 pk_64) hv5
    refine ia_cV hK mk_To_tapeNumber lk_0_94 dc_I_feed_57 65 [.inl x5] [] rfl rfl (Nat.le_of_ble_eq_true rfl) (by decide) rfl (gk_10 gv4 (ka_0_0 pk_64)) ev5 (gd_nm gv4 gv5) ?_
    show K 60 [some (.inr (.inr 64)), some (.inl x1), some (.inl x2), some (.inl x3), some (.inl x4), some (.inl x5)] [] v5
    refine ia_go hK ck_I_feed_60 ⟨gk_0 gv5 pk_64, gr_0_0 gv5 pk_64, gk_10 gv5 (ka_0_0 pk_64), ?_⟩
    show K 67 [some (.inr (.inr 64)), some (.inl x1), some (.inl x2), some (.inl x3), some (.inl x4), some (.inl x5)] [.inl (ia_i v5 65 1)] v5
    obtain ⟨rfl, rfl⟩ := Prod.mk.inj (Option.some.inj hm)
    exact hret 67 _ dc_I_feed_67
  · replace hm := ia_ifn hm c
    show K 16 [some (.inr (.inr 64)), some (.inl x1), some (.inl x2), some (.inl x3), some (.inl x4), some (.inl x5)] [] h
    refine ia_go hK ck_I_feed_16 ?_
    show K 17 [some (.inr (.inr 64)), some (.inl x1), some (.inl x2), some (.inl x3), some (.inl x4), some (.inl x5)] [.inl (-1)] h
    obtain ⟨rfl, rfl⟩ := Prod.mk.inj (Option.some.inj hm)
    exact hret 17 _ dc_I_feed_17
def mm_I_end : ia_M := (⟨"IceStreet", "end", "(I)I"⟩, prog_1_method_3_code, 2, (some .int), 0, false)
theorem ok_I_end : ia_mok mm_I_end := ⟨by decide +kernel, by decide +kernel, by decide +kernel, by decide +kernel⟩
theorem mk_I_end : ia_mkn mm_I_end 1 1 := ⟨ia_tb_in (List.mem_of_getElem? (i := 730) (by decide +kernel)) rfl, ia_tb_in (List.mem_of_getElem? (i := 133) (by decide +kernel)) rfl, by decide +kernel, by decide +kernel, ⟨ia_tb_in (List.mem_of_getElem? (i := 728) (by decide +kernel)) rfl, ia_tb_in (List.mem_of_getElem? (i := 729) (by decide +kernel)) rfl⟩⟩
theorem ck_I_end_0 : ia_cks 0 2 false prog_1_method_3_code 0 [(.iload_n 1, 0, 0, 0, 0), (.ifCond .lt 14, 0, 0, 0, 0)] = true := by decide +kernel
theorem ck_I_end_15 : ia_cks 0 2 false prog_1_method_3_code 15 [(.iconst (-1), 0, 0, 0, 0)] = true := by decide +kernel
theorem ck_I_end_4 : ia_cks 0 2 false prog_1_method_3_code 4 [(.iload_n 1, 0, 0, 0, 0), (.aload_n 0, 0, 0, 0, 0), (.getfield 10, 0, 0, 3, 1), (.getfield 90, 10, 1, 0, 0), (.if_icmp .le 5, 0, 0, 0, 0)] = true := by decide +kernel
theorem ck_I_end_17 : ia_cks 0 2 false prog_1_method_3_code 17 [(.aload_n 0, 0, 0, 0, 0), (.getfield 10, 0, 0, 3, 1), (.iload_n 1, 0, 0, 0, 0), (.putfield 90, 10, 1, 0, 0), (.iload_n 1, 0, 0, 0, 0)] = true := by decide +kernel
theorem dc_I_end_16 : decode prog_1_method_3_code 16 = .ok (.ireturn, 1) := by decide +kernel
theorem dc_I_end_26 : decode prog_1_method_3_code 26 = .ok (.ireturn, 1) := by decide +kernel
def f_I_end (x1 : Int32) (h : ia_H) : Option (Int32 × ia_H) := if x1 < 0 then (some ((-1), h)) else (if x1 ≤ (ia_i h 65 1) then (some (x1, ia_wI h 65 1 x1)) else (some ((-1), h)))
theorem g_I_end {w : ia_O0} {x1 : Int32} {h : ia_H} (hg : gd_ w h) {q : (Int32 × ia_H)} (hm : f_I_end x1 h = some q) : gd_ w q.2 := by
  obtain ⟨r, h1⟩ := q
  unfold f_I_end at hm
  by_cases c : x1 < 0
  · replace hm := ia_ifp hm c
    obtain ⟨rfl, rfl⟩ := Prod.mk.inj (Option.some.inj hm)
    exact hg
  · replace hm := ia_ifn hm c
    by_cases c : x1 ≤ (ia_i h 65 1)
    · replace hm := ia_ifp hm c
      obtain ⟨rfl, rfl⟩ := Prod.mk.inj (Option.some.inj hm)
      exact (gd_wI hg (ko_10 (ka_0_0 pk_64)))
    · replace hm := ia_ifn hm c
      obtain ⟨rfl, rfl⟩ := Prod.mk.inj (Option.some.inj hm)
      exact hg
theorem t_I_end {w : ia_O0} (d : Nat) {x1 : Int32} {h : ia_H} (hg : gd_ w h) {q : (Int32 × ia_H)} (hm : f_I_end x1 h = some q) : ia_Ev (d + 0) mm_I_end [.inr (.inr 64), .inl x1] h (some (.inl q.1)) q.2 := by
  have gq := g_I_end hg hm
  refine ia_Ev_intro ok_I_end (gd_le hg gq).1 (gd_le hg gq).2 (Nat.le_of_ble_eq_true rfl) (fun K hK hret => ?_)
  obtain ⟨r, h1⟩ := q
  show K 0 [some (.inr (.inr 64)), some (.inl x1)] [] h
  unfold f_I_end at hm
  refine ia_go hK ck_I_end_0 ⟨fun c => ?_, fun c => ?_⟩
  · replace hm := ia_ifp hm c
    show K 15 [some (.inr (.inr 64)), some (.inl x1)] [] h
    refine ia_go hK ck_I_end_15 ?_
    show K 16 [some (.inr (.inr 64)), some (.inl x1)] [.inl (-1)] h
    obtain ⟨rfl, rfl⟩ := Prod.mk.inj (Option.some.inj hm)
    exact hret 16 _ dc_I_end_16
  · replace hm := ia_ifn hm c
    show K 4 [some (.inr (.inr 64)), some (.inl x1)] [] h
    refine ia_go hK ck_I_end_4 ⟨gk_0 hg pk_64, gr_0_0 hg pk_64, gk_10 hg (ka_0_0 pk_64), fun c => ?_, fun c => ?_⟩
    · replace hm := ia_ifp hm c
      show K 17 [some (.inr (.inr 64)), some (.inl x1)] [] h
      refine ia_go hK ck_I_end_17 ⟨gk_0 hg pk_64, gr_0_0 hg pk_64, gk_10 hg (ka_0_0 pk_64), ?_⟩
      show K 26 [some (.inr (.inr 64)), some (.inl x1)] [.inl x1] (ia_wI h 65 1 x1)
      obtain ⟨rfl, rfl⟩ := Prod.mk.inj (Option.some.inj hm)
      exact hret 26 _ dc_I_end_26
    · replace hm := ia_ifn hm c
      show K 15 [some (.inr (.inr 64)), some (.inl x1)] [] h
      refine ia_go hK ck_I_end_15 ?_
      show K 16 [some (.inr (.inr 64)), some (.inl x1)] [.inl (-1)] h
      obtain ⟨rfl, rfl⟩ := Prod.mk.inj (Option.some.inj hm)
      exact hret 16 _ dc_I_end_16
def mm_To_has : ia_M := (⟨"IceStreet$Told", "has", "(II)Z"⟩, prog_11_method_2_code, 3, (some .boolean), 10, false)
theorem ok_To_has : ia_mok mm_To_has := ⟨by decide +kernel, by decide +kernel, by decide +kernel, by decide +kernel⟩
theorem mk_To_has : ia_mkn mm_To_has 1 2 := ⟨ia_tb_in (List.mem_of_getElem? (i := 744) (by decide +kernel)) rfl, ia_tb_in (List.mem_of_getElem? (i := 134) (by decide +kernel)) rfl, by decide +kernel, by decide +kernel, ⟨ia_tb_in (List.mem_of_getElem? (i := 742) (by decide +kernel)) rfl, ia_tb_in (List.mem_of_getElem? (i := 743) (by decide +kernel)) rfl⟩⟩
theorem ck_To_has_0 : ia_cks 10 3 false prog_11_method_2_code 0 [(.iload_n 2, 0, 0, 0, 0), (.ifCond .lt 17, 0, 0, 0, 0)] = true := by decide +kernel
theorem ck_To_has_18 : ia_cks 10 3 false prog_11_method_2_code 18 [(.iconst 0, 0, 0, 0, 0)] = true := by decide +kernel
theorem ck_To_has_4 : ia_cks 10 3 false prog_11_method_2_code 4 [(.iload_n 2, 0, 0, 0, 0), (.aload_n 0, 0, 0, 0, 0), (.getfield 19, 10, 4, 3, 2), (.iload_n 1, 0, 0, 0, 0), (.iaload, 0, 0, 0, 0), (.if_icmp .ge 7, 0, 0, 0, 0)] = true := by decide +kernel
theorem ck_To_has_14 : ia_cks 10 3 false prog_11_method_2_code 14 [(.iconst 1, 0, 0, 0, 0), (.goto 4, 0, 0, 0, 0)] = true := by decide +kernel
theorem dc_To_has_19 : decode prog_11_method_2_code 19 = .ok (.ireturn, 1) := by decide +kernel
def f_To_has (a0 : Nat) (x1 : Int32) (x2 : Int32) (h : ia_H) : Option Int32 := if x2 < 0 then (some 0) else (ia_gd (ia_ib x1 3) (if (ia_i h (a0 + 2) ((x1).toNatClampNeg)) ≤ x2 then (some 0) else (some 1)))
theorem t_To_has {w : ia_O0} (d : Nat) {a0 : Nat} {x1 : Int32} {x2 : Int32} {h : ia_H} (hg : gd_ w h) (p0 : (kd_D a0).1 = 10) {r : Int32} (hm : f_To_has a0 x1 x2 h = some r) : ia_Ev (d + 0) mm_To_has [.inr (.inr a0), .inl x1, .inl x2] h (some (.inl r)) h := by
  refine ia_Ev_intro ok_To_has (Nat.le_refl _) (Nat.le_refl _) (Nat.le_of_ble_eq_true rfl) (fun K hK hret => ?_)
  show K 0 [some (.inr (.inr a0)), some (.inl x1), some (.inl x2)] [] h
  unfold f_To_has at hm
  refine ia_go hK ck_To_has_0 ⟨fun c => ?_, fun c => ?_⟩
  · replace hm := ia_ifp hm c
    show K 18 [some (.inr (.inr a0)), some (.inl x1), some (.inl x2)] [] h
    refine ia_go hK ck_To_has_18 ?_
    show K 19 [some (.inr (.inr a0)), some (.inl x1), some (.inl x2)] [.inl 0] h
    obtain rfl := Option.some.inj hm
    exact hret 19 _ ⟨Or.inl rfl, dc_To_has_19⟩
  · replace hm := ia_ifn hm c
    show K 4 [some (.inr (.inr a0)), some (.inl x1), some (.inl x2)] [] h
    obtain ⟨c1, hm⟩ := ia_gd_some hm
    refine ia_go hK ck_To_has_4 ⟨gk_10 hg p0, gr_10_4 hg p0, ga_i100 hg (ka_10_4 p0) c1, fun c => ?_, fun c => ?_⟩
    · replace hm := ia_ifp hm c
      show K 18 [some (.inr (.inr a0)), some (.inl x1), some (.inl x2)] [] h
      refine ia_go hK ck_To_has_18 ?_
      show K 19 [some (.inr (.inr a0)), some (.inl x1), some (.inl x2)] [.inl 0] h
      obtain rfl := Option.some.inj hm
      exact hret 19 _ ⟨Or.inl rfl, dc_To_has_19⟩
    · replace hm := ia_ifn hm c
      show K 14 [some (.inr (.inr a0)), some (.inl x1), some (.inl x2)] [] h
      refine ia_go hK ck_To_has_14 ?_
      show K 19 [some (.inr (.inr a0)), some (.inl x1), some (.inl x2)] [.inl 1] h
      obtain rfl := Option.some.inj hm
      exact hret 19 _ ⟨Or.inr rfl, dc_To_has_19⟩
def mm_I_hasPlace : ia_M := (⟨"IceStreet", "hasPlace", "(II)Z"⟩, prog_1_method_5_code, 3, (some .boolean), 0, false)
theorem ok_I_hasPlace : ia_mok mm_I_hasPlace := ⟨by decide +kernel, by decide +kernel, by decide +kernel, by decide +kernel⟩
theorem mk_I_hasPlace : ia_mkn mm_I_hasPlace 1 2 := ⟨ia_tb_in (List.mem_of_getElem? (i := 738) (by decide +kernel)) rfl, ia_tb_in (List.mem_of_getElem? (i := 133) (by decide +kernel)) rfl, by decide +kernel, by decide +kernel, ⟨ia_tb_in (List.mem_of_getElem? (i := 737) (by decide +kernel)) rfl, ia_tb_in (List.mem_of_getElem? (i := 1) (by decide +kernel)) rfl⟩⟩
theorem ck_I_hasPlace_0 : ia_cks 0 3 false prog_1_method_5_code 0 [(.iload_n 1, 0, 0, 0, 0), (.ifCond .lt 8, 0, 0, 0, 0)] = true := by decide +kernel
theorem ck_I_hasPlace_9 : ia_cks 0 3 false prog_1_method_5_code 9 [(.iconst 0, 0, 0, 0, 0)] = true := by decide +kernel
theorem ck_I_hasPlace_4 : ia_cks 0 3 false prog_1_method_5_code 4 [(.iload_n 1, 0, 0, 0, 0), (.iconst 2, 0, 0, 0, 0), (.if_icmp .le 5, 0, 0, 0, 0)] = true := by decide +kernel
theorem ck_I_hasPlace_11 : ia_cks 0 3 false prog_1_method_5_code 11 [(.iload_n 2, 0, 0, 0, 0), (.iconst (-1), 0, 0, 0, 0), (.if_icmp .ne 28, 0, 0, 0, 0)] = true := by decide +kernel
theorem ck_I_hasPlace_41 : ia_cks 0 3 false prog_1_method_5_code 41 [(.aload_n 0, 0, 0, 0, 0), (.getfield 10, 0, 0, 3, 1), (.iload_n 1, 0, 0, 0, 0), (.iload_n 2, 0, 0, 0, 0)] = true := by decide +kernel
theorem ck_I_hasPlace_16 : ia_cks 0 3 false prog_1_method_5_code 16 [(.aload_n 0, 0, 0, 0, 0), (.getfield 10, 0, 0, 3, 1), (.getfield 118, 10, 4, 3, 2), (.iload_n 1, 0, 0, 0, 0), (.iaload, 0, 0, 0, 0)] = true := by decide +kernel
theorem ck_I_hasPlace_28 : ia_cks 0 3 false prog_1_method_5_code 28 [(.iload_n 1, 0, 0, 0, 0), (.iaload, 0, 0, 0, 0), (.if_icmp .ge 7, 0, 0, 0, 0)] = true := by decide +kernel
theorem ck_I_hasPlace_37 : ia_cks 0 3 false prog_1_method_5_code 37 [(.iconst 0, 0, 0, 0, 0), (.goto 12, 0, 0, 0, 0)] = true := by decide +kernel
theorem ck_I_hasPlace_33 : ia_cks 0 3 false prog_1_method_5_code 33 [(.iconst 1, 0, 0, 0, 0), (.goto 16, 0, 0, 0, 0)] = true := by decide +kernel
theorem dc_I_hasPlace_10 : decode prog_1_method_5_code 10 = .ok (.ireturn, 1) := by decide +kernel
theorem dc_I_hasPlace_47 : decode prog_1_method_5_code 47 = .ok (.invokevirtual 129, 3) := by decide +kernel
theorem dc_I_hasPlace_50 : decode prog_1_method_5_code 50 = .ok (.ireturn, 1) := by decide +kernel
theorem dc_I_hasPlace_25 : decode prog_1_method_5_code 25 = .ok (.getstatic 126, 3) := by decide +kernel
def f_I_hasPlace (x1 : Int32) (x2 : Int32) (h : ia_H) : Option Int32 := if x1 < 0 then (some 0) else (if x1 ≤ 2 then (if x2 = (-1) then (ia_gd (ia_ib x1 3) (ia_gd (ia_ib x1 3) (if (ia_i h 2 ((x1).toNatClampNeg)) ≤ (ia_i h 67 ((x1).toNatClampNeg)) then (some 0) else (some 1)))) else ((f_To_has 65 x1 x2 h).bind fun v1 => (ia_gd (ia_z1 v1) (some v1)))) else (some 0))
theorem t_I_hasPlace {w : ia_O0} (d : Nat) {x1 : Int32} {x2 : Int32} {h : ia_H} (hg : gd_ w h) {r : Int32} (hm : f_I_hasPlace x1 x2 h = some r) : ia_Ev (d + 1) mm_I_hasPlace [.inr (.inr 64), .inl x1, .inl x2] h (some (.inl r)) h := by
  refine ia_Ev_intro ok_I_hasPlace (Nat.le_refl _) (Nat.le_refl _) (Nat.le_of_ble_eq_true rfl) (fun K hK hret => ?_)
  show K 0 [some (.inr (.inr 64)), some (.inl x1), some (.inl x2)] [] h
  unfold f_I_hasPlace at hm
  refine ia_go hK ck_I_hasPlace_0 ⟨fun c => ?_, fun c => ?_⟩
  · replace hm := ia_ifp hm c
    show K 9 [some (.inr (.inr 64)), some (.inl x1), some (.inl x2)] [] h
    refine ia_go hK ck_I_hasPlace_9 ?_
    show K 10 [some (.inr (.inr 64)), some (.inl x1), some (.inl x2)] [.inl 0] h
    obtain rfl := Option.some.inj hm
    exact hret 10 _ ⟨Or.inl rfl, dc_I_hasPlace_10⟩
  · replace hm := ia_ifn hm c
    show K 4 [some (.inr (.inr 64)), some (.inl x1), some (.inl x2)] [] h
    refine ia_go hK ck_I_hasPlace_4 ⟨fun c => ?_, fun c => ?_⟩
    · replace hm := ia_ifp hm c
      show K 11 [some (.inr (.inr 64)), some (.inl x1), some (.inl x2)] [] h
      refine ia_go hK ck_I_hasPlace_11 ⟨fun c => ?_, fun c => ?_⟩
      · replace hm := ia_ifn hm c
        show K 41 [some (.inr (.inr 64)), some (.inl x1), some (.inl x2)] [] h
        refine ia_go hK ck_I_hasPlace_41 ⟨gk_0 hg pk_64, gr_0_0 hg pk_64, ?_⟩
        show K 47 [some (.inr (.inr 64)), some (.inl x1), some (.inl x2)] [.inl x2, .inl x1, .inr (.inr 65)] h
        obtain ⟨v1, hv1, hm⟩ := ia_bnd hm
        have ev1 := t_To_has (d + 0) hg (ka_0_0 pk_64) hv1
        refine ia_cV hK mk_To_has lk_0_129 dc_I_hasPlace_47 65 [.inl x1, .inl x2] [] rfl rfl (Nat.le_of_ble_eq_true rfl) (by decide) rfl (gk_10 hg (ka_0_0 pk_64)) ev1 ⟨rfl, rfl⟩ ?_
        show K 50 [some (.inr (.inr 64)), some (.inl x1), some (.inl x2)] [.inl v1] h
        obtain ⟨c2, hm⟩ := ia_gd_some hm
        obtain rfl := Option.some.inj hm
        exact hret 50 _ ⟨ia_z1_spec c2, dc_I_hasPlace_50⟩
      · replace hm := ia_ifp hm c
        show K 16 [some (.inr (.inr 64)), some (.inl x1), some (.inl x2)] [] h
        obtain ⟨c3, hm⟩ := ia_gd_some hm
        refine ia_go hK ck_I_hasPlace_16 ⟨gk_0 hg pk_64, gr_0_0 hg pk_64, gk_10 hg (ka_0_0 pk_64), gr_10_4 hg (ka_0_0 pk_64), ga_i100 hg (ka_10_4 (ka_0_0 pk_64)) c3, ?_⟩
        show K 25 [some (.inr (.inr 64)), some (.inl x1), some (.inl x2)] [.inl (ia_i h 67 ((x1).toNatClampNeg))] h
        refine ia_gets2 hK (ia_tb_in (List.mem_of_getElem? (i := 739) (by decide +kernel)) rfl) dc_I_hasPlace_25 ?_
        show K 28 [some (.inr (.inr 64)), some (.inl x1), some (.inl x2)] [.inr (.inr 2), .inl (ia_i h 67 ((x1).toNatClampNeg))] h
        obtain ⟨c4, hm⟩ := ia_gd_some hm
        refine ia_go hK ck_I_hasPlace_28 ⟨gs_2 hg c4, fun c => ?_, fun c => ?_⟩
        · replace hm := ia_ifp hm c
          show K 37 [some (.inr (.inr 64)), some (.inl x1), some (.inl x2)] [] h
          refine ia_go hK ck_I_hasPlace_37 ?_
          show K 50 [some (.inr (.inr 64)), some (.inl x1), some (.inl x2)] [.inl 0] h
          obtain rfl := Option.some.inj hm
          exact hret 50 _ ⟨Or.inl rfl, dc_I_hasPlace_50⟩
        · replace hm := ia_ifn hm c
          show K 33 [some (.inr (.inr 64)), some (.inl x1), some (.inl x2)] [] h
          refine ia_go hK ck_I_hasPlace_33 ?_
          show K 50 [some (.inr (.inr 64)), some (.inl x1), some (.inl x2)] [.inl 1] h
          obtain rfl := Option.some.inj hm
          exact hret 50 _ ⟨Or.inr rfl, dc_I_hasPlace_50⟩
    · replace hm := ia_ifn hm c
      show K 9 [some (.inr (.inr 64)), some (.inl x1), some (.inl x2)] [] h
      refine ia_go hK ck_I_hasPlace_9 ?_
      show K 10 [some (.inr (.inr 64)), some (.inl x1), some (.inl x2)] [.inl 0] h
      obtain rfl := Option.some.inj hm
      exact hret 10 _ ⟨Or.inl rfl, dc_I_hasPlace_10⟩
def mm_Re_clear : ia_M := (⟨"IceStreet$Reader", "clear", "()V"⟩, prog_8_method_3_code, 1, none, 7, false)
theorem ok_Re_clear : ia_mok mm_Re_clear := ⟨by decide +kernel, by decide +kernel, by decide +kernel, by decide +kernel⟩
theorem mk_Re_clear : ia_mkn mm_Re_clear 1 0 := ⟨ia_tb_in (List.mem_of_getElem? (i := 755) (by decide +kernel)) rfl, ia_tb_in (List.mem_of_getElem? (i := 139) (by decide +kernel)) rfl, by decide +kernel, by decide +kernel, ⟨ia_tb_in (List.mem_of_getElem? (i := 754) (by decide +kernel)) rfl, ia_tb_in (List.mem_of_getElem? (i := 2) (by decide +kernel)) rfl⟩⟩
theorem ck_Re_clear_0 : ia_cks 7 1 false prog_8_method_3_code 0 [(.aload_n 0, 0, 0, 0, 0), (.getfield 12, 7, 0, 3, 1)] = true := by decide +kernel
theorem ck_Re_clear_7 : ia_cks 7 1 false prog_8_method_3_code 7 [(.aload_n 0, 0, 0, 0, 0), (.getfield 21, 7, 1, 3, 13)] = true := by decide +kernel
theorem ck_Re_clear_14 : ia_cks 7 1 false prog_8_method_3_code 14 [(.aload_n 0, 0, 0, 0, 0), (.getfield 28, 7, 2, 3, 17), (.iconst 0, 0, 0, 0, 0), (.putfield 81, 6, 0, 0, 0), (.aload_n 0, 0, 0, 0, 0), (.iconst 0, 0, 0, 0, 0), (.putfield 66, 7, 3, 0, 0), (.aload_n 0, 0, 0, 0, 0), (.iconst (-1), 0, 0, 0, 0), (.putfield 84, 7, 4, 0, 0), (.aload_n 0, 0, 0, 0, 0), (.iconst 0, 0, 0, 0, 0), (.putfield 87, 7, 12, 0, 0), (.aload_n 0, 0, 0, 0, 0), (.iconst 0, 0, 0, 0, 0), (.putfield 90, 7, 13, 0, 0), (.aload_n 0, 0, 0, 0, 0), (.iconst 0, 0, 0, 0, 0), (.putfield 93, 7, 14, 0, 0), (.aload_n 0, 0, 0, 0, 0), (.iconst 0, 0, 0, 0, 0), (.putfield 96, 7, 15, 0, 0)] = true := by decide +kernel
theorem dc_Re_clear_4 : decode prog_8_method_3_code 4 = .ok (.invokevirtual 79, 3) := by decide +kernel
theorem dc_Re_clear_11 : decode prog_8_method_3_code 11 = .ok (.invokevirtual 80, 3) := by decide +kernel
theorem dc_Re_clear_52 : decode prog_8_method_3_code 52 = .ok (.return_, 1) := by decide +kernel
def f_Re_clear (h : ia_H) : Option ia_H := (f_La_clear 280 h).bind fun v1 => ((f_Lw_clear 292 v1).bind fun v2 => (some (ia_wI (ia_wI (ia_wI (ia_wI (ia_wI (ia_wI (ia_wI v2 296 0 0) 279 3 0) 279 4 (-1)) 279 12 0) 279 13 0) 279 14 0) 279 15 0)))
theorem g_Re_clear {w : ia_O0} {h : ia_H} (hg : gd_ w h) {q : ia_H} (hm : f_Re_clear h = some q) : gd_ w q := by
  obtain ⟨h1, e1⟩ : ∃ x, x = q := ⟨_, rfl⟩
  subst e1
  unfold f_Re_clear at hm
  obtain ⟨v1, hv1, hm⟩ := ia_bnd hm
  have gv1 := g_La_clear hg (ka_7_0 pk_279) hv1
  obtain ⟨v2, hv2, hm⟩ := ia_bnd hm
  have gv2 := g_Lw_clear gv1 (ka_7_1 pk_279) hv2
  obtain rfl := Option.some.inj hm
  exact (gd_wI (gd_wI (gd_wI (gd_wI (gd_wI (gd_wI (gd_wI gv2 (ko_6 (ka_7_2 pk_279))) (ko_7 pk_279)) (ko_7 pk_279)) (ko_7 pk_279)) (ko_7 pk_279)) (ko_7 pk_279)) (ko_7 pk_279))
theorem t_Re_clear {w : ia_O0} (d : Nat) {h : ia_H} (hg : gd_ w h) {q : ia_H} (hm : f_Re_clear h = some q) : ia_Ev (d + 4) mm_Re_clear [.inr (.inr 279)] h none q := by
  have gq := g_Re_clear hg hm
  refine ia_Ev_intro ok_Re_clear (gd_le hg gq).1 (gd_le hg gq).2 (Nat.le_of_ble_eq_true rfl) (fun K hK hret => ?_)
  obtain ⟨h1, e1⟩ : ∃ x, x = q := ⟨_, rfl⟩
  subst e1
  show K 0 [some (.inr (.inr 279))] [] h
  unfold f_Re_clear at hm
  refine ia_go hK ck_Re_clear_0 ⟨gk_7 hg pk_279, gr_7_0 hg pk_279, ?_⟩
  show K 4 [some (.inr (.inr 279))] [.inr (.inr 280)] h
  obtain ⟨v1, hv1, hm⟩ := ia_bnd hm
  have ev1 := t_La_clear (d + 0) hg (ka_7_0 pk_279) hv1
  have gv1 := g_La_clear hg (ka_7_0 pk_279) hv1
  refine ia_cV hK mk_La_clear lk_7_79 dc_Re_clear_4 280 [] [] rfl rfl (Nat.le_of_ble_eq_true rfl) (by decide) rfl (gk_3 hg (ka_7_0 pk_279)) ev1 (gd_nm hg gv1) ?_
  show K 7 [some (.inr (.inr 279))] [] v1
  refine ia_go hK ck_Re_clear_7 ⟨gk_7 gv1 pk_279, gr_7_1 gv1 pk_279, ?_⟩
  show K 11 [some (.inr (.inr 279))] [.inr (.inr 292)] v1
  obtain ⟨v2, hv2, hm⟩ := ia_bnd hm
  have ev2 := t_Lw_clear (d + 2) gv1 (ka_7_1 pk_279) hv2
  have gv2 := g_Lw_clear gv1 (ka_7_1 pk_279) hv2
  refine ia_cV hK mk_Lw_clear lk_7_80 dc_Re_clear_11 292 [] [] rfl rfl (Nat.le_of_ble_eq_true rfl) (by decide) rfl (gk_4 gv1 (ka_7_1 pk_279)) ev2 (gd_nm gv1 gv2) ?_
  show K 14 [some (.inr (.inr 279))] [] v2
  refine ia_go hK ck_Re_clear_14 ⟨gk_7 gv2 pk_279, gr_7_2 gv2 pk_279, gk_6 gv2 (ka_7_2 pk_279), gk_7 (gd_wI gv2 (ko_6 (ka_7_2 pk_279))) pk_279, gk_7 (gd_wI (gd_wI gv2 (ko_6 (ka_7_2 pk_279))) (ko_7 pk_279)) pk_279, gk_7 (gd_wI (gd_wI (gd_wI gv2 (ko_6 (ka_7_2 pk_279))) (ko_7 pk_279)) (ko_7 pk_279)) pk_279, gk_7 (gd_wI (gd_wI (gd_wI (gd_wI gv2 (ko_6 (ka_7_2 pk_279))) (ko_7 pk_279)) (ko_7 pk_279)) (ko_7 pk_279)) pk_279, gk_7 (gd_wI (gd_wI (gd_wI (gd_wI (gd_wI gv2 (ko_6 (ka_7_2 pk_279))) (ko_7 pk_279)) (ko_7 pk_279)) (ko_7 pk_279)) (ko_7 pk_279)) pk_279, gk_7 (gd_wI (gd_wI (gd_wI (gd_wI (gd_wI (gd_wI gv2 (ko_6 (ka_7_2 pk_279))) (ko_7 pk_279)) (ko_7 pk_279)) (ko_7 pk_279)) (ko_7 pk_279)) (ko_7 pk_279)) pk_279, ?_⟩
  show K 52 [some (.inr (.inr 279))] [] (ia_wI (ia_wI (ia_wI (ia_wI (ia_wI (ia_wI (ia_wI v2 296 0 0) 279 3 0) 279 4 (-1)) 279 12 0) 279 13 0) 279 14 0) 279 15 0)
  obtain rfl := Option.some.inj hm
  exact hret 52 _ dc_Re_clear_52
def mm_Re_isLetter : ia_M := (⟨"IceStreet$Reader", "isLetter", "(I)Z"⟩, prog_8_method_7_code, 2, (some .boolean), 7, false)
theorem ok_Re_isLetter : ia_mok mm_Re_isLetter := ⟨by decide +kernel, by decide +kernel, by decide +kernel, by decide +kernel⟩
theorem mk_Re_isLetter : ia_mkn mm_Re_isLetter 1 1 := ⟨ia_tb_in (List.mem_of_getElem? (i := 765) (by decide +kernel)) rfl, ia_tb_in (List.mem_of_getElem? (i := 139) (by decide +kernel)) rfl, by decide +kernel, by decide +kernel, ⟨ia_tb_in (List.mem_of_getElem? (i := 764) (by decide +kernel)) rfl, ia_tb_in (List.mem_of_getElem? (i := 4) (by decide +kernel)) rfl⟩⟩
theorem ck_Re_isLetter_0 : ia_cks 7 2 false prog_8_method_7_code 0 [(.aload_n 0, 0, 0, 0, 0), (.getfield 36, 7, 6, 2, 0)] = true := by decide +kernel
theorem ck_Re_isLetter_4 : ia_cks 7 2 false prog_8_method_7_code 4 [(.iload_n 1, 0, 0, 0, 0), (.baload, 102, 0, 0, 0), (.bipush 97, 0, 0, 0, 0), (.if_icmp .lt 18, 0, 0, 0, 0)] = true := by decide +kernel
theorem ck_Re_isLetter_26 : ia_cks 7 2 false prog_8_method_7_code 26 [(.iconst 0, 0, 0, 0, 0)] = true := by decide +kernel
theorem ck_Re_isLetter_11 : ia_cks 7 2 false prog_8_method_7_code 11 [(.aload_n 0, 0, 0, 0, 0), (.getfield 36, 7, 6, 2, 0)] = true := by decide +kernel
theorem ck_Re_isLetter_15 : ia_cks 7 2 false prog_8_method_7_code 15 [(.iload_n 1, 0, 0, 0, 0), (.baload, 102, 0, 0, 0), (.bipush 122, 0, 0, 0, 0), (.if_icmp .gt 7, 0, 0, 0, 0)] = true := by decide +kernel
theorem ck_Re_isLetter_22 : ia_cks 7 2 false prog_8_method_7_code 22 [(.iconst 1, 0, 0, 0, 0), (.goto 4, 0, 0, 0, 0)] = true := by decide +kernel
theorem dc_Re_isLetter_27 : decode prog_8_method_7_code 27 = .ok (.ireturn, 1) := by decide +kernel
def f_Re_isLetter (x1 : Int32) (h : ia_H) : Option Int32 := ia_gd (ia_r h 279 6 == 66) (ia_gd (ia_ib x1 600) (if (ia_i h 66 ((x1).toNatClampNeg)) < 97 then (some 0) else (ia_gd (ia_r h 279 6 == 66) (ia_gd (ia_ib x1 600) (if 122 < (ia_i h 66 ((x1).toNatClampNeg)) then (some 0) else (some 1))))))
theorem t_Re_isLetter {w : ia_O0} (d : Nat) {x1 : Int32} {h : ia_H} (hg : gd_ w h) {r : Int32} (hm : f_Re_isLetter x1 h = some r) : ia_Ev (d + 0) mm_Re_isLetter [.inr (.inr 279), .inl x1] h (some (.inl r)) h := by
  refine ia_Ev_intro ok_Re_isLetter (Nat.le_refl _) (Nat.le_refl _) (Nat.le_of_ble_eq_true rfl) (fun K hK hret => ?_)
  show K 0 [some (.inr (.inr 279)), some (.inl x1)] [] h
  unfold f_Re_isLetter at hm
  obtain ⟨c1, hm⟩ := ia_gd_some hm
  refine ia_go hK ck_Re_isLetter_0 ⟨gk_7 hg pk_279, ?_⟩
  show K 4 [some (.inr (.inr 279)), some (.inl x1)] [.inr (.inr (ia_r h 279 6))] h
  rw [show ia_r h 279 6 = 66 from eq_of_beq c1]
  obtain ⟨c2, hm⟩ := ia_gd_some hm
  refine ia_go hK ck_Re_isLetter_4 ⟨ga_s102 hg (ka_10_0 pk_65) c2, fun c => ?_, fun c => ?_⟩
  · replace hm := ia_ifp hm c
    show K 26 [some (.inr (.inr 279)), some (.inl x1)] [] h
    refine ia_go hK ck_Re_isLetter_26 ?_
    show K 27 [some (.inr (.inr 279)), some (.inl x1)] [.inl 0] h
    obtain rfl := Option.some.inj hm
    exact hret 27 _ ⟨Or.inl rfl, dc_Re_isLetter_27⟩
  · replace hm := ia_ifn hm c
    show K 11 [some (.inr (.inr 279)), some (.inl x1)] [] h
    obtain ⟨c3, hm⟩ := ia_gd_some hm
    refine ia_go hK ck_Re_isLetter_11 ⟨gk_7 hg pk_279, ?_⟩
    show K 15 [some (.inr (.inr 279)), some (.inl x1)] [.inr (.inr (ia_r h 279 6))] h
    rw [show ia_r h 279 6 = 66 from eq_of_beq c3]
    obtain ⟨c4, hm⟩ := ia_gd_some hm
    refine ia_go hK ck_Re_isLetter_15 ⟨ga_s102 hg (ka_10_0 pk_65) c4, fun c => ?_, fun c => ?_⟩
    · replace hm := ia_ifp hm c
      show K 26 [some (.inr (.inr 279)), some (.inl x1)] [] h
      refine ia_go hK ck_Re_isLetter_26 ?_
      show K 27 [some (.inr (.inr 279)), some (.inl x1)] [.inl 0] h
      obtain rfl := Option.some.inj hm
      exact hret 27 _ ⟨Or.inl rfl, dc_Re_isLetter_27⟩
    · replace hm := ia_ifn hm c
      show K 22 [some (.inr (.inr 279)), some (.inl x1)] [] h
      refine ia_go hK ck_Re_isLetter_22 ?_
      show K 27 [some (.inr (.inr 279)), some (.inl x1)] [.inl 1] h
      obtain rfl := Option.some.inj hm
      exact hret 27 _ ⟨Or.inr rfl, dc_Re_isLetter_27⟩
def mm_Re_takeLetters : ia_M := (⟨"IceStreet$Reader", "takeLetters", "()V"⟩, prog_8_method_5_code, 1, none, 7, false)
theorem ok_Re_takeLetters : ia_mok mm_Re_takeLetters := ⟨by decide +kernel, by decide +kernel, by decide +kernel, by decide +kernel⟩
theorem mk_Re_takeLetters : ia_mkn mm_Re_takeLetters 1 0 := ⟨ia_tb_in (List.mem_of_getElem? (i := 769) (by decide +kernel)) rfl, ia_tb_in (List.mem_of_getElem? (i := 139) (by decide +kernel)) rfl, by decide +kernel, by decide +kernel, ⟨ia_tb_in (List.mem_of_getElem? (i := 768) (by decide +kernel)) rfl, ia_tb_in (List.mem_of_getElem? (i := 5) (by decide +kernel)) rfl⟩⟩
theorem ck_Re_takeLetters_0 : ia_cks 7 1 false prog_8_method_5_code 0 [(.aload_n 0, 0, 0, 0, 0), (.iconst 1, 0, 0, 0, 0), (.putfield 59, 7, 9, 0, 0)] = true := by decide +kernel
theorem ck_Re_takeLetters_5 : ia_cks 7 1 false prog_8_method_5_code 5 [(.aload_n 0, 0, 0, 0, 0), (.getfield 87, 7, 12, 0, 0), (.aload_n 0, 0, 0, 0, 0), (.getfield 46, 7, 7, 0, 0), (.if_icmp .ge 27, 0, 0, 0, 0)] = true := by decide +kernel
theorem ck_Re_takeLetters_16 : ia_cks 7 1 false prog_8_method_5_code 16 [(.aload_n 0, 0, 0, 0, 0), (.aload_n 0, 0, 0, 0, 0), (.getfield 87, 7, 12, 0, 0)] = true := by decide +kernel
theorem ck_Re_takeLetters_24 : ia_cks 7 1 false prog_8_method_5_code 24 [(.ifCond .eq 16, 0, 0, 0, 0)] = true := by decide +kernel
theorem ck_Re_takeLetters_27 : ia_cks 7 1 false prog_8_method_5_code 27 [(.aload_n 0, 0, 0, 0, 0), (.dup, 0, 0, 0, 0), (.getfield 87, 7, 12, 0, 0), (.iconst 1, 0, 0, 0, 0), (.iadd, 0, 0, 0, 0), (.putfield 87, 7, 12, 0, 0), (.goto (-32), 0, 0, 0, 0)] = true := by decide +kernel
theorem dc_Re_takeLetters_21 : decode prog_8_method_5_code 21 = .ok (.invokevirtual 102, 3) := by decide +kernel
theorem dc_Re_takeLetters_40 : decode prog_8_method_5_code 40 = .ok (.return_, 1) := by decide +kernel
def l_Re_takeLetters_5 (k40 : ia_H → Option ia_H) (n : Nat) (h : ia_H) : Option ia_H := match n with
  | 0 => none
  | n + 1 => if (ia_i h 279 7) ≤ (ia_i h 279 12) then (k40 h) else ((f_Re_isLetter (ia_i h 279 12) h).bind fun v1 => (if v1 = 0 then (k40 h) else (l_Re_takeLetters_5 k40 n (ia_wI h 279 12 ((ia_i h 279 12) + 1)))))
theorem tl_Re_takeLetters_5 {w : ia_O0} {d N1 W1 : Nat} {K : ia_K} (hK : ia_isK (d + 1) mm_Re_takeLetters N1 W1 K) {h1 : ia_H} (hret : ∀ (pc : Nat) (lv : ia_L), ia_ret mm_Re_takeLetters pc none → K pc lv (none : Option ia_V).toList h1) {k40 : ia_H → Option ia_H} (hk40 : ∀ (h : ia_H), gd_ w h → k40 h = some h1 → K 40 [none] [] h) : ∀ (n : Nat) (h : ia_H), gd_ w h → l_Re_takeLetters_5 k40 n h = some h1 → K 5 [some (.inr (.inr 279))] [] h := by
  intro n
  induction n with
  | zero =>
    intro h hg hm
    cases (show (none : Option ia_H) = some _ from hm)
  | succ n ih =>
    intro h hg hm
    rw [l_Re_takeLetters_5] at hm
    refine ia_go hK ck_Re_takeLetters_5 ⟨gk_7 hg pk_279, gk_7 hg pk_279, fun c => ?_, fun c => ?_⟩
    · replace hm := ia_ifp hm c
      show K 40 [some (.inr (.inr 279))] [] h
      refine ia_fg hK (lv' := [none]) trivial ?_
      exact hk40 h hg hm
    · replace hm := ia_ifn hm c
      show K 16 [some (.inr (.inr 279))] [] h
      refine ia_go hK ck_Re_takeLetters_16 ⟨gk_7 hg pk_279, ?_⟩
      show K 21 [some (.inr (.inr 279))] [.inl (ia_i h 279 12), .inr (.inr 279)] h
      obtain ⟨v1, hv1, hm⟩ := ia_bnd hm
      have ev1 := t_Re_isLetter (d + 0) hg hv1
      refine ia_cV hK mk_Re_isLetter lk_7_102 dc_Re_takeLetters_21 279 [.inl (ia_i h 279 12)] [] rfl rfl (Nat.le_of_ble_eq_true rfl) (by decide) rfl (gk_7 hg pk_279) ev1 ⟨rfl, rfl⟩ ?_
      show K 24 [some (.inr (.inr 279))] [.inl v1] h
      refine ia_go hK ck_Re_takeLetters_24 ⟨fun c => ?_, fun c => ?_⟩
      · replace hm := ia_ifp hm c
        show K 40 [some (.inr (.inr 279))] [] h
        refine ia_fg hK (lv' := [none]) trivial ?_
        exact hk40 h hg hm
      · replace hm := ia_ifn hm c
        show K 27 [some (.inr (.inr 279))] [] h
        refine ia_go hK ck_Re_takeLetters_27 ⟨gk_7 hg pk_279, gk_7 hg pk_279, ?_⟩
        show K 5 [some (.inr (.inr 279))] [] (ia_wI h 279 12 ((ia_i h 279 12) + 1))
        exact ih (ia_wI h 279 12 ((ia_i h 279 12) + 1)) (gd_wI hg (ko_7 pk_279)) hm
theorem gl_Re_takeLetters_5 {w : ia_O0} {h1 : ia_H} {k40 : ia_H → Option ia_H} (hk40 : ∀ (h : ia_H), gd_ w h → k40 h = some h1 → gd_ w h1) : ∀ (n : Nat) (h : ia_H), gd_ w h → l_Re_takeLetters_5 k40 n h = some h1 → gd_ w h1 := by
  intro n
  induction n with
  | zero =>
    intro h hg hm
    cases (show (none : Option ia_H) = some _ from hm)
  | succ n ih =>
    intro h hg hm
    rw [l_Re_takeLetters_5] at hm
    by_cases c : (ia_i h 279 7) ≤ (ia_i h 279 12)
    · replace hm := ia_ifp hm c
      exact hk40 h hg hm
    · replace hm := ia_ifn hm c
      obtain ⟨v1, hv1, hm⟩ := ia_bnd hm
      by_cases c : v1 = 0
      · replace hm := ia_ifp hm c
        exact hk40 h hg hm
      · replace hm := ia_ifn hm c
        exact ih (ia_wI h 279 12 ((ia_i h 279 12) + 1)) (gd_wI hg (ko_7 pk_279)) hm
def f_Re_takeLetters (h : ia_H) : Option ia_H := l_Re_takeLetters_5 (fun h => some h) fu_ (ia_wI h 279 9 1)
theorem g_Re_takeLetters {w : ia_O0} {h : ia_H} (hg : gd_ w h) {q : ia_H} (hm : f_Re_takeLetters h = some q) : gd_ w q := by
  obtain ⟨h1, e1⟩ : ∃ x, x = q := ⟨_, rfl⟩
  subst e1
  unfold f_Re_takeLetters at hm
  refine gl_Re_takeLetters_5 ?_ fu_ (ia_wI h 279 9 1) (gd_wI hg (ko_7 pk_279)) hm
  · intro h hg hm
    obtain rfl := Option.some.inj hm
    exact hg
theorem t_Re_takeLetters {w : ia_O0} (d : Nat) {h : ia_H} (hg : gd_ w h) {q : ia_H} (hm : f_Re_takeLetters h = some q) : ia_Ev (d + 1) mm_Re_takeLetters [.inr (.inr 279)] h none q := by
  have gq := g_Re_takeLetters hg hm
  refine ia_Ev_intro ok_Re_takeLetters (gd_le hg gq).1 (gd_le hg gq).2 (Nat.le_of_ble_eq_true rfl) (fun K hK hret => ?_)
  obtain ⟨h1, e1⟩ : ∃ x, x = q := ⟨_, rfl⟩
  subst e1
  show K 0 [some (.inr (.inr 279))] [] h
  unfold f_Re_takeLetters at hm
  refine ia_go hK ck_Re_takeLetters_0 ⟨gk_7 hg pk_279, ?_⟩
  show K 5 [some (.inr (.inr 279))] [] (ia_wI h 279 9 1)
  refine tl_Re_takeLetters_5 hK hret ?_ fu_ (ia_wI h 279 9 1) (gd_wI hg (ko_7 pk_279)) hm
  · intro h hg hm
    obtain rfl := Option.some.inj hm
    exact hret 40 _ dc_Re_takeLetters_40
def mm_Re_isDigit : ia_M := (⟨"IceStreet$Reader", "isDigit", "(I)Z"⟩, prog_8_method_8_code, 2, (some .boolean), 7, false)
theorem ok_Re_isDigit : ia_mok mm_Re_isDigit := ⟨by decide +kernel, by decide +kernel, by decide +kernel, by decide +kernel⟩
theorem mk_Re_isDigit : ia_mkn mm_Re_isDigit 1 1 := ⟨ia_tb_in (List.mem_of_getElem? (i := 773) (by decide +kernel)) rfl, ia_tb_in (List.mem_of_getElem? (i := 139) (by decide +kernel)) rfl, by decide +kernel, by decide +kernel, ⟨ia_tb_in (List.mem_of_getElem? (i := 772) (by decide +kernel)) rfl, ia_tb_in (List.mem_of_getElem? (i := 6) (by decide +kernel)) rfl⟩⟩
theorem ck_Re_isDigit_0 : ia_cks 7 2 false prog_8_method_8_code 0 [(.aload_n 0, 0, 0, 0, 0), (.getfield 36, 7, 6, 2, 0)] = true := by decide +kernel
theorem ck_Re_isDigit_4 : ia_cks 7 2 false prog_8_method_8_code 4 [(.iload_n 1, 0, 0, 0, 0), (.baload, 102, 0, 0, 0), (.bipush 48, 0, 0, 0, 0), (.if_icmp .lt 18, 0, 0, 0, 0)] = true := by decide +kernel
theorem ck_Re_isDigit_26 : ia_cks 7 2 false prog_8_method_8_code 26 [(.iconst 0, 0, 0, 0, 0)] = true := by decide +kernel
theorem ck_Re_isDigit_11 : ia_cks 7 2 false prog_8_method_8_code 11 [(.aload_n 0, 0, 0, 0, 0), (.getfield 36, 7, 6, 2, 0)] = true := by decide +kernel
theorem ck_Re_isDigit_15 : ia_cks 7 2 false prog_8_method_8_code 15 [(.iload_n 1, 0, 0, 0, 0), (.baload, 102, 0, 0, 0), (.bipush 57, 0, 0, 0, 0), (.if_icmp .gt 7, 0, 0, 0, 0)] = true := by decide +kernel
theorem ck_Re_isDigit_22 : ia_cks 7 2 false prog_8_method_8_code 22 [(.iconst 1, 0, 0, 0, 0), (.goto 4, 0, 0, 0, 0)] = true := by decide +kernel
theorem dc_Re_isDigit_27 : decode prog_8_method_8_code 27 = .ok (.ireturn, 1) := by decide +kernel
def f_Re_isDigit (x1 : Int32) (h : ia_H) : Option Int32 := ia_gd (ia_r h 279 6 == 66) (ia_gd (ia_ib x1 600) (if (ia_i h 66 ((x1).toNatClampNeg)) < 48 then (some 0) else (ia_gd (ia_r h 279 6 == 66) (ia_gd (ia_ib x1 600) (if 57 < (ia_i h 66 ((x1).toNatClampNeg)) then (some 0) else (some 1))))))
theorem t_Re_isDigit {w : ia_O0} (d : Nat) {x1 : Int32} {h : ia_H} (hg : gd_ w h) {r : Int32} (hm : f_Re_isDigit x1 h = some r) : ia_Ev (d + 0) mm_Re_isDigit [.inr (.inr 279), .inl x1] h (some (.inl r)) h := by
  refine ia_Ev_intro ok_Re_isDigit (Nat.le_refl _) (Nat.le_refl _) (Nat.le_of_ble_eq_true rfl) (fun K hK hret => ?_)
  show K 0 [some (.inr (.inr 279)), some (.inl x1)] [] h
  unfold f_Re_isDigit at hm
  obtain ⟨c1, hm⟩ := ia_gd_some hm
  refine ia_go hK ck_Re_isDigit_0 ⟨gk_7 hg pk_279, ?_⟩
  show K 4 [some (.inr (.inr 279)), some (.inl x1)] [.inr (.inr (ia_r h 279 6))] h
  rw [show ia_r h 279 6 = 66 from eq_of_beq c1]
  obtain ⟨c2, hm⟩ := ia_gd_some hm
  refine ia_go hK ck_Re_isDigit_4 ⟨ga_s102 hg (ka_10_0 pk_65) c2, fun c => ?_, fun c => ?_⟩
  · replace hm := ia_ifp hm c
    show K 26 [some (.inr (.inr 279)), some (.inl x1)] [] h
    refine ia_go hK ck_Re_isDigit_26 ?_
    show K 27 [some (.inr (.inr 279)), some (.inl x1)] [.inl 0] h
    obtain rfl := Option.some.inj hm
    exact hret 27 _ ⟨Or.inl rfl, dc_Re_isDigit_27⟩
  · replace hm := ia_ifn hm c
    show K 11 [some (.inr (.inr 279)), some (.inl x1)] [] h
    obtain ⟨c3, hm⟩ := ia_gd_some hm
    refine ia_go hK ck_Re_isDigit_11 ⟨gk_7 hg pk_279, ?_⟩
    show K 15 [some (.inr (.inr 279)), some (.inl x1)] [.inr (.inr (ia_r h 279 6))] h
    rw [show ia_r h 279 6 = 66 from eq_of_beq c3]
    obtain ⟨c4, hm⟩ := ia_gd_some hm
    refine ia_go hK ck_Re_isDigit_15 ⟨ga_s102 hg (ka_10_0 pk_65) c4, fun c => ?_, fun c => ?_⟩
    · replace hm := ia_ifp hm c
      show K 26 [some (.inr (.inr 279)), some (.inl x1)] [] h
      refine ia_go hK ck_Re_isDigit_26 ?_
      show K 27 [some (.inr (.inr 279)), some (.inl x1)] [.inl 0] h
      obtain rfl := Option.some.inj hm
      exact hret 27 _ ⟨Or.inl rfl, dc_Re_isDigit_27⟩
    · replace hm := ia_ifn hm c
      show K 22 [some (.inr (.inr 279)), some (.inl x1)] [] h
      refine ia_go hK ck_Re_isDigit_22 ?_
      show K 27 [some (.inr (.inr 279)), some (.inl x1)] [.inl 1] h
      obtain rfl := Option.some.inj hm
      exact hret 27 _ ⟨Or.inr rfl, dc_Re_isDigit_27⟩
def mm_Re_takeDigits : ia_M := (⟨"IceStreet$Reader", "takeDigits", "()V"⟩, prog_8_method_6_code, 1, none, 7, false)
theorem ok_Re_takeDigits : ia_mok mm_Re_takeDigits := ⟨by decide +kernel, by decide +kernel, by decide +kernel, by decide +kernel⟩
theorem mk_Re_takeDigits : ia_mkn mm_Re_takeDigits 1 0 := ⟨ia_tb_in (List.mem_of_getElem? (i := 777) (by decide +kernel)) rfl, ia_tb_in (List.mem_of_getElem? (i := 139) (by decide +kernel)) rfl, by decide +kernel, by decide +kernel, ⟨ia_tb_in (List.mem_of_getElem? (i := 776) (by decide +kernel)) rfl, ia_tb_in (List.mem_of_getElem? (i := 7) (by decide +kernel)) rfl⟩⟩
theorem ck_Re_takeDigits_0 : ia_cks 7 1 false prog_8_method_6_code 0 [(.aload_n 0, 0, 0, 0, 0), (.aload_n 0, 0, 0, 0, 0), (.getfield 36, 7, 6, 2, 0)] = true := by decide +kernel
theorem ck_Re_takeDigits_5 : ia_cks 7 1 false prog_8_method_6_code 5 [(.aload_n 0, 0, 0, 0, 0), (.getfield 99, 7, 11, 0, 0), (.baload, 102, 0, 0, 0), (.bipush 48, 0, 0, 0, 0), (.isub, 0, 0, 0, 0), (.putfield 115, 7, 10, 0, 0)] = true := by decide +kernel
theorem ck_Re_takeDigits_16 : ia_cks 7 1 false prog_8_method_6_code 16 [(.aload_n 0, 0, 0, 0, 0), (.getfield 87, 7, 12, 0, 0), (.aload_n 0, 0, 0, 0, 0), (.getfield 46, 7, 7, 0, 0), (.if_icmp .ge 64, 0, 0, 0, 0)] = true := by decide +kernel
theorem ck_Re_takeDigits_27 : ia_cks 7 1 false prog_8_method_6_code 27 [(.aload_n 0, 0, 0, 0, 0), (.aload_n 0, 0, 0, 0, 0), (.getfield 87, 7, 12, 0, 0)] = true := by decide +kernel
theorem ck_Re_takeDigits_35 : ia_cks 7 1 false prog_8_method_6_code 35 [(.ifCond .eq 53, 0, 0, 0, 0)] = true := by decide +kernel
theorem ck_Re_takeDigits_38 : ia_cks 7 1 false prog_8_method_6_code 38 [(.aload_n 0, 0, 0, 0, 0), (.getfield 87, 7, 12, 0, 0), (.aload_n 0, 0, 0, 0, 0), (.getfield 99, 7, 11, 0, 0), (.iconst 1, 0, 0, 0, 0), (.iadd, 0, 0, 0, 0), (.if_icmp .ne 27, 0, 0, 0, 0)] = true := by decide +kernel
theorem ck_Re_takeDigits_75 : ia_cks 7 1 false prog_8_method_6_code 75 [(.aload_n 0, 0, 0, 0, 0), (.dup, 0, 0, 0, 0), (.getfield 87, 7, 12, 0, 0), (.iconst 1, 0, 0, 0, 0), (.iadd, 0, 0, 0, 0), (.putfield 87, 7, 12, 0, 0), (.goto (-69), 0, 0, 0, 0)] = true := by decide +kernel
theorem ck_Re_takeDigits_51 : ia_cks 7 1 false prog_8_method_6_code 51 [(.aload_n 0, 0, 0, 0, 0), (.aload_n 0, 0, 0, 0, 0), (.getfield 115, 7, 10, 0, 0), (.bipush 10, 0, 0, 0, 0), (.imul, 0, 0, 0, 0), (.aload_n 0, 0, 0, 0, 0), (.getfield 36, 7, 6, 2, 0)] = true := by decide +kernel
theorem ck_Re_takeDigits_63 : ia_cks 7 1 false prog_8_method_6_code 63 [(.aload_n 0, 0, 0, 0, 0), (.getfield 87, 7, 12, 0, 0), (.baload, 102, 0, 0, 0), (.iadd, 0, 0, 0, 0), (.bipush 48, 0, 0, 0, 0), (.isub, 0, 0, 0, 0), (.putfield 115, 7, 10, 0, 0)] = true := by decide +kernel
theorem ck_Re_takeDigits_88 : ia_cks 7 1 false prog_8_method_6_code 88 [(.aload_n 0, 0, 0, 0, 0), (.aload_n 0, 0, 0, 0, 0), (.getfield 87, 7, 12, 0, 0), (.aload_n 0, 0, 0, 0, 0), (.getfield 99, 7, 11, 0, 0), (.iconst 2, 0, 0, 0, 0), (.iadd, 0, 0, 0, 0), (.if_icmp .le 7, 0, 0, 0, 0)] = true := by decide +kernel
theorem ck_Re_takeDigits_106 : ia_cks 7 1 false prog_8_method_6_code 106 [(.iconst 2, 0, 0, 0, 0), (.putfield 59, 7, 9, 0, 0)] = true := by decide +kernel
theorem ck_Re_takeDigits_102 : ia_cks 7 1 false prog_8_method_6_code 102 [(.iconst 5, 0, 0, 0, 0), (.goto 4, 0, 0, 0, 0)] = true := by decide +kernel
theorem ck_Re_takeDigits_107 : ia_cks 7 1 false prog_8_method_6_code 107 [(.putfield 59, 7, 9, 0, 0)] = true := by decide +kernel
theorem dc_Re_takeDigits_32 : decode prog_8_method_6_code 32 = .ok (.invokevirtual 109, 3) := by decide +kernel
theorem dc_Re_takeDigits_110 : decode prog_8_method_6_code 110 = .ok (.return_, 1) := by decide +kernel
def j_Re_takeDigits_75 (kr : ia_H → Option ia_H) (k88 : ia_H → Option ia_H) (h : ia_H) : Option ia_H := kr (ia_wI h 279 12 ((ia_i h 279 12) + 1))
theorem tj_Re_takeDigits_75 {w : ia_O0} {d N1 W1 : Nat} {K : ia_K} (hK : ia_isK (d + 1) mm_Re_takeDigits N1 W1 K) {h1 : ia_H} (hret : ∀ (pc : Nat) (lv : ia_L), ia_ret mm_Re_takeDigits pc none → K pc lv (none : Option ia_V).toList h1) {kr : ia_H → Option ia_H} {k88 : ia_H → Option ia_H} (hkr : ∀ (h : ia_H), gd_ w h → kr h = some h1 → K 16 [some (.inr (.inr 279))] [] h) (hk88 : ∀ (h : ia_H), gd_ w h → k88 h = some h1 → K 88 [some (.inr (.inr 279))] [] h) : ∀ (h : ia_H), gd_ w h → j_Re_takeDigits_75 kr k88 h = some h1 → K 75 [some (.inr (.inr 279))] [] h := by
  intro h hg hm
  unfold j_Re_takeDigits_75 at hm
  refine ia_go hK ck_Re_takeDigits_75 ⟨gk_7 hg pk_279, gk_7 hg pk_279, ?_⟩
  show K 16 [some (.inr (.inr 279))] [] (ia_wI h 279 12 ((ia_i h 279 12) + 1))
  exact hkr (ia_wI h 279 12 ((ia_i h 279 12) + 1)) (gd_wI hg (ko_7 pk_279)) hm
theorem gj_Re_takeDigits_75 {w : ia_O0} {h1 : ia_H} {kr : ia_H → Option ia_H} {k88 : ia_H → Option ia_H} (hkr : ∀ (h : ia_H), gd_ w h → kr h = some h1 → gd_ w h1) (hk88 : ∀ (h : ia_H), gd_ w h → k88 h = some h1 → gd_ w h1) : ∀ (h : ia_H), gd_ w h → j_Re_takeDigits_75 kr k88 h = some h1 → gd_ w h1 := by
  intro h hg hm
  unfold j_Re_takeDigits_75 at hm
  exact hkr (ia_wI h 279 12 ((ia_i h 279 12) + 1)) (gd_wI hg (ko_7 pk_279)) hm
def l_Re_takeDigits_16 (k88 : ia_H → Option ia_H) (n : Nat) (h : ia_H) : Option ia_H := match n with
  | 0 => none
  | n + 1 => if (ia_i h 279 7) ≤ (ia_i h 279 12) then (k88 h) else ((f_Re_isDigit (ia_i h 279 12) h).bind fun v3 => (if v3 = 0 then (k88 h) else (if (ia_i h 279 12) = ((ia_i h 279 11) + 1) then (ia_gd (ia_r h 279 6 == 66) (ia_gd (ia_ib (ia_i h 279 12) 600) (j_Re_takeDigits_75 (l_Re_takeDigits_16 k88 n) k88 (ia_wI h 279 10 ((((ia_i h 279 10) * 10) + (ia_i h 66 ((ia_i h 279 12).toNatClampNeg))) - 48))))) else (j_Re_takeDigits_75 (l_Re_takeDigits_16 k88 n) k88 h))))
theorem tl_Re_takeDigits_16 {w : ia_O0} {d N1 W1 : Nat} {K : ia_K} (hK : ia_isK (d + 1) mm_Re_takeDigits N1 W1 K) {h1 : ia_H} (hret : ∀ (pc : Nat) (lv : ia_L), ia_ret mm_Re_takeDigits pc none → K pc lv (none : Option ia_V).toList h1) {k88 : ia_H → Option ia_H} (hk88 : ∀ (h : ia_H), gd_ w h → k88 h = some h1 → K 88 [some (.inr (.inr 279))] [] h) : ∀ (n : Nat) (h : ia_H), gd_ w h → l_Re_takeDigits_16 k88 n h = some h1 → K 16 [some (.inr (.inr 279))] [] h := by
  intro n
  induction n with
  | zero =>
    intro h hg hm
    cases (show (none : Option ia_H) = some _ from hm)
  | succ n ih =>
    intro h hg hm
    rw [l_Re_takeDigits_16] at hm
    refine ia_go hK ck_Re_takeDigits_16 ⟨gk_7 hg pk_279, gk_7 hg pk_279, fun c => ?_, fun c => ?_⟩
    · replace hm := ia_ifp hm c
      show K 88 [some (.inr (.inr 279))] [] h
      exact hk88 h hg hm
    · replace hm := ia_ifn hm c
      show K 27 [some (.inr (.inr 279))] [] h
      refine ia_go hK ck_Re_takeDigits_27 ⟨gk_7 hg pk_279, ?_⟩
      show K 32 [some (.inr (.inr 279))] [.inl (ia_i h 279 12), .inr (.inr 279)] h
      obtain ⟨v3, hv3, hm⟩ := ia_bnd hm
      have ev3 := t_Re_isDigit (d + 0) hg hv3
      refine ia_cV hK mk_Re_isDigit lk_7_109 dc_Re_takeDigits_32 279 [.inl (ia_i h 279 12)] [] rfl rfl (Nat.le_of_ble_eq_true rfl) (by decide) rfl (gk_7 hg pk_279) ev3 ⟨rfl, rfl⟩ ?_
      show K 35 [some (.inr (.inr 279))] [.inl v3] h
      refine ia_go hK ck_Re_takeDigits_35 ⟨fun c => ?_, fun c => ?_⟩
      · replace hm := ia_ifp hm c
        show K 88 [some (.inr (.inr 279))] [] h
        exact hk88 h hg hm
      · replace hm := ia_ifn hm c
        show K 38 [some (.inr (.inr 279))] [] h
        refine ia_go hK ck_Re_takeDigits_38 ⟨gk_7 hg pk_279, gk_7 hg pk_279, fun c => ?_, fun c => ?_⟩
        · replace hm := ia_ifn hm c
          show K 75 [some (.inr (.inr 279))] [] h
          exact tj_Re_takeDigits_75 hK hret ih hk88 h hg hm
        · replace hm := ia_ifp hm c
          show K 51 [some (.inr (.inr 279))] [] h
          obtain ⟨c4, hm⟩ := ia_gd_some hm
          refine ia_go hK ck_Re_takeDigits_51 ⟨gk_7 hg pk_279, gk_7 hg pk_279, ?_⟩
          show K 63 [some (.inr (.inr 279))] [.inr (.inr (ia_r h 279 6)), .inl ((ia_i h 279 10) * 10), .inr (.inr 279)] h
          rw [show ia_r h 279 6 = 66 from eq_of_beq c4]
          obtain ⟨c5, hm⟩ := ia_gd_some hm
          refine ia_go hK ck_Re_takeDigits_63 ⟨gk_7 hg pk_279, ga_s102 hg (ka_10_0 pk_65) c5, gk_7 hg pk_279, ?_⟩
          show K 75 [some (.inr (.inr 279))] [] (ia_wI h 279 10 ((((ia_i h 279 10) * 10) + (ia_i h 66 ((ia_i h 279 12).toNatClampNeg))) - 48))
          exact tj_Re_takeDigits_75 hK hret ih hk88 (ia_wI h 279 10 ((((ia_i h 279 10) * 10) + (ia_i h 66 ((ia_i h 279 12).toNatClampNeg))) - 48)) (gd_wI hg (ko_7 pk_279)) hm
theorem gl_Re_takeDigits_16 {w : ia_O0} {h1 : ia_H} {k88 : ia_H → Option ia_H} (hk88 : ∀ (h : ia_H), gd_ w h → k88 h = some h1 → gd_ w h1) : ∀ (n : Nat) (h : ia_H), gd_ w h → l_Re_takeDigits_16 k88 n h = some h1 → gd_ w h1 := by
  intro n
  induction n with
  | zero =>
    intro h hg hm
    cases (show (none : Option ia_H) = some _ from hm)
  | succ n ih =>
    intro h hg hm
    rw [l_Re_takeDigits_16] at hm
    by_cases c : (ia_i h 279 7) ≤ (ia_i h 279 12)
    · replace hm := ia_ifp hm c
      exact hk88 h hg hm
    · replace hm := ia_ifn hm c
      obtain ⟨v3, hv3, hm⟩ := ia_bnd hm
      by_cases c : v3 = 0
      · replace hm := ia_ifp hm c
        exact hk88 h hg hm
      · replace hm := ia_ifn hm c
        by_cases c : (ia_i h 279 12) = ((ia_i h 279 11) + 1)
        · replace hm := ia_ifp hm c
          obtain ⟨c4, hm⟩ := ia_gd_some hm
          obtain ⟨c5, hm⟩ := ia_gd_some hm
          exact gj_Re_takeDigits_75 ih hk88 (ia_wI h 279 10 ((((ia_i h 279 10) * 10) + (ia_i h 66 ((ia_i h 279 12).toNatClampNeg))) - 48)) (gd_wI hg (ko_7 pk_279)) hm
        · replace hm := ia_ifn hm c
          exact gj_Re_takeDigits_75 ih hk88 h hg hm
def j_Re_takeDigits_88 (h : ia_H) : Option ia_H := if (ia_i h 279 12) ≤ ((ia_i h 279 11) + 2) then (some (ia_wI h 279 9 2)) else (some (ia_wI h 279 9 5))
theorem tj_Re_takeDigits_88 {w : ia_O0} {d N1 W1 : Nat} {K : ia_K} (hK : ia_isK (d + 1) mm_Re_takeDigits N1 W1 K) {h1 : ia_H} (hret : ∀ (pc : Nat) (lv : ia_L), ia_ret mm_Re_takeDigits pc none → K pc lv (none : Option ia_V).toList h1) : ∀ (h : ia_H), gd_ w h → j_Re_takeDigits_88 h = some h1 → K 88 [some (.inr (.inr 279))] [] h := by
  intro h hg hm
  unfold j_Re_takeDigits_88 at hm
  refine ia_go hK ck_Re_takeDigits_88 ⟨gk_7 hg pk_279, gk_7 hg pk_279, fun c => ?_, fun c => ?_⟩
  · replace hm := ia_ifp hm c
    show K 106 [some (.inr (.inr 279))] [.inr (.inr 279)] h
    refine ia_go hK ck_Re_takeDigits_106 ⟨gk_7 hg pk_279, ?_⟩
    show K 110 [some (.inr (.inr 279))] [] (ia_wI h 279 9 2)
    obtain rfl := Option.some.inj hm
    exact hret 110 _ dc_Re_takeDigits_110
  · replace hm := ia_ifn hm c
    show K 102 [some (.inr (.inr 279))] [.inr (.inr 279)] h
    refine ia_go hK ck_Re_takeDigits_102 ?_
    show K 107 [some (.inr (.inr 279))] [.inl 5, .inr (.inr 279)] h
    refine ia_go hK ck_Re_takeDigits_107 ⟨gk_7 hg pk_279, ?_⟩
    show K 110 [some (.inr (.inr 279))] [] (ia_wI h 279 9 5)
    obtain rfl := Option.some.inj hm
    exact hret 110 _ dc_Re_takeDigits_110
theorem gj_Re_takeDigits_88 {w : ia_O0} {h1 : ia_H} : ∀ (h : ia_H), gd_ w h → j_Re_takeDigits_88 h = some h1 → gd_ w h1 := by
  intro h hg hm
  unfold j_Re_takeDigits_88 at hm
  by_cases c : (ia_i h 279 12) ≤ ((ia_i h 279 11) + 2)
  · replace hm := ia_ifp hm c
    obtain rfl := Option.some.inj hm
    exact (gd_wI hg (ko_7 pk_279))
  · replace hm := ia_ifn hm c
    obtain rfl := Option.some.inj hm
    exact (gd_wI hg (ko_7 pk_279))
def f_Re_takeDigits (h : ia_H) : Option ia_H := ia_gd (ia_r h 279 6 == 66) (ia_gd (ia_ib (ia_i h 279 11) 600) (l_Re_takeDigits_16 (fun h => j_Re_takeDigits_88 h) fu_ (ia_wI h 279 10 ((ia_i h 66 ((ia_i h 279 11).toNatClampNeg)) - 48))))
theorem g_Re_takeDigits {w : ia_O0} {h : ia_H} (hg : gd_ w h) {q : ia_H} (hm : f_Re_takeDigits h = some q) : gd_ w q := by
  obtain ⟨h1, e1⟩ : ∃ x, x = q := ⟨_, rfl⟩
  subst e1
  unfold f_Re_takeDigits at hm
  obtain ⟨c1, hm⟩ := ia_gd_some hm
  obtain ⟨c2, hm⟩ := ia_gd_some hm
  refine gl_Re_takeDigits_16 ?_ fu_ (ia_wI h 279 10 ((ia_i h 66 ((ia_i h 279 11).toNatClampNeg)) - 48)) (gd_wI hg (ko_7 pk_279)) hm
  · intro h hg hm
    exact gj_Re_takeDigits_88 h hg hm
theorem t_Re_takeDigits {w : ia_O0} (d : Nat) {h : ia_H} (hg : gd_ w h) {q : ia_H} (hm : f_Re_takeDigits h = some q) : ia_Ev (d + 1) mm_Re_takeDigits [.inr (.inr 279)] h none q := by
  have gq := g_Re_takeDigits hg hm
  refine ia_Ev_intro ok_Re_takeDigits (gd_le hg gq).1 (gd_le hg gq).2 (Nat.le_of_ble_eq_true rfl) (fun K hK hret => ?_)
  obtain ⟨h1, e1⟩ : ∃ x, x = q := ⟨_, rfl⟩
  subst e1
  show K 0 [some (.inr (.inr 279))] [] h
  unfold f_Re_takeDigits at hm
  obtain ⟨c1, hm⟩ := ia_gd_some hm
  refine ia_go hK ck_Re_takeDigits_0 ⟨gk_7 hg pk_279, ?_⟩
  show K 5 [some (.inr (.inr 279))] [.inr (.inr (ia_r h 279 6)), .inr (.inr 279)] h
  rw [show ia_r h 279 6 = 66 from eq_of_beq c1]
  obtain ⟨c2, hm⟩ := ia_gd_some hm
  refine ia_go hK ck_Re_takeDigits_5 ⟨gk_7 hg pk_279, ga_s102 hg (ka_10_0 pk_65) c2, gk_7 hg pk_279, ?_⟩
  show K 16 [some (.inr (.inr 279))] [] (ia_wI h 279 10 ((ia_i h 66 ((ia_i h 279 11).toNatClampNeg)) - 48))
  refine tl_Re_takeDigits_16 hK hret ?_ fu_ (ia_wI h 279 10 ((ia_i h 66 ((ia_i h 279 11).toNatClampNeg)) - 48)) (gd_wI hg (ko_7 pk_279)) hm
  · intro h hg hm
    exact tj_Re_takeDigits_88 hK hret h hg hm
def mm_Re_advance : ia_M := (⟨"IceStreet$Reader", "advance", "()V"⟩, prog_8_method_4_code, 1, none, 7, false)
theorem ok_Re_advance : ia_mok mm_Re_advance := ⟨by decide +kernel, by decide +kernel, by decide +kernel, by decide +kernel⟩
theorem mk_Re_advance : ia_mkn mm_Re_advance 1 0 := ⟨ia_tb_in (List.mem_of_getElem? (i := 761) (by decide +kernel)) rfl, ia_tb_in (List.mem_of_getElem? (i := 139) (by decide +kernel)) rfl, by decide +kernel, by decide +kernel, ⟨ia_tb_in (List.mem_of_getElem? (i := 760) (by decide +kernel)) rfl, ia_tb_in (List.mem_of_getElem? (i := 3) (by decide +kernel)) rfl⟩⟩
theorem ck_Re_advance_0 : ia_cks 7 1 false prog_8_method_4_code 0 [(.aload_n 0, 0, 0, 0, 0), (.aload_n 0, 0, 0, 0, 0), (.getfield 87, 7, 12, 0, 0), (.putfield 99, 7, 11, 0, 0)] = true := by decide +kernel
theorem ck_Re_advance_8 : ia_cks 7 1 false prog_8_method_4_code 8 [(.aload_n 0, 0, 0, 0, 0), (.getfield 99, 7, 11, 0, 0), (.aload_n 0, 0, 0, 0, 0), (.getfield 46, 7, 7, 0, 0), (.if_icmp .ge 44, 0, 0, 0, 0)] = true := by decide +kernel
theorem ck_Re_advance_19 : ia_cks 7 1 false prog_8_method_4_code 19 [(.aload_n 0, 0, 0, 0, 0), (.getfield 36, 7, 6, 2, 0)] = true := by decide +kernel
theorem ck_Re_advance_23 : ia_cks 7 1 false prog_8_method_4_code 23 [(.aload_n 0, 0, 0, 0, 0), (.getfield 99, 7, 11, 0, 0), (.baload, 102, 0, 0, 0), (.bipush 32, 0, 0, 0, 0), (.if_icmp .eq 17, 0, 0, 0, 0)] = true := by decide +kernel
theorem ck_Re_advance_47 : ia_cks 7 1 false prog_8_method_4_code 47 [(.aload_n 0, 0, 0, 0, 0), (.dup, 0, 0, 0, 0), (.getfield 99, 7, 11, 0, 0), (.iconst 1, 0, 0, 0, 0), (.iadd, 0, 0, 0, 0), (.putfield 99, 7, 11, 0, 0), (.goto (-49), 0, 0, 0, 0)] = true := by decide +kernel
theorem ck_Re_advance_33 : ia_cks 7 1 false prog_8_method_4_code 33 [(.aload_n 0, 0, 0, 0, 0), (.getfield 36, 7, 6, 2, 0)] = true := by decide +kernel
theorem ck_Re_advance_37 : ia_cks 7 1 false prog_8_method_4_code 37 [(.aload_n 0, 0, 0, 0, 0), (.getfield 99, 7, 11, 0, 0), (.baload, 102, 0, 0, 0), (.bipush 10, 0, 0, 0, 0), (.if_icmp .ne 16, 0, 0, 0, 0)] = true := by decide +kernel
theorem ck_Re_advance_60 : ia_cks 7 1 false prog_8_method_4_code 60 [(.aload_n 0, 0, 0, 0, 0), (.aload_n 0, 0, 0, 0, 0), (.getfield 99, 7, 11, 0, 0), (.iconst 1, 0, 0, 0, 0), (.iadd, 0, 0, 0, 0), (.aload_n 0, 0, 0, 0, 0), (.getfield 46, 7, 7, 0, 0)] = true := by decide +kernel
theorem ck_Re_advance_74 : ia_cks 7 1 false prog_8_method_4_code 74 [(.putfield 87, 7, 12, 0, 0), (.aload_n 0, 0, 0, 0, 0), (.getfield 99, 7, 11, 0, 0), (.aload_n 0, 0, 0, 0, 0), (.getfield 46, 7, 7, 0, 0), (.if_icmp .lt 11, 0, 0, 0, 0)] = true := by decide +kernel
theorem ck_Re_advance_96 : ia_cks 7 1 false prog_8_method_4_code 96 [(.aload_n 0, 0, 0, 0, 0), (.aload_n 0, 0, 0, 0, 0), (.getfield 99, 7, 11, 0, 0)] = true := by decide +kernel
theorem ck_Re_advance_104 : ia_cks 7 1 false prog_8_method_4_code 104 [(.ifCond .eq 10, 0, 0, 0, 0)] = true := by decide +kernel
theorem ck_Re_advance_114 : ia_cks 7 1 false prog_8_method_4_code 114 [(.aload_n 0, 0, 0, 0, 0), (.aload_n 0, 0, 0, 0, 0), (.getfield 99, 7, 11, 0, 0)] = true := by decide +kernel
theorem ck_Re_advance_122 : ia_cks 7 1 false prog_8_method_4_code 122 [(.ifCond .eq 10, 0, 0, 0, 0)] = true := by decide +kernel
theorem ck_Re_advance_132 : ia_cks 7 1 false prog_8_method_4_code 132 [(.aload_n 0, 0, 0, 0, 0), (.getfield 36, 7, 6, 2, 0)] = true := by decide +kernel
theorem ck_Re_advance_136 : ia_cks 7 1 false prog_8_method_4_code 136 [(.aload_n 0, 0, 0, 0, 0), (.getfield 99, 7, 11, 0, 0), (.baload, 102, 0, 0, 0), (.bipush 45, 0, 0, 0, 0), (.if_icmp .ne 11, 0, 0, 0, 0)] = true := by decide +kernel
theorem ck_Re_advance_154 : ia_cks 7 1 false prog_8_method_4_code 154 [(.aload_n 0, 0, 0, 0, 0), (.aload_n 0, 0, 0, 0, 0), (.getfield 36, 7, 6, 2, 0)] = true := by decide +kernel
theorem ck_Re_advance_159 : ia_cks 7 1 false prog_8_method_4_code 159 [(.aload_n 0, 0, 0, 0, 0), (.getfield 99, 7, 11, 0, 0), (.baload, 102, 0, 0, 0), (.bipush 59, 0, 0, 0, 0), (.if_icmp .ne 7, 0, 0, 0, 0)] = true := by decide +kernel
theorem ck_Re_advance_173 : ia_cks 7 1 false prog_8_method_4_code 173 [(.iconst 5, 0, 0, 0, 0), (.putfield 59, 7, 9, 0, 0)] = true := by decide +kernel
theorem ck_Re_advance_169 : ia_cks 7 1 false prog_8_method_4_code 169 [(.iconst 4, 0, 0, 0, 0), (.goto 4, 0, 0, 0, 0)] = true := by decide +kernel
theorem ck_Re_advance_174 : ia_cks 7 1 false prog_8_method_4_code 174 [(.putfield 59, 7, 9, 0, 0)] = true := by decide +kernel
theorem ck_Re_advance_146 : ia_cks 7 1 false prog_8_method_4_code 146 [(.aload_n 0, 0, 0, 0, 0), (.iconst 3, 0, 0, 0, 0), (.putfield 59, 7, 9, 0, 0), (.goto 26, 0, 0, 0, 0)] = true := by decide +kernel
theorem ck_Re_advance_125 : ia_cks 7 1 false prog_8_method_4_code 125 [(.aload_n 0, 0, 0, 0, 0)] = true := by decide +kernel
theorem ck_Re_advance_129 : ia_cks 7 1 false prog_8_method_4_code 129 [(.goto 48, 0, 0, 0, 0)] = true := by decide +kernel
theorem ck_Re_advance_107 : ia_cks 7 1 false prog_8_method_4_code 107 [(.aload_n 0, 0, 0, 0, 0)] = true := by decide +kernel
theorem ck_Re_advance_111 : ia_cks 7 1 false prog_8_method_4_code 111 [(.goto 66, 0, 0, 0, 0)] = true := by decide +kernel
theorem ck_Re_advance_88 : ia_cks 7 1 false prog_8_method_4_code 88 [(.aload_n 0, 0, 0, 0, 0), (.iconst 0, 0, 0, 0, 0), (.putfield 59, 7, 9, 0, 0), (.goto 84, 0, 0, 0, 0)] = true := by decide +kernel
theorem dc_Re_advance_71 : decode prog_8_method_4_code 71 = .ok (.invokestatic 40, 3) := by decide +kernel
theorem dc_Re_advance_101 : decode prog_8_method_4_code 101 = .ok (.invokevirtual 102, 3) := by decide +kernel
theorem dc_Re_advance_119 : decode prog_8_method_4_code 119 = .ok (.invokevirtual 109, 3) := by decide +kernel
theorem dc_Re_advance_177 : decode prog_8_method_4_code 177 = .ok (.return_, 1) := by decide +kernel
theorem dc_Re_advance_126 : decode prog_8_method_4_code 126 = .ok (.invokevirtual 112, 3) := by decide +kernel
theorem dc_Re_advance_108 : decode prog_8_method_4_code 108 = .ok (.invokevirtual 106, 3) := by decide +kernel
def j_Re_advance_47 (kr : ia_H → Option ia_H) (k60 : ia_H → Option ia_H) (h : ia_H) : Option ia_H := kr (ia_wI h 279 11 ((ia_i h 279 11) + 1))
theorem tj_Re_advance_47 {w : ia_O0} {d N1 W1 : Nat} {K : ia_K} (hK : ia_isK (d + 2) mm_Re_advance N1 W1 K) {h1 : ia_H} (hret : ∀ (pc : Nat) (lv : ia_L), ia_ret mm_Re_advance pc none → K pc lv (none : Option ia_V).toList h1) {kr : ia_H → Option ia_H} {k60 : ia_H → Option ia_H} (hkr : ∀ (h : ia_H), gd_ w h → kr h = some h1 → K 8 [some (.inr (.inr 279))] [] h) (hk60 : ∀ (h : ia_H), gd_ w h → k60 h = some h1 → K 60 [some (.inr (.inr 279))] [] h) : ∀ (h : ia_H), gd_ w h → j_Re_advance_47 kr k60 h = some h1 → K 47 [some (.inr (.inr 279))] [] h := by
  intro h hg hm
  unfold j_Re_advance_47 at hm
  refine ia_go hK ck_Re_advance_47 ⟨gk_7 hg pk_279, gk_7 hg pk_279, ?_⟩
  show K 8 [some (.inr (.inr 279))] [] (ia_wI h 279 11 ((ia_i h 279 11) + 1))
  exact hkr (ia_wI h 279 11 ((ia_i h 279 11) + 1)) (gd_wI hg (ko_7 pk_279)) hm
theorem gj_Re_advance_47 {w : ia_O0} {h1 : ia_H} {kr : ia_H → Option ia_H} {k60 : ia_H → Option ia_H} (hkr : ∀ (h : ia_H), gd_ w h → kr h = some h1 → gd_ w h1) (hk60 : ∀ (h : ia_H), gd_ w h → k60 h = some h1 → gd_ w h1) : ∀ (h : ia_H), gd_ w h → j_Re_advance_47 kr k60 h = some h1 → gd_ w h1 := by
  intro h hg hm
  unfold j_Re_advance_47 at hm
  exact hkr (ia_wI h 279 11 ((ia_i h 279 11) + 1)) (gd_wI hg (ko_7 pk_279)) hm
def l_Re_advance_8 (k60 : ia_H → Option ia_H) (n : Nat) (h : ia_H) : Option ia_H := match n with
  | 0 => none
  | n + 1 => if (ia_i h 279 7) ≤ (ia_i h 279 11) then (k60 h) else (ia_gd (ia_r h 279 6 == 66) (ia_gd (ia_ib (ia_i h 279 11) 600) (if (ia_i h 66 ((ia_i h 279 11).toNatClampNeg)) = 32 then (j_Re_advance_47 (l_Re_advance_8 k60 n) k60 h) else (ia_gd (ia_r h 279 6 == 66) (ia_gd (ia_ib (ia_i h 279 11) 600) (if (ia_i h 66 ((ia_i h 279 11).toNatClampNeg)) = 10 then (j_Re_advance_47 (l_Re_advance_8 k60 n) k60 h) else (k60 h)))))))
theorem tl_Re_advance_8 {w : ia_O0} {d N1 W1 : Nat} {K : ia_K} (hK : ia_isK (d + 2) mm_Re_advance N1 W1 K) {h1 : ia_H} (hret : ∀ (pc : Nat) (lv : ia_L), ia_ret mm_Re_advance pc none → K pc lv (none : Option ia_V).toList h1) {k60 : ia_H → Option ia_H} (hk60 : ∀ (h : ia_H), gd_ w h → k60 h = some h1 → K 60 [some (.inr (.inr 279))] [] h) : ∀ (n : Nat) (h : ia_H), gd_ w h → l_Re_advance_8 k60 n h = some h1 → K 8 [some (.inr (.inr 279))] [] h := by
  intro n
  induction n with
  | zero =>
    intro h hg hm
    cases (show (none : Option ia_H) = some _ from hm)
  | succ n ih =>
    intro h hg hm
    rw [l_Re_advance_8] at hm
    refine ia_go hK ck_Re_advance_8 ⟨gk_7 hg pk_279, gk_7 hg pk_279, fun c => ?_, fun c => ?_⟩
    · replace hm := ia_ifp hm c
      show K 60 [some (.inr (.inr 279))] [] h
      exact hk60 h hg hm
    · replace hm := ia_ifn hm c
      show K 19 [some (.inr (.inr 279))] [] h
      obtain ⟨c1, hm⟩ := ia_gd_some hm
      refine ia_go hK ck_Re_advance_19 ⟨gk_7 hg pk_279, ?_⟩
      show K 23 [some (.inr (.inr 279))] [.inr (.inr (ia_r h 279 6))] h
      rw [show ia_r h 279 6 = 66 from eq_of_beq c1]
      obtain ⟨c2, hm⟩ := ia_gd_some hm
      refine ia_go hK ck_Re_advance_23 ⟨gk_7 hg pk_279, ga_s102 hg (ka_10_0 pk_65) c2, fun c => ?_, fun c => ?_⟩
      · replace hm := ia_ifp hm c
        show K 47 [some (.inr (.inr 279))] [] h
        exact tj_Re_advance_47 hK hret ih hk60 h hg hm
      · replace hm := ia_ifn hm c
        show K 33 [some (.inr (.inr 279))] [] h
        obtain ⟨c3, hm⟩ := ia_gd_some hm
        refine ia_go hK ck_Re_advance_33 ⟨gk_7 hg pk_279, ?_⟩
        show K 37 [some (.inr (.inr 279))] [.inr (.inr (ia_r h 279 6))] h
        rw [show ia_r h 279 6 = 66 from eq_of_beq c3]
        obtain ⟨c4, hm⟩ := ia_gd_some hm
        refine ia_go hK ck_Re_advance_37 ⟨gk_7 hg pk_279, ga_s102 hg (ka_10_0 pk_65) c4, fun c => ?_, fun c => ?_⟩
        · replace hm := ia_ifn hm c
          show K 60 [some (.inr (.inr 279))] [] h
          exact hk60 h hg hm
        · replace hm := ia_ifp hm c
          show K 47 [some (.inr (.inr 279))] [] h
          exact tj_Re_advance_47 hK hret ih hk60 h hg hm
theorem gl_Re_advance_8 {w : ia_O0} {h1 : ia_H} {k60 : ia_H → Option ia_H} (hk60 : ∀ (h : ia_H), gd_ w h → k60 h = some h1 → gd_ w h1) : ∀ (n : Nat) (h : ia_H), gd_ w h → l_Re_advance_8 k60 n h = some h1 → gd_ w h1 := by
  intro n
  induction n with
  | zero =>
    intro h hg hm
    cases (show (none : Option ia_H) = some _ from hm)
  | succ n ih =>
    intro h hg hm
    rw [l_Re_advance_8] at hm
    by_cases c : (ia_i h 279 7) ≤ (ia_i h 279 11)
    · replace hm := ia_ifp hm c
      exact hk60 h hg hm
    · replace hm := ia_ifn hm c
      obtain ⟨c1, hm⟩ := ia_gd_some hm
      obtain ⟨c2, hm⟩ := ia_gd_some hm
      by_cases c : (ia_i h 66 ((ia_i h 279 11).toNatClampNeg)) = 32
      · replace hm := ia_ifp hm c
        exact gj_Re_advance_47 ih hk60 h hg hm
      · replace hm := ia_ifn hm c
        obtain ⟨c3, hm⟩ := ia_gd_some hm
        obtain ⟨c4, hm⟩ := ia_gd_some hm
        by_cases c : (ia_i h 66 ((ia_i h 279 11).toNatClampNeg)) = 10
        · replace hm := ia_ifp hm c
          exact gj_Re_advance_47 ih hk60 h hg hm
        · replace hm := ia_ifn hm c
          exact hk60 h hg hm
def j_Re_advance_60 (h : ia_H) : Option ia_H := if (ia_i (ia_wI h 279 12 (ia_min ((ia_i h 279 11) + 1) (ia_i h 279 7))) 279 11) < (ia_i (ia_wI h 279 12 (ia_min ((ia_i h 279 11) + 1) (ia_i h 279 7))) 279 7) then ((f_Re_isLetter (ia_i (ia_wI h 279 12 (ia_min ((ia_i h 279 11) + 1) (ia_i h 279 7))) 279 11) (ia_wI h 279 12 (ia_min ((ia_i h 279 11) + 1) (ia_i h 279 7)))).bind fun v5 => (if v5 = 0 then ((f_Re_isDigit (ia_i (ia_wI h 279 12 (ia_min ((ia_i h 279 11) + 1) (ia_i h 279 7))) 279 11) (ia_wI h 279 12 (ia_min ((ia_i h 279 11) + 1) (ia_i h 279 7)))).bind fun v6 => (if v6 = 0 then (ia_gd (ia_r (ia_wI h 279 12 (ia_min ((ia_i h 279 11) + 1) (ia_i h 279 7))) 279 6 == 66) (ia_gd (ia_ib (ia_i (ia_wI h 279 12 (ia_min ((ia_i h 279 11) + 1) (ia_i h 279 7))) 279 11) 600) (if (ia_i (ia_wI h 279 12 (ia_min ((ia_i h 279 11) + 1) (ia_i h 279 7))) 66 ((ia_i (ia_wI h 279 12 (ia_min ((ia_i h 279 11) + 1) (ia_i h 279 7))) 279 11).toNatClampNeg)) = 45 then (some (ia_wI (ia_wI h 279 12 (ia_min ((ia_i h 279 11) + 1) (ia_i h 279 7))) 279 9 3)) else (ia_gd (ia_r (ia_wI h 279 12 (ia_min ((ia_i h 279 11) + 1) (ia_i h 279 7))) 279 6 == 66) (ia_gd (ia_ib (ia_i (ia_wI h 279 12 (ia_min ((ia_i h 279 11) + 1) (ia_i h 279 7))) 279 11) 600) (if (ia_i (ia_wI h 279 12 (ia_min ((ia_i h 279 11) + 1) (ia_i h 279 7))) 66 ((ia_i (ia_wI h 279 12 (ia_min ((ia_i h 279 11) + 1) (ia_i h 279 7))) 279 11).toNatClampNeg)) = 59 then (some (ia_wI (ia_wI h 279 12 (ia_min ((ia_i h 279 11) + 1) (ia_i h 279 7))) 279 9 4)) else (some (ia_wI (ia_wI h 279 12 (ia_min ((ia_i h 279 11) + 1) (ia_i h 279 7))) 279 9 5)))))))) else ((f_Re_takeDigits (ia_wI h 279 12 (ia_min ((ia_i h 279 11) + 1) (ia_i h 279 7)))).bind fun v11 => (some v11)))) else ((f_Re_takeLetters (ia_wI h 279 12 (ia_min ((ia_i h 279 11) + 1) (ia_i h 279 7)))).bind fun v12 => (some v12)))) else (some (ia_wI (ia_wI h 279 12 (ia_min ((ia_i h 279 11) + 1) (ia_i h 279 7))) 279 9 0))
theorem tj_Re_advance_60 {w : ia_O0} {d N1 W1 : Nat} {K : ia_K} (hK : ia_isK (d + 2) mm_Re_advance N1 W1 K) {h1 : ia_H} (hret : ∀ (pc : Nat) (lv : ia_L), ia_ret mm_Re_advance pc none → K pc lv (none : Option ia_V).toList h1) : ∀ (h : ia_H), gd_ w h → j_Re_advance_60 h = some h1 → K 60 [some (.inr (.inr 279))] [] h := by
  intro h hg hm
  unfold j_Re_advance_60 at hm
  refine ia_go hK ck_Re_advance_60 ⟨gk_7 hg pk_279, gk_7 hg pk_279, ?_⟩
  show K 71 [some (.inr (.inr 279))] [.inl (ia_i h 279 7), .inl ((ia_i h 279 11) + 1), .inr (.inr 279)] h
  refine ia_mmin hK (ia_tb_in (List.mem_of_getElem? (i := 749) (by decide +kernel)) rfl) dc_Re_advance_71 (Nat.le_of_ble_eq_true rfl) ?_
  show K 74 [some (.inr (.inr 279))] [.inl (ia_min ((ia_i h 279 11) + 1) (ia_i h 279 7)), .inr (.inr 279)] h
  refine ia_go hK ck_Re_advance_74 ⟨gk_7 hg pk_279, gk_7 (gd_wI hg (ko_7 pk_279)) pk_279, gk_7 (gd_wI hg (ko_7 pk_279)) pk_279, fun c => ?_, fun c => ?_⟩
  · replace hm := ia_ifp hm c
    show K 96 [some (.inr (.inr 279))] [] (ia_wI h 279 12 (ia_min ((ia_i h 279 11) + 1) (ia_i h 279 7)))
    refine ia_go hK ck_Re_advance_96 ⟨gk_7 (gd_wI hg (ko_7 pk_279)) pk_279, ?_⟩
    show K 101 [some (.inr (.inr 279))] [.inl (ia_i (ia_wI h 279 12 (ia_min ((ia_i h 279 11) + 1) (ia_i h 279 7))) 279 11), .inr (.inr 279)] (ia_wI h 279 12 (ia_min ((ia_i h 279 11) + 1) (ia_i h 279 7)))
    obtain ⟨v5, hv5, hm⟩ := ia_bnd hm
    have ev5 := t_Re_isLetter (d + 1) (gd_wI hg (ko_7 pk_279)) hv5
    refine ia_cV hK mk_Re_isLetter lk_7_102 dc_Re_advance_101 279 [.inl (ia_i (ia_wI h 279 12 (ia_min ((ia_i h 279 11) + 1) (ia_i h 279 7))) 279 11)] [] rfl rfl (Nat.le_of_ble_eq_true rfl) (by decide) rfl (gk_7 (gd_wI hg (ko_7 pk_279)) pk_279) ev5 ⟨rfl, rfl⟩ ?_
    show K 104 [some (.inr (.inr 279))] [.inl v5] (ia_wI h 279 12 (ia_min ((ia_i h 279 11) + 1) (ia_i h 279 7)))
    refine ia_go hK ck_Re_advance_104 ⟨fun c => ?_, fun c => ?_⟩
    · replace hm := ia_ifp hm c
      show K 114 [some (.inr (.inr 279))] [] (ia_wI h 279 12 (ia_min ((ia_i h 279 11) + 1) (ia_i h 279 7)))
      refine ia_go hK ck_Re_advance_114 ⟨gk_7 (gd_wI hg (ko_7 pk_279)) pk_279, ?_⟩
      show K 119 [some (.inr (.inr 279))] [.inl (ia_i (ia_wI h 279 12 (ia_min ((ia_i h 279 11) + 1) (ia_i h 279 7))) 279 11), .inr (.inr 279)] (ia_wI h 279 12 (ia_min ((ia_i h 279 11) + 1) (ia_i h 279 7)))
      obtain ⟨v6, hv6, hm⟩ := ia_bnd hm
      have ev6 := t_Re_isDigit (d + 1) (gd_wI hg (ko_7 pk_279)) hv6
      refine ia_cV hK mk_Re_isDigit lk_7_109 dc_Re_advance_119 279 [.inl (ia_i (ia_wI h 279 12 (ia_min ((ia_i h 279 11) + 1) (ia_i h 279 7))) 279 11)] [] rfl rfl (Nat.le_of_ble_eq_true rfl) (by decide) rfl (gk_7 (gd_wI hg (ko_7 pk_279)) pk_279) ev6 ⟨rfl, rfl⟩ ?_
      show K 122 [some (.inr (.inr 279))] [.inl v6] (ia_wI h 279 12 (ia_min ((ia_i h 279 11) + 1) (ia_i h 279 7)))
      refine ia_go hK ck_Re_advance_122 ⟨fun c => ?_, fun c => ?_⟩
      · replace hm := ia_ifp hm c
        show K 132 [some (.inr (.inr 279))] [] (ia_wI h 279 12 (ia_min ((ia_i h 279 11) + 1) (ia_i h 279 7)))
        obtain ⟨c7, hm⟩ := ia_gd_some hm
        refine ia_go hK ck_Re_advance_132 ⟨gk_7 (gd_wI hg (ko_7 pk_279)) pk_279, ?_⟩
        show K 136 [some (.inr (.inr 279))] [.inr (.inr (ia_r (ia_wI h 279 12 (ia_min ((ia_i h 279 11) + 1) (ia_i h 279 7))) 279 6))] (ia_wI h 279 12 (ia_min ((ia_i h 279 11) + 1) (ia_i h 279 7)))
        rw [show ia_r (ia_wI h 279 12 (ia_min ((ia_i h 279 11) + 1) (ia_i h 279 7))) 279 6 = 66 from eq_of_beq c7]
        obtain ⟨c8, hm⟩ := ia_gd_some hm
        refine ia_go hK ck_Re_advance_136 ⟨gk_7 (gd_wI hg (ko_7 pk_279)) pk_279, ga_s102 (gd_wI hg (ko_7 pk_279)) (ka_10_0 pk_65) c8, fun c => ?_, fun c => ?_⟩
        · replace hm := ia_ifn hm c
          show K 154 [some (.inr (.inr 279))] [] (ia_wI h 279 12 (ia_min ((ia_i h 279 11) + 1) (ia_i h 279 7)))
          obtain ⟨c9, hm⟩ := ia_gd_some hm
          refine ia_go hK ck_Re_advance_154 ⟨gk_7 (gd_wI hg (ko_7 pk_279)) pk_279, ?_⟩
          show K 159 [some (.inr (.inr 279))] [.inr (.inr (ia_r (ia_wI h 279 12 (ia_min ((ia_i h 279 11) + 1) (ia_i h 279 7))) 279 6)), .inr (.inr 279)] (ia_wI h 279 12 (ia_min ((ia_i h 279 11) + 1) (ia_i h 279 7)))
          rw [show ia_r (ia_wI h 279 12 (ia_min ((ia_i h 279 11) + 1) (ia_i h 279 7))) 279 6 = 66 from eq_of_beq c9]
          obtain ⟨c10, hm⟩ := ia_gd_some hm
          refine ia_go hK ck_Re_advance_159 ⟨gk_7 (gd_wI hg (ko_7 pk_279)) pk_279, ga_s102 (gd_wI hg (ko_7 pk_279)) (ka_10_0 pk_65) c10, fun c => ?_, fun c => ?_⟩
          · replace hm := ia_ifn hm c
            show K 173 [some (.inr (.inr 279))] [.inr (.inr 279)] (ia_wI h 279 12 (ia_min ((ia_i h 279 11) + 1) (ia_i h 279 7)))
            refine ia_go hK ck_Re_advance_173 ⟨gk_7 (gd_wI hg (ko_7 pk_279)) pk_279, ?_⟩
            show K 177 [some (.inr (.inr 279))] [] (ia_wI (ia_wI h 279 12 (ia_min ((ia_i h 279 11) + 1) (ia_i h 279 7))) 279 9 5)
            obtain rfl := Option.some.inj hm
            exact hret 177 _ dc_Re_advance_177
          · replace hm := ia_ifp hm c
            show K 169 [some (.inr (.inr 279))] [.inr (.inr 279)] (ia_wI h 279 12 (ia_min ((ia_i h 279 11) + 1) (ia_i h 279 7)))
            refine ia_go hK ck_Re_advance_169 ?_
            show K 174 [some (.inr (.inr 279))] [.inl 4, .inr (.inr 279)] (ia_wI h 279 12 (ia_min ((ia_i h 279 11) + 1) (ia_i h 279 7)))
            refine ia_go hK ck_Re_advance_174 ⟨gk_7 (gd_wI hg (ko_7 pk_279)) pk_279, ?_⟩
            show K 177 [some (.inr (.inr 279))] [] (ia_wI (ia_wI h 279 12 (ia_min ((ia_i h 279 11) + 1) (ia_i h 279 7))) 279 9 4)
            obtain rfl := Option.some.inj hm
            exact hret 177 _ dc_Re_advance_177
        · replace hm := ia_ifp hm c
          show K 146 [some (.inr (.inr 279))] [] (ia_wI h 279 12 (ia_min ((ia_i h 279 11) + 1) (ia_i h 279 7)))
          refine ia_go hK ck_Re_advance_146 ⟨gk_7 (gd_wI hg (ko_7 pk_279)) pk_279, ?_⟩
          show K 177 [some (.inr (.inr 279))] [] (ia_wI (ia_wI h 279 12 (ia_min ((ia_i h 279 11) + 1) (ia_i h 279 7))) 279 9 3)
          obtain rfl := Option.some.inj hm
          exact hret 177 _ dc_Re_advance_177
      · replace hm := ia_ifn hm c
        show K 125 [some (.inr (.inr 279))] [] (ia_wI h 279 12 (ia_min ((ia_i h 279 11) + 1) (ia_i h 279 7)))
        refine ia_go hK ck_Re_advance_125 ?_
        show K 126 [some (.inr (.inr 279))] [.inr (.inr 279)] (ia_wI h 279 12 (ia_min ((ia_i h 279 11) + 1) (ia_i h 279 7)))
        obtain ⟨v11, hv11, hm⟩ := ia_bnd hm
        have ev11 := t_Re_takeDigits (d + 0) (gd_wI hg (ko_7 pk_279)) hv11
        have gv11 := g_Re_takeDigits (gd_wI hg (ko_7 pk_279)) hv11
        refine ia_cV hK mk_Re_takeDigits lk_7_112 dc_Re_advance_126 279 [] [] rfl rfl (Nat.le_of_ble_eq_true rfl) (by decide) rfl (gk_7 (gd_wI hg (ko_7 pk_279)) pk_279) ev11 (gd_nm (gd_wI hg (ko_7 pk_279)) gv11) ?_
        show K 129 [some (.inr (.inr 279))] [] v11
        refine ia_go hK ck_Re_advance_129 ?_
        show K 177 [some (.inr (.inr 279))] [] v11
        obtain rfl := Option.some.inj hm
        exact hret 177 _ dc_Re_advance_177
    · replace hm := ia_ifn hm c
      show K 107 [some (.inr (.inr 279))] [] (ia_wI h 279 12 (ia_min ((ia_i h 279 11) + 1) (ia_i h 279 7)))
      refine ia_go hK ck_Re_advance_107 ?_
      show K 108 [some (.inr (.inr 279))] [.inr (.inr 279)] (ia_wI h 279 12 (ia_min ((ia_i h 279 11) + 1) (ia_i h 279 7)))
      obtain ⟨v12, hv12, hm⟩ := ia_bnd hm
      have ev12 := t_Re_takeLetters (d + 0) (gd_wI hg (ko_7 pk_279)) hv12
      have gv12 := g_Re_takeLetters (gd_wI hg (ko_7 pk_279)) hv12
      refine ia_cV hK mk_Re_takeLetters lk_7_106 dc_Re_advance_108 279 [] [] rfl rfl (Nat.le_of_ble_eq_true rfl) (by decide) rfl (gk_7 (gd_wI hg (ko_7 pk_279)) pk_279) ev12 (gd_nm (gd_wI hg (ko_7 pk_279)) gv12) ?_
      show K 111 [some (.inr (.inr 279))] [] v12
      refine ia_go hK ck_Re_advance_111 ?_
      show K 177 [some (.inr (.inr 279))] [] v12
      obtain rfl := Option.some.inj hm
      exact hret 177 _ dc_Re_advance_177
  · replace hm := ia_ifn hm c
    show K 88 [some (.inr (.inr 279))] [] (ia_wI h 279 12 (ia_min ((ia_i h 279 11) + 1) (ia_i h 279 7)))
    refine ia_go hK ck_Re_advance_88 ⟨gk_7 (gd_wI hg (ko_7 pk_279)) pk_279, ?_⟩
    show K 177 [some (.inr (.inr 279))] [] (ia_wI (ia_wI h 279 12 (ia_min ((ia_i h 279 11) + 1) (ia_i h 279 7))) 279 9 0)
    obtain rfl := Option.some.inj hm
    exact hret 177 _ dc_Re_advance_177
theorem gj_Re_advance_60 {w : ia_O0} {h1 : ia_H} : ∀ (h : ia_H), gd_ w h → j_Re_advance_60 h = some h1 → gd_ w h1 := by
  intro h hg hm
  unfold j_Re_advance_60 at hm
  by_cases c : (ia_i (ia_wI h 279 12 (ia_min ((ia_i h 279 11) + 1) (ia_i h 279 7))) 279 11) < (ia_i (ia_wI h 279 12 (ia_min ((ia_i h 279 11) + 1) (ia_i h 279 7))) 279 7)
  · replace hm := ia_ifp hm c
    obtain ⟨v5, hv5, hm⟩ := ia_bnd hm
    by_cases c : v5 = 0
    · replace hm := ia_ifp hm c
      obtain ⟨v6, hv6, hm⟩ := ia_bnd hm
      by_cases c : v6 = 0
      · replace hm := ia_ifp hm c
        obtain ⟨c7, hm⟩ := ia_gd_some hm
        obtain ⟨c8, hm⟩ := ia_gd_some hm
        by_cases c : (ia_i (ia_wI h 279 12 (ia_min ((ia_i h 279 11) + 1) (ia_i h 279 7))) 66 ((ia_i (ia_wI h 279 12 (ia_min ((ia_i h 279 11) + 1) (ia_i h 279 7))) 279 11).toNatClampNeg)) = 45
        · replace hm := ia_ifp hm c
          obtain rfl := Option.some.inj hm
          exact (gd_wI (gd_wI hg (ko_7 pk_279)) (ko_7 pk_279))
        · replace hm := ia_ifn hm c
          obtain ⟨c9, hm⟩ := ia_gd_some hm
          obtain ⟨c10, hm⟩ := ia_gd_some hm
          by_cases c : (ia_i (ia_wI h 279 12 (ia_min ((ia_i h 279 11) + 1) (ia_i h 279 7))) 66 ((ia_i (ia_wI h 279 12 (ia_min ((ia_i h 279 11) + 1) (ia_i h 279 7))) 279 11).toNatClampNeg)) = 59
          · replace hm := ia_ifp hm c
            obtain rfl := Option.some.inj hm
            exact (gd_wI (gd_wI hg (ko_7 pk_279)) (ko_7 pk_279))
          · replace hm := ia_ifn hm c
            obtain rfl := Option.some.inj hm
            exact (gd_wI (gd_wI hg (ko_7 pk_279)) (ko_7 pk_279))
      · replace hm := ia_ifn hm c
        obtain ⟨v11, hv11, hm⟩ := ia_bnd hm
        have gv11 := g_Re_takeDigits (gd_wI hg (ko_7 pk_279)) hv11
        obtain rfl := Option.some.inj hm
        exact gv11
    · replace hm := ia_ifn hm c
      obtain ⟨v12, hv12, hm⟩ := ia_bnd hm
      have gv12 := g_Re_takeLetters (gd_wI hg (ko_7 pk_279)) hv12
      obtain rfl := Option.some.inj hm
      exact gv12
  · replace hm := ia_ifn hm c
    obtain rfl := Option.some.inj hm
    exact (gd_wI (gd_wI hg (ko_7 pk_279)) (ko_7 pk_279))
def f_Re_advance (h : ia_H) : Option ia_H := l_Re_advance_8 (fun h => j_Re_advance_60 h) fu_ (ia_wI h 279 11 (ia_i h 279 12))
theorem g_Re_advance {w : ia_O0} {h : ia_H} (hg : gd_ w h) {q : ia_H} (hm : f_Re_advance h = some q) : gd_ w q := by
  obtain ⟨h1, e1⟩ : ∃ x, x = q := ⟨_, rfl⟩
  subst e1
  unfold f_Re_advance at hm
  refine gl_Re_advance_8 ?_ fu_ (ia_wI h 279 11 (ia_i h 279 12)) (gd_wI hg (ko_7 pk_279)) hm
  · intro h hg hm
    exact gj_Re_advance_60 h hg hm
theorem t_Re_advance {w : ia_O0} (d : Nat) {h : ia_H} (hg : gd_ w h) {q : ia_H} (hm : f_Re_advance h = some q) : ia_Ev (d + 2) mm_Re_advance [.inr (.inr 279)] h none q := by
  have gq := g_Re_advance hg hm
  refine ia_Ev_intro ok_Re_advance (gd_le hg gq).1 (gd_le hg gq).2 (Nat.le_of_ble_eq_true rfl) (fun K hK hret => ?_)
  obtain ⟨h1, e1⟩ : ∃ x, x = q := ⟨_, rfl⟩
  subst e1
  show K 0 [some (.inr (.inr 279))] [] h
  unfold f_Re_advance at hm
  refine ia_go hK ck_Re_advance_0 ⟨gk_7 hg pk_279, gk_7 hg pk_279, ?_⟩
  show K 8 [some (.inr (.inr 279))] [] (ia_wI h 279 11 (ia_i h 279 12))
  refine tl_Re_advance_8 hK hret ?_ fu_ (ia_wI h 279 11 (ia_i h 279 12)) (gd_wI hg (ko_7 pk_279)) hm
  · intro h hg hm
    exact tj_Re_advance_60 hK hret h hg hm
def mm_Re_wordOf : ia_M := (⟨"IceStreet$Reader", "wordOf", "(I)Ljava/lang/String;"⟩, prog_8_method_14_code, 1, (some (.object "java/lang/String")), 7, false)
theorem ok_Re_wordOf : ia_mok mm_Re_wordOf := ⟨by decide +kernel, by decide +kernel, by decide +kernel, by decide +kernel⟩
theorem mk_Re_wordOf : ia_mkn mm_Re_wordOf 0 1 := ⟨ia_tb_in (List.mem_of_getElem? (i := 790) (by decide +kernel)) rfl, ia_tb_in (List.mem_of_getElem? (i := 139) (by decide +kernel)) rfl, by decide +kernel, by decide +kernel, ia_tb_in (List.mem_of_getElem? (i := 789) (by decide +kernel)) rfl⟩
theorem ck_Re_wordOf_0 : ia_cks 7 1 false prog_8_method_14_code 0 [(.iload_n 0, 0, 0, 0, 0), (.tableswitch 162 0 20 #[99, 102, 105, 108, 111, 114, 117, 120, 123, 126, 129, 132, 135, 138, 141, 144, 147, 150, 153, 156, 159], 0, 0, 0, 0)] = true := by decide +kernel
theorem dc_Re_wordOf_100 : decode prog_8_method_14_code 100 = .ok (.ldc 154, 2) := by decide +kernel
theorem dc_Re_wordOf_102 : decode prog_8_method_14_code 102 = .ok (.areturn, 1) := by decide +kernel
theorem dc_Re_wordOf_103 : decode prog_8_method_14_code 103 = .ok (.ldc 156, 2) := by decide +kernel
theorem dc_Re_wordOf_105 : decode prog_8_method_14_code 105 = .ok (.areturn, 1) := by decide +kernel
theorem dc_Re_wordOf_106 : decode prog_8_method_14_code 106 = .ok (.ldc 158, 2) := by decide +kernel
theorem dc_Re_wordOf_108 : decode prog_8_method_14_code 108 = .ok (.areturn, 1) := by decide +kernel
theorem dc_Re_wordOf_109 : decode prog_8_method_14_code 109 = .ok (.ldc 160, 2) := by decide +kernel
theorem dc_Re_wordOf_111 : decode prog_8_method_14_code 111 = .ok (.areturn, 1) := by decide +kernel
theorem dc_Re_wordOf_112 : decode prog_8_method_14_code 112 = .ok (.ldc 162, 2) := by decide +kernel
theorem dc_Re_wordOf_114 : decode prog_8_method_14_code 114 = .ok (.areturn, 1) := by decide +kernel
theorem dc_Re_wordOf_115 : decode prog_8_method_14_code 115 = .ok (.ldc 164, 2) := by decide +kernel
theorem dc_Re_wordOf_117 : decode prog_8_method_14_code 117 = .ok (.areturn, 1) := by decide +kernel
theorem dc_Re_wordOf_118 : decode prog_8_method_14_code 118 = .ok (.ldc 166, 2) := by decide +kernel
theorem dc_Re_wordOf_120 : decode prog_8_method_14_code 120 = .ok (.areturn, 1) := by decide +kernel
theorem dc_Re_wordOf_121 : decode prog_8_method_14_code 121 = .ok (.ldc 168, 2) := by decide +kernel
theorem dc_Re_wordOf_123 : decode prog_8_method_14_code 123 = .ok (.areturn, 1) := by decide +kernel
theorem dc_Re_wordOf_124 : decode prog_8_method_14_code 124 = .ok (.ldc 170, 2) := by decide +kernel
theorem dc_Re_wordOf_126 : decode prog_8_method_14_code 126 = .ok (.areturn, 1) := by decide +kernel
theorem dc_Re_wordOf_127 : decode prog_8_method_14_code 127 = .ok (.ldc 172, 2) := by decide +kernel
theorem dc_Re_wordOf_129 : decode prog_8_method_14_code 129 = .ok (.areturn, 1) := by decide +kernel
theorem dc_Re_wordOf_130 : decode prog_8_method_14_code 130 = .ok (.ldc 174, 2) := by decide +kernel
theorem dc_Re_wordOf_132 : decode prog_8_method_14_code 132 = .ok (.areturn, 1) := by decide +kernel
theorem dc_Re_wordOf_133 : decode prog_8_method_14_code 133 = .ok (.ldc 176, 2) := by decide +kernel
theorem dc_Re_wordOf_135 : decode prog_8_method_14_code 135 = .ok (.areturn, 1) := by decide +kernel
theorem dc_Re_wordOf_136 : decode prog_8_method_14_code 136 = .ok (.ldc 178, 2) := by decide +kernel
theorem dc_Re_wordOf_138 : decode prog_8_method_14_code 138 = .ok (.areturn, 1) := by decide +kernel
theorem dc_Re_wordOf_139 : decode prog_8_method_14_code 139 = .ok (.ldc 180, 2) := by decide +kernel
theorem dc_Re_wordOf_141 : decode prog_8_method_14_code 141 = .ok (.areturn, 1) := by decide +kernel
theorem dc_Re_wordOf_142 : decode prog_8_method_14_code 142 = .ok (.ldc 182, 2) := by decide +kernel
theorem dc_Re_wordOf_144 : decode prog_8_method_14_code 144 = .ok (.areturn, 1) := by decide +kernel
theorem dc_Re_wordOf_145 : decode prog_8_method_14_code 145 = .ok (.ldc 184, 2) := by decide +kernel
theorem dc_Re_wordOf_147 : decode prog_8_method_14_code 147 = .ok (.areturn, 1) := by decide +kernel
theorem dc_Re_wordOf_148 : decode prog_8_method_14_code 148 = .ok (.ldc 186, 2) := by decide +kernel
theorem dc_Re_wordOf_150 : decode prog_8_method_14_code 150 = .ok (.areturn, 1) := by decide +kernel
theorem dc_Re_wordOf_151 : decode prog_8_method_14_code 151 = .ok (.ldc 188, 2) := by decide +kernel
theorem dc_Re_wordOf_153 : decode prog_8_method_14_code 153 = .ok (.areturn, 1) := by decide +kernel
theorem dc_Re_wordOf_154 : decode prog_8_method_14_code 154 = .ok (.ldc 190, 2) := by decide +kernel
theorem dc_Re_wordOf_156 : decode prog_8_method_14_code 156 = .ok (.areturn, 1) := by decide +kernel
theorem dc_Re_wordOf_157 : decode prog_8_method_14_code 157 = .ok (.ldc 192, 2) := by decide +kernel
theorem dc_Re_wordOf_159 : decode prog_8_method_14_code 159 = .ok (.areturn, 1) := by decide +kernel
theorem dc_Re_wordOf_160 : decode prog_8_method_14_code 160 = .ok (.ldc 194, 2) := by decide +kernel
theorem dc_Re_wordOf_162 : decode prog_8_method_14_code 162 = .ok (.areturn, 1) := by decide +kernel
theorem dc_Re_wordOf_163 : decode prog_8_method_14_code 163 = .ok (.ldc 196, 2) := by decide +kernel
theorem dc_Re_wordOf_165 : decode prog_8_method_14_code 165 = .ok (.areturn, 1) := by decide +kernel
def f_Re_wordOf (x0 : Int32) (h : ia_H) : Option Nat := if x0 = 0 then (some 8) else if x0 = 1 then (some 9) else if x0 = 2 then (some 10) else if x0 = 3 then (some 11) else if x0 = 4 then (some 12) else if x0 = 5 then (some 13) else if x0 = 6 then (some 14) else if x0 = 7 then (some 15) else if x0 = 8 then (some 16) else if x0 = 9 then (some 17) else if x0 = 10 then (some 18) else if x0 = 11 then (some 19) else if x0 = 12 then (some 20) else if x0 = 13 then (some 21) else if x0 = 14 then (some 22) else if x0 = 15 then (some 23) else if x0 = 16 then (some 24) else if x0 = 17 then (some 25) else if x0 = 18 then (some 26) else if x0 = 19 then (some 27) else if x0 = 20 then (some 28) else (some 29)
theorem g_Re_wordOf {x0 : Int32} {h : ia_H} {r : Nat} (hm : f_Re_wordOf x0 h = some r) : 8 ≤ r ∧ r < 44 := by
  unfold f_Re_wordOf at hm
  by_cases c1 : x0 = 0
  · replace hm := ia_ifp hm c1
    obtain rfl := Option.some.inj hm
    exact ⟨by decide, by decide⟩
  · replace hm := ia_ifn hm c1
    by_cases c2 : x0 = 1
    · replace hm := ia_ifp hm c2
      obtain rfl := Option.some.inj hm
      exact ⟨by decide, by decide⟩
    · replace hm := ia_ifn hm c2
      by_cases c3 : x0 = 2
      · replace hm := ia_ifp hm c3
        obtain rfl := Option.some.inj hm
        exact ⟨by decide, by decide⟩
      · replace hm := ia_ifn hm c3
        by_cases c4 : x0 = 3
        · replace hm := ia_ifp hm c4
          obtain rfl := Option.some.inj hm
          exact ⟨by decide, by decide⟩
        · replace hm := ia_ifn hm c4
          by_cases c5 : x0 = 4
          · replace hm := ia_ifp hm c5
            obtain rfl := Option.some.inj hm
            exact ⟨by decide, by decide⟩
          · replace hm := ia_ifn hm c5
            by_cases c6 : x0 = 5
            · replace hm := ia_ifp hm c6
              obtain rfl := Option.some.inj hm
              exact ⟨by decide, by decide⟩
            · replace hm := ia_ifn hm c6
              by_cases c7 : x0 = 6
              · replace hm := ia_ifp hm c7
                obtain rfl := Option.some.inj hm
                exact ⟨by decide, by decide⟩
              · replace hm := ia_ifn hm c7
                by_cases c8 : x0 = 7
                · replace hm := ia_ifp hm c8
                  obtain rfl := Option.some.inj hm
                  exact ⟨by decide, by decide⟩
                · replace hm := ia_ifn hm c8
                  by_cases c9 : x0 = 8
                  · replace hm := ia_ifp hm c9
                    obtain rfl := Option.some.inj hm
                    exact ⟨by decide, by decide⟩
                  · replace hm := ia_ifn hm c9
                    by_cases c10 : x0 = 9
                    · replace hm := ia_ifp hm c10
                      obtain rfl := Option.some.inj hm
                      exact ⟨by decide, by decide⟩
                    · replace hm := ia_ifn hm c10
                      by_cases c11 : x0 = 10
                      · replace hm := ia_ifp hm c11
                        obtain rfl := Option.some.inj hm
                        exact ⟨by decide, by decide⟩
                      · replace hm := ia_ifn hm c11
                        by_cases c12 : x0 = 11
                        · replace hm := ia_ifp hm c12
                          obtain rfl := Option.some.inj hm
                          exact ⟨by decide, by decide⟩
                        · replace hm := ia_ifn hm c12
                          by_cases c13 : x0 = 12
                          · replace hm := ia_ifp hm c13
                            obtain rfl := Option.some.inj hm
                            exact ⟨by decide, by decide⟩
                          · replace hm := ia_ifn hm c13
                            by_cases c14 : x0 = 13
                            · replace hm := ia_ifp hm c14
                              obtain rfl := Option.some.inj hm
                              exact ⟨by decide, by decide⟩
                            · replace hm := ia_ifn hm c14
                              by_cases c15 : x0 = 14
                              · replace hm := ia_ifp hm c15
                                obtain rfl := Option.some.inj hm
                                exact ⟨by decide, by decide⟩
                              · replace hm := ia_ifn hm c15
                                by_cases c16 : x0 = 15
                                · replace hm := ia_ifp hm c16
                                  obtain rfl := Option.some.inj hm
                                  exact ⟨by decide, by decide⟩
                                · replace hm := ia_ifn hm c16
                                  by_cases c17 : x0 = 16
                                  · replace hm := ia_ifp hm c17
                                    obtain rfl := Option.some.inj hm
                                    exact ⟨by decide, by decide⟩
                                  · replace hm := ia_ifn hm c17
                                    by_cases c18 : x0 = 17
                                    · replace hm := ia_ifp hm c18
                                      obtain rfl := Option.some.inj hm
                                      exact ⟨by decide, by decide⟩
                                    · replace hm := ia_ifn hm c18
                                      by_cases c19 : x0 = 18
                                      · replace hm := ia_ifp hm c19
                                        obtain rfl := Option.some.inj hm
                                        exact ⟨by decide, by decide⟩
                                      · replace hm := ia_ifn hm c19
                                        by_cases c20 : x0 = 19
                                        · replace hm := ia_ifp hm c20
                                          obtain rfl := Option.some.inj hm
                                          exact ⟨by decide, by decide⟩
                                        · replace hm := ia_ifn hm c20
                                          by_cases c21 : x0 = 20
                                          · replace hm := ia_ifp hm c21
                                            obtain rfl := Option.some.inj hm
                                            exact ⟨by decide, by decide⟩
                                          · replace hm := ia_ifn hm c21
                                            obtain rfl := Option.some.inj hm
                                            exact ⟨by decide, by decide⟩
theorem t_Re_wordOf {w : ia_O0} (d : Nat) {x0 : Int32} {h : ia_H} (hg : gd_ w h) {r : Nat} (hm : f_Re_wordOf x0 h = some r) : ia_Ev (d + 0) mm_Re_wordOf [.inl x0] h (some (.inr (.inr r))) h := by
  refine ia_Ev_intro ok_Re_wordOf (Nat.le_refl _) (Nat.le_refl _) (Nat.le_of_ble_eq_true rfl) (fun K hK hret => ?_)
  show K 0 [some (.inl x0)] [] h
  unfold f_Re_wordOf at hm
  refine ia_go hK ck_Re_wordOf_0 ?_
  show K (ia_tsw 1 162 0 20 #[99, 102, 105, 108, 111, 114, 117, 120, 123, 126, 129, 132, 135, 138, 141, 144, 147, 150, 153, 156, 159] x0) [some (.inl x0)] [] h
  by_cases c1 : x0 = 0
  · replace hm := ia_ifp hm c1
    rw [show ia_tsw 1 162 0 20 #[99, 102, 105, 108, 111, 114, 117, 120, 123, 126, 129, 132, 135, 138, 141, 144, 147, 150, 153, 156, 159] x0 = 100 from by rw [c1]; decide]
    refine ia_sldc hK (s := 8) ⟨by decide, by decide⟩ (by decide +kernel) dc_Re_wordOf_100 ?_
    show K 102 [some (.inl x0)] [.inr (.inr 8)] h
    obtain rfl := Option.some.inj hm
    exact hret 102 _ dc_Re_wordOf_102
  · replace hm := ia_ifn hm c1
    by_cases c2 : x0 = 1
    · replace hm := ia_ifp hm c2
      rw [show ia_tsw 1 162 0 20 #[99, 102, 105, 108, 111, 114, 117, 120, 123, 126, 129, 132, 135, 138, 141, 144, 147, 150, 153, 156, 159] x0 = 103 from by rw [c2]; decide]
      refine ia_sldc hK (s := 9) ⟨by decide, by decide⟩ (by decide +kernel) dc_Re_wordOf_103 ?_
      show K 105 [some (.inl x0)] [.inr (.inr 9)] h
      obtain rfl := Option.some.inj hm
      exact hret 105 _ dc_Re_wordOf_105
    · replace hm := ia_ifn hm c2
      by_cases c3 : x0 = 2
      · replace hm := ia_ifp hm c3
        rw [show ia_tsw 1 162 0 20 #[99, 102, 105, 108, 111, 114, 117, 120, 123, 126, 129, 132, 135, 138, 141, 144, 147, 150, 153, 156, 159] x0 = 106 from by rw [c3]; decide]
        refine ia_sldc hK (s := 10) ⟨by decide, by decide⟩ (by decide +kernel) dc_Re_wordOf_106 ?_
        show K 108 [some (.inl x0)] [.inr (.inr 10)] h
        obtain rfl := Option.some.inj hm
        exact hret 108 _ dc_Re_wordOf_108
      · replace hm := ia_ifn hm c3
        by_cases c4 : x0 = 3
        · replace hm := ia_ifp hm c4
          rw [show ia_tsw 1 162 0 20 #[99, 102, 105, 108, 111, 114, 117, 120, 123, 126, 129, 132, 135, 138, 141, 144, 147, 150, 153, 156, 159] x0 = 109 from by rw [c4]; decide]
          refine ia_sldc hK (s := 11) ⟨by decide, by decide⟩ (by decide +kernel) dc_Re_wordOf_109 ?_
          show K 111 [some (.inl x0)] [.inr (.inr 11)] h
          obtain rfl := Option.some.inj hm
          exact hret 111 _ dc_Re_wordOf_111
        · replace hm := ia_ifn hm c4
          by_cases c5 : x0 = 4
          · replace hm := ia_ifp hm c5
            rw [show ia_tsw 1 162 0 20 #[99, 102, 105, 108, 111, 114, 117, 120, 123, 126, 129, 132, 135, 138, 141, 144, 147, 150, 153, 156, 159] x0 = 112 from by rw [c5]; decide]
            refine ia_sldc hK (s := 12) ⟨by decide, by decide⟩ (by decide +kernel) dc_Re_wordOf_112 ?_
            show K 114 [some (.inl x0)] [.inr (.inr 12)] h
            obtain rfl := Option.some.inj hm
            exact hret 114 _ dc_Re_wordOf_114
          · replace hm := ia_ifn hm c5
            by_cases c6 : x0 = 5
            · replace hm := ia_ifp hm c6
              rw [show ia_tsw 1 162 0 20 #[99, 102, 105, 108, 111, 114, 117, 120, 123, 126, 129, 132, 135, 138, 141, 144, 147, 150, 153, 156, 159] x0 = 115 from by rw [c6]; decide]
              refine ia_sldc hK (s := 13) ⟨by decide, by decide⟩ (by decide +kernel) dc_Re_wordOf_115 ?_
              show K 117 [some (.inl x0)] [.inr (.inr 13)] h
              obtain rfl := Option.some.inj hm
              exact hret 117 _ dc_Re_wordOf_117
            · replace hm := ia_ifn hm c6
              by_cases c7 : x0 = 6
              · replace hm := ia_ifp hm c7
                rw [show ia_tsw 1 162 0 20 #[99, 102, 105, 108, 111, 114, 117, 120, 123, 126, 129, 132, 135, 138, 141, 144, 147, 150, 153, 156, 159] x0 = 118 from by rw [c7]; decide]
                refine ia_sldc hK (s := 14) ⟨by decide, by decide⟩ (by decide +kernel) dc_Re_wordOf_118 ?_
                show K 120 [some (.inl x0)] [.inr (.inr 14)] h
                obtain rfl := Option.some.inj hm
                exact hret 120 _ dc_Re_wordOf_120
              · replace hm := ia_ifn hm c7
                by_cases c8 : x0 = 7
                · replace hm := ia_ifp hm c8
                  rw [show ia_tsw 1 162 0 20 #[99, 102, 105, 108, 111, 114, 117, 120, 123, 126, 129, 132, 135, 138, 141, 144, 147, 150, 153, 156, 159] x0 = 121 from by rw [c8]; decide]
                  refine ia_sldc hK (s := 15) ⟨by decide, by decide⟩ (by decide +kernel) dc_Re_wordOf_121 ?_
                  show K 123 [some (.inl x0)] [.inr (.inr 15)] h
                  obtain rfl := Option.some.inj hm
                  exact hret 123 _ dc_Re_wordOf_123
                · replace hm := ia_ifn hm c8
                  by_cases c9 : x0 = 8
                  · replace hm := ia_ifp hm c9
                    rw [show ia_tsw 1 162 0 20 #[99, 102, 105, 108, 111, 114, 117, 120, 123, 126, 129, 132, 135, 138, 141, 144, 147, 150, 153, 156, 159] x0 = 124 from by rw [c9]; decide]
                    refine ia_sldc hK (s := 16) ⟨by decide, by decide⟩ (by decide +kernel) dc_Re_wordOf_124 ?_
                    show K 126 [some (.inl x0)] [.inr (.inr 16)] h
                    obtain rfl := Option.some.inj hm
                    exact hret 126 _ dc_Re_wordOf_126
                  · replace hm := ia_ifn hm c9
                    by_cases c10 : x0 = 9
                    · replace hm := ia_ifp hm c10
                      rw [show ia_tsw 1 162 0 20 #[99, 102, 105, 108, 111, 114, 117, 120, 123, 126, 129, 132, 135, 138, 141, 144, 147, 150, 153, 156, 159] x0 = 127 from by rw [c10]; decide]
                      refine ia_sldc hK (s := 17) ⟨by decide, by decide⟩ (by decide +kernel) dc_Re_wordOf_127 ?_
                      show K 129 [some (.inl x0)] [.inr (.inr 17)] h
                      obtain rfl := Option.some.inj hm
                      exact hret 129 _ dc_Re_wordOf_129
                    · replace hm := ia_ifn hm c10
                      by_cases c11 : x0 = 10
                      · replace hm := ia_ifp hm c11
                        rw [show ia_tsw 1 162 0 20 #[99, 102, 105, 108, 111, 114, 117, 120, 123, 126, 129, 132, 135, 138, 141, 144, 147, 150, 153, 156, 159] x0 = 130 from by rw [c11]; decide]
                        refine ia_sldc hK (s := 18) ⟨by decide, by decide⟩ (by decide +kernel) dc_Re_wordOf_130 ?_
                        show K 132 [some (.inl x0)] [.inr (.inr 18)] h
                        obtain rfl := Option.some.inj hm
                        exact hret 132 _ dc_Re_wordOf_132
                      · replace hm := ia_ifn hm c11
                        by_cases c12 : x0 = 11
                        · replace hm := ia_ifp hm c12
                          rw [show ia_tsw 1 162 0 20 #[99, 102, 105, 108, 111, 114, 117, 120, 123, 126, 129, 132, 135, 138, 141, 144, 147, 150, 153, 156, 159] x0 = 133 from by rw [c12]; decide]
                          refine ia_sldc hK (s := 19) ⟨by decide, by decide⟩ (by decide +kernel) dc_Re_wordOf_133 ?_
                          show K 135 [some (.inl x0)] [.inr (.inr 19)] h
                          obtain rfl := Option.some.inj hm
                          exact hret 135 _ dc_Re_wordOf_135
                        · replace hm := ia_ifn hm c12
                          by_cases c13 : x0 = 12
                          · replace hm := ia_ifp hm c13
                            rw [show ia_tsw 1 162 0 20 #[99, 102, 105, 108, 111, 114, 117, 120, 123, 126, 129, 132, 135, 138, 141, 144, 147, 150, 153, 156, 159] x0 = 136 from by rw [c13]; decide]
                            refine ia_sldc hK (s := 20) ⟨by decide, by decide⟩ (by decide +kernel) dc_Re_wordOf_136 ?_
                            show K 138 [some (.inl x0)] [.inr (.inr 20)] h
                            obtain rfl := Option.some.inj hm
                            exact hret 138 _ dc_Re_wordOf_138
                          · replace hm := ia_ifn hm c13
                            by_cases c14 : x0 = 13
                            · replace hm := ia_ifp hm c14
                              rw [show ia_tsw 1 162 0 20 #[99, 102, 105, 108, 111, 114, 117, 120, 123, 126, 129, 132, 135, 138, 141, 144, 147, 150, 153, 156, 159] x0 = 139 from by rw [c14]; decide]
                              refine ia_sldc hK (s := 21) ⟨by decide, by decide⟩ (by decide +kernel) dc_Re_wordOf_139 ?_
                              show K 141 [some (.inl x0)] [.inr (.inr 21)] h
                              obtain rfl := Option.some.inj hm
                              exact hret 141 _ dc_Re_wordOf_141
                            · replace hm := ia_ifn hm c14
                              by_cases c15 : x0 = 14
                              · replace hm := ia_ifp hm c15
                                rw [show ia_tsw 1 162 0 20 #[99, 102, 105, 108, 111, 114, 117, 120, 123, 126, 129, 132, 135, 138, 141, 144, 147, 150, 153, 156, 159] x0 = 142 from by rw [c15]; decide]
                                refine ia_sldc hK (s := 22) ⟨by decide, by decide⟩ (by decide +kernel) dc_Re_wordOf_142 ?_
                                show K 144 [some (.inl x0)] [.inr (.inr 22)] h
                                obtain rfl := Option.some.inj hm
                                exact hret 144 _ dc_Re_wordOf_144
                              · replace hm := ia_ifn hm c15
                                by_cases c16 : x0 = 15
                                · replace hm := ia_ifp hm c16
                                  rw [show ia_tsw 1 162 0 20 #[99, 102, 105, 108, 111, 114, 117, 120, 123, 126, 129, 132, 135, 138, 141, 144, 147, 150, 153, 156, 159] x0 = 145 from by rw [c16]; decide]
                                  refine ia_sldc hK (s := 23) ⟨by decide, by decide⟩ (by decide +kernel) dc_Re_wordOf_145 ?_
                                  show K 147 [some (.inl x0)] [.inr (.inr 23)] h
                                  obtain rfl := Option.some.inj hm
                                  exact hret 147 _ dc_Re_wordOf_147
                                · replace hm := ia_ifn hm c16
                                  by_cases c17 : x0 = 16
                                  · replace hm := ia_ifp hm c17
                                    rw [show ia_tsw 1 162 0 20 #[99, 102, 105, 108, 111, 114, 117, 120, 123, 126, 129, 132, 135, 138, 141, 144, 147, 150, 153, 156, 159] x0 = 148 from by rw [c17]; decide]
                                    refine ia_sldc hK (s := 24) ⟨by decide, by decide⟩ (by decide +kernel) dc_Re_wordOf_148 ?_
                                    show K 150 [some (.inl x0)] [.inr (.inr 24)] h
                                    obtain rfl := Option.some.inj hm
                                    exact hret 150 _ dc_Re_wordOf_150
                                  · replace hm := ia_ifn hm c17
                                    by_cases c18 : x0 = 17
                                    · replace hm := ia_ifp hm c18
                                      rw [show ia_tsw 1 162 0 20 #[99, 102, 105, 108, 111, 114, 117, 120, 123, 126, 129, 132, 135, 138, 141, 144, 147, 150, 153, 156, 159] x0 = 151 from by rw [c18]; decide]
                                      refine ia_sldc hK (s := 25) ⟨by decide, by decide⟩ (by decide +kernel) dc_Re_wordOf_151 ?_
                                      show K 153 [some (.inl x0)] [.inr (.inr 25)] h
                                      obtain rfl := Option.some.inj hm
                                      exact hret 153 _ dc_Re_wordOf_153
                                    · replace hm := ia_ifn hm c18
                                      by_cases c19 : x0 = 18
                                      · replace hm := ia_ifp hm c19
                                        rw [show ia_tsw 1 162 0 20 #[99, 102, 105, 108, 111, 114, 117, 120, 123, 126, 129, 132, 135, 138, 141, 144, 147, 150, 153, 156, 159] x0 = 154 from by rw [c19]; decide]
                                        refine ia_sldc hK (s := 26) ⟨by decide, by decide⟩ (by decide +kernel) dc_Re_wordOf_154 ?_
                                        show K 156 [some (.inl x0)] [.inr (.inr 26)] h
                                        obtain rfl := Option.some.inj hm
                                        exact hret 156 _ dc_Re_wordOf_156
                                      · replace hm := ia_ifn hm c19
                                        by_cases c20 : x0 = 19
                                        · replace hm := ia_ifp hm c20
                                          rw [show ia_tsw 1 162 0 20 #[99, 102, 105, 108, 111, 114, 117, 120, 123, 126, 129, 132, 135, 138, 141, 144, 147, 150, 153, 156, 159] x0 = 157 from by rw [c20]; decide]
                                          refine ia_sldc hK (s := 27) ⟨by decide, by decide⟩ (by decide +kernel) dc_Re_wordOf_157 ?_
                                          show K 159 [some (.inl x0)] [.inr (.inr 27)] h
                                          obtain rfl := Option.some.inj hm
                                          exact hret 159 _ dc_Re_wordOf_159
                                        · replace hm := ia_ifn hm c20
                                          by_cases c21 : x0 = 20
                                          · replace hm := ia_ifp hm c21
                                            rw [show ia_tsw 1 162 0 20 #[99, 102, 105, 108, 111, 114, 117, 120, 123, 126, 129, 132, 135, 138, 141, 144, 147, 150, 153, 156, 159] x0 = 160 from by rw [c21]; decide]
                                            refine ia_sldc hK (s := 28) ⟨by decide, by decide⟩ (by decide +kernel) dc_Re_wordOf_160 ?_
                                            show K 162 [some (.inl x0)] [.inr (.inr 28)] h
                                            obtain rfl := Option.some.inj hm
                                            exact hret 162 _ dc_Re_wordOf_162
                                          · replace hm := ia_ifn hm c21
                                            rw [show ia_tsw 1 162 0 20 #[99, 102, 105, 108, 111, 114, 117, 120, 123, 126, 129, 132, 135, 138, 141, 144, 147, 150, 153, 156, 159] x0 = 163 from (ia_tsw_d (fun k h1 h2 => by
                                                rcases (show k = 0 ∨ k = 1 ∨ k = 2 ∨ k = 3 ∨ k = 4 ∨ k = 5 ∨ k = 6 ∨ k = 7 ∨ k = 8 ∨ k = 9 ∨ k = 10 ∨ k = 11 ∨ k = 12 ∨ k = 13 ∨ k = 14 ∨ k = 15 ∨ k = 16 ∨ k = 17 ∨ k = 18 ∨ k = 19 ∨ k = 20 by omega) with rfl | rfl | rfl | rfl | rfl | rfl | rfl | rfl | rfl | rfl | rfl | rfl | rfl | rfl | rfl | rfl | rfl | rfl | rfl | rfl | rfl
                                                · exact c1
                                                · exact c2
                                                · exact c3
                                                · exact c4
                                                · exact c5
                                                · exact c6
                                                · exact c7
                                                · exact c8
                                                · exact c9
                                                · exact c10
                                                · exact c11
                                                · exact c12
                                                · exact c13
                                                · exact c14
                                                · exact c15
                                                · exact c16
                                                · exact c17
                                                · exact c18
                                                · exact c19
                                                · exact c20
                                                · exact c21
                                                )).trans (by decide)]
                                            refine ia_sldc hK (s := 29) ⟨by decide, by decide⟩ (by decide +kernel) dc_Re_wordOf_163 ?_
                                            show K 165 [some (.inl x0)] [.inr (.inr 29)] h
                                            obtain rfl := Option.some.inj hm
                                            exact hret 165 _ dc_Re_wordOf_165
