def mm_Re_isWord : ia_M := (⟨"IceStreet$Reader", "isWord", "(Ljava/lang/String;)Z"⟩, prog_8_method_13_code, 3, (some .boolean), 7, false)
theorem ok_Re_isWord : ia_mok mm_Re_isWord := ⟨by decide +kernel, by decide +kernel, by decide +kernel, by decide +kernel⟩
theorem mk_Re_isWord : ia_mkn mm_Re_isWord 1 1 := ⟨ia_tb_in (List.mem_of_getElem? (i := 816) (by decide +kernel)) rfl, ia_tb_in (List.mem_of_getElem? (i := 139) (by decide +kernel)) rfl, by decide +kernel, by decide +kernel, ⟨ia_tb_in (List.mem_of_getElem? (i := 815) (by decide +kernel)) rfl, ia_tb_in (List.mem_of_getElem? (i := 10) (by decide +kernel)) rfl⟩⟩
theorem ck_Re_isWord_0 : ia_cks 7 3 false prog_8_method_13_code 0 [(.aload_n 1, 0, 0, 0, 0)] = true := by decide +kernel
theorem ck_Re_isWord_4 : ia_cks 7 3 false prog_8_method_13_code 4 [(.aload_n 0, 0, 0, 0, 0), (.getfield 87, 7, 12, 0, 0), (.aload_n 0, 0, 0, 0, 0), (.getfield 99, 7, 11, 0, 0), (.isub, 0, 0, 0, 0), (.if_icmp .eq 5, 0, 0, 0, 0)] = true := by decide +kernel
theorem ck_Re_isWord_18 : ia_cks 7 3 false prog_8_method_13_code 18 [(.iconst 0, 0, 0, 0, 0), (.istore_n 2, 0, 0, 0, 0)] = true := by decide +kernel
theorem ck_Re_isWord_20 : ia_cks 7 3 false prog_8_method_13_code 20 [(.iload_n 2, 0, 0, 0, 0), (.aload_n 1, 0, 0, 0, 0)] = true := by decide +kernel
theorem ck_Re_isWord_25 : ia_cks 7 3 false prog_8_method_13_code 25 [(.if_icmp .ge 30, 0, 0, 0, 0)] = true := by decide +kernel
theorem ck_Re_isWord_28 : ia_cks 7 3 false prog_8_method_13_code 28 [(.aload_n 1, 0, 0, 0, 0), (.iload_n 2, 0, 0, 0, 0)] = true := by decide +kernel
theorem ck_Re_isWord_33 : ia_cks 7 3 false prog_8_method_13_code 33 [(.aload_n 0, 0, 0, 0, 0), (.getfield 36, 7, 6, 2, 0)] = true := by decide +kernel
theorem ck_Re_isWord_37 : ia_cks 7 3 false prog_8_method_13_code 37 [(.aload_n 0, 0, 0, 0, 0), (.getfield 99, 7, 11, 0, 0), (.iload_n 2, 0, 0, 0, 0), (.iadd, 0, 0, 0, 0), (.baload, 102, 0, 0, 0), (.if_icmp .eq 5, 0, 0, 0, 0)] = true := by decide +kernel
theorem ck_Re_isWord_49 : ia_cks 7 3 false prog_8_method_13_code 49 [(.iinc 2 1, 0, 0, 0, 0), (.goto (-32), 0, 0, 0, 0)] = true := by decide +kernel
theorem ck_Re_isWord_47 : ia_cks 7 3 false prog_8_method_13_code 47 [(.iconst 0, 0, 0, 0, 0)] = true := by decide +kernel
theorem ck_Re_isWord_55 : ia_cks 7 3 false prog_8_method_13_code 55 [(.iconst 1, 0, 0, 0, 0)] = true := by decide +kernel
theorem ck_Re_isWord_16 : ia_cks 7 3 false prog_8_method_13_code 16 [(.iconst 0, 0, 0, 0, 0)] = true := by decide +kernel
theorem dc_Re_isWord_1 : decode prog_8_method_13_code 1 = .ok (.invokevirtual 146, 3) := by decide +kernel
theorem dc_Re_isWord_22 : decode prog_8_method_13_code 22 = .ok (.invokevirtual 146, 3) := by decide +kernel
theorem dc_Re_isWord_30 : decode prog_8_method_13_code 30 = .ok (.invokevirtual 150, 3) := by decide +kernel
theorem dc_Re_isWord_48 : decode prog_8_method_13_code 48 = .ok (.ireturn, 1) := by decide +kernel
theorem dc_Re_isWord_56 : decode prog_8_method_13_code 56 = .ok (.ireturn, 1) := by decide +kernel
theorem dc_Re_isWord_17 : decode prog_8_method_13_code 17 = .ok (.ireturn, 1) := by decide +kernel
def l_Re_isWord_20 (a1 : Nat) (h : ia_H) (k47 : Option Int32) (k55 : Option Int32) (n : Nat) (x2 : Int32) : Option Int32 := match n with
  | 0 => none
  | n + 1 => if (Int32.ofNat (sl_n a1)) ≤ x2 then k55 else (ia_gd (ia_ib x2 (sl_n a1)) (ia_gd (ia_r h 279 6 == 66) (ia_gd (ia_ib ((ia_i h 279 11) + x2) 600) (if (sl_c a1 ((x2).toNatClampNeg)) = (ia_i h 66 (((ia_i h 279 11) + x2).toNatClampNeg)) then (l_Re_isWord_20 a1 h k47 k55 n (x2 + 1)) else k47))))
theorem tl_Re_isWord_20 {w : ia_O0} {d N1 W1 : Nat} {K : ia_K} (hK : ia_isK (d + 4) mm_Re_isWord N1 W1 K) {a1 : Nat} {h : ia_H} (hg : gd_ w h) (p1 : 8 ≤ a1 ∧ a1 < 44) {r : Int32} (hret : ∀ (pc : Nat) (lv : ia_L), ia_ret mm_Re_isWord pc (some (.inl r)) → K pc lv ((some (.inl r)) : Option ia_V).toList h) {k47 : Option Int32} {k55 : Option Int32} (hk47 : k47 = some r → K 47 [none, none, none] [] h) (hk55 : k55 = some r → K 55 [none, none, none] [] h) : ∀ (n : Nat) (x2 : Int32), l_Re_isWord_20 a1 h k47 k55 n x2 = some r → K 20 [some (.inr (.inr 279)), some (.inr (.inr a1)), some (.inl x2)] [] h := by
  intro n
  induction n with
  | zero =>
    intro x2 hm
    cases (show (none : Option Int32) = some _ from hm)
  | succ n ih =>
    intro x2 hm
    rw [l_Re_isWord_20] at hm
    refine ia_go hK ck_Re_isWord_20 ?_
    show K 22 [some (.inr (.inr 279)), some (.inr (.inr a1)), some (.inl x2)] [.inr (.inr a1), .inl x2] h
    refine ia_slen hK p1 (ia_tb_in (List.mem_of_getElem? (i := 817) (by decide +kernel)) rfl) dc_Re_isWord_22 (Nat.le_of_ble_eq_true rfl) ?_
    show K 25 [some (.inr (.inr 279)), some (.inr (.inr a1)), some (.inl x2)] [.inl (Int32.ofNat (sl_n a1)), .inl x2] h
    refine ia_go hK ck_Re_isWord_25 ⟨fun c => ?_, fun c => ?_⟩
    · replace hm := ia_ifp hm c
      show K 55 [some (.inr (.inr 279)), some (.inr (.inr a1)), some (.inl x2)] [] h
      refine ia_fg hK (lv' := [none, none, none]) trivial ?_
      exact hk55 hm
    · replace hm := ia_ifn hm c
      show K 28 [some (.inr (.inr 279)), some (.inr (.inr a1)), some (.inl x2)] [] h
      refine ia_go hK ck_Re_isWord_28 ?_
      show K 30 [some (.inr (.inr 279)), some (.inr (.inr a1)), some (.inl x2)] [.inl x2, .inr (.inr a1)] h
      obtain ⟨c1, hm⟩ := ia_gd_some hm
      refine ia_scat hK p1 (ia_tb_in (List.mem_of_getElem? (i := 827) (by decide +kernel)) rfl) dc_Re_isWord_30 (Nat.le_of_ble_eq_true rfl) c1 ?_
      show K 33 [some (.inr (.inr 279)), some (.inr (.inr a1)), some (.inl x2)] [.inl (sl_c a1 ((x2).toNatClampNeg))] h
      obtain ⟨c2, hm⟩ := ia_gd_some hm
      refine ia_go hK ck_Re_isWord_33 ⟨gk_7 hg pk_279, ?_⟩
      show K 37 [some (.inr (.inr 279)), some (.inr (.inr a1)), some (.inl x2)] [.inr (.inr (ia_r h 279 6)), .inl (sl_c a1 ((x2).toNatClampNeg))] h
      rw [show ia_r h 279 6 = 66 from eq_of_beq c2]
      obtain ⟨c3, hm⟩ := ia_gd_some hm
      refine ia_go hK ck_Re_isWord_37 ⟨gk_7 hg pk_279, ga_s102 hg (ka_10_0 pk_65) c3, fun c => ?_, fun c => ?_⟩
      · replace hm := ia_ifp hm c
        show K 49 [some (.inr (.inr 279)), some (.inr (.inr a1)), some (.inl x2)] [] h
        refine ia_go hK ck_Re_isWord_49 ?_
        show K 20 [some (.inr (.inr 279)), some (.inr (.inr a1)), some (.inl (x2 + 1))] [] h
        exact ih (x2 + 1) hm
      · replace hm := ia_ifn hm c
        show K 47 [some (.inr (.inr 279)), some (.inr (.inr a1)), some (.inl x2)] [] h
        refine ia_fg hK (lv' := [none, none, none]) trivial ?_
        exact hk47 hm
def f_Re_isWord (a1 : Nat) (h : ia_H) : Option Int32 := if (Int32.ofNat (sl_n a1)) = ((ia_i h 279 12) - (ia_i h 279 11)) then (l_Re_isWord_20 a1 h (some 0) (some 1) fu_ 0) else (some 0)
theorem t_Re_isWord {w : ia_O0} (d : Nat) {a1 : Nat} {h : ia_H} (hg : gd_ w h) (p1 : 8 ≤ a1 ∧ a1 < 44) {r : Int32} (hm : f_Re_isWord a1 h = some r) : ia_Ev (d + 4) mm_Re_isWord [.inr (.inr 279), .inr (.inr a1)] h (some (.inl r)) h := by
  refine ia_Ev_intro ok_Re_isWord (Nat.le_refl _) (Nat.le_refl _) (Nat.le_of_ble_eq_true rfl) (fun K hK hret => ?_)
  show K 0 [some (.inr (.inr 279)), some (.inr (.inr a1)), none] [] h
  unfold f_Re_isWord at hm
  refine ia_go hK ck_Re_isWord_0 ?_
  show K 1 [some (.inr (.inr 279)), some (.inr (.inr a1)), none] [.inr (.inr a1)] h
  refine ia_slen hK p1 (ia_tb_in (List.mem_of_getElem? (i := 817) (by decide +kernel)) rfl) dc_Re_isWord_1 (Nat.le_of_ble_eq_true rfl) ?_
  show K 4 [some (.inr (.inr 279)), some (.inr (.inr a1)), none] [.inl (Int32.ofNat (sl_n a1))] h
  refine ia_go hK ck_Re_isWord_4 ⟨gk_7 hg pk_279, gk_7 hg pk_279, fun c => ?_, fun c => ?_⟩
  · replace hm := ia_ifp hm c
    show K 18 [some (.inr (.inr 279)), some (.inr (.inr a1)), none] [] h
    refine ia_go hK ck_Re_isWord_18 ?_
    show K 20 [some (.inr (.inr 279)), some (.inr (.inr a1)), some (.inl 0)] [] h
    refine tl_Re_isWord_20 hK hg p1 hret ?_ ?_ fu_ 0 hm
    · intro hm
      refine ia_go hK ck_Re_isWord_47 ?_
      show K 48 [none, none, none] [.inl 0] h
      obtain rfl := Option.some.inj hm
      exact hret 48 _ ⟨Or.inl rfl, dc_Re_isWord_48⟩
    · intro hm
      refine ia_go hK ck_Re_isWord_55 ?_
      show K 56 [none, none, none] [.inl 1] h
      obtain rfl := Option.some.inj hm
      exact hret 56 _ ⟨Or.inr rfl, dc_Re_isWord_56⟩
  · replace hm := ia_ifn hm c
    show K 16 [some (.inr (.inr 279)), some (.inr (.inr a1)), none] [] h
    refine ia_go hK ck_Re_isWord_16 ?_
    show K 17 [some (.inr (.inr 279)), some (.inr (.inr a1)), none] [.inl 0] h
    obtain rfl := Option.some.inj hm
    exact hret 17 _ ⟨Or.inl rfl, dc_Re_isWord_17⟩
def mm_Re_lineOfWord : ia_M := (⟨"IceStreet$Reader", "lineOfWord", "()I"⟩, prog_8_method_12_code, 2, (some .int), 7, false)
theorem ok_Re_lineOfWord : ia_mok mm_Re_lineOfWord := ⟨by decide +kernel, by decide +kernel, by decide +kernel, by decide +kernel⟩
theorem mk_Re_lineOfWord : ia_mkn mm_Re_lineOfWord 1 0 := ⟨ia_tb_in (List.mem_of_getElem? (i := 785) (by decide +kernel)) rfl, ia_tb_in (List.mem_of_getElem? (i := 139) (by decide +kernel)) rfl, by decide +kernel, by decide +kernel, ⟨ia_tb_in (List.mem_of_getElem? (i := 784) (by decide +kernel)) rfl, ia_tb_in (List.mem_of_getElem? (i := 9) (by decide +kernel)) rfl⟩⟩
theorem ck_Re_lineOfWord_0 : ia_cks 7 2 false prog_8_method_12_code 0 [(.aload_n 0, 0, 0, 0, 0), (.getfield 59, 7, 9, 0, 0), (.iconst 1, 0, 0, 0, 0), (.if_icmp .ne 45, 0, 0, 0, 0)] = true := by decide +kernel
theorem ck_Re_lineOfWord_50 : ia_cks 7 2 false prog_8_method_12_code 50 [(.iconst (-1), 0, 0, 0, 0)] = true := by decide +kernel
theorem ck_Re_lineOfWord_11 : ia_cks 7 2 false prog_8_method_12_code 11 [(.aload_n 0, 0, 0, 0, 0), (.getfield 50, 7, 8, 0, 0), (.iaload, 0, 0, 0, 0), (.istore_n 1, 0, 0, 0, 0)] = true := by decide +kernel
theorem ck_Re_lineOfWord_17 : ia_cks 7 2 false prog_8_method_12_code 17 [(.iload_n 1, 0, 0, 0, 0)] = true := by decide +kernel
theorem ck_Re_lineOfWord_21 : ia_cks 7 2 false prog_8_method_12_code 21 [(.aload_n 0, 0, 0, 0, 0), (.getfield 50, 7, 8, 0, 0), (.iconst 1, 0, 0, 0, 0), (.iadd, 0, 0, 0, 0), (.iaload, 0, 0, 0, 0), (.if_icmp .ge 22, 0, 0, 0, 0)] = true := by decide +kernel
theorem ck_Re_lineOfWord_31 : ia_cks 7 2 false prog_8_method_12_code 31 [(.aload_n 0, 0, 0, 0, 0), (.iload_n 1, 0, 0, 0, 0)] = true := by decide +kernel
theorem ck_Re_lineOfWord_39 : ia_cks 7 2 false prog_8_method_12_code 39 [(.ifCond .eq 5, 0, 0, 0, 0)] = true := by decide +kernel
theorem ck_Re_lineOfWord_44 : ia_cks 7 2 false prog_8_method_12_code 44 [(.iinc 1 1, 0, 0, 0, 0), (.goto (-30), 0, 0, 0, 0)] = true := by decide +kernel
theorem ck_Re_lineOfWord_42 : ia_cks 7 2 false prog_8_method_12_code 42 [(.iload_n 1, 0, 0, 0, 0)] = true := by decide +kernel
theorem dc_Re_lineOfWord_51 : decode prog_8_method_12_code 51 = .ok (.ireturn, 1) := by decide +kernel
theorem dc_Re_lineOfWord_8 : decode prog_8_method_12_code 8 = .ok (.getstatic 135, 3) := by decide +kernel
theorem dc_Re_lineOfWord_18 : decode prog_8_method_12_code 18 = .ok (.getstatic 135, 3) := by decide +kernel
theorem dc_Re_lineOfWord_33 : decode prog_8_method_12_code 33 = .ok (.invokestatic 138, 3) := by decide +kernel
theorem dc_Re_lineOfWord_36 : decode prog_8_method_12_code 36 = .ok (.invokevirtual 142, 3) := by decide +kernel
theorem dc_Re_lineOfWord_43 : decode prog_8_method_12_code 43 = .ok (.ireturn, 1) := by decide +kernel
def l_Re_lineOfWord_17 (h : ia_H) (k42 : Int32 → Option Int32) (k50 : Option Int32) (n : Nat) (x1 : Int32) : Option Int32 := match n with
  | 0 => none
  | n + 1 => ia_gd (ia_ib ((ia_i h 279 8) + 1) 4) (if (ia_i h 3 (((ia_i h 279 8) + 1).toNatClampNeg)) ≤ x1 then k50 else ((f_Re_wordOf x1 h).bind fun v3 => ((f_Re_isWord v3 h).bind fun v4 => (if v4 = 0 then (l_Re_lineOfWord_17 h k42 k50 n (x1 + 1)) else (k42 x1)))))
theorem tl_Re_lineOfWord_17 {w : ia_O0} {d N1 W1 : Nat} {K : ia_K} (hK : ia_isK (d + 5) mm_Re_lineOfWord N1 W1 K) {h : ia_H} (hg : gd_ w h) {r : Int32} (hret : ∀ (pc : Nat) (lv : ia_L), ia_ret mm_Re_lineOfWord pc (some (.inl r)) → K pc lv ((some (.inl r)) : Option ia_V).toList h) {k42 : Int32 → Option Int32} {k50 : Option Int32} (hk42 : ∀ (x1 : Int32), k42 x1 = some r → K 42 [none, some (.inl x1)] [] h) (hk50 : k50 = some r → K 50 [none, none] [] h) : ∀ (n : Nat) (x1 : Int32), l_Re_lineOfWord_17 h k42 k50 n x1 = some r → K 17 [some (.inr (.inr 279)), some (.inl x1)] [] h := by
  intro n
  induction n with
  | zero =>
    intro x1 hm
    cases (show (none : Option Int32) = some _ from hm)
  | succ n ih =>
    intro x1 hm
    rw [l_Re_lineOfWord_17] at hm
    refine ia_go hK ck_Re_lineOfWord_17 ?_
    show K 18 [some (.inr (.inr 279)), some (.inl x1)] [.inl x1] h
    refine ia_gets3 hK (ia_tb_in (List.mem_of_getElem? (i := 786) (by decide +kernel)) rfl) dc_Re_lineOfWord_18 ?_
    show K 21 [some (.inr (.inr 279)), some (.inl x1)] [.inr (.inr 3), .inl x1] h
    obtain ⟨c2, hm⟩ := ia_gd_some hm
    refine ia_go hK ck_Re_lineOfWord_21 ⟨gk_7 hg pk_279, gs_3 hg c2, fun c => ?_, fun c => ?_⟩
    · replace hm := ia_ifp hm c
      show K 50 [some (.inr (.inr 279)), some (.inl x1)] [] h
      refine ia_fg hK (lv' := [none, none]) trivial ?_
      exact hk50 hm
    · replace hm := ia_ifn hm c
      show K 31 [some (.inr (.inr 279)), some (.inl x1)] [] h
      refine ia_go hK ck_Re_lineOfWord_31 ?_
      show K 33 [some (.inr (.inr 279)), some (.inl x1)] [.inl x1, .inr (.inr 279)] h
      obtain ⟨v3, hv3, hm⟩ := ia_bnd hm
      have ev3 := t_Re_wordOf (d + 4) hg hv3
      have gv3 := g_Re_wordOf  hv3
      refine ia_cS hK mk_Re_wordOf lk_7_138 dc_Re_lineOfWord_33 [.inl x1] [.inr (.inr 279)] rfl rfl (Nat.le_of_ble_eq_true rfl) ev3 ⟨rfl, rfl⟩ ?_
      show K 36 [some (.inr (.inr 279)), some (.inl x1)] [.inr (.inr v3), .inr (.inr 279)] h
      obtain ⟨v4, hv4, hm⟩ := ia_bnd hm
      have ev4 := t_Re_isWord (d + 0) hg gv3 hv4
      refine ia_cV hK mk_Re_isWord lk_7_142 dc_Re_lineOfWord_36 279 [.inr (.inr v3)] [] rfl rfl (Nat.le_of_ble_eq_true rfl) (by decide) rfl (gk_7 hg pk_279) ev4 ⟨rfl, rfl⟩ ?_
      show K 39 [some (.inr (.inr 279)), some (.inl x1)] [.inl v4] h
      refine ia_go hK ck_Re_lineOfWord_39 ⟨fun c => ?_, fun c => ?_⟩
      · replace hm := ia_ifp hm c
        show K 44 [some (.inr (.inr 279)), some (.inl x1)] [] h
        refine ia_go hK ck_Re_lineOfWord_44 ?_
        show K 17 [some (.inr (.inr 279)), some (.inl (x1 + 1))] [] h
        exact ih (x1 + 1) hm
      · replace hm := ia_ifn hm c
        show K 42 [some (.inr (.inr 279)), some (.inl x1)] [] h
        refine ia_fg hK (lv' := [none, some (.inl x1)]) ⟨rfl, trivial⟩ ?_
        exact hk42 x1 hm
def f_Re_lineOfWord (h : ia_H) : Option Int32 := if (ia_i h 279 9) = 1 then (ia_gd (ia_ib (ia_i h 279 8) 4) (l_Re_lineOfWord_17 h (fun x1 => some x1) (some (-1)) fu_ (ia_i h 3 ((ia_i h 279 8).toNatClampNeg)))) else (some (-1))
theorem t_Re_lineOfWord {w : ia_O0} (d : Nat) {h : ia_H} (hg : gd_ w h) {r : Int32} (hm : f_Re_lineOfWord h = some r) : ia_Ev (d + 5) mm_Re_lineOfWord [.inr (.inr 279)] h (some (.inl r)) h := by
  refine ia_Ev_intro ok_Re_lineOfWord (Nat.le_refl _) (Nat.le_refl _) (Nat.le_of_ble_eq_true rfl) (fun K hK hret => ?_)
  show K 0 [some (.inr (.inr 279)), none] [] h
  unfold f_Re_lineOfWord at hm
  refine ia_go hK ck_Re_lineOfWord_0 ⟨gk_7 hg pk_279, fun c => ?_, fun c => ?_⟩
  · replace hm := ia_ifn hm c
    show K 50 [some (.inr (.inr 279)), none] [] h
    refine ia_go hK ck_Re_lineOfWord_50 ?_
    show K 51 [some (.inr (.inr 279)), none] [.inl (-1)] h
    obtain rfl := Option.some.inj hm
    exact hret 51 _ dc_Re_lineOfWord_51
  · replace hm := ia_ifp hm c
    show K 8 [some (.inr (.inr 279)), none] [] h
    refine ia_gets3 hK (ia_tb_in (List.mem_of_getElem? (i := 786) (by decide +kernel)) rfl) dc_Re_lineOfWord_8 ?_
    show K 11 [some (.inr (.inr 279)), none] [.inr (.inr 3)] h
    obtain ⟨c1, hm⟩ := ia_gd_some hm
    refine ia_go hK ck_Re_lineOfWord_11 ⟨gk_7 hg pk_279, gs_3 hg c1, ?_⟩
    show K 17 [some (.inr (.inr 279)), some (.inl (ia_i h 3 ((ia_i h 279 8).toNatClampNeg)))] [] h
    refine tl_Re_lineOfWord_17 hK hg hret ?_ ?_ fu_ (ia_i h 3 ((ia_i h 279 8).toNatClampNeg)) hm
    · intro x1 hm
      refine ia_go hK ck_Re_lineOfWord_42 ?_
      show K 43 [none, some (.inl x1)] [.inl x1] h
      obtain rfl := Option.some.inj hm
      exact hret 43 _ dc_Re_lineOfWord_43
    · intro hm
      refine ia_go hK ck_Re_lineOfWord_50 ?_
      show K 51 [none, none] [.inl (-1)] h
      obtain rfl := Option.some.inj hm
      exact hret 51 _ dc_Re_lineOfWord_51
def mm_Re_refuse : ia_M := (⟨"IceStreet$Reader", "refuse", "()Z"⟩, prog_8_method_9_code, 1, (some .boolean), 7, false)
theorem ok_Re_refuse : ia_mok mm_Re_refuse := ⟨by decide +kernel, by decide +kernel, by decide +kernel, by decide +kernel⟩
theorem mk_Re_refuse : ia_mkn mm_Re_refuse 1 0 := ⟨ia_tb_in (List.mem_of_getElem? (i := 868) (by decide +kernel)) rfl, ia_tb_in (List.mem_of_getElem? (i := 139) (by decide +kernel)) rfl, by decide +kernel, by decide +kernel, ⟨ia_tb_in (List.mem_of_getElem? (i := 867) (by decide +kernel)) rfl, ia_tb_in (List.mem_of_getElem? (i := 11) (by decide +kernel)) rfl⟩⟩
theorem ck_Re_refuse_0 : ia_cks 7 1 false prog_8_method_9_code 0 [(.aload_n 0, 0, 0, 0, 0), (.iconst 1, 0, 0, 0, 0), (.putfield 66, 7, 3, 0, 0), (.aload_n 0, 0, 0, 0, 0), (.aload_n 0, 0, 0, 0, 0), (.getfield 99, 7, 11, 0, 0), (.putfield 84, 7, 4, 0, 0), (.iconst 0, 0, 0, 0, 0)] = true := by decide +kernel
theorem dc_Re_refuse_14 : decode prog_8_method_9_code 14 = .ok (.ireturn, 1) := by decide +kernel
def f_Re_refuse (h : ia_H) : Option (Int32 × ia_H) := some (0, ia_wI (ia_wI h 279 3 1) 279 4 (ia_i (ia_wI h 279 3 1) 279 11))
theorem g_Re_refuse {w : ia_O0} {h : ia_H} (hg : gd_ w h) {q : (Int32 × ia_H)} (hm : f_Re_refuse h = some q) : gd_ w q.2 := by
  obtain ⟨r, h1⟩ := q
  unfold f_Re_refuse at hm
  obtain ⟨rfl, rfl⟩ := Prod.mk.inj (Option.some.inj hm)
  exact (gd_wI (gd_wI hg (ko_7 pk_279)) (ko_7 pk_279))
theorem t_Re_refuse {w : ia_O0} (d : Nat) {h : ia_H} (hg : gd_ w h) {q : (Int32 × ia_H)} (hm : f_Re_refuse h = some q) : ia_Ev (d + 0) mm_Re_refuse [.inr (.inr 279)] h (some (.inl q.1)) q.2 := by
  have gq := g_Re_refuse hg hm
  refine ia_Ev_intro ok_Re_refuse (gd_le hg gq).1 (gd_le hg gq).2 (Nat.le_of_ble_eq_true rfl) (fun K hK hret => ?_)
  obtain ⟨r, h1⟩ := q
  show K 0 [some (.inr (.inr 279))] [] h
  unfold f_Re_refuse at hm
  refine ia_go hK ck_Re_refuse_0 ⟨gk_7 hg pk_279, gk_7 (gd_wI hg (ko_7 pk_279)) pk_279, gk_7 (gd_wI hg (ko_7 pk_279)) pk_279, ?_⟩
  show K 14 [some (.inr (.inr 279))] [.inl 0] (ia_wI (ia_wI h 279 3 1) 279 4 (ia_i (ia_wI h 279 3 1) 279 11))
  obtain ⟨rfl, rfl⟩ := Prod.mk.inj (Option.some.inj hm)
  exact hret 14 _ ⟨Or.inl rfl, dc_Re_refuse_14⟩
def mm_Re_note : ia_M := (⟨"IceStreet$Reader", "note", "(II)V"⟩, prog_8_method_10_code, 3, none, 7, false)
theorem ok_Re_note : ia_mok mm_Re_note := ⟨by decide +kernel, by decide +kernel, by decide +kernel, by decide +kernel⟩
theorem mk_Re_note : ia_mkn mm_Re_note 1 2 := ⟨ia_tb_in (List.mem_of_getElem? (i := 876) (by decide +kernel)) rfl, ia_tb_in (List.mem_of_getElem? (i := 139) (by decide +kernel)) rfl, by decide +kernel, by decide +kernel, ⟨ia_tb_in (List.mem_of_getElem? (i := 875) (by decide +kernel)) rfl, ia_tb_in (List.mem_of_getElem? (i := 13) (by decide +kernel)) rfl⟩⟩
theorem ck_Re_note_0 : ia_cks 7 3 false prog_8_method_10_code 0 [(.aload_n 0, 0, 0, 0, 0), (.getfield 66, 7, 3, 0, 0), (.ifCond .ne 13, 0, 0, 0, 0)] = true := by decide +kernel
theorem ck_Re_note_7 : ia_cks 7 3 false prog_8_method_10_code 7 [(.aload_n 0, 0, 0, 0, 0), (.iload_n 1, 0, 0, 0, 0), (.putfield 66, 7, 3, 0, 0), (.aload_n 0, 0, 0, 0, 0), (.iload_n 2, 0, 0, 0, 0), (.putfield 84, 7, 4, 0, 0)] = true := by decide +kernel
theorem dc_Re_note_17 : decode prog_8_method_10_code 17 = .ok (.return_, 1) := by decide +kernel
def f_Re_note (x1 : Int32) (x2 : Int32) (h : ia_H) : Option ia_H := if (ia_i h 279 3) = 0 then (some (ia_wI (ia_wI h 279 3 x1) 279 4 x2)) else (some h)
theorem g_Re_note {w : ia_O0} {x1 : Int32} {x2 : Int32} {h : ia_H} (hg : gd_ w h) {q : ia_H} (hm : f_Re_note x1 x2 h = some q) : gd_ w q := by
  obtain ⟨h1, e1⟩ : ∃ x, x = q := ⟨_, rfl⟩
  subst e1
  unfold f_Re_note at hm
  by_cases c : (ia_i h 279 3) = 0
  · replace hm := ia_ifp hm c
    obtain rfl := Option.some.inj hm
    exact (gd_wI (gd_wI hg (ko_7 pk_279)) (ko_7 pk_279))
  · replace hm := ia_ifn hm c
    obtain rfl := Option.some.inj hm
    exact hg
theorem t_Re_note {w : ia_O0} (d : Nat) {x1 : Int32} {x2 : Int32} {h : ia_H} (hg : gd_ w h) {q : ia_H} (hm : f_Re_note x1 x2 h = some q) : ia_Ev (d + 0) mm_Re_note [.inr (.inr 279), .inl x1, .inl x2] h none q := by
  have gq := g_Re_note hg hm
  refine ia_Ev_intro ok_Re_note (gd_le hg gq).1 (gd_le hg gq).2 (Nat.le_of_ble_eq_true rfl) (fun K hK hret => ?_)
  obtain ⟨h1, e1⟩ : ∃ x, x = q := ⟨_, rfl⟩
  subst e1
  show K 0 [some (.inr (.inr 279)), some (.inl x1), some (.inl x2)] [] h
  unfold f_Re_note at hm
  refine ia_go hK ck_Re_note_0 ⟨gk_7 hg pk_279, fun c => ?_, fun c => ?_⟩
  · replace hm := ia_ifn hm c
    show K 17 [some (.inr (.inr 279)), some (.inl x1), some (.inl x2)] [] h
    obtain rfl := Option.some.inj hm
    exact hret 17 _ dc_Re_note_17
  · replace hm := ia_ifp hm c
    show K 7 [some (.inr (.inr 279)), some (.inl x1), some (.inl x2)] [] h
    refine ia_go hK ck_Re_note_7 ⟨gk_7 hg pk_279, gk_7 (gd_wI hg (ko_7 pk_279)) pk_279, ?_⟩
    show K 17 [some (.inr (.inr 279)), some (.inl x1), some (.inl x2)] [] (ia_wI (ia_wI h 279 3 x1) 279 4 x2)
    obtain rfl := Option.some.inj hm
    exact hret 17 _ dc_Re_note_17
def mm_Re_openLine : ia_M := (⟨"IceStreet$Reader", "openLine", "(I)V"⟩, prog_8_method_19_code, 2, none, 7, false)
theorem ok_Re_openLine : ia_mok mm_Re_openLine := ⟨by decide +kernel, by decide +kernel, by decide +kernel, by decide +kernel⟩
theorem mk_Re_openLine : ia_mkn mm_Re_openLine 1 1 := ⟨ia_tb_in (List.mem_of_getElem? (i := 872) (by decide +kernel)) rfl, ia_tb_in (List.mem_of_getElem? (i := 139) (by decide +kernel)) rfl, by decide +kernel, by decide +kernel, ⟨ia_tb_in (List.mem_of_getElem? (i := 871) (by decide +kernel)) rfl, ia_tb_in (List.mem_of_getElem? (i := 12) (by decide +kernel)) rfl⟩⟩
theorem ck_Re_openLine_0 : ia_cks 7 2 false prog_8_method_19_code 0 [(.iload_n 1, 0, 0, 0, 0), (.bipush 6, 0, 0, 0, 0), (.if_icmp .ne 14, 0, 0, 0, 0)] = true := by decide +kernel
theorem ck_Re_openLine_17 : ia_cks 7 2 false prog_8_method_19_code 17 [(.iload_n 1, 0, 0, 0, 0), (.bipush 9, 0, 0, 0, 0), (.if_icmp .ne 16, 0, 0, 0, 0)] = true := by decide +kernel
theorem ck_Re_openLine_36 : ia_cks 7 2 false prog_8_method_19_code 36 [(.iload_n 1, 0, 0, 0, 0), (.bipush 14, 0, 0, 0, 0), (.if_icmp .ne 16, 0, 0, 0, 0)] = true := by decide +kernel
theorem ck_Re_openLine_55 : ia_cks 7 2 false prog_8_method_19_code 55 [(.iload_n 1, 0, 0, 0, 0), (.bipush 16, 0, 0, 0, 0), (.if_icmp .lt 13, 0, 0, 0, 0)] = true := by decide +kernel
theorem ck_Re_openLine_71 : ia_cks 7 2 false prog_8_method_19_code 71 [(.aload_n 0, 0, 0, 0, 0), (.getfield 90, 7, 13, 0, 0), (.bipush 6, 0, 0, 0, 0), (.if_icmp .gt 21, 0, 0, 0, 0)] = true := by decide +kernel
theorem ck_Re_openLine_98 : ia_cks 7 2 false prog_8_method_19_code 98 [(.aload_n 0, 0, 0, 0, 0), (.iconst 3, 0, 0, 0, 0), (.aload_n 0, 0, 0, 0, 0), (.getfield 99, 7, 11, 0, 0)] = true := by decide +kernel
theorem ck_Re_openLine_80 : ia_cks 7 2 false prog_8_method_19_code 80 [(.aload_n 0, 0, 0, 0, 0), (.getfield 93, 7, 14, 0, 0), (.bipush 12, 0, 0, 0, 0), (.if_icmp .gt 12, 0, 0, 0, 0)] = true := by decide +kernel
theorem ck_Re_openLine_89 : ia_cks 7 2 false prog_8_method_19_code 89 [(.aload_n 0, 0, 0, 0, 0), (.getfield 96, 7, 15, 0, 0), (.bipush 30, 0, 0, 0, 0), (.if_icmp .le 12, 0, 0, 0, 0)] = true := by decide +kernel
theorem ck_Re_openLine_61 : ia_cks 7 2 false prog_8_method_19_code 61 [(.aload_n 0, 0, 0, 0, 0), (.dup, 0, 0, 0, 0), (.getfield 96, 7, 15, 0, 0), (.iconst 1, 0, 0, 0, 0), (.iadd, 0, 0, 0, 0), (.putfield 96, 7, 15, 0, 0)] = true := by decide +kernel
theorem ck_Re_openLine_42 : ia_cks 7 2 false prog_8_method_19_code 42 [(.aload_n 0, 0, 0, 0, 0), (.dup, 0, 0, 0, 0), (.getfield 93, 7, 14, 0, 0), (.iconst 1, 0, 0, 0, 0), (.iadd, 0, 0, 0, 0), (.putfield 93, 7, 14, 0, 0), (.goto 19, 0, 0, 0, 0)] = true := by decide +kernel
theorem ck_Re_openLine_23 : ia_cks 7 2 false prog_8_method_19_code 23 [(.aload_n 0, 0, 0, 0, 0), (.dup, 0, 0, 0, 0), (.getfield 90, 7, 13, 0, 0), (.iconst 1, 0, 0, 0, 0), (.iadd, 0, 0, 0, 0), (.putfield 90, 7, 13, 0, 0), (.goto 38, 0, 0, 0, 0)] = true := by decide +kernel
theorem ck_Re_openLine_6 : ia_cks 7 2 false prog_8_method_19_code 6 [(.aload_n 0, 0, 0, 0, 0), (.getfield 12, 7, 0, 3, 1), (.iconst 0, 0, 0, 0, 0), (.putfield 226, 3, 10, 0, 0), (.goto 57, 0, 0, 0, 0)] = true := by decide +kernel
theorem dc_Re_openLine_104 : decode prog_8_method_19_code 104 = .ok (.invokevirtual 72, 3) := by decide +kernel
theorem dc_Re_openLine_107 : decode prog_8_method_19_code 107 = .ok (.return_, 1) := by decide +kernel
def j_Re_openLine_98 (x1 : Int32) (h : ia_H) : Option ia_H := (f_Re_note 3 (ia_i h 279 11) h).bind fun v1 => (some v1)
theorem tj_Re_openLine_98 {w : ia_O0} {d N1 W1 : Nat} {K : ia_K} (hK : ia_isK (d + 1) mm_Re_openLine N1 W1 K) {x1 : Int32} {h1 : ia_H} (hret : ∀ (pc : Nat) (lv : ia_L), ia_ret mm_Re_openLine pc none → K pc lv (none : Option ia_V).toList h1) : ∀ (h : ia_H), gd_ w h → j_Re_openLine_98 x1 h = some h1 → K 98 [some (.inr (.inr 279)), none] [] h := by
  intro h hg hm
  unfold j_Re_openLine_98 at hm
  refine ia_go hK ck_Re_openLine_98 ⟨gk_7 hg pk_279, ?_⟩
  show K 104 [some (.inr (.inr 279)), none] [.inl (ia_i h 279 11), .inl 3, .inr (.inr 279)] h
  obtain ⟨v1, hv1, hm⟩ := ia_bnd hm
  have ev1 := t_Re_note (d + 0) hg hv1
  have gv1 := g_Re_note hg hv1
  refine ia_cV hK mk_Re_note lk_7_72 dc_Re_openLine_104 279 [.inl 3, .inl (ia_i h 279 11)] [] rfl rfl (Nat.le_of_ble_eq_true rfl) (by decide) rfl (gk_7 hg pk_279) ev1 (gd_nm hg gv1) ?_
  show K 107 [some (.inr (.inr 279)), none] [] v1
  obtain rfl := Option.some.inj hm
  exact hret 107 _ dc_Re_openLine_107
theorem gj_Re_openLine_98 {w : ia_O0} {x1 : Int32} {h1 : ia_H} : ∀ (h : ia_H), gd_ w h → j_Re_openLine_98 x1 h = some h1 → gd_ w h1 := by
  intro h hg hm
  unfold j_Re_openLine_98 at hm
  obtain ⟨v1, hv1, hm⟩ := ia_bnd hm
  have gv1 := g_Re_note hg hv1
  obtain rfl := Option.some.inj hm
  exact gv1
def j_Re_openLine_71 (x1 : Int32) (h : ia_H) : Option ia_H := if 6 < (ia_i h 279 13) then (j_Re_openLine_98 x1 h) else (if 12 < (ia_i h 279 14) then (j_Re_openLine_98 x1 h) else (if (ia_i h 279 15) ≤ 30 then (some h) else (j_Re_openLine_98 x1 h)))
theorem tj_Re_openLine_71 {w : ia_O0} {d N1 W1 : Nat} {K : ia_K} (hK : ia_isK (d + 1) mm_Re_openLine N1 W1 K) {x1 : Int32} {h1 : ia_H} (hret : ∀ (pc : Nat) (lv : ia_L), ia_ret mm_Re_openLine pc none → K pc lv (none : Option ia_V).toList h1) : ∀ (h : ia_H), gd_ w h → j_Re_openLine_71 x1 h = some h1 → K 71 [some (.inr (.inr 279)), none] [] h := by
  intro h hg hm
  unfold j_Re_openLine_71 at hm
  refine ia_go hK ck_Re_openLine_71 ⟨gk_7 hg pk_279, fun c => ?_, fun c => ?_⟩
  · replace hm := ia_ifp hm c
    show K 98 [some (.inr (.inr 279)), none] [] h
    exact tj_Re_openLine_98 hK hret h hg hm
  · replace hm := ia_ifn hm c
    show K 80 [some (.inr (.inr 279)), none] [] h
    refine ia_go hK ck_Re_openLine_80 ⟨gk_7 hg pk_279, fun c => ?_, fun c => ?_⟩
    · replace hm := ia_ifp hm c
      show K 98 [some (.inr (.inr 279)), none] [] h
      exact tj_Re_openLine_98 hK hret h hg hm
    · replace hm := ia_ifn hm c
      show K 89 [some (.inr (.inr 279)), none] [] h
      refine ia_go hK ck_Re_openLine_89 ⟨gk_7 hg pk_279, fun c => ?_, fun c => ?_⟩
      · replace hm := ia_ifp hm c
        show K 107 [some (.inr (.inr 279)), none] [] h
        obtain rfl := Option.some.inj hm
        exact hret 107 _ dc_Re_openLine_107
      · replace hm := ia_ifn hm c
        show K 98 [some (.inr (.inr 279)), none] [] h
        exact tj_Re_openLine_98 hK hret h hg hm
theorem gj_Re_openLine_71 {w : ia_O0} {x1 : Int32} {h1 : ia_H} : ∀ (h : ia_H), gd_ w h → j_Re_openLine_71 x1 h = some h1 → gd_ w h1 := by
  intro h hg hm
  unfold j_Re_openLine_71 at hm
  by_cases c : 6 < (ia_i h 279 13)
  · replace hm := ia_ifp hm c
    exact gj_Re_openLine_98 h hg hm
  · replace hm := ia_ifn hm c
    by_cases c : 12 < (ia_i h 279 14)
    · replace hm := ia_ifp hm c
      exact gj_Re_openLine_98 h hg hm
    · replace hm := ia_ifn hm c
      by_cases c : (ia_i h 279 15) ≤ 30
      · replace hm := ia_ifp hm c
        obtain rfl := Option.some.inj hm
        exact hg
      · replace hm := ia_ifn hm c
        exact gj_Re_openLine_98 h hg hm
def f_Re_openLine (x1 : Int32) (h : ia_H) : Option ia_H := if x1 = 6 then (j_Re_openLine_71 x1 (ia_wI h 280 10 0)) else (if x1 = 9 then (j_Re_openLine_71 x1 (ia_wI h 279 13 ((ia_i h 279 13) + 1))) else (if x1 = 14 then (j_Re_openLine_71 x1 (ia_wI h 279 14 ((ia_i h 279 14) + 1))) else (if x1 < 16 then (j_Re_openLine_71 x1 h) else (j_Re_openLine_71 x1 (ia_wI h 279 15 ((ia_i h 279 15) + 1))))))
theorem g_Re_openLine {w : ia_O0} {x1 : Int32} {h : ia_H} (hg : gd_ w h) {q : ia_H} (hm : f_Re_openLine x1 h = some q) : gd_ w q := by
  obtain ⟨h1, e1⟩ : ∃ x, x = q := ⟨_, rfl⟩
  subst e1
  unfold f_Re_openLine at hm
  by_cases c : x1 = 6
  · replace hm := ia_ifp hm c
    exact gj_Re_openLine_71 (ia_wI h 280 10 0) (gd_wI hg (ko_3 (ka_7_0 pk_279))) hm
  · replace hm := ia_ifn hm c
    by_cases c : x1 = 9
    · replace hm := ia_ifp hm c
      exact gj_Re_openLine_71 (ia_wI h 279 13 ((ia_i h 279 13) + 1)) (gd_wI hg (ko_7 pk_279)) hm
    · replace hm := ia_ifn hm c
      by_cases c : x1 = 14
      · replace hm := ia_ifp hm c
        exact gj_Re_openLine_71 (ia_wI h 279 14 ((ia_i h 279 14) + 1)) (gd_wI hg (ko_7 pk_279)) hm
      · replace hm := ia_ifn hm c
        by_cases c : x1 < 16
        · replace hm := ia_ifp hm c
          exact gj_Re_openLine_71 h hg hm
        · replace hm := ia_ifn hm c
          exact gj_Re_openLine_71 (ia_wI h 279 15 ((ia_i h 279 15) + 1)) (gd_wI hg (ko_7 pk_279)) hm
theorem t_Re_openLine {w : ia_O0} (d : Nat) {x1 : Int32} {h : ia_H} (hg : gd_ w h) {q : ia_H} (hm : f_Re_openLine x1 h = some q) : ia_Ev (d + 1) mm_Re_openLine [.inr (.inr 279), .inl x1] h none q := by
  have gq := g_Re_openLine hg hm
  refine ia_Ev_intro ok_Re_openLine (gd_le hg gq).1 (gd_le hg gq).2 (Nat.le_of_ble_eq_true rfl) (fun K hK hret => ?_)
  obtain ⟨h1, e1⟩ : ∃ x, x = q := ⟨_, rfl⟩
  subst e1
  show K 0 [some (.inr (.inr 279)), some (.inl x1)] [] h
  unfold f_Re_openLine at hm
  refine ia_go hK ck_Re_openLine_0 ⟨fun c => ?_, fun c => ?_⟩
  · replace hm := ia_ifn hm c
    show K 17 [some (.inr (.inr 279)), some (.inl x1)] [] h
    refine ia_go hK ck_Re_openLine_17 ⟨fun c => ?_, fun c => ?_⟩
    · replace hm := ia_ifn hm c
      show K 36 [some (.inr (.inr 279)), some (.inl x1)] [] h
      refine ia_go hK ck_Re_openLine_36 ⟨fun c => ?_, fun c => ?_⟩
      · replace hm := ia_ifn hm c
        show K 55 [some (.inr (.inr 279)), some (.inl x1)] [] h
        refine ia_go hK ck_Re_openLine_55 ⟨fun c => ?_, fun c => ?_⟩
        · replace hm := ia_ifp hm c
          show K 71 [some (.inr (.inr 279)), some (.inl x1)] [] h
          refine ia_fg hK (lv' := [some (.inr (.inr 279)), none]) ⟨rfl, trivial⟩ ?_
          exact tj_Re_openLine_71 hK hret h hg hm
        · replace hm := ia_ifn hm c
          show K 61 [some (.inr (.inr 279)), some (.inl x1)] [] h
          refine ia_go hK ck_Re_openLine_61 ⟨gk_7 hg pk_279, gk_7 hg pk_279, ?_⟩
          show K 71 [some (.inr (.inr 279)), some (.inl x1)] [] (ia_wI h 279 15 ((ia_i h 279 15) + 1))
          refine ia_fg hK (lv' := [some (.inr (.inr 279)), none]) ⟨rfl, trivial⟩ ?_
          exact tj_Re_openLine_71 hK hret (ia_wI h 279 15 ((ia_i h 279 15) + 1)) (gd_wI hg (ko_7 pk_279)) hm
      · replace hm := ia_ifp hm c
        show K 42 [some (.inr (.inr 279)), some (.inl x1)] [] h
        refine ia_go hK ck_Re_openLine_42 ⟨gk_7 hg pk_279, gk_7 hg pk_279, ?_⟩
        show K 71 [some (.inr (.inr 279)), some (.inl x1)] [] (ia_wI h 279 14 ((ia_i h 279 14) + 1))
        refine ia_fg hK (lv' := [some (.inr (.inr 279)), none]) ⟨rfl, trivial⟩ ?_
        exact tj_Re_openLine_71 hK hret (ia_wI h 279 14 ((ia_i h 279 14) + 1)) (gd_wI hg (ko_7 pk_279)) hm
    · replace hm := ia_ifp hm c
      show K 23 [some (.inr (.inr 279)), some (.inl x1)] [] h
      refine ia_go hK ck_Re_openLine_23 ⟨gk_7 hg pk_279, gk_7 hg pk_279, ?_⟩
      show K 71 [some (.inr (.inr 279)), some (.inl x1)] [] (ia_wI h 279 13 ((ia_i h 279 13) + 1))
      refine ia_fg hK (lv' := [some (.inr (.inr 279)), none]) ⟨rfl, trivial⟩ ?_
      exact tj_Re_openLine_71 hK hret (ia_wI h 279 13 ((ia_i h 279 13) + 1)) (gd_wI hg (ko_7 pk_279)) hm
  · replace hm := ia_ifp hm c
    show K 6 [some (.inr (.inr 279)), some (.inl x1)] [] h
    refine ia_go hK ck_Re_openLine_6 ⟨gk_7 hg pk_279, gr_7_0 hg pk_279, gk_3 hg (ka_7_0 pk_279), ?_⟩
    show K 71 [some (.inr (.inr 279)), some (.inl x1)] [] (ia_wI h 280 10 0)
    refine ia_fg hK (lv' := [some (.inr (.inr 279)), none]) ⟨rfl, trivial⟩ ?_
    exact tj_Re_openLine_71 hK hret (ia_wI h 280 10 0) (gd_wI hg (ko_3 (ka_7_0 pk_279))) hm
def mm_Re_numbersOf : ia_M := (⟨"IceStreet$Reader", "numbersOf", "(I)Ljava/lang/String;"⟩, prog_8_method_15_code, 1, (some (.object "java/lang/String")), 7, false)
theorem ok_Re_numbersOf : ia_mok mm_Re_numbersOf := ⟨by decide +kernel, by decide +kernel, by decide +kernel, by decide +kernel⟩
theorem mk_Re_numbersOf : ia_mkn mm_Re_numbersOf 0 1 := ⟨ia_tb_in (List.mem_of_getElem? (i := 883) (by decide +kernel)) rfl, ia_tb_in (List.mem_of_getElem? (i := 139) (by decide +kernel)) rfl, by decide +kernel, by decide +kernel, ia_tb_in (List.mem_of_getElem? (i := 882) (by decide +kernel)) rfl⟩
theorem ck_Re_numbersOf_0 : ia_cks 7 1 false prog_8_method_15_code 0 [(.iload_n 0, 0, 0, 0, 0), (.tableswitch 141 0 20 #[99, 141, 102, 105, 105, 108, 111, 114, 138, 117, 141, 120, 123, 141, 108, 138, 126, 129, 132, 135, 138], 0, 0, 0, 0)] = true := by decide +kernel
theorem dc_Re_numbersOf_100 : decode prog_8_method_15_code 100 = .ok (.ldc 198, 2) := by decide +kernel
theorem dc_Re_numbersOf_102 : decode prog_8_method_15_code 102 = .ok (.areturn, 1) := by decide +kernel
theorem dc_Re_numbersOf_142 : decode prog_8_method_15_code 142 = .ok (.ldc 224, 2) := by decide +kernel
theorem dc_Re_numbersOf_144 : decode prog_8_method_15_code 144 = .ok (.areturn, 1) := by decide +kernel
theorem dc_Re_numbersOf_103 : decode prog_8_method_15_code 103 = .ok (.ldc 200, 2) := by decide +kernel
theorem dc_Re_numbersOf_105 : decode prog_8_method_15_code 105 = .ok (.areturn, 1) := by decide +kernel
theorem dc_Re_numbersOf_106 : decode prog_8_method_15_code 106 = .ok (.ldc 202, 2) := by decide +kernel
theorem dc_Re_numbersOf_108 : decode prog_8_method_15_code 108 = .ok (.areturn, 1) := by decide +kernel
theorem dc_Re_numbersOf_109 : decode prog_8_method_15_code 109 = .ok (.ldc 204, 2) := by decide +kernel
theorem dc_Re_numbersOf_111 : decode prog_8_method_15_code 111 = .ok (.areturn, 1) := by decide +kernel
theorem dc_Re_numbersOf_112 : decode prog_8_method_15_code 112 = .ok (.ldc 206, 2) := by decide +kernel
theorem dc_Re_numbersOf_114 : decode prog_8_method_15_code 114 = .ok (.areturn, 1) := by decide +kernel
theorem dc_Re_numbersOf_115 : decode prog_8_method_15_code 115 = .ok (.ldc 208, 2) := by decide +kernel
theorem dc_Re_numbersOf_117 : decode prog_8_method_15_code 117 = .ok (.areturn, 1) := by decide +kernel
theorem dc_Re_numbersOf_139 : decode prog_8_method_15_code 139 = .ok (.ldc 222, 2) := by decide +kernel
theorem dc_Re_numbersOf_141 : decode prog_8_method_15_code 141 = .ok (.areturn, 1) := by decide +kernel
theorem dc_Re_numbersOf_118 : decode prog_8_method_15_code 118 = .ok (.ldc 210, 2) := by decide +kernel
theorem dc_Re_numbersOf_120 : decode prog_8_method_15_code 120 = .ok (.areturn, 1) := by decide +kernel
theorem dc_Re_numbersOf_121 : decode prog_8_method_15_code 121 = .ok (.ldc 212, 2) := by decide +kernel
theorem dc_Re_numbersOf_123 : decode prog_8_method_15_code 123 = .ok (.areturn, 1) := by decide +kernel
theorem dc_Re_numbersOf_124 : decode prog_8_method_15_code 124 = .ok (.ldc 214, 2) := by decide +kernel
theorem dc_Re_numbersOf_126 : decode prog_8_method_15_code 126 = .ok (.areturn, 1) := by decide +kernel
theorem dc_Re_numbersOf_127 : decode prog_8_method_15_code 127 = .ok (.ldc 196, 2) := by decide +kernel
theorem dc_Re_numbersOf_129 : decode prog_8_method_15_code 129 = .ok (.areturn, 1) := by decide +kernel
theorem dc_Re_numbersOf_130 : decode prog_8_method_15_code 130 = .ok (.ldc 216, 2) := by decide +kernel
theorem dc_Re_numbersOf_132 : decode prog_8_method_15_code 132 = .ok (.areturn, 1) := by decide +kernel
theorem dc_Re_numbersOf_133 : decode prog_8_method_15_code 133 = .ok (.ldc 218, 2) := by decide +kernel
theorem dc_Re_numbersOf_135 : decode prog_8_method_15_code 135 = .ok (.areturn, 1) := by decide +kernel
theorem dc_Re_numbersOf_136 : decode prog_8_method_15_code 136 = .ok (.ldc 220, 2) := by decide +kernel
theorem dc_Re_numbersOf_138 : decode prog_8_method_15_code 138 = .ok (.areturn, 1) := by decide +kernel
def f_Re_numbersOf (x0 : Int32) (h : ia_H) : Option Nat := if x0 = 0 then (some 30) else if x0 = 1 then (some 43) else if x0 = 2 then (some 31) else if x0 = 3 then (some 32) else if x0 = 4 then (some 32) else if x0 = 5 then (some 33) else if x0 = 6 then (some 34) else if x0 = 7 then (some 35) else if x0 = 8 then (some 42) else if x0 = 9 then (some 36) else if x0 = 10 then (some 43) else if x0 = 11 then (some 37) else if x0 = 12 then (some 38) else if x0 = 13 then (some 43) else if x0 = 14 then (some 33) else if x0 = 15 then (some 42) else if x0 = 16 then (some 29) else if x0 = 17 then (some 39) else if x0 = 18 then (some 40) else if x0 = 19 then (some 41) else if x0 = 20 then (some 42) else (some 43)
theorem g_Re_numbersOf {x0 : Int32} {h : ia_H} {r : Nat} (hm : f_Re_numbersOf x0 h = some r) : 8 ≤ r ∧ r < 44 := by
  unfold f_Re_numbersOf at hm
  by_cases c1 : x0 = 0
  · replace hm := ia_ifp hm c1
    obtain rfl := Option.some.inj hm
    exact ⟨by decide, by decide⟩
  · replace hm := ia_ifn hm c1
    by_cases c2 : x0 = 1
    · replace hm := ia_ifp hm c2
      obtain rfl := Option.some.inj hm
      exact ⟨by decide, by decide⟩
    · replace hm := ia_ifn hm c2
      by_cases c3 : x0 = 2
      · replace hm := ia_ifp hm c3
        obtain rfl := Option.some.inj hm
        exact ⟨by decide, by decide⟩
      · replace hm := ia_ifn hm c3
        by_cases c4 : x0 = 3
        · replace hm := ia_ifp hm c4
          obtain rfl := Option.some.inj hm
          exact ⟨by decide, by decide⟩
        · replace hm := ia_ifn hm c4
          by_cases c5 : x0 = 4
          · replace hm := ia_ifp hm c5
            obtain rfl := Option.some.inj hm
            exact ⟨by decide, by decide⟩
          · replace hm := ia_ifn hm c5
            by_cases c6 : x0 = 5
            · replace hm := ia_ifp hm c6
              obtain rfl := Option.some.inj hm
              exact ⟨by decide, by decide⟩
            · replace hm := ia_ifn hm c6
              by_cases c7 : x0 = 6
              · replace hm := ia_ifp hm c7
                obtain rfl := Option.some.inj hm
                exact ⟨by decide, by decide⟩
              · replace hm := ia_ifn hm c7
                by_cases c8 : x0 = 7
                · replace hm := ia_ifp hm c8
                  obtain rfl := Option.some.inj hm
                  exact ⟨by decide, by decide⟩
                · replace hm := ia_ifn hm c8
                  by_cases c9 : x0 = 8
                  · replace hm := ia_ifp hm c9
                    obtain rfl := Option.some.inj hm
                    exact ⟨by decide, by decide⟩
                  · replace hm := ia_ifn hm c9
                    by_cases c10 : x0 = 9
                    · replace hm := ia_ifp hm c10
                      obtain rfl := Option.some.inj hm
                      exact ⟨by decide, by decide⟩
                    · replace hm := ia_ifn hm c10
                      by_cases c11 : x0 = 10
                      · replace hm := ia_ifp hm c11
                        obtain rfl := Option.some.inj hm
                        exact ⟨by decide, by decide⟩
                      · replace hm := ia_ifn hm c11
                        by_cases c12 : x0 = 11
                        · replace hm := ia_ifp hm c12
                          obtain rfl := Option.some.inj hm
                          exact ⟨by decide, by decide⟩
                        · replace hm := ia_ifn hm c12
                          by_cases c13 : x0 = 12
                          · replace hm := ia_ifp hm c13
                            obtain rfl := Option.some.inj hm
                            exact ⟨by decide, by decide⟩
                          · replace hm := ia_ifn hm c13
                            by_cases c14 : x0 = 13
                            · replace hm := ia_ifp hm c14
                              obtain rfl := Option.some.inj hm
                              exact ⟨by decide, by decide⟩
                            · replace hm := ia_ifn hm c14
                              by_cases c15 : x0 = 14
                              · replace hm := ia_ifp hm c15
                                obtain rfl := Option.some.inj hm
                                exact ⟨by decide, by decide⟩
                              · replace hm := ia_ifn hm c15
                                by_cases c16 : x0 = 15
                                · replace hm := ia_ifp hm c16
                                  obtain rfl := Option.some.inj hm
                                  exact ⟨by decide, by decide⟩
                                · replace hm := ia_ifn hm c16
                                  by_cases c17 : x0 = 16
                                  · replace hm := ia_ifp hm c17
                                    obtain rfl := Option.some.inj hm
                                    exact ⟨by decide, by decide⟩
                                  · replace hm := ia_ifn hm c17
                                    by_cases c18 : x0 = 17
                                    · replace hm := ia_ifp hm c18
                                      obtain rfl := Option.some.inj hm
                                      exact ⟨by decide, by decide⟩
                                    · replace hm := ia_ifn hm c18
                                      by_cases c19 : x0 = 18
                                      · replace hm := ia_ifp hm c19
                                        obtain rfl := Option.some.inj hm
                                        exact ⟨by decide, by decide⟩
                                      · replace hm := ia_ifn hm c19
                                        by_cases c20 : x0 = 19
                                        · replace hm := ia_ifp hm c20
                                          obtain rfl := Option.some.inj hm
                                          exact ⟨by decide, by decide⟩
                                        · replace hm := ia_ifn hm c20
                                          by_cases c21 : x0 = 20
                                          · replace hm := ia_ifp hm c21
                                            obtain rfl := Option.some.inj hm
                                            exact ⟨by decide, by decide⟩
                                          · replace hm := ia_ifn hm c21
                                            obtain rfl := Option.some.inj hm
                                            exact ⟨by decide, by decide⟩
theorem t_Re_numbersOf {w : ia_O0} (d : Nat) {x0 : Int32} {h : ia_H} (hg : gd_ w h) {r : Nat} (hm : f_Re_numbersOf x0 h = some r) : ia_Ev (d + 0) mm_Re_numbersOf [.inl x0] h (some (.inr (.inr r))) h := by
  refine ia_Ev_intro ok_Re_numbersOf (Nat.le_refl _) (Nat.le_refl _) (Nat.le_of_ble_eq_true rfl) (fun K hK hret => ?_)
  show K 0 [some (.inl x0)] [] h
  unfold f_Re_numbersOf at hm
  refine ia_go hK ck_Re_numbersOf_0 ?_
  show K (ia_tsw 1 141 0 20 #[99, 141, 102, 105, 105, 108, 111, 114, 138, 117, 141, 120, 123, 141, 108, 138, 126, 129, 132, 135, 138] x0) [some (.inl x0)] [] h
  by_cases c1 : x0 = 0
  · replace hm := ia_ifp hm c1
    rw [show ia_tsw 1 141 0 20 #[99, 141, 102, 105, 105, 108, 111, 114, 138, 117, 141, 120, 123, 141, 108, 138, 126, 129, 132, 135, 138] x0 = 100 from by rw [c1]; decide]
    refine ia_sldc hK (s := 30) ⟨by decide, by decide⟩ (by decide +kernel) dc_Re_numbersOf_100 ?_
    show K 102 [some (.inl x0)] [.inr (.inr 30)] h
    obtain rfl := Option.some.inj hm
    exact hret 102 _ dc_Re_numbersOf_102
  · replace hm := ia_ifn hm c1
    by_cases c2 : x0 = 1
    · replace hm := ia_ifp hm c2
      rw [show ia_tsw 1 141 0 20 #[99, 141, 102, 105, 105, 108, 111, 114, 138, 117, 141, 120, 123, 141, 108, 138, 126, 129, 132, 135, 138] x0 = 142 from by rw [c2]; decide]
      refine ia_sldc hK (s := 43) ⟨by decide, by decide⟩ (by decide +kernel) dc_Re_numbersOf_142 ?_
      show K 144 [some (.inl x0)] [.inr (.inr 43)] h
      obtain rfl := Option.some.inj hm
      exact hret 144 _ dc_Re_numbersOf_144
    · replace hm := ia_ifn hm c2
      by_cases c3 : x0 = 2
      · replace hm := ia_ifp hm c3
        rw [show ia_tsw 1 141 0 20 #[99, 141, 102, 105, 105, 108, 111, 114, 138, 117, 141, 120, 123, 141, 108, 138, 126, 129, 132, 135, 138] x0 = 103 from by rw [c3]; decide]
        refine ia_sldc hK (s := 31) ⟨by decide, by decide⟩ (by decide +kernel) dc_Re_numbersOf_103 ?_
        show K 105 [some (.inl x0)] [.inr (.inr 31)] h
        obtain rfl := Option.some.inj hm
        exact hret 105 _ dc_Re_numbersOf_105
      · replace hm := ia_ifn hm c3
        by_cases c4 : x0 = 3
        · replace hm := ia_ifp hm c4
          rw [show ia_tsw 1 141 0 20 #[99, 141, 102, 105, 105, 108, 111, 114, 138, 117, 141, 120, 123, 141, 108, 138, 126, 129, 132, 135, 138] x0 = 106 from by rw [c4]; decide]
          refine ia_sldc hK (s := 32) ⟨by decide, by decide⟩ (by decide +kernel) dc_Re_numbersOf_106 ?_
          show K 108 [some (.inl x0)] [.inr (.inr 32)] h
          obtain rfl := Option.some.inj hm
          exact hret 108 _ dc_Re_numbersOf_108
        · replace hm := ia_ifn hm c4
          by_cases c5 : x0 = 4
          · replace hm := ia_ifp hm c5
            rw [show ia_tsw 1 141 0 20 #[99, 141, 102, 105, 105, 108, 111, 114, 138, 117, 141, 120, 123, 141, 108, 138, 126, 129, 132, 135, 138] x0 = 106 from by rw [c5]; decide]
            refine ia_sldc hK (s := 32) ⟨by decide, by decide⟩ (by decide +kernel) dc_Re_numbersOf_106 ?_
            show K 108 [some (.inl x0)] [.inr (.inr 32)] h
            obtain rfl := Option.some.inj hm
            exact hret 108 _ dc_Re_numbersOf_108
          · replace hm := ia_ifn hm c5
            by_cases c6 : x0 = 5
            · replace hm := ia_ifp hm c6
              rw [show ia_tsw 1 141 0 20 #[99, 141, 102, 105, 105, 108, 111, 114, 138, 117, 141, 120, 123, 141, 108, 138, 126, 129, 132, 135, 138] x0 = 109 from by rw [c6]; decide]
              refine ia_sldc hK (s := 33) ⟨by decide, by decide⟩ (by decide +kernel) dc_Re_numbersOf_109 ?_
              show K 111 [some (.inl x0)] [.inr (.inr 33)] h
              obtain rfl := Option.some.inj hm
              exact hret 111 _ dc_Re_numbersOf_111
            · replace hm := ia_ifn hm c6
              by_cases c7 : x0 = 6
              · replace hm := ia_ifp hm c7
                rw [show ia_tsw 1 141 0 20 #[99, 141, 102, 105, 105, 108, 111, 114, 138, 117, 141, 120, 123, 141, 108, 138, 126, 129, 132, 135, 138] x0 = 112 from by rw [c7]; decide]
                refine ia_sldc hK (s := 34) ⟨by decide, by decide⟩ (by decide +kernel) dc_Re_numbersOf_112 ?_
                show K 114 [some (.inl x0)] [.inr (.inr 34)] h
                obtain rfl := Option.some.inj hm
                exact hret 114 _ dc_Re_numbersOf_114
              · replace hm := ia_ifn hm c7
                by_cases c8 : x0 = 7
                · replace hm := ia_ifp hm c8
                  rw [show ia_tsw 1 141 0 20 #[99, 141, 102, 105, 105, 108, 111, 114, 138, 117, 141, 120, 123, 141, 108, 138, 126, 129, 132, 135, 138] x0 = 115 from by rw [c8]; decide]
                  refine ia_sldc hK (s := 35) ⟨by decide, by decide⟩ (by decide +kernel) dc_Re_numbersOf_115 ?_
                  show K 117 [some (.inl x0)] [.inr (.inr 35)] h
                  obtain rfl := Option.some.inj hm
                  exact hret 117 _ dc_Re_numbersOf_117
                · replace hm := ia_ifn hm c8
                  by_cases c9 : x0 = 8
                  · replace hm := ia_ifp hm c9
                    rw [show ia_tsw 1 141 0 20 #[99, 141, 102, 105, 105, 108, 111, 114, 138, 117, 141, 120, 123, 141, 108, 138, 126, 129, 132, 135, 138] x0 = 139 from by rw [c9]; decide]
                    refine ia_sldc hK (s := 42) ⟨by decide, by decide⟩ (by decide +kernel) dc_Re_numbersOf_139 ?_
                    show K 141 [some (.inl x0)] [.inr (.inr 42)] h
                    obtain rfl := Option.some.inj hm
                    exact hret 141 _ dc_Re_numbersOf_141
                  · replace hm := ia_ifn hm c9
                    by_cases c10 : x0 = 9
                    · replace hm := ia_ifp hm c10
                      rw [show ia_tsw 1 141 0 20 #[99, 141, 102, 105, 105, 108, 111, 114, 138, 117, 141, 120, 123, 141, 108, 138, 126, 129, 132, 135, 138] x0 = 118 from by rw [c10]; decide]
                      refine ia_sldc hK (s := 36) ⟨by decide, by decide⟩ (by decide +kernel) dc_Re_numbersOf_118 ?_
                      show K 120 [some (.inl x0)] [.inr (.inr 36)] h
                      obtain rfl := Option.some.inj hm
                      exact hret 120 _ dc_Re_numbersOf_120
                    · replace hm := ia_ifn hm c10
                      by_cases c11 : x0 = 10
                      · replace hm := ia_ifp hm c11
                        rw [show ia_tsw 1 141 0 20 #[99, 141, 102, 105, 105, 108, 111, 114, 138, 117, 141, 120, 123, 141, 108, 138, 126, 129, 132, 135, 138] x0 = 142 from by rw [c11]; decide]
                        refine ia_sldc hK (s := 43) ⟨by decide, by decide⟩ (by decide +kernel) dc_Re_numbersOf_142 ?_
                        show K 144 [some (.inl x0)] [.inr (.inr 43)] h
                        obtain rfl := Option.some.inj hm
                        exact hret 144 _ dc_Re_numbersOf_144
                      · replace hm := ia_ifn hm c11
                        by_cases c12 : x0 = 11
                        · replace hm := ia_ifp hm c12
                          rw [show ia_tsw 1 141 0 20 #[99, 141, 102, 105, 105, 108, 111, 114, 138, 117, 141, 120, 123, 141, 108, 138, 126, 129, 132, 135, 138] x0 = 121 from by rw [c12]; decide]
                          refine ia_sldc hK (s := 37) ⟨by decide, by decide⟩ (by decide +kernel) dc_Re_numbersOf_121 ?_
                          show K 123 [some (.inl x0)] [.inr (.inr 37)] h
                          obtain rfl := Option.some.inj hm
                          exact hret 123 _ dc_Re_numbersOf_123
                        · replace hm := ia_ifn hm c12
                          by_cases c13 : x0 = 12
                          · replace hm := ia_ifp hm c13
                            rw [show ia_tsw 1 141 0 20 #[99, 141, 102, 105, 105, 108, 111, 114, 138, 117, 141, 120, 123, 141, 108, 138, 126, 129, 132, 135, 138] x0 = 124 from by rw [c13]; decide]
                            refine ia_sldc hK (s := 38) ⟨by decide, by decide⟩ (by decide +kernel) dc_Re_numbersOf_124 ?_
                            show K 126 [some (.inl x0)] [.inr (.inr 38)] h
                            obtain rfl := Option.some.inj hm
                            exact hret 126 _ dc_Re_numbersOf_126
                          · replace hm := ia_ifn hm c13
                            by_cases c14 : x0 = 13
                            · replace hm := ia_ifp hm c14
                              rw [show ia_tsw 1 141 0 20 #[99, 141, 102, 105, 105, 108, 111, 114, 138, 117, 141, 120, 123, 141, 108, 138, 126, 129, 132, 135, 138] x0 = 142 from by rw [c14]; decide]
                              refine ia_sldc hK (s := 43) ⟨by decide, by decide⟩ (by decide +kernel) dc_Re_numbersOf_142 ?_
                              show K 144 [some (.inl x0)] [.inr (.inr 43)] h
                              obtain rfl := Option.some.inj hm
                              exact hret 144 _ dc_Re_numbersOf_144
                            · replace hm := ia_ifn hm c14
                              by_cases c15 : x0 = 14
                              · replace hm := ia_ifp hm c15
                                rw [show ia_tsw 1 141 0 20 #[99, 141, 102, 105, 105, 108, 111, 114, 138, 117, 141, 120, 123, 141, 108, 138, 126, 129, 132, 135, 138] x0 = 109 from by rw [c15]; decide]
                                refine ia_sldc hK (s := 33) ⟨by decide, by decide⟩ (by decide +kernel) dc_Re_numbersOf_109 ?_
                                show K 111 [some (.inl x0)] [.inr (.inr 33)] h
                                obtain rfl := Option.some.inj hm
                                exact hret 111 _ dc_Re_numbersOf_111
                              · replace hm := ia_ifn hm c15
                                by_cases c16 : x0 = 15
                                · replace hm := ia_ifp hm c16
                                  rw [show ia_tsw 1 141 0 20 #[99, 141, 102, 105, 105, 108, 111, 114, 138, 117, 141, 120, 123, 141, 108, 138, 126, 129, 132, 135, 138] x0 = 139 from by rw [c16]; decide]
                                  refine ia_sldc hK (s := 42) ⟨by decide, by decide⟩ (by decide +kernel) dc_Re_numbersOf_139 ?_
                                  show K 141 [some (.inl x0)] [.inr (.inr 42)] h
                                  obtain rfl := Option.some.inj hm
                                  exact hret 141 _ dc_Re_numbersOf_141
                                · replace hm := ia_ifn hm c16
                                  by_cases c17 : x0 = 16
                                  · replace hm := ia_ifp hm c17
                                    rw [show ia_tsw 1 141 0 20 #[99, 141, 102, 105, 105, 108, 111, 114, 138, 117, 141, 120, 123, 141, 108, 138, 126, 129, 132, 135, 138] x0 = 127 from by rw [c17]; decide]
                                    refine ia_sldc hK (s := 29) ⟨by decide, by decide⟩ (by decide +kernel) dc_Re_numbersOf_127 ?_
                                    show K 129 [some (.inl x0)] [.inr (.inr 29)] h
                                    obtain rfl := Option.some.inj hm
                                    exact hret 129 _ dc_Re_numbersOf_129
                                  · replace hm := ia_ifn hm c17
                                    by_cases c18 : x0 = 17
                                    · replace hm := ia_ifp hm c18
                                      rw [show ia_tsw 1 141 0 20 #[99, 141, 102, 105, 105, 108, 111, 114, 138, 117, 141, 120, 123, 141, 108, 138, 126, 129, 132, 135, 138] x0 = 130 from by rw [c18]; decide]
                                      refine ia_sldc hK (s := 39) ⟨by decide, by decide⟩ (by decide +kernel) dc_Re_numbersOf_130 ?_
                                      show K 132 [some (.inl x0)] [.inr (.inr 39)] h
                                      obtain rfl := Option.some.inj hm
                                      exact hret 132 _ dc_Re_numbersOf_132
                                    · replace hm := ia_ifn hm c18
                                      by_cases c19 : x0 = 18
                                      · replace hm := ia_ifp hm c19
                                        rw [show ia_tsw 1 141 0 20 #[99, 141, 102, 105, 105, 108, 111, 114, 138, 117, 141, 120, 123, 141, 108, 138, 126, 129, 132, 135, 138] x0 = 133 from by rw [c19]; decide]
                                        refine ia_sldc hK (s := 40) ⟨by decide, by decide⟩ (by decide +kernel) dc_Re_numbersOf_133 ?_
                                        show K 135 [some (.inl x0)] [.inr (.inr 40)] h
                                        obtain rfl := Option.some.inj hm
                                        exact hret 135 _ dc_Re_numbersOf_135
                                      · replace hm := ia_ifn hm c19
                                        by_cases c20 : x0 = 19
                                        · replace hm := ia_ifp hm c20
                                          rw [show ia_tsw 1 141 0 20 #[99, 141, 102, 105, 105, 108, 111, 114, 138, 117, 141, 120, 123, 141, 108, 138, 126, 129, 132, 135, 138] x0 = 136 from by rw [c20]; decide]
                                          refine ia_sldc hK (s := 41) ⟨by decide, by decide⟩ (by decide +kernel) dc_Re_numbersOf_136 ?_
                                          show K 138 [some (.inl x0)] [.inr (.inr 41)] h
                                          obtain rfl := Option.some.inj hm
                                          exact hret 138 _ dc_Re_numbersOf_138
                                        · replace hm := ia_ifn hm c20
                                          by_cases c21 : x0 = 20
                                          · replace hm := ia_ifp hm c21
                                            rw [show ia_tsw 1 141 0 20 #[99, 141, 102, 105, 105, 108, 111, 114, 138, 117, 141, 120, 123, 141, 108, 138, 126, 129, 132, 135, 138] x0 = 139 from by rw [c21]; decide]
                                            refine ia_sldc hK (s := 42) ⟨by decide, by decide⟩ (by decide +kernel) dc_Re_numbersOf_139 ?_
                                            show K 141 [some (.inl x0)] [.inr (.inr 42)] h
                                            obtain rfl := Option.some.inj hm
                                            exact hret 141 _ dc_Re_numbersOf_141
                                          · replace hm := ia_ifn hm c21
                                            rw [show ia_tsw 1 141 0 20 #[99, 141, 102, 105, 105, 108, 111, 114, 138, 117, 141, 120, 123, 141, 108, 138, 126, 129, 132, 135, 138] x0 = 142 from (ia_tsw_d (fun k h1 h2 => by
                                                rcases (show k = 0 ∨ k = 1 ∨ k = 2 ∨ k = 3 ∨ k = 4 ∨ k = 5 ∨ k = 6 ∨ k = 7 ∨ k = 8 ∨ k = 9 ∨ k = 10 ∨ k = 11 ∨ k = 12 ∨ k = 13 ∨ k = 14 ∨ k = 15 ∨ k = 16 ∨ k = 17 ∨ k = 18 ∨ k = 19 ∨ k = 20 by omega) with rfl | rfl | rfl | rfl | rfl | rfl | rfl | rfl | rfl | rfl | rfl | rfl | rfl | rfl | rfl | rfl | rfl | rfl | rfl | rfl | rfl
                                                · exact c1
                                                · exact c2
                                                · exact c3
                                                · exact c4
                                                · exact c5
                                                · exact c6
                                                · exact c7
                                                · exact c8
                                                · exact c9
                                                · exact c10
                                                · exact c11
                                                · exact c12
                                                · exact c13
                                                · exact c14
                                                · exact c15
                                                · exact c16
                                                · exact c17
                                                · exact c18
                                                · exact c19
                                                · exact c20
                                                · exact c21
                                                )).trans (by decide)]
                                            refine ia_sldc hK (s := 43) ⟨by decide, by decide⟩ (by decide +kernel) dc_Re_numbersOf_142 ?_
                                            show K 144 [some (.inl x0)] [.inr (.inr 43)] h
                                            obtain rfl := Option.some.inj hm
                                            exact hret 144 _ dc_Re_numbersOf_144
def mm_Re_least : ia_M := (⟨"IceStreet$Reader", "least", "(C)I"⟩, prog_8_method_17_code, 1, (some .int), 7, false)
theorem ok_Re_least : ia_mok mm_Re_least := ⟨by decide +kernel, by decide +kernel, by decide +kernel, by decide +kernel⟩
theorem mk_Re_least : ia_mkn mm_Re_least 0 1 := ⟨ia_tb_in (List.mem_of_getElem? (i := 904) (by decide +kernel)) rfl, ia_tb_in (List.mem_of_getElem? (i := 139) (by decide +kernel)) rfl, by decide +kernel, by decide +kernel, ia_tb_in (List.mem_of_getElem? (i := 903) (by decide +kernel)) rfl⟩
theorem ck_Re_least_0 : ia_cks 7 1 false prog_8_method_17_code 0 [(.iload_n 0, 0, 0, 0, 0), (.bipush 122, 0, 0, 0, 0), (.if_icmp .ne 7, 0, 0, 0, 0)] = true := by decide +kernel
theorem ck_Re_least_10 : ia_cks 7 1 false prog_8_method_17_code 10 [(.iload_n 0, 0, 0, 0, 0), (.bipush 112, 0, 0, 0, 0), (.if_icmp .ne 7, 0, 0, 0, 0)] = true := by decide +kernel
theorem ck_Re_least_20 : ia_cks 7 1 false prog_8_method_17_code 20 [(.iconst 0, 0, 0, 0, 0)] = true := by decide +kernel
theorem ck_Re_least_16 : ia_cks 7 1 false prog_8_method_17_code 16 [(.iconst 1, 0, 0, 0, 0), (.goto 4, 0, 0, 0, 0)] = true := by decide +kernel
theorem ck_Re_least_6 : ia_cks 7 1 false prog_8_method_17_code 6 [(.iconst 2, 0, 0, 0, 0), (.goto 14, 0, 0, 0, 0)] = true := by decide +kernel
theorem dc_Re_least_21 : decode prog_8_method_17_code 21 = .ok (.ireturn, 1) := by decide +kernel
def f_Re_least (x0 : Int32) (h : ia_H) : Option Int32 := if x0 = 122 then (some 2) else (if x0 = 112 then (some 1) else (some 0))
theorem t_Re_least {w : ia_O0} (d : Nat) {x0 : Int32} {h : ia_H} (hg : gd_ w h) {r : Int32} (hm : f_Re_least x0 h = some r) : ia_Ev (d + 0) mm_Re_least [.inl x0] h (some (.inl r)) h := by
  refine ia_Ev_intro ok_Re_least (Nat.le_refl _) (Nat.le_refl _) (Nat.le_of_ble_eq_true rfl) (fun K hK hret => ?_)
  show K 0 [some (.inl x0)] [] h
  unfold f_Re_least at hm
  refine ia_go hK ck_Re_least_0 ⟨fun c => ?_, fun c => ?_⟩
  · replace hm := ia_ifn hm c
    show K 10 [some (.inl x0)] [] h
    refine ia_go hK ck_Re_least_10 ⟨fun c => ?_, fun c => ?_⟩
    · replace hm := ia_ifn hm c
      show K 20 [some (.inl x0)] [] h
      refine ia_go hK ck_Re_least_20 ?_
      show K 21 [some (.inl x0)] [.inl 0] h
      obtain rfl := Option.some.inj hm
      exact hret 21 _ dc_Re_least_21
    · replace hm := ia_ifp hm c
      show K 16 [some (.inl x0)] [] h
      refine ia_go hK ck_Re_least_16 ?_
      show K 21 [some (.inl x0)] [.inl 1] h
      obtain rfl := Option.some.inj hm
      exact hret 21 _ dc_Re_least_21
  · replace hm := ia_ifp hm c
    show K 6 [some (.inl x0)] [] h
    refine ia_go hK ck_Re_least_6 ?_
    show K 21 [some (.inl x0)] [.inl 2] h
    obtain rfl := Option.some.inj hm
    exact hret 21 _ dc_Re_least_21
def mm_Re_greatest : ia_M := (⟨"IceStreet$Reader", "greatest", "(C)I"⟩, prog_8_method_18_code, 1, (some .int), 7, false)
theorem ok_Re_greatest : ia_mok mm_Re_greatest := ⟨by decide +kernel, by decide +kernel, by decide +kernel, by decide +kernel⟩
theorem mk_Re_greatest : ia_mkn mm_Re_greatest 0 1 := ⟨ia_tb_in (List.mem_of_getElem? (i := 907) (by decide +kernel)) rfl, ia_tb_in (List.mem_of_getElem? (i := 139) (by decide +kernel)) rfl, by decide +kernel, by decide +kernel, ia_tb_in (List.mem_of_getElem? (i := 906) (by decide +kernel)) rfl⟩
theorem ck_Re_greatest_0 : ia_cks 7 1 false prog_8_method_18_code 0 [(.iload_n 0, 0, 0, 0, 0), (.bipush 99, 0, 0, 0, 0), (.if_icmp .eq 9, 0, 0, 0, 0)] = true := by decide +kernel
theorem ck_Re_greatest_12 : ia_cks 7 1 false prog_8_method_18_code 12 [(.bipush 35, 0, 0, 0, 0)] = true := by decide +kernel
theorem ck_Re_greatest_6 : ia_cks 7 1 false prog_8_method_18_code 6 [(.iload_n 0, 0, 0, 0, 0), (.bipush 111, 0, 0, 0, 0), (.if_icmp .ne 6, 0, 0, 0, 0)] = true := by decide +kernel
theorem ck_Re_greatest_15 : ia_cks 7 1 false prog_8_method_18_code 15 [(.iload_n 0, 0, 0, 0, 0), (.bipush 115, 0, 0, 0, 0), (.if_icmp .ne 5, 0, 0, 0, 0)] = true := by decide +kernel
theorem ck_Re_greatest_23 : ia_cks 7 1 false prog_8_method_18_code 23 [(.iload_n 0, 0, 0, 0, 0), (.bipush 102, 0, 0, 0, 0), (.if_icmp .ne 6, 0, 0, 0, 0)] = true := by decide +kernel
theorem ck_Re_greatest_32 : ia_cks 7 1 false prog_8_method_18_code 32 [(.iload_n 0, 0, 0, 0, 0), (.bipush 122, 0, 0, 0, 0), (.if_icmp .ne 8, 0, 0, 0, 0)] = true := by decide +kernel
theorem ck_Re_greatest_43 : ia_cks 7 1 false prog_8_method_18_code 43 [(.iload_n 0, 0, 0, 0, 0), (.bipush 110, 0, 0, 0, 0), (.if_icmp .ne 8, 0, 0, 0, 0)] = true := by decide +kernel
theorem ck_Re_greatest_54 : ia_cks 7 1 false prog_8_method_18_code 54 [(.iload_n 0, 0, 0, 0, 0), (.bipush 104, 0, 0, 0, 0), (.if_icmp .ne 8, 0, 0, 0, 0)] = true := by decide +kernel
theorem ck_Re_greatest_65 : ia_cks 7 1 false prog_8_method_18_code 65 [(.bipush 99, 0, 0, 0, 0)] = true := by decide +kernel
theorem ck_Re_greatest_60 : ia_cks 7 1 false prog_8_method_18_code 60 [(.bipush 10, 0, 0, 0, 0), (.goto 5, 0, 0, 0, 0)] = true := by decide +kernel
theorem ck_Re_greatest_49 : ia_cks 7 1 false prog_8_method_18_code 49 [(.bipush 9, 0, 0, 0, 0), (.goto 16, 0, 0, 0, 0)] = true := by decide +kernel
theorem ck_Re_greatest_38 : ia_cks 7 1 false prog_8_method_18_code 38 [(.bipush 6, 0, 0, 0, 0), (.goto 27, 0, 0, 0, 0)] = true := by decide +kernel
theorem ck_Re_greatest_29 : ia_cks 7 1 false prog_8_method_18_code 29 [(.bipush 20, 0, 0, 0, 0)] = true := by decide +kernel
theorem ck_Re_greatest_21 : ia_cks 7 1 false prog_8_method_18_code 21 [(.iconst 5, 0, 0, 0, 0)] = true := by decide +kernel
theorem dc_Re_greatest_14 : decode prog_8_method_18_code 14 = .ok (.ireturn, 1) := by decide +kernel
theorem dc_Re_greatest_67 : decode prog_8_method_18_code 67 = .ok (.ireturn, 1) := by decide +kernel
theorem dc_Re_greatest_31 : decode prog_8_method_18_code 31 = .ok (.ireturn, 1) := by decide +kernel
theorem dc_Re_greatest_22 : decode prog_8_method_18_code 22 = .ok (.ireturn, 1) := by decide +kernel
def f_Re_greatest (x0 : Int32) (h : ia_H) : Option Int32 := if x0 = 99 then (some 35) else (if x0 = 111 then (some 35) else (if x0 = 115 then (some 5) else (if x0 = 102 then (some 20) else (if x0 = 122 then (some 6) else (if x0 = 110 then (some 9) else (if x0 = 104 then (some 10) else (some 99)))))))
theorem t_Re_greatest {w : ia_O0} (d : Nat) {x0 : Int32} {h : ia_H} (hg : gd_ w h) {r : Int32} (hm : f_Re_greatest x0 h = some r) : ia_Ev (d + 0) mm_Re_greatest [.inl x0] h (some (.inl r)) h := by
  refine ia_Ev_intro ok_Re_greatest (Nat.le_refl _) (Nat.le_refl _) (Nat.le_of_ble_eq_true rfl) (fun K hK hret => ?_)
  show K 0 [some (.inl x0)] [] h
  unfold f_Re_greatest at hm
  refine ia_go hK ck_Re_greatest_0 ⟨fun c => ?_, fun c => ?_⟩
  · replace hm := ia_ifp hm c
    show K 12 [some (.inl x0)] [] h
    refine ia_go hK ck_Re_greatest_12 ?_
    show K 14 [some (.inl x0)] [.inl 35] h
    obtain rfl := Option.some.inj hm
    exact hret 14 _ dc_Re_greatest_14
  · replace hm := ia_ifn hm c
    show K 6 [some (.inl x0)] [] h
    refine ia_go hK ck_Re_greatest_6 ⟨fun c => ?_, fun c => ?_⟩
    · replace hm := ia_ifn hm c
      show K 15 [some (.inl x0)] [] h
      refine ia_go hK ck_Re_greatest_15 ⟨fun c => ?_, fun c => ?_⟩
      · replace hm := ia_ifn hm c
        show K 23 [some (.inl x0)] [] h
        refine ia_go hK ck_Re_greatest_23 ⟨fun c => ?_, fun c => ?_⟩
        · replace hm := ia_ifn hm c
          show K 32 [some (.inl x0)] [] h
          refine ia_go hK ck_Re_greatest_32 ⟨fun c => ?_, fun c => ?_⟩
          · replace hm := ia_ifn hm c
            show K 43 [some (.inl x0)] [] h
            refine ia_go hK ck_Re_greatest_43 ⟨fun c => ?_, fun c => ?_⟩
            · replace hm := ia_ifn hm c
              show K 54 [some (.inl x0)] [] h
              refine ia_go hK ck_Re_greatest_54 ⟨fun c => ?_, fun c => ?_⟩
              · replace hm := ia_ifn hm c
                show K 65 [some (.inl x0)] [] h
                refine ia_go hK ck_Re_greatest_65 ?_
                show K 67 [some (.inl x0)] [.inl 99] h
                obtain rfl := Option.some.inj hm
                exact hret 67 _ dc_Re_greatest_67
              · replace hm := ia_ifp hm c
                show K 60 [some (.inl x0)] [] h
                refine ia_go hK ck_Re_greatest_60 ?_
                show K 67 [some (.inl x0)] [.inl 10] h
                obtain rfl := Option.some.inj hm
                exact hret 67 _ dc_Re_greatest_67
            · replace hm := ia_ifp hm c
              show K 49 [some (.inl x0)] [] h
              refine ia_go hK ck_Re_greatest_49 ?_
              show K 67 [some (.inl x0)] [.inl 9] h
              obtain rfl := Option.some.inj hm
              exact hret 67 _ dc_Re_greatest_67
          · replace hm := ia_ifp hm c
            show K 38 [some (.inl x0)] [] h
            refine ia_go hK ck_Re_greatest_38 ?_
            show K 67 [some (.inl x0)] [.inl 6] h
            obtain rfl := Option.some.inj hm
            exact hret 67 _ dc_Re_greatest_67
        · replace hm := ia_ifp hm c
          show K 29 [some (.inl x0)] [] h
          refine ia_go hK ck_Re_greatest_29 ?_
          show K 31 [some (.inl x0)] [.inl 20] h
          obtain rfl := Option.some.inj hm
          exact hret 31 _ dc_Re_greatest_31
      · replace hm := ia_ifp hm c
        show K 21 [some (.inl x0)] [] h
        refine ia_go hK ck_Re_greatest_21 ?_
        show K 22 [some (.inl x0)] [.inl 5] h
        obtain rfl := Option.some.inj hm
        exact hret 22 _ dc_Re_greatest_22
    · replace hm := ia_ifp hm c
      show K 12 [some (.inl x0)] [] h
      refine ia_go hK ck_Re_greatest_12 ?_
      show K 14 [some (.inl x0)] [.inl 35] h
      obtain rfl := Option.some.inj hm
      exact hret 14 _ dc_Re_greatest_14
def mm_I_bit : ia_M := (⟨"IceStreet", "bit", "(I)J"⟩, prog_1_method_45_code, 1, (some .long), 0, false)
theorem ok_I_bit : ia_mok mm_I_bit := ⟨by decide +kernel, by decide +kernel, by decide +kernel, by decide +kernel⟩
theorem mk_I_bit : ia_mkn mm_I_bit 0 1 := ⟨ia_tb_in (List.mem_of_getElem? (i := 914) (by decide +kernel)) rfl, ia_tb_in (List.mem_of_getElem? (i := 133) (by decide +kernel)) rfl, by decide +kernel, by decide +kernel, ia_tb_in (List.mem_of_getElem? (i := 913) (by decide +kernel)) rfl⟩
theorem ck_I_bit_0 : ia_cks 0 1 false prog_1_method_45_code 0 [(.lconst 1, 0, 0, 0, 0), (.iload_n 0, 0, 0, 0, 0), (.lshl, 0, 0, 0, 0)] = true := by decide +kernel
theorem dc_I_bit_3 : decode prog_1_method_45_code 3 = .ok (.lreturn, 1) := by decide +kernel
def f_I_bit (x0 : Int32) (h : ia_H) : Option Int64 := some (1 <<< (x0.toInt64 &&& 63))
theorem t_I_bit {w : ia_O0} (d : Nat) {x0 : Int32} {h : ia_H} (hg : gd_ w h) {r : Int64} (hm : f_I_bit x0 h = some r) : ia_Ev (d + 0) mm_I_bit [.inl x0] h (some (.inr (.inl r))) h := by
  refine ia_Ev_intro ok_I_bit (Nat.le_refl _) (Nat.le_refl _) (Nat.le_of_ble_eq_true rfl) (fun K hK hret => ?_)
  show K 0 [some (.inl x0)] [] h
  unfold f_I_bit at hm
  refine ia_go hK ck_I_bit_0 ?_
  show K 3 [some (.inl x0)] [.inr (.inl (1 <<< (x0.toInt64 &&& 63)))] h
  obtain rfl := Option.some.inj hm
  exact hret 3 _ dc_I_bit_3
def mm_La_addFrost : ia_M := (⟨"IceStreet$Lake", "addFrost", "(I)V"⟩, prog_4_method_8_code, 2, none, 3, false)
theorem ok_La_addFrost : ia_mok mm_La_addFrost := ⟨by decide +kernel, by decide +kernel, by decide +kernel, by decide +kernel⟩
theorem mk_La_addFrost : ia_mkn mm_La_addFrost 1 1 := ⟨ia_tb_in (List.mem_of_getElem? (i := 918) (by decide +kernel)) rfl, ia_tb_in (List.mem_of_getElem? (i := 135) (by decide +kernel)) rfl, by decide +kernel, by decide +kernel, ⟨ia_tb_in (List.mem_of_getElem? (i := 916) (by decide +kernel)) rfl, ia_tb_in (List.mem_of_getElem? (i := 917) (by decide +kernel)) rfl⟩⟩
theorem ck_La_addFrost_0 : ia_cks 3 2 false prog_4_method_8_code 0 [(.aload_n 0, 0, 0, 0, 0), (.getfield 75, 3, 10, 0, 0), (.bipush 12, 0, 0, 0, 0), (.if_icmp .ge 20, 0, 0, 0, 0)] = true := by decide +kernel
theorem ck_La_addFrost_9 : ia_cks 3 2 false prog_4_method_8_code 9 [(.aload_n 0, 0, 0, 0, 0), (.getfield 25, 3, 9, 3, 5), (.aload_n 0, 0, 0, 0, 0), (.dup, 0, 0, 0, 0), (.getfield 75, 3, 10, 0, 0), (.dup_x1, 0, 0, 0, 0), (.iconst 1, 0, 0, 0, 0), (.iadd, 0, 0, 0, 0), (.putfield 75, 3, 10, 0, 0), (.iload_n 1, 0, 0, 0, 0), (.iastore, 0, 0, 0, 0)] = true := by decide +kernel
theorem dc_La_addFrost_26 : decode prog_4_method_8_code 26 = .ok (.return_, 1) := by decide +kernel
def f_La_addFrost (a0 : Nat) (x1 : Int32) (h : ia_H) : Option ia_H := if 12 ≤ (ia_i h a0 10) then (some h) else (ia_gd (ia_ib (ia_i h a0 10) 12) (some (ia_wI (ia_wI h a0 10 ((ia_i h a0 10) + 1)) (a0 + 5) ((ia_i h a0 10).toNatClampNeg) x1)))
theorem g_La_addFrost {w : ia_O0} {a0 : Nat} {x1 : Int32} {h : ia_H} (hg : gd_ w h) (p0 : (kd_D a0).1 = 3) {q : ia_H} (hm : f_La_addFrost a0 x1 h = some q) : gd_ w q := by
  obtain ⟨h1, e1⟩ : ∃ x, x = q := ⟨_, rfl⟩
  subst e1
  unfold f_La_addFrost at hm
  by_cases c : 12 ≤ (ia_i h a0 10)
  · replace hm := ia_ifp hm c
    obtain rfl := Option.some.inj hm
    exact hg
  · replace hm := ia_ifn hm c
    obtain ⟨c1, hm⟩ := ia_gd_some hm
    obtain rfl := Option.some.inj hm
    exact (gd_wI (gd_wI hg (ko_3 p0)) (kx_100 (ka_3_9 p0)))
theorem t_La_addFrost {w : ia_O0} (d : Nat) {a0 : Nat} {x1 : Int32} {h : ia_H} (hg : gd_ w h) (p0 : (kd_D a0).1 = 3) {q : ia_H} (hm : f_La_addFrost a0 x1 h = some q) : ia_Ev (d + 0) mm_La_addFrost [.inr (.inr a0), .inl x1] h none q := by
  have gq := g_La_addFrost hg p0 hm
  refine ia_Ev_intro ok_La_addFrost (gd_le hg gq).1 (gd_le hg gq).2 (Nat.le_of_ble_eq_true rfl) (fun K hK hret => ?_)
  obtain ⟨h1, e1⟩ : ∃ x, x = q := ⟨_, rfl⟩
  subst e1
  show K 0 [some (.inr (.inr a0)), some (.inl x1)] [] h
  unfold f_La_addFrost at hm
  refine ia_go hK ck_La_addFrost_0 ⟨gk_3 hg p0, fun c => ?_, fun c => ?_⟩
  · replace hm := ia_ifp hm c
    show K 26 [some (.inr (.inr a0)), some (.inl x1)] [] h
    obtain rfl := Option.some.inj hm
    exact hret 26 _ dc_La_addFrost_26
  · replace hm := ia_ifn hm c
    show K 9 [some (.inr (.inr a0)), some (.inl x1)] [] h
    obtain ⟨c1, hm⟩ := ia_gd_some hm
    refine ia_go hK ck_La_addFrost_9 ⟨gk_3 hg p0, gr_3_9 hg p0, gk_3 hg p0, gk_3 hg p0, ga_s100 (gd_wI hg (ko_3 p0)) (ka_3_9 p0) c1, ?_⟩
    show K 26 [some (.inr (.inr a0)), some (.inl x1)] [] (ia_wI (ia_wI h a0 10 ((ia_i h a0 10) + 1)) (a0 + 5) ((ia_i h a0 10).toNatClampNeg) x1)
    obtain rfl := Option.some.inj hm
    exact hret 26 _ dc_La_addFrost_26
def mm_Re_tellNumber : ia_M := (⟨"IceStreet$Reader", "tellNumber", "(ICI)V"⟩, prog_8_method_22_code, 4, none, 7, false)
theorem ok_Re_tellNumber : ia_mok mm_Re_tellNumber := ⟨by decide +kernel, by decide +kernel, by decide +kernel, by decide +kernel⟩
theorem mk_Re_tellNumber : ia_mkn mm_Re_tellNumber 1 3 := ⟨ia_tb_in (List.mem_of_getElem? (i := 911) (by decide +kernel)) rfl, ia_tb_in (List.mem_of_getElem? (i := 139) (by decide +kernel)) rfl, by decide +kernel, by decide +kernel, ⟨ia_tb_in (List.mem_of_getElem? (i := 910) (by decide +kernel)) rfl, ia_tb_in (List.mem_of_getElem? (i := 16) (by decide +kernel)) rfl⟩⟩
theorem ck_Re_tellNumber_0 : ia_cks 7 4 false prog_8_method_22_code 0 [(.aload_n 0, 0, 0, 0, 0), (.getfield 50, 7, 8, 0, 0), (.ifCond .ne 31, 0, 0, 0, 0)] = true := by decide +kernel
theorem ck_Re_tellNumber_35 : ia_cks 7 4 false prog_8_method_22_code 35 [(.iload_n 1, 0, 0, 0, 0), (.bipush 6, 0, 0, 0, 0), (.if_icmp .ne 14, 0, 0, 0, 0)] = true := by decide +kernel
theorem ck_Re_tellNumber_52 : ia_cks 7 4 false prog_8_method_22_code 52 [(.iload_n 1, 0, 0, 0, 0), (.bipush 8, 0, 0, 0, 0), (.if_icmp .ne 22, 0, 0, 0, 0)] = true := by decide +kernel
theorem ck_Re_tellNumber_77 : ia_cks 7 4 false prog_8_method_22_code 77 [(.iload_n 1, 0, 0, 0, 0), (.bipush 15, 0, 0, 0, 0), (.if_icmp .ne 19, 0, 0, 0, 0)] = true := by decide +kernel
theorem ck_Re_tellNumber_83 : ia_cks 7 4 false prog_8_method_22_code 83 [(.aload_n 0, 0, 0, 0, 0), (.getfield 21, 7, 1, 3, 13), (.dup, 0, 0, 0, 0), (.getfield 262, 4, 7, 1, 0), (.iload_n 3, 0, 0, 0, 0)] = true := by decide +kernel
theorem ck_Re_tellNumber_95 : ia_cks 7 4 false prog_8_method_22_code 95 [(.lor, 0, 0, 0, 0), (.putfield 262, 4, 7, 1, 0)] = true := by decide +kernel
theorem ck_Re_tellNumber_58 : ia_cks 7 4 false prog_8_method_22_code 58 [(.aload_n 0, 0, 0, 0, 0), (.getfield 12, 7, 0, 3, 1), (.dup, 0, 0, 0, 0), (.getfield 260, 3, 7, 1, 0), (.iload_n 3, 0, 0, 0, 0)] = true := by decide +kernel
theorem ck_Re_tellNumber_70 : ia_cks 7 4 false prog_8_method_22_code 70 [(.lor, 0, 0, 0, 0), (.putfield 260, 3, 7, 1, 0), (.goto 25, 0, 0, 0, 0)] = true := by decide +kernel
theorem ck_Re_tellNumber_41 : ia_cks 7 4 false prog_8_method_22_code 41 [(.aload_n 0, 0, 0, 0, 0), (.getfield 12, 7, 0, 3, 1), (.iload_n 3, 0, 0, 0, 0)] = true := by decide +kernel
theorem ck_Re_tellNumber_49 : ia_cks 7 4 false prog_8_method_22_code 49 [(.goto 50, 0, 0, 0, 0)] = true := by decide +kernel
theorem ck_Re_tellNumber_7 : ia_cks 7 4 false prog_8_method_22_code 7 [(.iload_n 2, 0, 0, 0, 0), (.bipush 99, 0, 0, 0, 0), (.if_icmp .eq 9, 0, 0, 0, 0)] = true := by decide +kernel
theorem ck_Re_tellNumber_19 : ia_cks 7 4 false prog_8_method_22_code 19 [(.aload_n 0, 0, 0, 0, 0), (.getfield 12, 7, 0, 3, 1), (.dup, 0, 0, 0, 0), (.getfield 249, 3, 8, 1, 0), (.iload_n 3, 0, 0, 0, 0)] = true := by decide +kernel
theorem ck_Re_tellNumber_31 : ia_cks 7 4 false prog_8_method_22_code 31 [(.lor, 0, 0, 0, 0), (.putfield 249, 3, 8, 1, 0)] = true := by decide +kernel
theorem ck_Re_tellNumber_13 : ia_cks 7 4 false prog_8_method_22_code 13 [(.iload_n 2, 0, 0, 0, 0), (.bipush 111, 0, 0, 0, 0), (.if_icmp .ne 19, 0, 0, 0, 0)] = true := by decide +kernel
theorem dc_Re_tellNumber_99 : decode prog_8_method_22_code 99 = .ok (.return_, 1) := by decide +kernel
theorem dc_Re_tellNumber_92 : decode prog_8_method_22_code 92 = .ok (.invokestatic 253, 3) := by decide +kernel
theorem dc_Re_tellNumber_67 : decode prog_8_method_22_code 67 = .ok (.invokestatic 253, 3) := by decide +kernel
theorem dc_Re_tellNumber_46 : decode prog_8_method_22_code 46 = .ok (.invokevirtual 257, 3) := by decide +kernel
theorem dc_Re_tellNumber_28 : decode prog_8_method_22_code 28 = .ok (.invokestatic 253, 3) := by decide +kernel
def j_Re_tellNumber_35 (x1 : Int32) (x2 : Int32) (x3 : Int32) (h : ia_H) : Option ia_H := if x1 = 6 then ((f_La_addFrost 280 x3 h).bind fun v3 => (some v3)) else (if x1 = 8 then ((f_I_bit x3 h).bind fun v2 => (some (ia_wL h 280 7 ((ia_l h 280 7) ||| v2)))) else (if x1 = 15 then ((f_I_bit x3 h).bind fun v1 => (some (ia_wL h 292 7 ((ia_l h 292 7) ||| v1)))) else (some h)))
theorem tj_Re_tellNumber_35 {w : ia_O0} {d N1 W1 : Nat} {K : ia_K} (hK : ia_isK (d + 1) mm_Re_tellNumber N1 W1 K) {x1 : Int32} {x2 : Int32} {x3 : Int32} {h1 : ia_H} (hret : ∀ (pc : Nat) (lv : ia_L), ia_ret mm_Re_tellNumber pc none → K pc lv (none : Option ia_V).toList h1) : ∀ (h : ia_H), gd_ w h → j_Re_tellNumber_35 x1 x2 x3 h = some h1 → K 35 [some (.inr (.inr 279)), some (.inl x1), none, some (.inl x3)] [] h := by
  intro h hg hm
  unfold j_Re_tellNumber_35 at hm
  refine ia_go hK ck_Re_tellNumber_35 ⟨fun c => ?_, fun c => ?_⟩
  · replace hm := ia_ifn hm c
    show K 52 [some (.inr (.inr 279)), some (.inl x1), none, some (.inl x3)] [] h
    refine ia_go hK ck_Re_tellNumber_52 ⟨fun c => ?_, fun c => ?_⟩
    · replace hm := ia_ifn hm c
      show K 77 [some (.inr (.inr 279)), some (.inl x1), none, some (.inl x3)] [] h
      refine ia_go hK ck_Re_tellNumber_77 ⟨fun c => ?_, fun c => ?_⟩
      · replace hm := ia_ifn hm c
        show K 99 [some (.inr (.inr 279)), some (.inl x1), none, some (.inl x3)] [] h
        obtain rfl := Option.some.inj hm
        exact hret 99 _ dc_Re_tellNumber_99
      · replace hm := ia_ifp hm c
        show K 83 [some (.inr (.inr 279)), some (.inl x1), none, some (.inl x3)] [] h
        refine ia_go hK ck_Re_tellNumber_83 ⟨gk_7 hg pk_279, gr_7_1 hg pk_279, gk_4 hg (ka_7_1 pk_279), ?_⟩
        show K 92 [some (.inr (.inr 279)), some (.inl x1), none, some (.inl x3)] [.inl x3, .inr (.inl (ia_l h 292 7)), .inr (.inr 292)] h
        obtain ⟨v1, hv1, hm⟩ := ia_bnd hm
        have ev1 := t_I_bit (d + 0) hg hv1
        refine ia_cS hK mk_I_bit lk_7_253 dc_Re_tellNumber_92 [.inl x3] [.inr (.inl (ia_l h 292 7)), .inr (.inr 292)] rfl rfl (Nat.le_of_ble_eq_true rfl) ev1 ⟨rfl, rfl⟩ ?_
        show K 95 [some (.inr (.inr 279)), some (.inl x1), none, some (.inl x3)] [.inr (.inl v1), .inr (.inl (ia_l h 292 7)), .inr (.inr 292)] h
        refine ia_go hK ck_Re_tellNumber_95 ⟨gk_4 hg (ka_7_1 pk_279), ?_⟩
        show K 99 [some (.inr (.inr 279)), some (.inl x1), none, some (.inl x3)] [] (ia_wL h 292 7 ((ia_l h 292 7) ||| v1))
        obtain rfl := Option.some.inj hm
        exact hret 99 _ dc_Re_tellNumber_99
    · replace hm := ia_ifp hm c
      show K 58 [some (.inr (.inr 279)), some (.inl x1), none, some (.inl x3)] [] h
      refine ia_go hK ck_Re_tellNumber_58 ⟨gk_7 hg pk_279, gr_7_0 hg pk_279, gk_3 hg (ka_7_0 pk_279), ?_⟩
      show K 67 [some (.inr (.inr 279)), some (.inl x1), none, some (.inl x3)] [.inl x3, .inr (.inl (ia_l h 280 7)), .inr (.inr 280)] h
      obtain ⟨v2, hv2, hm⟩ := ia_bnd hm
      have ev2 := t_I_bit (d + 0) hg hv2
      refine ia_cS hK mk_I_bit lk_7_253 dc_Re_tellNumber_67 [.inl x3] [.inr (.inl (ia_l h 280 7)), .inr (.inr 280)] rfl rfl (Nat.le_of_ble_eq_true rfl) ev2 ⟨rfl, rfl⟩ ?_
      show K 70 [some (.inr (.inr 279)), some (.inl x1), none, some (.inl x3)] [.inr (.inl v2), .inr (.inl (ia_l h 280 7)), .inr (.inr 280)] h
      refine ia_go hK ck_Re_tellNumber_70 ⟨gk_3 hg (ka_7_0 pk_279), ?_⟩
      show K 99 [some (.inr (.inr 279)), some (.inl x1), none, some (.inl x3)] [] (ia_wL h 280 7 ((ia_l h 280 7) ||| v2))
      obtain rfl := Option.some.inj hm
      exact hret 99 _ dc_Re_tellNumber_99
  · replace hm := ia_ifp hm c
    show K 41 [some (.inr (.inr 279)), some (.inl x1), none, some (.inl x3)] [] h
    refine ia_go hK ck_Re_tellNumber_41 ⟨gk_7 hg pk_279, gr_7_0 hg pk_279, ?_⟩
    show K 46 [some (.inr (.inr 279)), some (.inl x1), none, some (.inl x3)] [.inl x3, .inr (.inr 280)] h
    obtain ⟨v3, hv3, hm⟩ := ia_bnd hm
    have ev3 := t_La_addFrost (d + 0) hg (ka_7_0 pk_279) hv3
    have gv3 := g_La_addFrost hg (ka_7_0 pk_279) hv3
    refine ia_cV hK mk_La_addFrost lk_7_257 dc_Re_tellNumber_46 280 [.inl x3] [] rfl rfl (Nat.le_of_ble_eq_true rfl) (by decide) rfl (gk_3 hg (ka_7_0 pk_279)) ev3 (gd_nm hg gv3) ?_
    show K 49 [some (.inr (.inr 279)), some (.inl x1), none, some (.inl x3)] [] v3
    refine ia_go hK ck_Re_tellNumber_49 ?_
    show K 99 [some (.inr (.inr 279)), some (.inl x1), none, some (.inl x3)] [] v3
    obtain rfl := Option.some.inj hm
    exact hret 99 _ dc_Re_tellNumber_99
theorem gj_Re_tellNumber_35 {w : ia_O0} {x1 : Int32} {x2 : Int32} {x3 : Int32} {h1 : ia_H} : ∀ (h : ia_H), gd_ w h → j_Re_tellNumber_35 x1 x2 x3 h = some h1 → gd_ w h1 := by
  intro h hg hm
  unfold j_Re_tellNumber_35 at hm
  by_cases c : x1 = 6
  · replace hm := ia_ifp hm c
    obtain ⟨v3, hv3, hm⟩ := ia_bnd hm
    have gv3 := g_La_addFrost hg (ka_7_0 pk_279) hv3
    obtain rfl := Option.some.inj hm
    exact gv3
  · replace hm := ia_ifn hm c
    by_cases c : x1 = 8
    · replace hm := ia_ifp hm c
      obtain ⟨v2, hv2, hm⟩ := ia_bnd hm
      obtain rfl := Option.some.inj hm
      exact (gd_wL hg)
    · replace hm := ia_ifn hm c
      by_cases c : x1 = 15
      · replace hm := ia_ifp hm c
        obtain ⟨v1, hv1, hm⟩ := ia_bnd hm
        obtain rfl := Option.some.inj hm
        exact (gd_wL hg)
      · replace hm := ia_ifn hm c
        obtain rfl := Option.some.inj hm
        exact hg
def j_Re_tellNumber_19 (x1 : Int32) (x2 : Int32) (x3 : Int32) (h : ia_H) : Option ia_H := (f_I_bit x3 h).bind fun v4 => (j_Re_tellNumber_35 x1 x2 x3 (ia_wL h 280 8 ((ia_l h 280 8) ||| v4)))
theorem tj_Re_tellNumber_19 {w : ia_O0} {d N1 W1 : Nat} {K : ia_K} (hK : ia_isK (d + 1) mm_Re_tellNumber N1 W1 K) {x1 : Int32} {x2 : Int32} {x3 : Int32} {h1 : ia_H} (hret : ∀ (pc : Nat) (lv : ia_L), ia_ret mm_Re_tellNumber pc none → K pc lv (none : Option ia_V).toList h1) : ∀ (h : ia_H), gd_ w h → j_Re_tellNumber_19 x1 x2 x3 h = some h1 → K 19 [some (.inr (.inr 279)), some (.inl x1), none, some (.inl x3)] [] h := by
  intro h hg hm
  unfold j_Re_tellNumber_19 at hm
  refine ia_go hK ck_Re_tellNumber_19 ⟨gk_7 hg pk_279, gr_7_0 hg pk_279, gk_3 hg (ka_7_0 pk_279), ?_⟩
  show K 28 [some (.inr (.inr 279)), some (.inl x1), none, some (.inl x3)] [.inl x3, .inr (.inl (ia_l h 280 8)), .inr (.inr 280)] h
  obtain ⟨v4, hv4, hm⟩ := ia_bnd hm
  have ev4 := t_I_bit (d + 0) hg hv4
  refine ia_cS hK mk_I_bit lk_7_253 dc_Re_tellNumber_28 [.inl x3] [.inr (.inl (ia_l h 280 8)), .inr (.inr 280)] rfl rfl (Nat.le_of_ble_eq_true rfl) ev4 ⟨rfl, rfl⟩ ?_
  show K 31 [some (.inr (.inr 279)), some (.inl x1), none, some (.inl x3)] [.inr (.inl v4), .inr (.inl (ia_l h 280 8)), .inr (.inr 280)] h
  refine ia_go hK ck_Re_tellNumber_31 ⟨gk_3 hg (ka_7_0 pk_279), ?_⟩
  show K 35 [some (.inr (.inr 279)), some (.inl x1), none, some (.inl x3)] [] (ia_wL h 280 8 ((ia_l h 280 8) ||| v4))
  exact tj_Re_tellNumber_35 hK hret (ia_wL h 280 8 ((ia_l h 280 8) ||| v4)) (gd_wL hg) hm
theorem gj_Re_tellNumber_19 {w : ia_O0} {x1 : Int32} {x2 : Int32} {x3 : Int32} {h1 : ia_H} : ∀ (h : ia_H), gd_ w h → j_Re_tellNumber_19 x1 x2 x3 h = some h1 → gd_ w h1 := by
  intro h hg hm
  unfold j_Re_tellNumber_19 at hm
  obtain ⟨v4, hv4, hm⟩ := ia_bnd hm
  exact gj_Re_tellNumber_35 (ia_wL h 280 8 ((ia_l h 280 8) ||| v4)) (gd_wL hg) hm
def f_Re_tellNumber (x1 : Int32) (x2 : Int32) (x3 : Int32) (h : ia_H) : Option ia_H := if (ia_i h 279 8) = 0 then (if x2 = 99 then (j_Re_tellNumber_19 x1 x2 x3 h) else (if x2 = 111 then (j_Re_tellNumber_19 x1 x2 x3 h) else (j_Re_tellNumber_35 x1 x2 x3 h))) else (j_Re_tellNumber_35 x1 x2 x3 h)
theorem g_Re_tellNumber {w : ia_O0} {x1 : Int32} {x2 : Int32} {x3 : Int32} {h : ia_H} (hg : gd_ w h) {q : ia_H} (hm : f_Re_tellNumber x1 x2 x3 h = some q) : gd_ w q := by
  obtain ⟨h1, e1⟩ : ∃ x, x = q := ⟨_, rfl⟩
  subst e1
  unfold f_Re_tellNumber at hm
  by_cases c : (ia_i h 279 8) = 0
  · replace hm := ia_ifp hm c
    by_cases c : x2 = 99
    · replace hm := ia_ifp hm c
      exact gj_Re_tellNumber_19 h hg hm
    · replace hm := ia_ifn hm c
      by_cases c : x2 = 111
      · replace hm := ia_ifp hm c
        exact gj_Re_tellNumber_19 h hg hm
      · replace hm := ia_ifn hm c
        exact gj_Re_tellNumber_35 h hg hm
  · replace hm := ia_ifn hm c
    exact gj_Re_tellNumber_35 h hg hm
theorem t_Re_tellNumber {w : ia_O0} (d : Nat) {x1 : Int32} {x2 : Int32} {x3 : Int32} {h : ia_H} (hg : gd_ w h) {q : ia_H} (hm : f_Re_tellNumber x1 x2 x3 h = some q) : ia_Ev (d + 1) mm_Re_tellNumber [.inr (.inr 279), .inl x1, .inl x2, .inl x3] h none q := by
  have gq := g_Re_tellNumber hg hm
  refine ia_Ev_intro ok_Re_tellNumber (gd_le hg gq).1 (gd_le hg gq).2 (Nat.le_of_ble_eq_true rfl) (fun K hK hret => ?_)
  obtain ⟨h1, e1⟩ : ∃ x, x = q := ⟨_, rfl⟩
  subst e1
  show K 0 [some (.inr (.inr 279)), some (.inl x1), some (.inl x2), some (.inl x3)] [] h
  unfold f_Re_tellNumber at hm
  refine ia_go hK ck_Re_tellNumber_0 ⟨gk_7 hg pk_279, fun c => ?_, fun c => ?_⟩
  · replace hm := ia_ifn hm c
    show K 35 [some (.inr (.inr 279)), some (.inl x1), some (.inl x2), some (.inl x3)] [] h
    refine ia_fg hK (lv' := [some (.inr (.inr 279)), some (.inl x1), none, some (.inl x3)]) ⟨rfl, rfl, rfl, trivial⟩ ?_
    exact tj_Re_tellNumber_35 hK hret h hg hm
  · replace hm := ia_ifp hm c
    show K 7 [some (.inr (.inr 279)), some (.inl x1), some (.inl x2), some (.inl x3)] [] h
    refine ia_go hK ck_Re_tellNumber_7 ⟨fun c => ?_, fun c => ?_⟩
    · replace hm := ia_ifp hm c
      show K 19 [some (.inr (.inr 279)), some (.inl x1), some (.inl x2), some (.inl x3)] [] h
      refine ia_fg hK (lv' := [some (.inr (.inr 279)), some (.inl x1), none, some (.inl x3)]) ⟨rfl, rfl, rfl, trivial⟩ ?_
      exact tj_Re_tellNumber_19 hK hret h hg hm
    · replace hm := ia_ifn hm c
      show K 13 [some (.inr (.inr 279)), some (.inl x1), some (.inl x2), some (.inl x3)] [] h
      refine ia_go hK ck_Re_tellNumber_13 ⟨fun c => ?_, fun c => ?_⟩
      · replace hm := ia_ifn hm c
        show K 35 [some (.inr (.inr 279)), some (.inl x1), some (.inl x2), some (.inl x3)] [] h
        refine ia_fg hK (lv' := [some (.inr (.inr 279)), some (.inl x1), none, some (.inl x3)]) ⟨rfl, rfl, rfl, trivial⟩ ?_
        exact tj_Re_tellNumber_35 hK hret h hg hm
      · replace hm := ia_ifp hm c
        show K 19 [some (.inr (.inr 279)), some (.inl x1), some (.inl x2), some (.inl x3)] [] h
        refine ia_fg hK (lv' := [some (.inr (.inr 279)), some (.inl x1), none, some (.inl x3)]) ⟨rfl, rfl, rfl, trivial⟩ ?_
        exact tj_Re_tellNumber_19 hK hret h hg hm
def mm_Re_readNumber : ia_M := (⟨"IceStreet$Reader", "readNumber", "(ICI)Z"⟩, prog_8_method_21_code, 7, (some .boolean), 7, false)
theorem ok_Re_readNumber : ia_mok mm_Re_readNumber := ⟨by decide +kernel, by decide +kernel, by decide +kernel, by decide +kernel⟩
theorem mk_Re_readNumber : ia_mkn mm_Re_readNumber 1 3 := ⟨ia_tb_in (List.mem_of_getElem? (i := 901) (by decide +kernel)) rfl, ia_tb_in (List.mem_of_getElem? (i := 139) (by decide +kernel)) rfl, by decide +kernel, by decide +kernel, ⟨ia_tb_in (List.mem_of_getElem? (i := 900) (by decide +kernel)) rfl, ia_tb_in (List.mem_of_getElem? (i := 15) (by decide +kernel)) rfl⟩⟩
theorem ck_Re_readNumber_0 : ia_cks 7 7 false prog_8_method_21_code 0 [(.iload_n 1, 0, 0, 0, 0), (.bipush 6, 0, 0, 0, 0), (.if_icmp .ne 13, 0, 0, 0, 0)] = true := by decide +kernel
theorem ck_Re_readNumber_16 : ia_cks 7 7 false prog_8_method_21_code 16 [(.iconst 0, 0, 0, 0, 0)] = true := by decide +kernel
theorem ck_Re_readNumber_17 : ia_cks 7 7 false prog_8_method_21_code 17 [(.istore 4, 0, 0, 0, 0), (.iload_n 2, 0, 0, 0, 0), (.bipush 102, 0, 0, 0, 0), (.if_icmp .ne 15, 0, 0, 0, 0)] = true := by decide +kernel
theorem ck_Re_readNumber_37 : ia_cks 7 7 false prog_8_method_21_code 37 [(.iconst 0, 0, 0, 0, 0)] = true := by decide +kernel
theorem ck_Re_readNumber_38 : ia_cks 7 7 false prog_8_method_21_code 38 [(.istore 5, 0, 0, 0, 0), (.iload 5, 0, 0, 0, 0), (.ifCond .eq 21, 0, 0, 0, 0)] = true := by decide +kernel
theorem ck_Re_readNumber_63 : ia_cks 7 7 false prog_8_method_21_code 63 [(.aload_n 0, 0, 0, 0, 0), (.getfield 59, 7, 9, 0, 0), (.iconst 2, 0, 0, 0, 0), (.if_icmp .eq 8, 0, 0, 0, 0)] = true := by decide +kernel
theorem ck_Re_readNumber_76 : ia_cks 7 7 false prog_8_method_21_code 76 [(.iload_n 2, 0, 0, 0, 0), (.bipush 111, 0, 0, 0, 0), (.if_icmp .ne 35, 0, 0, 0, 0)] = true := by decide +kernel
theorem ck_Re_readNumber_114 : ia_cks 7 7 false prog_8_method_21_code 114 [(.iconst 0, 0, 0, 0, 0)] = true := by decide +kernel
theorem ck_Re_readNumber_115 : ia_cks 7 7 false prog_8_method_21_code 115 [(.istore 6, 0, 0, 0, 0), (.aload_n 0, 0, 0, 0, 0), (.getfield 115, 7, 10, 0, 0), (.iload_n 2, 0, 0, 0, 0)] = true := by decide +kernel
theorem ck_Re_readNumber_125 : ia_cks 7 7 false prog_8_method_21_code 125 [(.if_icmp .lt 19, 0, 0, 0, 0)] = true := by decide +kernel
theorem ck_Re_readNumber_144 : ia_cks 7 7 false prog_8_method_21_code 144 [(.aload_n 0, 0, 0, 0, 0), (.iconst 2, 0, 0, 0, 0), (.aload_n 0, 0, 0, 0, 0), (.getfield 99, 7, 11, 0, 0)] = true := by decide +kernel
theorem ck_Re_readNumber_153 : ia_cks 7 7 false prog_8_method_21_code 153 [(.iload 4, 0, 0, 0, 0), (.ifCond .eq 12, 0, 0, 0, 0)] = true := by decide +kernel
theorem ck_Re_readNumber_167 : ia_cks 7 7 false prog_8_method_21_code 167 [(.iload_n 3, 0, 0, 0, 0), (.aload_n 0, 0, 0, 0, 0), (.getfield 32, 7, 5, 3, 22), (.arraylength, 0, 0, 0, 0)] = true := by decide +kernel
theorem ck_Re_readNumber_173 : ia_cks 7 7 false prog_8_method_21_code 173 [(.if_icmp .ge 13, 0, 0, 0, 0)] = true := by decide +kernel
theorem ck_Re_readNumber_186 : ia_cks 7 7 false prog_8_method_21_code 186 [(.aload_n 0, 0, 0, 0, 0), (.getfield 66, 7, 3, 0, 0), (.ifCond .ne 26, 0, 0, 0, 0)] = true := by decide +kernel
theorem ck_Re_readNumber_216 : ia_cks 7 7 false prog_8_method_21_code 216 [(.aload_n 0, 0, 0, 0, 0)] = true := by decide +kernel
theorem ck_Re_readNumber_220 : ia_cks 7 7 false prog_8_method_21_code 220 [(.iconst 1, 0, 0, 0, 0)] = true := by decide +kernel
theorem ck_Re_readNumber_193 : ia_cks 7 7 false prog_8_method_21_code 193 [(.aload_n 0, 0, 0, 0, 0), (.iload_n 1, 0, 0, 0, 0), (.iload_n 2, 0, 0, 0, 0), (.iload 5, 0, 0, 0, 0), (.ifCond .eq 11, 0, 0, 0, 0)] = true := by decide +kernel
theorem ck_Re_readNumber_209 : ia_cks 7 7 false prog_8_method_21_code 209 [(.aload_n 0, 0, 0, 0, 0), (.getfield 115, 7, 10, 0, 0)] = true := by decide +kernel
theorem ck_Re_readNumber_201 : ia_cks 7 7 false prog_8_method_21_code 201 [(.aload_n 0, 0, 0, 0, 0), (.getfield 115, 7, 10, 0, 0), (.ineg, 0, 0, 0, 0), (.goto 7, 0, 0, 0, 0)] = true := by decide +kernel
theorem ck_Re_readNumber_176 : ia_cks 7 7 false prog_8_method_21_code 176 [(.aload_n 0, 0, 0, 0, 0), (.getfield 32, 7, 5, 3, 22), (.iload_n 3, 0, 0, 0, 0), (.aload_n 0, 0, 0, 0, 0), (.getfield 115, 7, 10, 0, 0), (.iastore, 0, 0, 0, 0)] = true := by decide +kernel
theorem ck_Re_readNumber_158 : ia_cks 7 7 false prog_8_method_21_code 158 [(.aload_n 0, 0, 0, 0, 0), (.iconst 3, 0, 0, 0, 0), (.aload_n 0, 0, 0, 0, 0), (.getfield 99, 7, 11, 0, 0)] = true := by decide +kernel
theorem ck_Re_readNumber_128 : ia_cks 7 7 false prog_8_method_21_code 128 [(.aload_n 0, 0, 0, 0, 0), (.getfield 115, 7, 10, 0, 0), (.iload_n 2, 0, 0, 0, 0)] = true := by decide +kernel
theorem ck_Re_readNumber_136 : ia_cks 7 7 false prog_8_method_21_code 136 [(.if_icmp .gt 8, 0, 0, 0, 0)] = true := by decide +kernel
theorem ck_Re_readNumber_139 : ia_cks 7 7 false prog_8_method_21_code 139 [(.iload 6, 0, 0, 0, 0), (.ifCond .eq 12, 0, 0, 0, 0)] = true := by decide +kernel
theorem ck_Re_readNumber_82 : ia_cks 7 7 false prog_8_method_21_code 82 [(.iload_n 3, 0, 0, 0, 0), (.ifCond .le 31, 0, 0, 0, 0)] = true := by decide +kernel
theorem ck_Re_readNumber_86 : ia_cks 7 7 false prog_8_method_21_code 86 [(.iload_n 3, 0, 0, 0, 0), (.aload_n 0, 0, 0, 0, 0), (.getfield 32, 7, 5, 3, 22), (.arraylength, 0, 0, 0, 0)] = true := by decide +kernel
theorem ck_Re_readNumber_92 : ia_cks 7 7 false prog_8_method_21_code 92 [(.if_icmp .gt 22, 0, 0, 0, 0)] = true := by decide +kernel
theorem ck_Re_readNumber_95 : ia_cks 7 7 false prog_8_method_21_code 95 [(.aload_n 0, 0, 0, 0, 0), (.getfield 115, 7, 10, 0, 0), (.aload_n 0, 0, 0, 0, 0), (.getfield 32, 7, 5, 3, 22), (.iload_n 3, 0, 0, 0, 0), (.iconst 1, 0, 0, 0, 0), (.isub, 0, 0, 0, 0), (.iaload, 0, 0, 0, 0), (.if_icmp .ne 7, 0, 0, 0, 0)] = true := by decide +kernel
theorem ck_Re_readNumber_110 : ia_cks 7 7 false prog_8_method_21_code 110 [(.iconst 1, 0, 0, 0, 0), (.goto 4, 0, 0, 0, 0)] = true := by decide +kernel
theorem ck_Re_readNumber_71 : ia_cks 7 7 false prog_8_method_21_code 71 [(.aload_n 0, 0, 0, 0, 0)] = true := by decide +kernel
theorem ck_Re_readNumber_45 : ia_cks 7 7 false prog_8_method_21_code 45 [(.iload 4, 0, 0, 0, 0), (.ifCond .eq 12, 0, 0, 0, 0)] = true := by decide +kernel
theorem ck_Re_readNumber_59 : ia_cks 7 7 false prog_8_method_21_code 59 [(.aload_n 0, 0, 0, 0, 0)] = true := by decide +kernel
theorem ck_Re_readNumber_50 : ia_cks 7 7 false prog_8_method_21_code 50 [(.aload_n 0, 0, 0, 0, 0), (.iconst 3, 0, 0, 0, 0), (.aload_n 0, 0, 0, 0, 0), (.getfield 99, 7, 11, 0, 0)] = true := by decide +kernel
theorem ck_Re_readNumber_25 : ia_cks 7 7 false prog_8_method_21_code 25 [(.aload_n 0, 0, 0, 0, 0), (.getfield 59, 7, 9, 0, 0), (.iconst 3, 0, 0, 0, 0), (.if_icmp .ne 7, 0, 0, 0, 0)] = true := by decide +kernel
theorem ck_Re_readNumber_33 : ia_cks 7 7 false prog_8_method_21_code 33 [(.iconst 1, 0, 0, 0, 0), (.goto 4, 0, 0, 0, 0)] = true := by decide +kernel
theorem ck_Re_readNumber_6 : ia_cks 7 7 false prog_8_method_21_code 6 [(.iload_n 3, 0, 0, 0, 0), (.bipush 12, 0, 0, 0, 0), (.if_icmp .lt 7, 0, 0, 0, 0)] = true := by decide +kernel
theorem ck_Re_readNumber_12 : ia_cks 7 7 false prog_8_method_21_code 12 [(.iconst 1, 0, 0, 0, 0), (.goto 4, 0, 0, 0, 0)] = true := by decide +kernel
theorem dc_Re_readNumber_122 : decode prog_8_method_21_code 122 = .ok (.invokestatic 239, 3) := by decide +kernel
theorem dc_Re_readNumber_150 : decode prog_8_method_21_code 150 = .ok (.invokevirtual 72, 3) := by decide +kernel
theorem dc_Re_readNumber_217 : decode prog_8_method_21_code 217 = .ok (.invokevirtual 56, 3) := by decide +kernel
theorem dc_Re_readNumber_221 : decode prog_8_method_21_code 221 = .ok (.ireturn, 1) := by decide +kernel
theorem dc_Re_readNumber_213 : decode prog_8_method_21_code 213 = .ok (.invokevirtual 245, 3) := by decide +kernel
theorem dc_Re_readNumber_164 : decode prog_8_method_21_code 164 = .ok (.invokevirtual 72, 3) := by decide +kernel
theorem dc_Re_readNumber_133 : decode prog_8_method_21_code 133 = .ok (.invokestatic 242, 3) := by decide +kernel
theorem dc_Re_readNumber_72 : decode prog_8_method_21_code 72 = .ok (.invokevirtual 122, 3) := by decide +kernel
theorem dc_Re_readNumber_75 : decode prog_8_method_21_code 75 = .ok (.ireturn, 1) := by decide +kernel
theorem dc_Re_readNumber_60 : decode prog_8_method_21_code 60 = .ok (.invokevirtual 56, 3) := by decide +kernel
theorem dc_Re_readNumber_56 : decode prog_8_method_21_code 56 = .ok (.invokevirtual 72, 3) := by decide +kernel
def j_Re_readNumber_216 (x1 : Int32) (x2 : Int32) (x3 : Int32) (h : ia_H) : Option (Int32 × ia_H) := (f_Re_advance h).bind fun v3 => (some (1, v3))
theorem tj_Re_readNumber_216 {w : ia_O0} {d N1 W1 : Nat} {K : ia_K} (hK : ia_isK (d + 3) mm_Re_readNumber N1 W1 K) {x1 : Int32} {x2 : Int32} {x3 : Int32} {r : Int32} {h1 : ia_H} (hret : ∀ (pc : Nat) (lv : ia_L), ia_ret mm_Re_readNumber pc (some (.inl r)) → K pc lv ((some (.inl r)) : Option ia_V).toList h1) : ∀ (h : ia_H), gd_ w h → j_Re_readNumber_216 x1 x2 x3 h = some (r, h1) → K 216 [some (.inr (.inr 279)), none, none, none, none, none, none] [] h := by
  intro h hg hm
  unfold j_Re_readNumber_216 at hm
  refine ia_go hK ck_Re_readNumber_216 ?_
  show K 217 [some (.inr (.inr 279)), none, none, none, none, none, none] [.inr (.inr 279)] h
  obtain ⟨v3, hv3, hm⟩ := ia_bnd hm
  have ev3 := t_Re_advance (d + 0) hg hv3
  have gv3 := g_Re_advance hg hv3
  refine ia_cV hK mk_Re_advance lk_7_56 dc_Re_readNumber_217 279 [] [] rfl rfl (Nat.le_of_ble_eq_true rfl) (by decide) rfl (gk_7 hg pk_279) ev3 (gd_nm hg gv3) ?_
  show K 220 [some (.inr (.inr 279)), none, none, none, none, none, none] [] v3
  refine ia_go hK ck_Re_readNumber_220 ?_
  show K 221 [some (.inr (.inr 279)), none, none, none, none, none, none] [.inl 1] v3
  obtain ⟨rfl, rfl⟩ := Prod.mk.inj (Option.some.inj hm)
  exact hret 221 _ ⟨Or.inr rfl, dc_Re_readNumber_221⟩
theorem gj_Re_readNumber_216 {w : ia_O0} {x1 : Int32} {x2 : Int32} {x3 : Int32} {r : Int32} {h1 : ia_H} : ∀ (h : ia_H), gd_ w h → j_Re_readNumber_216 x1 x2 x3 h = some (r, h1) → gd_ w h1 := by
  intro h hg hm
  unfold j_Re_readNumber_216 at hm
  obtain ⟨v3, hv3, hm⟩ := ia_bnd hm
  have gv3 := g_Re_advance hg hv3
  obtain ⟨rfl, rfl⟩ := Prod.mk.inj (Option.some.inj hm)
  exact gv3
def j_Re_readNumber_213 (x1 : Int32) (x2 : Int32) (x3 : Int32) (s1 : Int32) (s2 : Int32) (s3 : Int32) (h : ia_H) : Option (Int32 × ia_H) := (f_Re_tellNumber s1 s2 s3 h).bind fun v4 => (j_Re_readNumber_216 x1 x2 x3 v4)
theorem tj_Re_readNumber_213 {w : ia_O0} {d N1 W1 : Nat} {K : ia_K} (hK : ia_isK (d + 3) mm_Re_readNumber N1 W1 K) {x1 : Int32} {x2 : Int32} {x3 : Int32} {r : Int32} {h1 : ia_H} (hret : ∀ (pc : Nat) (lv : ia_L), ia_ret mm_Re_readNumber pc (some (.inl r)) → K pc lv ((some (.inl r)) : Option ia_V).toList h1) : ∀ (s1 : Int32) (s2 : Int32) (s3 : Int32) (h : ia_H), gd_ w h → j_Re_readNumber_213 x1 x2 x3 s1 s2 s3 h = some (r, h1) → K 213 [some (.inr (.inr 279)), none, none, none, none, none, none] [.inl s3, .inl s2, .inl s1, .inr (.inr 279)] h := by
  intro s1 s2 s3 h hg hm
  unfold j_Re_readNumber_213 at hm
  obtain ⟨v4, hv4, hm⟩ := ia_bnd hm
  have ev4 := t_Re_tellNumber (d + 1) hg hv4
  have gv4 := g_Re_tellNumber hg hv4
  refine ia_cV hK mk_Re_tellNumber lk_7_245 dc_Re_readNumber_213 279 [.inl s1, .inl s2, .inl s3] [] rfl rfl (Nat.le_of_ble_eq_true rfl) (by decide) rfl (gk_7 hg pk_279) ev4 (gd_nm hg gv4) ?_
  show K 216 [some (.inr (.inr 279)), none, none, none, none, none, none] [] v4
  exact tj_Re_readNumber_216 hK hret v4 gv4 hm
theorem gj_Re_readNumber_213 {w : ia_O0} {x1 : Int32} {x2 : Int32} {x3 : Int32} {r : Int32} {h1 : ia_H} : ∀ (s1 : Int32) (s2 : Int32) (s3 : Int32) (h : ia_H), gd_ w h → j_Re_readNumber_213 x1 x2 x3 s1 s2 s3 h = some (r, h1) → gd_ w h1 := by
  intro s1 s2 s3 h hg hm
  unfold j_Re_readNumber_213 at hm
  obtain ⟨v4, hv4, hm⟩ := ia_bnd hm
  have gv4 := g_Re_tellNumber hg hv4
  exact gj_Re_readNumber_216 v4 gv4 hm
def j_Re_readNumber_186 (x1 : Int32) (x2 : Int32) (x3 : Int32) (x5 : Int32) (h : ia_H) : Option (Int32 × ia_H) := if (ia_i h 279 3) = 0 then (if x5 = 0 then (j_Re_readNumber_213 x1 x2 x3 x1 x2 (ia_i h 279 10) h) else (j_Re_readNumber_213 x1 x2 x3 x1 x2 (-(ia_i h 279 10)) h)) else (j_Re_readNumber_216 x1 x2 x3 h)
theorem tj_Re_readNumber_186 {w : ia_O0} {d N1 W1 : Nat} {K : ia_K} (hK : ia_isK (d + 3) mm_Re_readNumber N1 W1 K) {x1 : Int32} {x2 : Int32} {x3 : Int32} {r : Int32} {h1 : ia_H} (hret : ∀ (pc : Nat) (lv : ia_L), ia_ret mm_Re_readNumber pc (some (.inl r)) → K pc lv ((some (.inl r)) : Option ia_V).toList h1) : ∀ (x5 : Int32) (h : ia_H), gd_ w h → j_Re_readNumber_186 x1 x2 x3 x5 h = some (r, h1) → K 186 [some (.inr (.inr 279)), some (.inl x1), some (.inl x2), none, none, some (.inl x5), none] [] h := by
  intro x5 h hg hm
  unfold j_Re_readNumber_186 at hm
  refine ia_go hK ck_Re_readNumber_186 ⟨gk_7 hg pk_279, fun c => ?_, fun c => ?_⟩
  · replace hm := ia_ifn hm c
    show K 216 [some (.inr (.inr 279)), some (.inl x1), some (.inl x2), none, none, some (.inl x5), none] [] h
    refine ia_fg hK (lv' := [some (.inr (.inr 279)), none, none, none, none, none, none]) ⟨rfl, trivial⟩ ?_
    exact tj_Re_readNumber_216 hK hret h hg hm
  · replace hm := ia_ifp hm c
    show K 193 [some (.inr (.inr 279)), some (.inl x1), some (.inl x2), none, none, some (.inl x5), none] [] h
    refine ia_go hK ck_Re_readNumber_193 ⟨fun c => ?_, fun c => ?_⟩
    · replace hm := ia_ifp hm c
      show K 209 [some (.inr (.inr 279)), some (.inl x1), some (.inl x2), none, none, some (.inl x5), none] [.inl x2, .inl x1, .inr (.inr 279)] h
      refine ia_go hK ck_Re_readNumber_209 ⟨gk_7 hg pk_279, ?_⟩
      show K 213 [some (.inr (.inr 279)), some (.inl x1), some (.inl x2), none, none, some (.inl x5), none] [.inl (ia_i h 279 10), .inl x2, .inl x1, .inr (.inr 279)] h
      refine ia_fg hK (lv' := [some (.inr (.inr 279)), none, none, none, none, none, none]) ⟨rfl, trivial⟩ ?_
      exact tj_Re_readNumber_213 hK hret x1 x2 (ia_i h 279 10) h hg hm
    · replace hm := ia_ifn hm c
      show K 201 [some (.inr (.inr 279)), some (.inl x1), some (.inl x2), none, none, some (.inl x5), none] [.inl x2, .inl x1, .inr (.inr 279)] h
      refine ia_go hK ck_Re_readNumber_201 ⟨gk_7 hg pk_279, ?_⟩
      show K 213 [some (.inr (.inr 279)), some (.inl x1), some (.inl x2), none, none, some (.inl x5), none] [.inl (-(ia_i h 279 10)), .inl x2, .inl x1, .inr (.inr 279)] h
      refine ia_fg hK (lv' := [some (.inr (.inr 279)), none, none, none, none, none, none]) ⟨rfl, trivial⟩ ?_
      exact tj_Re_readNumber_213 hK hret x1 x2 (-(ia_i h 279 10)) h hg hm
theorem gj_Re_readNumber_186 {w : ia_O0} {x1 : Int32} {x2 : Int32} {x3 : Int32} {r : Int32} {h1 : ia_H} : ∀ (x5 : Int32) (h : ia_H), gd_ w h → j_Re_readNumber_186 x1 x2 x3 x5 h = some (r, h1) → gd_ w h1 := by
  intro x5 h hg hm
  unfold j_Re_readNumber_186 at hm
  by_cases c : (ia_i h 279 3) = 0
  · replace hm := ia_ifp hm c
    by_cases c : x5 = 0
    · replace hm := ia_ifp hm c
      exact gj_Re_readNumber_213 x1 x2 (ia_i h 279 10) h hg hm
    · replace hm := ia_ifn hm c
      exact gj_Re_readNumber_213 x1 x2 (-(ia_i h 279 10)) h hg hm
  · replace hm := ia_ifn hm c
    exact gj_Re_readNumber_216 h hg hm
def j_Re_readNumber_167 (x1 : Int32) (x2 : Int32) (x3 : Int32) (x5 : Int32) (h : ia_H) : Option (Int32 × ia_H) := if (Int32.ofNat 4) ≤ x3 then (j_Re_readNumber_186 x1 x2 x3 x5 h) else (ia_gd (ia_ib x3 4) (j_Re_readNumber_186 x1 x2 x3 x5 (ia_wI h 301 ((x3).toNatClampNeg) (ia_i h 279 10))))
theorem tj_Re_readNumber_167 {w : ia_O0} {d N1 W1 : Nat} {K : ia_K} (hK : ia_isK (d + 3) mm_Re_readNumber N1 W1 K) {x1 : Int32} {x2 : Int32} {x3 : Int32} {r : Int32} {h1 : ia_H} (hret : ∀ (pc : Nat) (lv : ia_L), ia_ret mm_Re_readNumber pc (some (.inl r)) → K pc lv ((some (.inl r)) : Option ia_V).toList h1) : ∀ (x5 : Int32) (h : ia_H), gd_ w h → j_Re_readNumber_167 x1 x2 x3 x5 h = some (r, h1) → K 167 [some (.inr (.inr 279)), some (.inl x1), some (.inl x2), some (.inl x3), none, some (.inl x5), none] [] h := by
  intro x5 h hg hm
  unfold j_Re_readNumber_167 at hm
  refine ia_go hK ck_Re_readNumber_167 ⟨gk_7 hg pk_279, gr_7_5 hg pk_279, ga_len hg (ka_7_5 pk_279) ⟨by decide, by decide⟩, ?_⟩
  show K 173 [some (.inr (.inr 279)), some (.inl x1), some (.inl x2), some (.inl x3), none, some (.inl x5), none] [.inl (Int32.ofNat (ia_k h 301).2), .inl x3] h
  rw [ga_ln hg (ka_7_5 pk_279) ⟨by decide, by decide⟩]
  refine ia_go hK ck_Re_readNumber_173 ⟨fun c => ?_, fun c => ?_⟩
  · replace hm := ia_ifp hm c
    show K 186 [some (.inr (.inr 279)), some (.inl x1), some (.inl x2), some (.inl x3), none, some (.inl x5), none] [] h
    refine ia_fg hK (lv' := [some (.inr (.inr 279)), some (.inl x1), some (.inl x2), none, none, some (.inl x5), none]) ⟨rfl, rfl, rfl, rfl, trivial⟩ ?_
    exact tj_Re_readNumber_186 hK hret x5 h hg hm
  · replace hm := ia_ifn hm c
    show K 176 [some (.inr (.inr 279)), some (.inl x1), some (.inl x2), some (.inl x3), none, some (.inl x5), none] [] h
    obtain ⟨c5, hm⟩ := ia_gd_some hm
    refine ia_go hK ck_Re_readNumber_176 ⟨gk_7 hg pk_279, gr_7_5 hg pk_279, gk_7 hg pk_279, ga_s100 hg (ka_7_5 pk_279) c5, ?_⟩
    show K 186 [some (.inr (.inr 279)), some (.inl x1), some (.inl x2), some (.inl x3), none, some (.inl x5), none] [] (ia_wI h 301 ((x3).toNatClampNeg) (ia_i h 279 10))
    refine ia_fg hK (lv' := [some (.inr (.inr 279)), some (.inl x1), some (.inl x2), none, none, some (.inl x5), none]) ⟨rfl, rfl, rfl, rfl, trivial⟩ ?_
    exact tj_Re_readNumber_186 hK hret x5 (ia_wI h 301 ((x3).toNatClampNeg) (ia_i h 279 10)) (gd_wI hg (kx_100 (ka_7_5 pk_279))) hm
theorem gj_Re_readNumber_167 {w : ia_O0} {x1 : Int32} {x2 : Int32} {x3 : Int32} {r : Int32} {h1 : ia_H} : ∀ (x5 : Int32) (h : ia_H), gd_ w h → j_Re_readNumber_167 x1 x2 x3 x5 h = some (r, h1) → gd_ w h1 := by
  intro x5 h hg hm
  unfold j_Re_readNumber_167 at hm
  by_cases c : (Int32.ofNat 4) ≤ x3
  · replace hm := ia_ifp hm c
    exact gj_Re_readNumber_186 x5 h hg hm
  · replace hm := ia_ifn hm c
    obtain ⟨c5, hm⟩ := ia_gd_some hm
    exact gj_Re_readNumber_186 x5 (ia_wI h 301 ((x3).toNatClampNeg) (ia_i h 279 10)) (gd_wI hg (kx_100 (ka_7_5 pk_279))) hm
def j_Re_readNumber_153 (x1 : Int32) (x2 : Int32) (x3 : Int32) (x4 : Int32) (x5 : Int32) (h : ia_H) : Option (Int32 × ia_H) := if x4 = 0 then (j_Re_readNumber_167 x1 x2 x3 x5 h) else ((f_Re_note 3 (ia_i h 279 11) h).bind fun v6 => (j_Re_readNumber_167 x1 x2 x3 x5 v6))
theorem tj_Re_readNumber_153 {w : ia_O0} {d N1 W1 : Nat} {K : ia_K} (hK : ia_isK (d + 3) mm_Re_readNumber N1 W1 K) {x1 : Int32} {x2 : Int32} {x3 : Int32} {r : Int32} {h1 : ia_H} (hret : ∀ (pc : Nat) (lv : ia_L), ia_ret mm_Re_readNumber pc (some (.inl r)) → K pc lv ((some (.inl r)) : Option ia_V).toList h1) : ∀ (x4 : Int32) (x5 : Int32) (h : ia_H), gd_ w h → j_Re_readNumber_153 x1 x2 x3 x4 x5 h = some (r, h1) → K 153 [some (.inr (.inr 279)), some (.inl x1), some (.inl x2), some (.inl x3), some (.inl x4), some (.inl x5), none] [] h := by
  intro x4 x5 h hg hm
  unfold j_Re_readNumber_153 at hm
  refine ia_go hK ck_Re_readNumber_153 ⟨fun c => ?_, fun c => ?_⟩
  · replace hm := ia_ifp hm c
    show K 167 [some (.inr (.inr 279)), some (.inl x1), some (.inl x2), some (.inl x3), some (.inl x4), some (.inl x5), none] [] h
    refine ia_fg hK (lv' := [some (.inr (.inr 279)), some (.inl x1), some (.inl x2), some (.inl x3), none, some (.inl x5), none]) ⟨rfl, rfl, rfl, rfl, rfl, trivial⟩ ?_
    exact tj_Re_readNumber_167 hK hret x5 h hg hm
  · replace hm := ia_ifn hm c
    show K 158 [some (.inr (.inr 279)), some (.inl x1), some (.inl x2), some (.inl x3), some (.inl x4), some (.inl x5), none] [] h
    refine ia_go hK ck_Re_readNumber_158 ⟨gk_7 hg pk_279, ?_⟩
    show K 164 [some (.inr (.inr 279)), some (.inl x1), some (.inl x2), some (.inl x3), some (.inl x4), some (.inl x5), none] [.inl (ia_i h 279 11), .inl 3, .inr (.inr 279)] h
    obtain ⟨v6, hv6, hm⟩ := ia_bnd hm
    have ev6 := t_Re_note (d + 2) hg hv6
    have gv6 := g_Re_note hg hv6
    refine ia_cV hK mk_Re_note lk_7_72 dc_Re_readNumber_164 279 [.inl 3, .inl (ia_i h 279 11)] [] rfl rfl (Nat.le_of_ble_eq_true rfl) (by decide) rfl (gk_7 hg pk_279) ev6 (gd_nm hg gv6) ?_
    show K 167 [some (.inr (.inr 279)), some (.inl x1), some (.inl x2), some (.inl x3), some (.inl x4), some (.inl x5), none] [] v6
    refine ia_fg hK (lv' := [some (.inr (.inr 279)), some (.inl x1), some (.inl x2), some (.inl x3), none, some (.inl x5), none]) ⟨rfl, rfl, rfl, rfl, rfl, trivial⟩ ?_
    exact tj_Re_readNumber_167 hK hret x5 v6 gv6 hm
theorem gj_Re_readNumber_153 {w : ia_O0} {x1 : Int32} {x2 : Int32} {x3 : Int32} {r : Int32} {h1 : ia_H} : ∀ (x4 : Int32) (x5 : Int32) (h : ia_H), gd_ w h → j_Re_readNumber_153 x1 x2 x3 x4 x5 h = some (r, h1) → gd_ w h1 := by
  intro x4 x5 h hg hm
  unfold j_Re_readNumber_153 at hm
  by_cases c : x4 = 0
  · replace hm := ia_ifp hm c
    exact gj_Re_readNumber_167 x5 h hg hm
  · replace hm := ia_ifn hm c
    obtain ⟨v6, hv6, hm⟩ := ia_bnd hm
    have gv6 := g_Re_note hg hv6
    exact gj_Re_readNumber_167 x5 v6 gv6 hm
def j_Re_readNumber_144 (x1 : Int32) (x2 : Int32) (x3 : Int32) (x4 : Int32) (x5 : Int32) (h : ia_H) : Option (Int32 × ia_H) := (f_Re_note 2 (ia_i h 279 11) h).bind fun v2 => (j_Re_readNumber_153 x1 x2 x3 x4 x5 v2)
theorem tj_Re_readNumber_144 {w : ia_O0} {d N1 W1 : Nat} {K : ia_K} (hK : ia_isK (d + 3) mm_Re_readNumber N1 W1 K) {x1 : Int32} {x2 : Int32} {x3 : Int32} {r : Int32} {h1 : ia_H} (hret : ∀ (pc : Nat) (lv : ia_L), ia_ret mm_Re_readNumber pc (some (.inl r)) → K pc lv ((some (.inl r)) : Option ia_V).toList h1) : ∀ (x4 : Int32) (x5 : Int32) (h : ia_H), gd_ w h → j_Re_readNumber_144 x1 x2 x3 x4 x5 h = some (r, h1) → K 144 [some (.inr (.inr 279)), some (.inl x1), some (.inl x2), some (.inl x3), some (.inl x4), some (.inl x5), none] [] h := by
  intro x4 x5 h hg hm
  unfold j_Re_readNumber_144 at hm
  refine ia_go hK ck_Re_readNumber_144 ⟨gk_7 hg pk_279, ?_⟩
  show K 150 [some (.inr (.inr 279)), some (.inl x1), some (.inl x2), some (.inl x3), some (.inl x4), some (.inl x5), none] [.inl (ia_i h 279 11), .inl 2, .inr (.inr 279)] h
  obtain ⟨v2, hv2, hm⟩ := ia_bnd hm
  have ev2 := t_Re_note (d + 2) hg hv2
  have gv2 := g_Re_note hg hv2
  refine ia_cV hK mk_Re_note lk_7_72 dc_Re_readNumber_150 279 [.inl 2, .inl (ia_i h 279 11)] [] rfl rfl (Nat.le_of_ble_eq_true rfl) (by decide) rfl (gk_7 hg pk_279) ev2 (gd_nm hg gv2) ?_
  show K 153 [some (.inr (.inr 279)), some (.inl x1), some (.inl x2), some (.inl x3), some (.inl x4), some (.inl x5), none] [] v2
  exact tj_Re_readNumber_153 hK hret x4 x5 v2 gv2 hm
theorem gj_Re_readNumber_144 {w : ia_O0} {x1 : Int32} {x2 : Int32} {x3 : Int32} {r : Int32} {h1 : ia_H} : ∀ (x4 : Int32) (x5 : Int32) (h : ia_H), gd_ w h → j_Re_readNumber_144 x1 x2 x3 x4 x5 h = some (r, h1) → gd_ w h1 := by
  intro x4 x5 h hg hm
  unfold j_Re_readNumber_144 at hm
  obtain ⟨v2, hv2, hm⟩ := ia_bnd hm
  have gv2 := g_Re_note hg hv2
  exact gj_Re_readNumber_153 x4 x5 v2 gv2 hm
def j_Re_readNumber_115 (x1 : Int32) (x2 : Int32) (x3 : Int32) (x4 : Int32) (x5 : Int32) (s0 : Int32) (h : ia_H) : Option (Int32 × ia_H) := (f_Re_least x2 h).bind fun v1 => (if (ia_i h 279 10) < v1 then (j_Re_readNumber_144 x1 x2 x3 x4 x5 h) else ((f_Re_greatest x2 h).bind fun v7 => (if v7 < (ia_i h 279 10) then (j_Re_readNumber_144 x1 x2 x3 x4 x5 h) else (if s0 = 0 then (j_Re_readNumber_153 x1 x2 x3 x4 x5 h) else (j_Re_readNumber_144 x1 x2 x3 x4 x5 h)))))
theorem tj_Re_readNumber_115 {w : ia_O0} {d N1 W1 : Nat} {K : ia_K} (hK : ia_isK (d + 3) mm_Re_readNumber N1 W1 K) {x1 : Int32} {x2 : Int32} {x3 : Int32} {r : Int32} {h1 : ia_H} (hret : ∀ (pc : Nat) (lv : ia_L), ia_ret mm_Re_readNumber pc (some (.inl r)) → K pc lv ((some (.inl r)) : Option ia_V).toList h1) : ∀ (x4 : Int32) (x5 : Int32) (s0 : Int32) (h : ia_H), gd_ w h → j_Re_readNumber_115 x1 x2 x3 x4 x5 s0 h = some (r, h1) → K 115 [some (.inr (.inr 279)), some (.inl x1), some (.inl x2), some (.inl x3), some (.inl x4), some (.inl x5), none] [.inl s0] h := by
  intro x4 x5 s0 h hg hm
  unfold j_Re_readNumber_115 at hm
  refine ia_go hK ck_Re_readNumber_115 ⟨gk_7 hg pk_279, ?_⟩
  show K 122 [some (.inr (.inr 279)), some (.inl x1), some (.inl x2), some (.inl x3), some (.inl x4), some (.inl x5), some (.inl s0)] [.inl x2, .inl (ia_i h 279 10)] h
  obtain ⟨v1, hv1, hm⟩ := ia_bnd hm
  have ev1 := t_Re_least (d + 2) hg hv1
  refine ia_cS hK mk_Re_least lk_7_239 dc_Re_readNumber_122 [.inl x2] [.inl (ia_i h 279 10)] rfl rfl (Nat.le_of_ble_eq_true rfl) ev1 ⟨rfl, rfl⟩ ?_
  show K 125 [some (.inr (.inr 279)), some (.inl x1), some (.inl x2), some (.inl x3), some (.inl x4), some (.inl x5), some (.inl s0)] [.inl v1, .inl (ia_i h 279 10)] h
  refine ia_go hK ck_Re_readNumber_125 ⟨fun c => ?_, fun c => ?_⟩
  · replace hm := ia_ifp hm c
    show K 144 [some (.inr (.inr 279)), some (.inl x1), some (.inl x2), some (.inl x3), some (.inl x4), some (.inl x5), some (.inl s0)] [] h
    refine ia_fg hK (lv' := [some (.inr (.inr 279)), some (.inl x1), some (.inl x2), some (.inl x3), some (.inl x4), some (.inl x5), none]) ⟨rfl, rfl, rfl, rfl, rfl, rfl, trivial⟩ ?_
    exact tj_Re_readNumber_144 hK hret x4 x5 h hg hm
  · replace hm := ia_ifn hm c
    show K 128 [some (.inr (.inr 279)), some (.inl x1), some (.inl x2), some (.inl x3), some (.inl x4), some (.inl x5), some (.inl s0)] [] h
    refine ia_go hK ck_Re_readNumber_128 ⟨gk_7 hg pk_279, ?_⟩
    show K 133 [some (.inr (.inr 279)), some (.inl x1), some (.inl x2), some (.inl x3), some (.inl x4), some (.inl x5), some (.inl s0)] [.inl x2, .inl (ia_i h 279 10)] h
    obtain ⟨v7, hv7, hm⟩ := ia_bnd hm
    have ev7 := t_Re_greatest (d + 2) hg hv7
    refine ia_cS hK mk_Re_greatest lk_7_242 dc_Re_readNumber_133 [.inl x2] [.inl (ia_i h 279 10)] rfl rfl (Nat.le_of_ble_eq_true rfl) ev7 ⟨rfl, rfl⟩ ?_
    show K 136 [some (.inr (.inr 279)), some (.inl x1), some (.inl x2), some (.inl x3), some (.inl x4), some (.inl x5), some (.inl s0)] [.inl v7, .inl (ia_i h 279 10)] h
    refine ia_go hK ck_Re_readNumber_136 ⟨fun c => ?_, fun c => ?_⟩
    · replace hm := ia_ifp hm c
      show K 144 [some (.inr (.inr 279)), some (.inl x1), some (.inl x2), some (.inl x3), some (.inl x4), some (.inl x5), some (.inl s0)] [] h
      refine ia_fg hK (lv' := [some (.inr (.inr 279)), some (.inl x1), some (.inl x2), some (.inl x3), some (.inl x4), some (.inl x5), none]) ⟨rfl, rfl, rfl, rfl, rfl, rfl, trivial⟩ ?_
      exact tj_Re_readNumber_144 hK hret x4 x5 h hg hm
    · replace hm := ia_ifn hm c
      show K 139 [some (.inr (.inr 279)), some (.inl x1), some (.inl x2), some (.inl x3), some (.inl x4), some (.inl x5), some (.inl s0)] [] h
      refine ia_go hK ck_Re_readNumber_139 ⟨fun c => ?_, fun c => ?_⟩
      · replace hm := ia_ifp hm c
        show K 153 [some (.inr (.inr 279)), some (.inl x1), some (.inl x2), some (.inl x3), some (.inl x4), some (.inl x5), some (.inl s0)] [] h
        refine ia_fg hK (lv' := [some (.inr (.inr 279)), some (.inl x1), some (.inl x2), some (.inl x3), some (.inl x4), some (.inl x5), none]) ⟨rfl, rfl, rfl, rfl, rfl, rfl, trivial⟩ ?_
        exact tj_Re_readNumber_153 hK hret x4 x5 h hg hm
      · replace hm := ia_ifn hm c
        show K 144 [some (.inr (.inr 279)), some (.inl x1), some (.inl x2), some (.inl x3), some (.inl x4), some (.inl x5), some (.inl s0)] [] h
        refine ia_fg hK (lv' := [some (.inr (.inr 279)), some (.inl x1), some (.inl x2), some (.inl x3), some (.inl x4), some (.inl x5), none]) ⟨rfl, rfl, rfl, rfl, rfl, rfl, trivial⟩ ?_
        exact tj_Re_readNumber_144 hK hret x4 x5 h hg hm
theorem gj_Re_readNumber_115 {w : ia_O0} {x1 : Int32} {x2 : Int32} {x3 : Int32} {r : Int32} {h1 : ia_H} : ∀ (x4 : Int32) (x5 : Int32) (s0 : Int32) (h : ia_H), gd_ w h → j_Re_readNumber_115 x1 x2 x3 x4 x5 s0 h = some (r, h1) → gd_ w h1 := by
  intro x4 x5 s0 h hg hm
  unfold j_Re_readNumber_115 at hm
  obtain ⟨v1, hv1, hm⟩ := ia_bnd hm
  by_cases c : (ia_i h 279 10) < v1
  · replace hm := ia_ifp hm c
    exact gj_Re_readNumber_144 x4 x5 h hg hm
  · replace hm := ia_ifn hm c
    obtain ⟨v7, hv7, hm⟩ := ia_bnd hm
    by_cases c : v7 < (ia_i h 279 10)
    · replace hm := ia_ifp hm c
      exact gj_Re_readNumber_144 x4 x5 h hg hm
    · replace hm := ia_ifn hm c
      by_cases c : s0 = 0
      · replace hm := ia_ifp hm c
        exact gj_Re_readNumber_153 x4 x5 h hg hm
      · replace hm := ia_ifn hm c
        exact gj_Re_readNumber_144 x4 x5 h hg hm
def j_Re_readNumber_63 (x1 : Int32) (x2 : Int32) (x3 : Int32) (x4 : Int32) (x5 : Int32) (h : ia_H) : Option (Int32 × ia_H) := if (ia_i h 279 9) = 2 then (if x2 = 111 then (if x3 ≤ 0 then (j_Re_readNumber_115 x1 x2 x3 x4 x5 0 h) else (if (Int32.ofNat 4) < x3 then (j_Re_readNumber_115 x1 x2 x3 x4 x5 0 h) else (ia_gd (ia_ib (x3 - 1) 4) (if (ia_i h 279 10) = (ia_i h 301 ((x3 - 1).toNatClampNeg)) then (j_Re_readNumber_115 x1 x2 x3 x4 x5 1 h) else (j_Re_readNumber_115 x1 x2 x3 x4 x5 0 h))))) else (j_Re_readNumber_115 x1 x2 x3 x4 x5 0 h)) else ((f_Re_refuse h).bind fun v9 => (ia_gd (ia_z1 v9.1) (some (v9.1, v9.2))))
theorem tj_Re_readNumber_63 {w : ia_O0} {d N1 W1 : Nat} {K : ia_K} (hK : ia_isK (d + 3) mm_Re_readNumber N1 W1 K) {x1 : Int32} {x2 : Int32} {x3 : Int32} {r : Int32} {h1 : ia_H} (hret : ∀ (pc : Nat) (lv : ia_L), ia_ret mm_Re_readNumber pc (some (.inl r)) → K pc lv ((some (.inl r)) : Option ia_V).toList h1) : ∀ (x4 : Int32) (x5 : Int32) (h : ia_H), gd_ w h → j_Re_readNumber_63 x1 x2 x3 x4 x5 h = some (r, h1) → K 63 [some (.inr (.inr 279)), some (.inl x1), some (.inl x2), some (.inl x3), some (.inl x4), some (.inl x5), none] [] h := by
  intro x4 x5 h hg hm
  unfold j_Re_readNumber_63 at hm
  refine ia_go hK ck_Re_readNumber_63 ⟨gk_7 hg pk_279, fun c => ?_, fun c => ?_⟩
  · replace hm := ia_ifp hm c
    show K 76 [some (.inr (.inr 279)), some (.inl x1), some (.inl x2), some (.inl x3), some (.inl x4), some (.inl x5), none] [] h
    refine ia_go hK ck_Re_readNumber_76 ⟨fun c => ?_, fun c => ?_⟩
    · replace hm := ia_ifn hm c
      show K 114 [some (.inr (.inr 279)), some (.inl x1), some (.inl x2), some (.inl x3), some (.inl x4), some (.inl x5), none] [] h
      refine ia_go hK ck_Re_readNumber_114 ?_
      show K 115 [some (.inr (.inr 279)), some (.inl x1), some (.inl x2), some (.inl x3), some (.inl x4), some (.inl x5), none] [.inl 0] h
      exact tj_Re_readNumber_115 hK hret x4 x5 0 h hg hm
    · replace hm := ia_ifp hm c
      show K 82 [some (.inr (.inr 279)), some (.inl x1), some (.inl x2), some (.inl x3), some (.inl x4), some (.inl x5), none] [] h
      refine ia_go hK ck_Re_readNumber_82 ⟨fun c => ?_, fun c => ?_⟩
      · replace hm := ia_ifp hm c
        show K 114 [some (.inr (.inr 279)), some (.inl x1), some (.inl x2), some (.inl x3), some (.inl x4), some (.inl x5), none] [] h
        refine ia_go hK ck_Re_readNumber_114 ?_
        show K 115 [some (.inr (.inr 279)), some (.inl x1), some (.inl x2), some (.inl x3), some (.inl x4), some (.inl x5), none] [.inl 0] h
        exact tj_Re_readNumber_115 hK hret x4 x5 0 h hg hm
      · replace hm := ia_ifn hm c
        show K 86 [some (.inr (.inr 279)), some (.inl x1), some (.inl x2), some (.inl x3), some (.inl x4), some (.inl x5), none] [] h
        refine ia_go hK ck_Re_readNumber_86 ⟨gk_7 hg pk_279, gr_7_5 hg pk_279, ga_len hg (ka_7_5 pk_279) ⟨by decide, by decide⟩, ?_⟩
        show K 92 [some (.inr (.inr 279)), some (.inl x1), some (.inl x2), some (.inl x3), some (.inl x4), some (.inl x5), none] [.inl (Int32.ofNat (ia_k h 301).2), .inl x3] h
        rw [ga_ln hg (ka_7_5 pk_279) ⟨by decide, by decide⟩]
        refine ia_go hK ck_Re_readNumber_92 ⟨fun c => ?_, fun c => ?_⟩
        · replace hm := ia_ifp hm c
          show K 114 [some (.inr (.inr 279)), some (.inl x1), some (.inl x2), some (.inl x3), some (.inl x4), some (.inl x5), none] [] h
          refine ia_go hK ck_Re_readNumber_114 ?_
          show K 115 [some (.inr (.inr 279)), some (.inl x1), some (.inl x2), some (.inl x3), some (.inl x4), some (.inl x5), none] [.inl 0] h
          exact tj_Re_readNumber_115 hK hret x4 x5 0 h hg hm
        · replace hm := ia_ifn hm c
          show K 95 [some (.inr (.inr 279)), some (.inl x1), some (.inl x2), some (.inl x3), some (.inl x4), some (.inl x5), none] [] h
          obtain ⟨c8, hm⟩ := ia_gd_some hm
          refine ia_go hK ck_Re_readNumber_95 ⟨gk_7 hg pk_279, gk_7 hg pk_279, gr_7_5 hg pk_279, ga_i100 hg (ka_7_5 pk_279) c8, fun c => ?_, fun c => ?_⟩
          · replace hm := ia_ifn hm c
            show K 114 [some (.inr (.inr 279)), some (.inl x1), some (.inl x2), some (.inl x3), some (.inl x4), some (.inl x5), none] [] h
            refine ia_go hK ck_Re_readNumber_114 ?_
            show K 115 [some (.inr (.inr 279)), some (.inl x1), some (.inl x2), some (.inl x3), some (.inl x4), some (.inl x5), none] [.inl 0] h
            exact tj_Re_readNumber_115 hK hret x4 x5 0 h hg hm
          · replace hm := ia_ifp hm c
            show K 110 [some (.inr (.inr 279)), some (.inl x1), some (.inl x2), some (.inl x3), some (.inl x4), some (.inl x5), none] [] h
            refine ia_go hK ck_Re_readNumber_110 ?_
            show K 115 [some (.inr (.inr 279)), some (.inl x1), some (.inl x2), some (.inl x3), some (.inl x4), some (.inl x5), none] [.inl 1] h
            exact tj_Re_readNumber_115 hK hret x4 x5 1 h hg hm
  · replace hm := ia_ifn hm c
    show K 71 [some (.inr (.inr 279)), some (.inl x1), some (.inl x2), some (.inl x3), some (.inl x4), some (.inl x5), none] [] h
    refine ia_go hK ck_Re_readNumber_71 ?_
    show K 72 [some (.inr (.inr 279)), some (.inl x1), some (.inl x2), some (.inl x3), some (.inl x4), some (.inl x5), none] [.inr (.inr 279)] h
    obtain ⟨v9, hv9, hm⟩ := ia_bnd hm
    have ev9 := t_Re_refuse (d + 2) hg hv9
    have gv9 := g_Re_refuse hg hv9
    refine ia_cV hK mk_Re_refuse lk_7_122 dc_Re_readNumber_72 279 [] [] rfl rfl (Nat.le_of_ble_eq_true rfl) (by decide) rfl (gk_7 hg pk_279) ev9 (gd_nm hg gv9) ?_
    show K 75 [some (.inr (.inr 279)), some (.inl x1), some (.inl x2), some (.inl x3), some (.inl x4), some (.inl x5), none] [.inl v9.1] v9.2
    obtain ⟨c10, hm⟩ := ia_gd_some hm
    obtain ⟨rfl, rfl⟩ := Prod.mk.inj (Option.some.inj hm)
    exact hret 75 _ ⟨ia_z1_spec c10, dc_Re_readNumber_75⟩
theorem gj_Re_readNumber_63 {w : ia_O0} {x1 : Int32} {x2 : Int32} {x3 : Int32} {r : Int32} {h1 : ia_H} : ∀ (x4 : Int32) (x5 : Int32) (h : ia_H), gd_ w h → j_Re_readNumber_63 x1 x2 x3 x4 x5 h = some (r, h1) → gd_ w h1 := by
  intro x4 x5 h hg hm
  unfold j_Re_readNumber_63 at hm
  by_cases c : (ia_i h 279 9) = 2
  · replace hm := ia_ifp hm c
    by_cases c : x2 = 111
    · replace hm := ia_ifp hm c
      by_cases c : x3 ≤ 0
      · replace hm := ia_ifp hm c
        exact gj_Re_readNumber_115 x4 x5 0 h hg hm
      · replace hm := ia_ifn hm c
        by_cases c : (Int32.ofNat 4) < x3
        · replace hm := ia_ifp hm c
          exact gj_Re_readNumber_115 x4 x5 0 h hg hm
        · replace hm := ia_ifn hm c
          obtain ⟨c8, hm⟩ := ia_gd_some hm
          by_cases c : (ia_i h 279 10) = (ia_i h 301 ((x3 - 1).toNatClampNeg))
          · replace hm := ia_ifp hm c
            exact gj_Re_readNumber_115 x4 x5 1 h hg hm
          · replace hm := ia_ifn hm c
            exact gj_Re_readNumber_115 x4 x5 0 h hg hm
    · replace hm := ia_ifn hm c
      exact gj_Re_readNumber_115 x4 x5 0 h hg hm
  · replace hm := ia_ifn hm c
    obtain ⟨v9, hv9, hm⟩ := ia_bnd hm
    have gv9 := g_Re_refuse hg hv9
    obtain ⟨c10, hm⟩ := ia_gd_some hm
    obtain ⟨rfl, rfl⟩ := Prod.mk.inj (Option.some.inj hm)
    exact gv9
def j_Re_readNumber_59 (x1 : Int32) (x2 : Int32) (x3 : Int32) (x4 : Int32) (x5 : Int32) (h : ia_H) : Option (Int32 × ia_H) := (f_Re_advance h).bind fun v11 => (j_Re_readNumber_63 x1 x2 x3 x4 x5 v11)
theorem tj_Re_readNumber_59 {w : ia_O0} {d N1 W1 : Nat} {K : ia_K} (hK : ia_isK (d + 3) mm_Re_readNumber N1 W1 K) {x1 : Int32} {x2 : Int32} {x3 : Int32} {r : Int32} {h1 : ia_H} (hret : ∀ (pc : Nat) (lv : ia_L), ia_ret mm_Re_readNumber pc (some (.inl r)) → K pc lv ((some (.inl r)) : Option ia_V).toList h1) : ∀ (x4 : Int32) (x5 : Int32) (h : ia_H), gd_ w h → j_Re_readNumber_59 x1 x2 x3 x4 x5 h = some (r, h1) → K 59 [some (.inr (.inr 279)), some (.inl x1), some (.inl x2), some (.inl x3), some (.inl x4), some (.inl x5), none] [] h := by
  intro x4 x5 h hg hm
  unfold j_Re_readNumber_59 at hm
  refine ia_go hK ck_Re_readNumber_59 ?_
  show K 60 [some (.inr (.inr 279)), some (.inl x1), some (.inl x2), some (.inl x3), some (.inl x4), some (.inl x5), none] [.inr (.inr 279)] h
  obtain ⟨v11, hv11, hm⟩ := ia_bnd hm
  have ev11 := t_Re_advance (d + 0) hg hv11
  have gv11 := g_Re_advance hg hv11
  refine ia_cV hK mk_Re_advance lk_7_56 dc_Re_readNumber_60 279 [] [] rfl rfl (Nat.le_of_ble_eq_true rfl) (by decide) rfl (gk_7 hg pk_279) ev11 (gd_nm hg gv11) ?_
  show K 63 [some (.inr (.inr 279)), some (.inl x1), some (.inl x2), some (.inl x3), some (.inl x4), some (.inl x5), none] [] v11
  exact tj_Re_readNumber_63 hK hret x4 x5 v11 gv11 hm
theorem gj_Re_readNumber_59 {w : ia_O0} {x1 : Int32} {x2 : Int32} {x3 : Int32} {r : Int32} {h1 : ia_H} : ∀ (x4 : Int32) (x5 : Int32) (h : ia_H), gd_ w h → j_Re_readNumber_59 x1 x2 x3 x4 x5 h = some (r, h1) → gd_ w h1 := by
  intro x4 x5 h hg hm
  unfold j_Re_readNumber_59 at hm
  obtain ⟨v11, hv11, hm⟩ := ia_bnd hm
  have gv11 := g_Re_advance hg hv11
  exact gj_Re_readNumber_63 x4 x5 v11 gv11 hm
def j_Re_readNumber_38 (x1 : Int32) (x2 : Int32) (x3 : Int32) (x4 : Int32) (s0 : Int32) (h : ia_H) : Option (Int32 × ia_H) := if s0 = 0 then (j_Re_readNumber_63 x1 x2 x3 x4 s0 h) else (if x4 = 0 then (j_Re_readNumber_59 x1 x2 x3 x4 s0 h) else ((f_Re_note 3 (ia_i h 279 11) h).bind fun v12 => (j_Re_readNumber_59 x1 x2 x3 x4 s0 v12)))
theorem tj_Re_readNumber_38 {w : ia_O0} {d N1 W1 : Nat} {K : ia_K} (hK : ia_isK (d + 3) mm_Re_readNumber N1 W1 K) {x1 : Int32} {x2 : Int32} {x3 : Int32} {r : Int32} {h1 : ia_H} (hret : ∀ (pc : Nat) (lv : ia_L), ia_ret mm_Re_readNumber pc (some (.inl r)) → K pc lv ((some (.inl r)) : Option ia_V).toList h1) : ∀ (x4 : Int32) (s0 : Int32) (h : ia_H), gd_ w h → j_Re_readNumber_38 x1 x2 x3 x4 s0 h = some (r, h1) → K 38 [some (.inr (.inr 279)), some (.inl x1), some (.inl x2), some (.inl x3), some (.inl x4), none, none] [.inl s0] h := by
  intro x4 s0 h hg hm
  unfold j_Re_readNumber_38 at hm
  refine ia_go hK ck_Re_readNumber_38 ⟨fun c => ?_, fun c => ?_⟩
  · replace hm := ia_ifp hm c
    show K 63 [some (.inr (.inr 279)), some (.inl x1), some (.inl x2), some (.inl x3), some (.inl x4), some (.inl s0), none] [] h
    exact tj_Re_readNumber_63 hK hret x4 s0 h hg hm
  · replace hm := ia_ifn hm c
    show K 45 [some (.inr (.inr 279)), some (.inl x1), some (.inl x2), some (.inl x3), some (.inl x4), some (.inl s0), none] [] h
    refine ia_go hK ck_Re_readNumber_45 ⟨fun c => ?_, fun c => ?_⟩
    · replace hm := ia_ifp hm c
      show K 59 [some (.inr (.inr 279)), some (.inl x1), some (.inl x2), some (.inl x3), some (.inl x4), some (.inl s0), none] [] h
      exact tj_Re_readNumber_59 hK hret x4 s0 h hg hm
    · replace hm := ia_ifn hm c
      show K 50 [some (.inr (.inr 279)), some (.inl x1), some (.inl x2), some (.inl x3), some (.inl x4), some (.inl s0), none] [] h
      refine ia_go hK ck_Re_readNumber_50 ⟨gk_7 hg pk_279, ?_⟩
      show K 56 [some (.inr (.inr 279)), some (.inl x1), some (.inl x2), some (.inl x3), some (.inl x4), some (.inl s0), none] [.inl (ia_i h 279 11), .inl 3, .inr (.inr 279)] h
      obtain ⟨v12, hv12, hm⟩ := ia_bnd hm
      have ev12 := t_Re_note (d + 2) hg hv12
      have gv12 := g_Re_note hg hv12
      refine ia_cV hK mk_Re_note lk_7_72 dc_Re_readNumber_56 279 [.inl 3, .inl (ia_i h 279 11)] [] rfl rfl (Nat.le_of_ble_eq_true rfl) (by decide) rfl (gk_7 hg pk_279) ev12 (gd_nm hg gv12) ?_
      show K 59 [some (.inr (.inr 279)), some (.inl x1), some (.inl x2), some (.inl x3), some (.inl x4), some (.inl s0), none] [] v12
      exact tj_Re_readNumber_59 hK hret x4 s0 v12 gv12 hm
theorem gj_Re_readNumber_38 {w : ia_O0} {x1 : Int32} {x2 : Int32} {x3 : Int32} {r : Int32} {h1 : ia_H} : ∀ (x4 : Int32) (s0 : Int32) (h : ia_H), gd_ w h → j_Re_readNumber_38 x1 x2 x3 x4 s0 h = some (r, h1) → gd_ w h1 := by
  intro x4 s0 h hg hm
  unfold j_Re_readNumber_38 at hm
  by_cases c : s0 = 0
  · replace hm := ia_ifp hm c
    exact gj_Re_readNumber_63 x4 s0 h hg hm
  · replace hm := ia_ifn hm c
    by_cases c : x4 = 0
    · replace hm := ia_ifp hm c
      exact gj_Re_readNumber_59 x4 s0 h hg hm
    · replace hm := ia_ifn hm c
      obtain ⟨v12, hv12, hm⟩ := ia_bnd hm
      have gv12 := g_Re_note hg hv12
      exact gj_Re_readNumber_59 x4 s0 v12 gv12 hm
def j_Re_readNumber_17 (x1 : Int32) (x2 : Int32) (x3 : Int32) (s0 : Int32) (h : ia_H) : Option (Int32 × ia_H) := if x2 = 102 then (if (ia_i h 279 9) = 3 then (j_Re_readNumber_38 x1 x2 x3 s0 1 h) else (j_Re_readNumber_38 x1 x2 x3 s0 0 h)) else (j_Re_readNumber_38 x1 x2 x3 s0 0 h)
theorem tj_Re_readNumber_17 {w : ia_O0} {d N1 W1 : Nat} {K : ia_K} (hK : ia_isK (d + 3) mm_Re_readNumber N1 W1 K) {x1 : Int32} {x2 : Int32} {x3 : Int32} {r : Int32} {h1 : ia_H} (hret : ∀ (pc : Nat) (lv : ia_L), ia_ret mm_Re_readNumber pc (some (.inl r)) → K pc lv ((some (.inl r)) : Option ia_V).toList h1) : ∀ (s0 : Int32) (h : ia_H), gd_ w h → j_Re_readNumber_17 x1 x2 x3 s0 h = some (r, h1) → K 17 [some (.inr (.inr 279)), some (.inl x1), some (.inl x2), some (.inl x3), none, none, none] [.inl s0] h := by
  intro s0 h hg hm
  unfold j_Re_readNumber_17 at hm
  refine ia_go hK ck_Re_readNumber_17 ⟨fun c => ?_, fun c => ?_⟩
  · replace hm := ia_ifn hm c
    show K 37 [some (.inr (.inr 279)), some (.inl x1), some (.inl x2), some (.inl x3), some (.inl s0), none, none] [] h
    refine ia_go hK ck_Re_readNumber_37 ?_
    show K 38 [some (.inr (.inr 279)), some (.inl x1), some (.inl x2), some (.inl x3), some (.inl s0), none, none] [.inl 0] h
    exact tj_Re_readNumber_38 hK hret s0 0 h hg hm
  · replace hm := ia_ifp hm c
    show K 25 [some (.inr (.inr 279)), some (.inl x1), some (.inl x2), some (.inl x3), some (.inl s0), none, none] [] h
    refine ia_go hK ck_Re_readNumber_25 ⟨gk_7 hg pk_279, fun c => ?_, fun c => ?_⟩
    · replace hm := ia_ifn hm c
      show K 37 [some (.inr (.inr 279)), some (.inl x1), some (.inl x2), some (.inl x3), some (.inl s0), none, none] [] h
      refine ia_go hK ck_Re_readNumber_37 ?_
      show K 38 [some (.inr (.inr 279)), some (.inl x1), some (.inl x2), some (.inl x3), some (.inl s0), none, none] [.inl 0] h
      exact tj_Re_readNumber_38 hK hret s0 0 h hg hm
    · replace hm := ia_ifp hm c
      show K 33 [some (.inr (.inr 279)), some (.inl x1), some (.inl x2), some (.inl x3), some (.inl s0), none, none] [] h
      refine ia_go hK ck_Re_readNumber_33 ?_
      show K 38 [some (.inr (.inr 279)), some (.inl x1), some (.inl x2), some (.inl x3), some (.inl s0), none, none] [.inl 1] h
      exact tj_Re_readNumber_38 hK hret s0 1 h hg hm
theorem gj_Re_readNumber_17 {w : ia_O0} {x1 : Int32} {x2 : Int32} {x3 : Int32} {r : Int32} {h1 : ia_H} : ∀ (s0 : Int32) (h : ia_H), gd_ w h → j_Re_readNumber_17 x1 x2 x3 s0 h = some (r, h1) → gd_ w h1 := by
  intro s0 h hg hm
  unfold j_Re_readNumber_17 at hm
  by_cases c : x2 = 102
  · replace hm := ia_ifp hm c
    by_cases c : (ia_i h 279 9) = 3
    · replace hm := ia_ifp hm c
      exact gj_Re_readNumber_38 s0 1 h hg hm
    · replace hm := ia_ifn hm c
      exact gj_Re_readNumber_38 s0 0 h hg hm
  · replace hm := ia_ifn hm c
    exact gj_Re_readNumber_38 s0 0 h hg hm
def f_Re_readNumber (x1 : Int32) (x2 : Int32) (x3 : Int32) (h : ia_H) : Option (Int32 × ia_H) := if x1 = 6 then (if x3 < 12 then (j_Re_readNumber_17 x1 x2 x3 0 h) else (j_Re_readNumber_17 x1 x2 x3 1 h)) else (j_Re_readNumber_17 x1 x2 x3 0 h)
theorem g_Re_readNumber {w : ia_O0} {x1 : Int32} {x2 : Int32} {x3 : Int32} {h : ia_H} (hg : gd_ w h) {q : (Int32 × ia_H)} (hm : f_Re_readNumber x1 x2 x3 h = some q) : gd_ w q.2 := by
  obtain ⟨r, h1⟩ := q
  unfold f_Re_readNumber at hm
  by_cases c : x1 = 6
  · replace hm := ia_ifp hm c
    by_cases c : x3 < 12
    · replace hm := ia_ifp hm c
      exact gj_Re_readNumber_17 0 h hg hm
    · replace hm := ia_ifn hm c
      exact gj_Re_readNumber_17 1 h hg hm
  · replace hm := ia_ifn hm c
    exact gj_Re_readNumber_17 0 h hg hm
theorem t_Re_readNumber {w : ia_O0} (d : Nat) {x1 : Int32} {x2 : Int32} {x3 : Int32} {h : ia_H} (hg : gd_ w h) {q : (Int32 × ia_H)} (hm : f_Re_readNumber x1 x2 x3 h = some q) : ia_Ev (d + 3) mm_Re_readNumber [.inr (.inr 279), .inl x1, .inl x2, .inl x3] h (some (.inl q.1)) q.2 := by
  have gq := g_Re_readNumber hg hm
  refine ia_Ev_intro ok_Re_readNumber (gd_le hg gq).1 (gd_le hg gq).2 (Nat.le_of_ble_eq_true rfl) (fun K hK hret => ?_)
  obtain ⟨r, h1⟩ := q
  show K 0 [some (.inr (.inr 279)), some (.inl x1), some (.inl x2), some (.inl x3), none, none, none] [] h
  unfold f_Re_readNumber at hm
  refine ia_go hK ck_Re_readNumber_0 ⟨fun c => ?_, fun c => ?_⟩
  · replace hm := ia_ifn hm c
    show K 16 [some (.inr (.inr 279)), some (.inl x1), some (.inl x2), some (.inl x3), none, none, none] [] h
    refine ia_go hK ck_Re_readNumber_16 ?_
    show K 17 [some (.inr (.inr 279)), some (.inl x1), some (.inl x2), some (.inl x3), none, none, none] [.inl 0] h
    exact tj_Re_readNumber_17 hK hret 0 h hg hm
  · replace hm := ia_ifp hm c
    show K 6 [some (.inr (.inr 279)), some (.inl x1), some (.inl x2), some (.inl x3), none, none, none] [] h
    refine ia_go hK ck_Re_readNumber_6 ⟨fun c => ?_, fun c => ?_⟩
    · replace hm := ia_ifp hm c
      show K 16 [some (.inr (.inr 279)), some (.inl x1), some (.inl x2), some (.inl x3), none, none, none] [] h
      refine ia_go hK ck_Re_readNumber_16 ?_
      show K 17 [some (.inr (.inr 279)), some (.inl x1), some (.inl x2), some (.inl x3), none, none, none] [.inl 0] h
      exact tj_Re_readNumber_17 hK hret 0 h hg hm
    · replace hm := ia_ifn hm c
      show K 12 [some (.inr (.inr 279)), some (.inl x1), some (.inl x2), some (.inl x3), none, none, none] [] h
      refine ia_go hK ck_Re_readNumber_12 ?_
      show K 17 [some (.inr (.inr 279)), some (.inl x1), some (.inl x2), some (.inl x3), none, none, none] [.inl 1] h
      exact tj_Re_readNumber_17 hK hret 1 h hg hm
def mm_Re_hasMore : ia_M := (⟨"IceStreet$Reader", "hasMore", "(I)Z"⟩, prog_8_method_16_code, 1, (some .boolean), 7, false)
theorem ok_Re_hasMore : ia_mok mm_Re_hasMore := ⟨by decide +kernel, by decide +kernel, by decide +kernel, by decide +kernel⟩
theorem mk_Re_hasMore : ia_mkn mm_Re_hasMore 0 1 := ⟨ia_tb_in (List.mem_of_getElem? (i := 921) (by decide +kernel)) rfl, ia_tb_in (List.mem_of_getElem? (i := 139) (by decide +kernel)) rfl, by decide +kernel, by decide +kernel, ia_tb_in (List.mem_of_getElem? (i := 920) (by decide +kernel)) rfl⟩
theorem ck_Re_hasMore_0 : ia_cks 7 1 false prog_8_method_16_code 0 [(.iload_n 0, 0, 0, 0, 0), (.bipush 6, 0, 0, 0, 0), (.if_icmp .eq 15, 0, 0, 0, 0)] = true := by decide +kernel
theorem ck_Re_hasMore_18 : ia_cks 7 1 false prog_8_method_16_code 18 [(.iconst 1, 0, 0, 0, 0), (.goto 4, 0, 0, 0, 0)] = true := by decide +kernel
theorem ck_Re_hasMore_6 : ia_cks 7 1 false prog_8_method_16_code 6 [(.iload_n 0, 0, 0, 0, 0), (.bipush 8, 0, 0, 0, 0), (.if_icmp .eq 9, 0, 0, 0, 0)] = true := by decide +kernel
theorem ck_Re_hasMore_12 : ia_cks 7 1 false prog_8_method_16_code 12 [(.iload_n 0, 0, 0, 0, 0), (.bipush 15, 0, 0, 0, 0), (.if_icmp .ne 7, 0, 0, 0, 0)] = true := by decide +kernel
theorem ck_Re_hasMore_22 : ia_cks 7 1 false prog_8_method_16_code 22 [(.iconst 0, 0, 0, 0, 0)] = true := by decide +kernel
theorem dc_Re_hasMore_23 : decode prog_8_method_16_code 23 = .ok (.ireturn, 1) := by decide +kernel
def f_Re_hasMore (x0 : Int32) (h : ia_H) : Option Int32 := if x0 = 6 then (some 1) else (if x0 = 8 then (some 1) else (if x0 = 15 then (some 1) else (some 0)))
theorem t_Re_hasMore {w : ia_O0} (d : Nat) {x0 : Int32} {h : ia_H} (hg : gd_ w h) {r : Int32} (hm : f_Re_hasMore x0 h = some r) : ia_Ev (d + 0) mm_Re_hasMore [.inl x0] h (some (.inl r)) h := by
  refine ia_Ev_intro ok_Re_hasMore (Nat.le_refl _) (Nat.le_refl _) (Nat.le_of_ble_eq_true rfl) (fun K hK hret => ?_)
  show K 0 [some (.inl x0)] [] h
  unfold f_Re_hasMore at hm
  refine ia_go hK ck_Re_hasMore_0 ⟨fun c => ?_, fun c => ?_⟩
  · replace hm := ia_ifp hm c
    show K 18 [some (.inl x0)] [] h
    refine ia_go hK ck_Re_hasMore_18 ?_
    show K 23 [some (.inl x0)] [.inl 1] h
    obtain rfl := Option.some.inj hm
    exact hret 23 _ ⟨Or.inr rfl, dc_Re_hasMore_23⟩
  · replace hm := ia_ifn hm c
    show K 6 [some (.inl x0)] [] h
    refine ia_go hK ck_Re_hasMore_6 ⟨fun c => ?_, fun c => ?_⟩
    · replace hm := ia_ifp hm c
      show K 18 [some (.inl x0)] [] h
      refine ia_go hK ck_Re_hasMore_18 ?_
      show K 23 [some (.inl x0)] [.inl 1] h
      obtain rfl := Option.some.inj hm
      exact hret 23 _ ⟨Or.inr rfl, dc_Re_hasMore_23⟩
    · replace hm := ia_ifn hm c
      show K 12 [some (.inl x0)] [] h
      refine ia_go hK ck_Re_hasMore_12 ⟨fun c => ?_, fun c => ?_⟩
      · replace hm := ia_ifn hm c
        show K 22 [some (.inl x0)] [] h
        refine ia_go hK ck_Re_hasMore_22 ?_
        show K 23 [some (.inl x0)] [.inl 0] h
        obtain rfl := Option.some.inj hm
        exact hret 23 _ ⟨Or.inl rfl, dc_Re_hasMore_23⟩
      · replace hm := ia_ifp hm c
        show K 18 [some (.inl x0)] [] h
        refine ia_go hK ck_Re_hasMore_18 ?_
        show K 23 [some (.inl x0)] [.inl 1] h
        obtain rfl := Option.some.inj hm
        exact hret 23 _ ⟨Or.inr rfl, dc_Re_hasMore_23⟩
def mm_Re_readNumbers : ia_M := (⟨"IceStreet$Reader", "readNumbers", "(I)Z"⟩, prog_8_method_20_code, 4, (some .boolean), 7, false)
theorem ok_Re_readNumbers : ia_mok mm_Re_readNumbers := ⟨by decide +kernel, by decide +kernel, by decide +kernel, by decide +kernel⟩
theorem mk_Re_readNumbers : ia_mkn mm_Re_readNumbers 1 1 := ⟨ia_tb_in (List.mem_of_getElem? (i := 880) (by decide +kernel)) rfl, ia_tb_in (List.mem_of_getElem? (i := 139) (by decide +kernel)) rfl, by decide +kernel, by decide +kernel, ⟨ia_tb_in (List.mem_of_getElem? (i := 879) (by decide +kernel)) rfl, ia_tb_in (List.mem_of_getElem? (i := 14) (by decide +kernel)) rfl⟩⟩
theorem ck_Re_readNumbers_0 : ia_cks 7 4 false prog_8_method_20_code 0 [(.iload_n 1, 0, 0, 0, 0)] = true := by decide +kernel
theorem ck_Re_readNumbers_4 : ia_cks 7 4 false prog_8_method_20_code 4 [(.astore_n 2, 0, 0, 0, 0), (.iconst 0, 0, 0, 0, 0), (.istore_n 3, 0, 0, 0, 0)] = true := by decide +kernel
theorem ck_Re_readNumbers_7 : ia_cks 7 4 false prog_8_method_20_code 7 [(.iload_n 3, 0, 0, 0, 0), (.aload_n 2, 0, 0, 0, 0)] = true := by decide +kernel
theorem ck_Re_readNumbers_12 : ia_cks 7 4 false prog_8_method_20_code 12 [(.if_icmp .ge 25, 0, 0, 0, 0)] = true := by decide +kernel
theorem ck_Re_readNumbers_15 : ia_cks 7 4 false prog_8_method_20_code 15 [(.aload_n 0, 0, 0, 0, 0), (.iload_n 1, 0, 0, 0, 0), (.aload_n 2, 0, 0, 0, 0), (.iload_n 3, 0, 0, 0, 0)] = true := by decide +kernel
theorem ck_Re_readNumbers_22 : ia_cks 7 4 false prog_8_method_20_code 22 [(.iload_n 3, 0, 0, 0, 0)] = true := by decide +kernel
theorem ck_Re_readNumbers_26 : ia_cks 7 4 false prog_8_method_20_code 26 [(.ifCond .ne 5, 0, 0, 0, 0)] = true := by decide +kernel
theorem ck_Re_readNumbers_31 : ia_cks 7 4 false prog_8_method_20_code 31 [(.iinc 3 1, 0, 0, 0, 0), (.goto (-27), 0, 0, 0, 0)] = true := by decide +kernel
theorem ck_Re_readNumbers_29 : ia_cks 7 4 false prog_8_method_20_code 29 [(.iconst 0, 0, 0, 0, 0)] = true := by decide +kernel
theorem ck_Re_readNumbers_37 : ia_cks 7 4 false prog_8_method_20_code 37 [(.iload_n 1, 0, 0, 0, 0)] = true := by decide +kernel
theorem ck_Re_readNumbers_41 : ia_cks 7 4 false prog_8_method_20_code 41 [(.ifCond .eq 56, 0, 0, 0, 0)] = true := by decide +kernel
theorem ck_Re_readNumbers_97 : ia_cks 7 4 false prog_8_method_20_code 97 [(.iconst 1, 0, 0, 0, 0)] = true := by decide +kernel
theorem ck_Re_readNumbers_44 : ia_cks 7 4 false prog_8_method_20_code 44 [(.iconst 1, 0, 0, 0, 0), (.istore_n 3, 0, 0, 0, 0)] = true := by decide +kernel
theorem ck_Re_readNumbers_46 : ia_cks 7 4 false prog_8_method_20_code 46 [(.iload_n 3, 0, 0, 0, 0), (.sipush 600, 0, 0, 0, 0), (.if_icmp .ge 47, 0, 0, 0, 0)] = true := by decide +kernel
theorem ck_Re_readNumbers_53 : ia_cks 7 4 false prog_8_method_20_code 53 [(.aload_n 0, 0, 0, 0, 0), (.getfield 59, 7, 9, 0, 0), (.iconst 2, 0, 0, 0, 0), (.if_icmp .eq 17, 0, 0, 0, 0)] = true := by decide +kernel
theorem ck_Re_readNumbers_75 : ia_cks 7 4 false prog_8_method_20_code 75 [(.aload_n 0, 0, 0, 0, 0), (.iload_n 1, 0, 0, 0, 0), (.aload_n 2, 0, 0, 0, 0), (.iconst 0, 0, 0, 0, 0)] = true := by decide +kernel
theorem ck_Re_readNumbers_82 : ia_cks 7 4 false prog_8_method_20_code 82 [(.iload_n 3, 0, 0, 0, 0)] = true := by decide +kernel
theorem ck_Re_readNumbers_86 : ia_cks 7 4 false prog_8_method_20_code 86 [(.ifCond .ne 5, 0, 0, 0, 0)] = true := by decide +kernel
theorem ck_Re_readNumbers_91 : ia_cks 7 4 false prog_8_method_20_code 91 [(.iinc 3 1, 0, 0, 0, 0), (.goto (-48), 0, 0, 0, 0)] = true := by decide +kernel
theorem ck_Re_readNumbers_61 : ia_cks 7 4 false prog_8_method_20_code 61 [(.aload_n 0, 0, 0, 0, 0), (.getfield 59, 7, 9, 0, 0), (.iconst 3, 0, 0, 0, 0), (.if_icmp .ne 31, 0, 0, 0, 0)] = true := by decide +kernel
theorem ck_Re_readNumbers_69 : ia_cks 7 4 false prog_8_method_20_code 69 [(.iload_n 1, 0, 0, 0, 0), (.bipush 6, 0, 0, 0, 0), (.if_icmp .ne 25, 0, 0, 0, 0)] = true := by decide +kernel
theorem ck_Re_readNumbers_89 : ia_cks 7 4 false prog_8_method_20_code 89 [(.iconst 0, 0, 0, 0, 0)] = true := by decide +kernel
theorem dc_Re_readNumbers_1 : decode prog_8_method_20_code 1 = .ok (.invokestatic 229, 3) := by decide +kernel
theorem dc_Re_readNumbers_9 : decode prog_8_method_20_code 9 = .ok (.invokevirtual 146, 3) := by decide +kernel
theorem dc_Re_readNumbers_19 : decode prog_8_method_20_code 19 = .ok (.invokevirtual 150, 3) := by decide +kernel
theorem dc_Re_readNumbers_23 : decode prog_8_method_20_code 23 = .ok (.invokevirtual 232, 3) := by decide +kernel
theorem dc_Re_readNumbers_30 : decode prog_8_method_20_code 30 = .ok (.ireturn, 1) := by decide +kernel
theorem dc_Re_readNumbers_38 : decode prog_8_method_20_code 38 = .ok (.invokestatic 236, 3) := by decide +kernel
theorem dc_Re_readNumbers_98 : decode prog_8_method_20_code 98 = .ok (.ireturn, 1) := by decide +kernel
theorem dc_Re_readNumbers_79 : decode prog_8_method_20_code 79 = .ok (.invokevirtual 150, 3) := by decide +kernel
theorem dc_Re_readNumbers_83 : decode prog_8_method_20_code 83 = .ok (.invokevirtual 232, 3) := by decide +kernel
theorem dc_Re_readNumbers_90 : decode prog_8_method_20_code 90 = .ok (.ireturn, 1) := by decide +kernel
def l_Re_readNumbers_7 (x1 : Int32) (k29 : ia_H → Option (Int32 × ia_H)) (k37 : Nat → ia_H → Option (Int32 × ia_H)) (n : Nat) (a2 : Nat) (x3 : Int32) (h : ia_H) : Option (Int32 × ia_H) := match n with
  | 0 => none
  | n + 1 => if (Int32.ofNat (sl_n a2)) ≤ x3 then (k37 a2 h) else (ia_gd (ia_ib x3 (sl_n a2)) ((f_Re_readNumber x1 (sl_c a2 ((x3).toNatClampNeg)) x3 h).bind fun v3 => (if v3.1 = 0 then (k29 v3.2) else (l_Re_readNumbers_7 x1 k29 k37 n a2 (x3 + 1) v3.2))))
theorem tl_Re_readNumbers_7 {w : ia_O0} {d N1 W1 : Nat} {K : ia_K} (hK : ia_isK (d + 4) mm_Re_readNumbers N1 W1 K) {x1 : Int32} {r : Int32} {h1 : ia_H} (hret : ∀ (pc : Nat) (lv : ia_L), ia_ret mm_Re_readNumbers pc (some (.inl r)) → K pc lv ((some (.inl r)) : Option ia_V).toList h1) {k29 : ia_H → Option (Int32 × ia_H)} {k37 : Nat → ia_H → Option (Int32 × ia_H)} (hk29 : ∀ (h : ia_H), gd_ w h → k29 h = some (r, h1) → K 29 [none, none, none, none] [] h) (hk37 : ∀ (a2 : Nat) (h : ia_H), gd_ w h → 8 ≤ a2 ∧ a2 < 44 → k37 a2 h = some (r, h1) → K 37 [some (.inr (.inr 279)), some (.inl x1), some (.inr (.inr a2)), none] [] h) : ∀ (n : Nat) (a2 : Nat) (x3 : Int32) (h : ia_H), gd_ w h → 8 ≤ a2 ∧ a2 < 44 → l_Re_readNumbers_7 x1 k29 k37 n a2 x3 h = some (r, h1) → K 7 [some (.inr (.inr 279)), some (.inl x1), some (.inr (.inr a2)), some (.inl x3)] [] h := by
  intro n
  induction n with
  | zero =>
    intro a2 x3 h hg q_a2 hm
    cases (show (none : Option (Int32 × ia_H)) = some _ from hm)
  | succ n ih =>
    intro a2 x3 h hg q_a2 hm
    rw [l_Re_readNumbers_7] at hm
    refine ia_go hK ck_Re_readNumbers_7 ?_
    show K 9 [some (.inr (.inr 279)), some (.inl x1), some (.inr (.inr a2)), some (.inl x3)] [.inr (.inr a2), .inl x3] h
    refine ia_slen hK q_a2 (ia_tb_in (List.mem_of_getElem? (i := 817) (by decide +kernel)) rfl) dc_Re_readNumbers_9 (Nat.le_of_ble_eq_true rfl) ?_
    show K 12 [some (.inr (.inr 279)), some (.inl x1), some (.inr (.inr a2)), some (.inl x3)] [.inl (Int32.ofNat (sl_n a2)), .inl x3] h
    refine ia_go hK ck_Re_readNumbers_12 ⟨fun c => ?_, fun c => ?_⟩
    · replace hm := ia_ifp hm c
      show K 37 [some (.inr (.inr 279)), some (.inl x1), some (.inr (.inr a2)), some (.inl x3)] [] h
      refine ia_fg hK (lv' := [some (.inr (.inr 279)), some (.inl x1), some (.inr (.inr a2)), none]) ⟨rfl, rfl, rfl, trivial⟩ ?_
      exact hk37 a2 h hg q_a2 hm
    · replace hm := ia_ifn hm c
      show K 15 [some (.inr (.inr 279)), some (.inl x1), some (.inr (.inr a2)), some (.inl x3)] [] h
      refine ia_go hK ck_Re_readNumbers_15 ?_
      show K 19 [some (.inr (.inr 279)), some (.inl x1), some (.inr (.inr a2)), some (.inl x3)] [.inl x3, .inr (.inr a2), .inl x1, .inr (.inr 279)] h
      obtain ⟨c2, hm⟩ := ia_gd_some hm
      refine ia_scat hK q_a2 (ia_tb_in (List.mem_of_getElem? (i := 827) (by decide +kernel)) rfl) dc_Re_readNumbers_19 (Nat.le_of_ble_eq_true rfl) c2 ?_
      show K 22 [some (.inr (.inr 279)), some (.inl x1), some (.inr (.inr a2)), some (.inl x3)] [.inl (sl_c a2 ((x3).toNatClampNeg)), .inl x1, .inr (.inr 279)] h
      refine ia_go hK ck_Re_readNumbers_22 ?_
      show K 23 [some (.inr (.inr 279)), some (.inl x1), some (.inr (.inr a2)), some (.inl x3)] [.inl x3, .inl (sl_c a2 ((x3).toNatClampNeg)), .inl x1, .inr (.inr 279)] h
      obtain ⟨v3, hv3, hm⟩ := ia_bnd hm
      have ev3 := t_Re_readNumber (d + 0) hg hv3
      have gv3 := g_Re_readNumber hg hv3
      refine ia_cV hK mk_Re_readNumber lk_7_232 dc_Re_readNumbers_23 279 [.inl x1, .inl (sl_c a2 ((x3).toNatClampNeg)), .inl x3] [] rfl rfl (Nat.le_of_ble_eq_true rfl) (by decide) rfl (gk_7 hg pk_279) ev3 (gd_nm hg gv3) ?_
      show K 26 [some (.inr (.inr 279)), some (.inl x1), some (.inr (.inr a2)), some (.inl x3)] [.inl v3.1] v3.2
      refine ia_go hK ck_Re_readNumbers_26 ⟨fun c => ?_, fun c => ?_⟩
      · replace hm := ia_ifn hm c
        show K 31 [some (.inr (.inr 279)), some (.inl x1), some (.inr (.inr a2)), some (.inl x3)] [] v3.2
        refine ia_go hK ck_Re_readNumbers_31 ?_
        show K 7 [some (.inr (.inr 279)), some (.inl x1), some (.inr (.inr a2)), some (.inl (x3 + 1))] [] v3.2
        exact ih a2 (x3 + 1) v3.2 gv3 q_a2 hm
      · replace hm := ia_ifp hm c
        show K 29 [some (.inr (.inr 279)), some (.inl x1), some (.inr (.inr a2)), some (.inl x3)] [] v3.2
        refine ia_fg hK (lv' := [none, none, none, none]) trivial ?_
        exact hk29 v3.2 gv3 hm
theorem gl_Re_readNumbers_7 {w : ia_O0} {x1 : Int32} {r : Int32} {h1 : ia_H} {k29 : ia_H → Option (Int32 × ia_H)} {k37 : Nat → ia_H → Option (Int32 × ia_H)} (hk29 : ∀ (h : ia_H), gd_ w h → k29 h = some (r, h1) → gd_ w h1) (hk37 : ∀ (a2 : Nat) (h : ia_H), gd_ w h → 8 ≤ a2 ∧ a2 < 44 → k37 a2 h = some (r, h1) → gd_ w h1) : ∀ (n : Nat) (a2 : Nat) (x3 : Int32) (h : ia_H), gd_ w h → 8 ≤ a2 ∧ a2 < 44 → l_Re_readNumbers_7 x1 k29 k37 n a2 x3 h = some (r, h1) → gd_ w h1 := by
  intro n
  induction n with
  | zero =>
    intro a2 x3 h hg q_a2 hm
    cases (show (none : Option (Int32 × ia_H)) = some _ from hm)
  | succ n ih =>
    intro a2 x3 h hg q_a2 hm
    rw [l_Re_readNumbers_7] at hm
    by_cases c : (Int32.ofNat (sl_n a2)) ≤ x3
    · replace hm := ia_ifp hm c
      exact hk37 a2 h hg q_a2 hm
    · replace hm := ia_ifn hm c
      obtain ⟨c2, hm⟩ := ia_gd_some hm
      obtain ⟨v3, hv3, hm⟩ := ia_bnd hm
      have gv3 := g_Re_readNumber hg hv3
      by_cases c : v3.1 = 0
      · replace hm := ia_ifp hm c
        exact hk29 v3.2 gv3 hm
      · replace hm := ia_ifn hm c
        exact ih a2 (x3 + 1) v3.2 gv3 q_a2 hm
def j_Re_readNumbers_75 (x1 : Int32) (kr : Nat → Int32 → ia_H → Option (Int32 × ia_H)) (k89 : ia_H → Option (Int32 × ia_H)) (k97 : ia_H → Option (Int32 × ia_H)) (a2 : Nat) (x3 : Int32) (h : ia_H) : Option (Int32 × ia_H) := ia_gd (ia_ib 0 (sl_n a2)) ((f_Re_readNumber x1 (sl_c a2 0) x3 h).bind fun v6 => (if v6.1 = 0 then (k89 v6.2) else (kr a2 (x3 + 1) v6.2)))
theorem tj_Re_readNumbers_75 {w : ia_O0} {d N1 W1 : Nat} {K : ia_K} (hK : ia_isK (d + 4) mm_Re_readNumbers N1 W1 K) {x1 : Int32} {r : Int32} {h1 : ia_H} (hret : ∀ (pc : Nat) (lv : ia_L), ia_ret mm_Re_readNumbers pc (some (.inl r)) → K pc lv ((some (.inl r)) : Option ia_V).toList h1) {kr : Nat → Int32 → ia_H → Option (Int32 × ia_H)} {k89 : ia_H → Option (Int32 × ia_H)} {k97 : ia_H → Option (Int32 × ia_H)} (hkr : ∀ (a2 : Nat) (x3 : Int32) (h : ia_H), gd_ w h → 8 ≤ a2 ∧ a2 < 44 → kr a2 x3 h = some (r, h1) → K 46 [some (.inr (.inr 279)), some (.inl x1), some (.inr (.inr a2)), some (.inl x3)] [] h) (hk89 : ∀ (h : ia_H), gd_ w h → k89 h = some (r, h1) → K 89 [none, none, none, none] [] h) (hk97 : ∀ (h : ia_H), gd_ w h → k97 h = some (r, h1) → K 97 [none, none, none, none] [] h) : ∀ (a2 : Nat) (x3 : Int32) (h : ia_H), gd_ w h → 8 ≤ a2 ∧ a2 < 44 → j_Re_readNumbers_75 x1 kr k89 k97 a2 x3 h = some (r, h1) → K 75 [some (.inr (.inr 279)), some (.inl x1), some (.inr (.inr a2)), some (.inl x3)] [] h := by
  intro a2 x3 h hg q_a2 hm
  unfold j_Re_readNumbers_75 at hm
  refine ia_go hK ck_Re_readNumbers_75 ?_
  show K 79 [some (.inr (.inr 279)), some (.inl x1), some (.inr (.inr a2)), some (.inl x3)] [.inl 0, .inr (.inr a2), .inl x1, .inr (.inr 279)] h
  obtain ⟨c5, hm⟩ := ia_gd_some hm
  refine ia_scat hK q_a2 (ia_tb_in (List.mem_of_getElem? (i := 827) (by decide +kernel)) rfl) dc_Re_readNumbers_79 (Nat.le_of_ble_eq_true rfl) c5 ?_
  show K 82 [some (.inr (.inr 279)), some (.inl x1), some (.inr (.inr a2)), some (.inl x3)] [.inl (sl_c a2 0), .inl x1, .inr (.inr 279)] h
  refine ia_go hK ck_Re_readNumbers_82 ?_
  show K 83 [some (.inr (.inr 279)), some (.inl x1), some (.inr (.inr a2)), some (.inl x3)] [.inl x3, .inl (sl_c a2 0), .inl x1, .inr (.inr 279)] h
  obtain ⟨v6, hv6, hm⟩ := ia_bnd hm
  have ev6 := t_Re_readNumber (d + 0) hg hv6
  have gv6 := g_Re_readNumber hg hv6
  refine ia_cV hK mk_Re_readNumber lk_7_232 dc_Re_readNumbers_83 279 [.inl x1, .inl (sl_c a2 0), .inl x3] [] rfl rfl (Nat.le_of_ble_eq_true rfl) (by decide) rfl (gk_7 hg pk_279) ev6 (gd_nm hg gv6) ?_
  show K 86 [some (.inr (.inr 279)), some (.inl x1), some (.inr (.inr a2)), some (.inl x3)] [.inl v6.1] v6.2
  refine ia_go hK ck_Re_readNumbers_86 ⟨fun c => ?_, fun c => ?_⟩
  · replace hm := ia_ifn hm c
    show K 91 [some (.inr (.inr 279)), some (.inl x1), some (.inr (.inr a2)), some (.inl x3)] [] v6.2
    refine ia_go hK ck_Re_readNumbers_91 ?_
    show K 46 [some (.inr (.inr 279)), some (.inl x1), some (.inr (.inr a2)), some (.inl (x3 + 1))] [] v6.2
    exact hkr a2 (x3 + 1) v6.2 gv6 q_a2 hm
  · replace hm := ia_ifp hm c
    show K 89 [some (.inr (.inr 279)), some (.inl x1), some (.inr (.inr a2)), some (.inl x3)] [] v6.2
    refine ia_fg hK (lv' := [none, none, none, none]) trivial ?_
    exact hk89 v6.2 gv6 hm
theorem gj_Re_readNumbers_75 {w : ia_O0} {x1 : Int32} {r : Int32} {h1 : ia_H} {kr : Nat → Int32 → ia_H → Option (Int32 × ia_H)} {k89 : ia_H → Option (Int32 × ia_H)} {k97 : ia_H → Option (Int32 × ia_H)} (hkr : ∀ (a2 : Nat) (x3 : Int32) (h : ia_H), gd_ w h → 8 ≤ a2 ∧ a2 < 44 → kr a2 x3 h = some (r, h1) → gd_ w h1) (hk89 : ∀ (h : ia_H), gd_ w h → k89 h = some (r, h1) → gd_ w h1) (hk97 : ∀ (h : ia_H), gd_ w h → k97 h = some (r, h1) → gd_ w h1) : ∀ (a2 : Nat) (x3 : Int32) (h : ia_H), gd_ w h → 8 ≤ a2 ∧ a2 < 44 → j_Re_readNumbers_75 x1 kr k89 k97 a2 x3 h = some (r, h1) → gd_ w h1 := by
  intro a2 x3 h hg q_a2 hm
  unfold j_Re_readNumbers_75 at hm
  obtain ⟨c5, hm⟩ := ia_gd_some hm
  obtain ⟨v6, hv6, hm⟩ := ia_bnd hm
  have gv6 := g_Re_readNumber hg hv6
  by_cases c : v6.1 = 0
  · replace hm := ia_ifp hm c
    exact hk89 v6.2 gv6 hm
  · replace hm := ia_ifn hm c
    exact hkr a2 (x3 + 1) v6.2 gv6 q_a2 hm
def l_Re_readNumbers_46 (x1 : Int32) (k89 : ia_H → Option (Int32 × ia_H)) (k97 : ia_H → Option (Int32 × ia_H)) (n : Nat) (a2 : Nat) (x3 : Int32) (h : ia_H) : Option (Int32 × ia_H) := match n with
  | 0 => none
  | n + 1 => if 600 ≤ x3 then (k97 h) else (if (ia_i h 279 9) = 2 then (j_Re_readNumbers_75 x1 (l_Re_readNumbers_46 x1 k89 k97 n) k89 k97 a2 x3 h) else (if (ia_i h 279 9) = 3 then (if x1 = 6 then (j_Re_readNumbers_75 x1 (l_Re_readNumbers_46 x1 k89 k97 n) k89 k97 a2 x3 h) else (k97 h)) else (k97 h)))
theorem tl_Re_readNumbers_46 {w : ia_O0} {d N1 W1 : Nat} {K : ia_K} (hK : ia_isK (d + 4) mm_Re_readNumbers N1 W1 K) {x1 : Int32} {r : Int32} {h1 : ia_H} (hret : ∀ (pc : Nat) (lv : ia_L), ia_ret mm_Re_readNumbers pc (some (.inl r)) → K pc lv ((some (.inl r)) : Option ia_V).toList h1) {k89 : ia_H → Option (Int32 × ia_H)} {k97 : ia_H → Option (Int32 × ia_H)} (hk89 : ∀ (h : ia_H), gd_ w h → k89 h = some (r, h1) → K 89 [none, none, none, none] [] h) (hk97 : ∀ (h : ia_H), gd_ w h → k97 h = some (r, h1) → K 97 [none, none, none, none] [] h) : ∀ (n : Nat) (a2 : Nat) (x3 : Int32) (h : ia_H), gd_ w h → 8 ≤ a2 ∧ a2 < 44 → l_Re_readNumbers_46 x1 k89 k97 n a2 x3 h = some (r, h1) → K 46 [some (.inr (.inr 279)), some (.inl x1), some (.inr (.inr a2)), some (.inl x3)] [] h := by
  intro n
  induction n with
  | zero =>
    intro a2 x3 h hg q_a2 hm
    cases (show (none : Option (Int32 × ia_H)) = some _ from hm)
  | succ n ih =>
    intro a2 x3 h hg q_a2 hm
    rw [l_Re_readNumbers_46] at hm
    refine ia_go hK ck_Re_readNumbers_46 ⟨fun c => ?_, fun c => ?_⟩
    · replace hm := ia_ifp hm c
      show K 97 [some (.inr (.inr 279)), some (.inl x1), some (.inr (.inr a2)), some (.inl x3)] [] h
      refine ia_fg hK (lv' := [none, none, none, none]) trivial ?_
      exact hk97 h hg hm
    · replace hm := ia_ifn hm c
      show K 53 [some (.inr (.inr 279)), some (.inl x1), some (.inr (.inr a2)), some (.inl x3)] [] h
      refine ia_go hK ck_Re_readNumbers_53 ⟨gk_7 hg pk_279, fun c => ?_, fun c => ?_⟩
      · replace hm := ia_ifp hm c
        show K 75 [some (.inr (.inr 279)), some (.inl x1), some (.inr (.inr a2)), some (.inl x3)] [] h
        exact tj_Re_readNumbers_75 hK hret ih hk89 hk97 a2 x3 h hg q_a2 hm
      · replace hm := ia_ifn hm c
        show K 61 [some (.inr (.inr 279)), some (.inl x1), some (.inr (.inr a2)), some (.inl x3)] [] h
        refine ia_go hK ck_Re_readNumbers_61 ⟨gk_7 hg pk_279, fun c => ?_, fun c => ?_⟩
        · replace hm := ia_ifn hm c
          show K 97 [some (.inr (.inr 279)), some (.inl x1), some (.inr (.inr a2)), some (.inl x3)] [] h
          refine ia_fg hK (lv' := [none, none, none, none]) trivial ?_
          exact hk97 h hg hm
        · replace hm := ia_ifp hm c
          show K 69 [some (.inr (.inr 279)), some (.inl x1), some (.inr (.inr a2)), some (.inl x3)] [] h
          refine ia_go hK ck_Re_readNumbers_69 ⟨fun c => ?_, fun c => ?_⟩
          · replace hm := ia_ifn hm c
            show K 97 [some (.inr (.inr 279)), some (.inl x1), some (.inr (.inr a2)), some (.inl x3)] [] h
            refine ia_fg hK (lv' := [none, none, none, none]) trivial ?_
            exact hk97 h hg hm
          · replace hm := ia_ifp hm c
            show K 75 [some (.inr (.inr 279)), some (.inl x1), some (.inr (.inr a2)), some (.inl x3)] [] h
            exact tj_Re_readNumbers_75 hK hret ih hk89 hk97 a2 x3 h hg q_a2 hm
theorem gl_Re_readNumbers_46 {w : ia_O0} {x1 : Int32} {r : Int32} {h1 : ia_H} {k89 : ia_H → Option (Int32 × ia_H)} {k97 : ia_H → Option (Int32 × ia_H)} (hk89 : ∀ (h : ia_H), gd_ w h → k89 h = some (r, h1) → gd_ w h1) (hk97 : ∀ (h : ia_H), gd_ w h → k97 h = some (r, h1) → gd_ w h1) : ∀ (n : Nat) (a2 : Nat) (x3 : Int32) (h : ia_H), gd_ w h → 8 ≤ a2 ∧ a2 < 44 → l_Re_readNumbers_46 x1 k89 k97 n a2 x3 h = some (r, h1) → gd_ w h1 := by
  intro n
  induction n with
  | zero =>
    intro a2 x3 h hg q_a2 hm
    cases (show (none : Option (Int32 × ia_H)) = some _ from hm)
  | succ n ih =>
    intro a2 x3 h hg q_a2 hm
    rw [l_Re_readNumbers_46] at hm
    by_cases c : 600 ≤ x3
    · replace hm := ia_ifp hm c
      exact hk97 h hg hm
    · replace hm := ia_ifn hm c
      by_cases c : (ia_i h 279 9) = 2
      · replace hm := ia_ifp hm c
        exact gj_Re_readNumbers_75 ih hk89 hk97 a2 x3 h hg q_a2 hm
      · replace hm := ia_ifn hm c
        by_cases c : (ia_i h 279 9) = 3
        · replace hm := ia_ifp hm c
          by_cases c : x1 = 6
          · replace hm := ia_ifp hm c
            exact gj_Re_readNumbers_75 ih hk89 hk97 a2 x3 h hg q_a2 hm
          · replace hm := ia_ifn hm c
            exact hk97 h hg hm
        · replace hm := ia_ifn hm c
          exact hk97 h hg hm
def f_Re_readNumbers (x1 : Int32) (h : ia_H) : Option (Int32 × ia_H) := (f_Re_numbersOf x1 h).bind fun v1 => (l_Re_readNumbers_7 x1 (fun h => some (0, h)) (fun a2 h => (f_Re_hasMore x1 h).bind fun v4 => (if v4 = 0 then (some (1, h)) else (l_Re_readNumbers_46 x1 (fun h => some (0, h)) (fun h => some (1, h)) fu_ a2 1 h))) fu_ v1 0 h)
theorem g_Re_readNumbers {w : ia_O0} {x1 : Int32} {h : ia_H} (hg : gd_ w h) {q : (Int32 × ia_H)} (hm : f_Re_readNumbers x1 h = some q) : gd_ w q.2 := by
  obtain ⟨r, h1⟩ := q
  unfold f_Re_readNumbers at hm
  obtain ⟨v1, hv1, hm⟩ := ia_bnd hm
  have gv1 := g_Re_numbersOf  hv1
  refine gl_Re_readNumbers_7 ?_ ?_ fu_ v1 0 h hg gv1 hm
  · intro h hg hm
    obtain ⟨rfl, rfl⟩ := Prod.mk.inj (Option.some.inj hm)
    exact hg
  · intro a2 h hg q_a2 hm
    obtain ⟨v4, hv4, hm⟩ := ia_bnd hm
    by_cases c : v4 = 0
    · replace hm := ia_ifp hm c
      obtain ⟨rfl, rfl⟩ := Prod.mk.inj (Option.some.inj hm)
      exact hg
    · replace hm := ia_ifn hm c
      refine gl_Re_readNumbers_46 ?_ ?_ fu_ a2 1 h hg q_a2 hm
      · intro h hg hm
        obtain ⟨rfl, rfl⟩ := Prod.mk.inj (Option.some.inj hm)
        exact hg
      · intro h hg hm
        obtain ⟨rfl, rfl⟩ := Prod.mk.inj (Option.some.inj hm)
        exact hg
theorem t_Re_readNumbers {w : ia_O0} (d : Nat) {x1 : Int32} {h : ia_H} (hg : gd_ w h) {q : (Int32 × ia_H)} (hm : f_Re_readNumbers x1 h = some q) : ia_Ev (d + 4) mm_Re_readNumbers [.inr (.inr 279), .inl x1] h (some (.inl q.1)) q.2 := by
  have gq := g_Re_readNumbers hg hm
  refine ia_Ev_intro ok_Re_readNumbers (gd_le hg gq).1 (gd_le hg gq).2 (Nat.le_of_ble_eq_true rfl) (fun K hK hret => ?_)
  obtain ⟨r, h1⟩ := q
  show K 0 [some (.inr (.inr 279)), some (.inl x1), none, none] [] h
  unfold f_Re_readNumbers at hm
  refine ia_go hK ck_Re_readNumbers_0 ?_
  show K 1 [some (.inr (.inr 279)), some (.inl x1), none, none] [.inl x1] h
  obtain ⟨v1, hv1, hm⟩ := ia_bnd hm
  have ev1 := t_Re_numbersOf (d + 3) hg hv1
  have gv1 := g_Re_numbersOf  hv1
  refine ia_cS hK mk_Re_numbersOf lk_7_229 dc_Re_readNumbers_1 [.inl x1] [] rfl rfl (Nat.le_of_ble_eq_true rfl) ev1 ⟨rfl, rfl⟩ ?_
  show K 4 [some (.inr (.inr 279)), some (.inl x1), none, none] [.inr (.inr v1)] h
  refine ia_go hK ck_Re_readNumbers_4 ?_
  show K 7 [some (.inr (.inr 279)), some (.inl x1), some (.inr (.inr v1)), some (.inl 0)] [] h
  refine tl_Re_readNumbers_7 hK hret ?_ ?_ fu_ v1 0 h hg gv1 hm
  · intro h hg hm
    refine ia_go hK ck_Re_readNumbers_29 ?_
    show K 30 [none, none, none, none] [.inl 0] h
    obtain ⟨rfl, rfl⟩ := Prod.mk.inj (Option.some.inj hm)
    exact hret 30 _ ⟨Or.inl rfl, dc_Re_readNumbers_30⟩
  · intro a2 h hg q_a2 hm
    refine ia_go hK ck_Re_readNumbers_37 ?_
    show K 38 [some (.inr (.inr 279)), some (.inl x1), some (.inr (.inr a2)), none] [.inl x1] h
    obtain ⟨v4, hv4, hm⟩ := ia_bnd hm
    have ev4 := t_Re_hasMore (d + 3) hg hv4
    refine ia_cS hK mk_Re_hasMore lk_7_236 dc_Re_readNumbers_38 [.inl x1] [] rfl rfl (Nat.le_of_ble_eq_true rfl) ev4 ⟨rfl, rfl⟩ ?_
    show K 41 [some (.inr (.inr 279)), some (.inl x1), some (.inr (.inr a2)), none] [.inl v4] h
    refine ia_go hK ck_Re_readNumbers_41 ⟨fun c => ?_, fun c => ?_⟩
    · replace hm := ia_ifp hm c
      show K 97 [some (.inr (.inr 279)), some (.inl x1), some (.inr (.inr a2)), none] [] h
      refine ia_go hK ck_Re_readNumbers_97 ?_
      show K 98 [some (.inr (.inr 279)), some (.inl x1), some (.inr (.inr a2)), none] [.inl 1] h
      obtain ⟨rfl, rfl⟩ := Prod.mk.inj (Option.some.inj hm)
      exact hret 98 _ ⟨Or.inr rfl, dc_Re_readNumbers_98⟩
    · replace hm := ia_ifn hm c
      show K 44 [some (.inr (.inr 279)), some (.inl x1), some (.inr (.inr a2)), none] [] h
      refine ia_go hK ck_Re_readNumbers_44 ?_
      show K 46 [some (.inr (.inr 279)), some (.inl x1), some (.inr (.inr a2)), some (.inl 1)] [] h
      refine tl_Re_readNumbers_46 hK hret ?_ ?_ fu_ a2 1 h hg q_a2 hm
      · intro h hg hm
        refine ia_go hK ck_Re_readNumbers_89 ?_
        show K 90 [none, none, none, none] [.inl 0] h
        obtain ⟨rfl, rfl⟩ := Prod.mk.inj (Option.some.inj hm)
        exact hret 90 _ ⟨Or.inl rfl, dc_Re_readNumbers_90⟩
      · intro h hg hm
        refine ia_go hK ck_Re_readNumbers_97 ?_
        show K 98 [none, none, none, none] [.inl 1] h
        obtain ⟨rfl, rfl⟩ := Prod.mk.inj (Option.some.inj hm)
        exact hret 98 _ ⟨Or.inr rfl, dc_Re_readNumbers_98⟩
