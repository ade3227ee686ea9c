def mm_Sc_lost : ia_M := (⟨"IceStreet$Scene", "lost", "()I"⟩, prog_10_method_20_code, 3, (some .int), 9, false)
theorem ok_Sc_lost : ia_mok mm_Sc_lost := ⟨by decide +kernel, by decide +kernel, by decide +kernel, by decide +kernel⟩
theorem mk_Sc_lost : ia_mkn mm_Sc_lost 1 0 := ⟨ia_tb_in (List.mem_of_getElem? (i := 1192) (by decide +kernel)) rfl, ia_tb_in (List.mem_of_getElem? (i := 140) (by decide +kernel)) rfl, by decide +kernel, by decide +kernel, ⟨ia_tb_in (List.mem_of_getElem? (i := 1190) (by decide +kernel)) rfl, ia_tb_in (List.mem_of_getElem? (i := 1191) (by decide +kernel)) rfl⟩⟩
theorem ck_Sc_lost_0 : ia_cks 9 3 false prog_10_method_20_code 0 [(.iconst 0, 0, 0, 0, 0), (.istore_n 1, 0, 0, 0, 0), (.iconst 0, 0, 0, 0, 0), (.istore_n 2, 0, 0, 0, 0)] = true := by decide +kernel
theorem ck_Sc_lost_4 : ia_cks 9 3 false prog_10_method_20_code 4 [(.iload_n 2, 0, 0, 0, 0), (.aload_n 0, 0, 0, 0, 0), (.getfield 33, 9, 0, 2, 0), (.getfield 66, 3, 11, 0, 0), (.if_icmp .ge 36, 0, 0, 0, 0)] = true := by decide +kernel
theorem ck_Sc_lost_15 : ia_cks 9 3 false prog_10_method_20_code 15 [(.iload_n 1, 0, 0, 0, 0), (.aload_n 0, 0, 0, 0, 0), (.getfield 24, 9, 6, 3, 5), (.iload_n 2, 0, 0, 0, 0), (.iaload, 0, 0, 0, 0), (.bipush (-2), 0, 0, 0, 0), (.if_icmp .ne 15, 0, 0, 0, 0)] = true := by decide +kernel
theorem ck_Sc_lost_39 : ia_cks 9 3 false prog_10_method_20_code 39 [(.iconst 0, 0, 0, 0, 0)] = true := by decide +kernel
theorem ck_Sc_lost_40 : ia_cks 9 3 false prog_10_method_20_code 40 [(.iadd, 0, 0, 0, 0), (.istore_n 1, 0, 0, 0, 0), (.iinc 2 1, 0, 0, 0, 0), (.goto (-41), 0, 0, 0, 0)] = true := by decide +kernel
theorem ck_Sc_lost_27 : ia_cks 9 3 false prog_10_method_20_code 27 [(.aload_n 0, 0, 0, 0, 0), (.getfield 33, 9, 0, 2, 0), (.getfield 129, 3, 15, 3, 9), (.iload_n 2, 0, 0, 0, 0), (.iaload, 0, 0, 0, 0), (.goto 4, 0, 0, 0, 0)] = true := by decide +kernel
theorem ck_Sc_lost_48 : ia_cks 9 3 false prog_10_method_20_code 48 [(.iload_n 1, 0, 0, 0, 0)] = true := by decide +kernel
theorem dc_Sc_lost_49 : decode prog_10_method_20_code 49 = .ok (.ireturn, 1) := by decide +kernel
def j_Sc_lost_40 (a0 : Nat) (h : ia_H) (kr : Int32 → Int32 → Option Int32) (k48 : Int32 → Option Int32) (x2 : Int32) (s0 : Int32) (s1 : Int32) : Option Int32 := kr (s0 + s1) (x2 + 1)
theorem tj_Sc_lost_40 {w : ia_O0} {d N1 W1 : Nat} {K : ia_K} (hK : ia_isK (d + 0) mm_Sc_lost N1 W1 K) {a0 : Nat} {h : ia_H} (hg : gd_ w h) (p0 : (kd_D a0).1 = 9) {r : Int32} (hret : ∀ (pc : Nat) (lv : ia_L), ia_ret mm_Sc_lost pc (some (.inl r)) → K pc lv ((some (.inl r)) : Option ia_V).toList h) {kr : Int32 → Int32 → Option Int32} {k48 : Int32 → Option Int32} (hkr : ∀ (x1 : Int32) (x2 : Int32), kr x1 x2 = some r → K 4 [some (.inr (.inr a0)), some (.inl x1), some (.inl x2)] [] h) (hk48 : ∀ (x1 : Int32), k48 x1 = some r → K 48 [none, some (.inl x1), none] [] h) : ∀ (x2 : Int32) (s0 : Int32) (s1 : Int32), j_Sc_lost_40 a0 h kr k48 x2 s0 s1 = some r → K 40 [some (.inr (.inr a0)), none, some (.inl x2)] [.inl s1, .inl s0] h := by
  intro x2 s0 s1 hm
  unfold j_Sc_lost_40 at hm
  refine ia_go hK ck_Sc_lost_40 ?_
  show K 4 [some (.inr (.inr a0)), some (.inl (s0 + s1)), some (.inl (x2 + 1))] [] h
  exact hkr (s0 + s1) (x2 + 1) hm
def l_Sc_lost_4 (a0 : Nat) (h : ia_H) (k48 : Int32 → Option Int32) (n : Nat) (x1 : Int32) (x2 : Int32) : Option Int32 := match n with
  | 0 => none
  | n + 1 => if (ia_i h (ia_r h a0 0) 11) ≤ x2 then (k48 x1) else (ia_gd (ia_ib x2 6) (if (ia_i h (a0 + 5) ((x2).toNatClampNeg)) = (-2) then (ia_gd (ia_ib x2 6) (j_Sc_lost_40 a0 h (l_Sc_lost_4 a0 h k48 n) k48 x2 x1 (ia_i h ((ia_r h a0 0) + 9) ((x2).toNatClampNeg)))) else (j_Sc_lost_40 a0 h (l_Sc_lost_4 a0 h k48 n) k48 x2 x1 0)))
theorem tl_Sc_lost_4 {w : ia_O0} {d N1 W1 : Nat} {K : ia_K} (hK : ia_isK (d + 0) mm_Sc_lost N1 W1 K) {a0 : Nat} {h : ia_H} (hg : gd_ w h) (p0 : (kd_D a0).1 = 9) {r : Int32} (hret : ∀ (pc : Nat) (lv : ia_L), ia_ret mm_Sc_lost pc (some (.inl r)) → K pc lv ((some (.inl r)) : Option ia_V).toList h) {k48 : Int32 → Option Int32} (hk48 : ∀ (x1 : Int32), k48 x1 = some r → K 48 [none, some (.inl x1), none] [] h) : ∀ (n : Nat) (x1 : Int32) (x2 : Int32), l_Sc_lost_4 a0 h k48 n x1 x2 = some r → K 4 [some (.inr (.inr a0)), some (.inl x1), some (.inl x2)] [] h := by
  intro n
  induction n with
  | zero =>
    intro x1 x2 hm
    cases (show (none : Option Int32) = some _ from hm)
  | succ n ih =>
    intro x1 x2 hm
    rw [l_Sc_lost_4] at hm
    refine ia_go hK ck_Sc_lost_4 ⟨gk_9 hg p0, gk_3 hg (gm_9_0 hg p0), fun c => ?_, fun c => ?_⟩
    · replace hm := ia_ifp hm c
      show K 48 [some (.inr (.inr a0)), some (.inl x1), some (.inl x2)] [] h
      refine ia_fg hK (lv' := [none, some (.inl x1), none]) ⟨rfl, trivial⟩ ?_
      exact hk48 x1 hm
    · replace hm := ia_ifn hm c
      show K 15 [some (.inr (.inr a0)), some (.inl x1), some (.inl x2)] [] h
      obtain ⟨c1, hm⟩ := ia_gd_some hm
      refine ia_go hK ck_Sc_lost_15 ⟨gk_9 hg p0, gr_9_6 hg p0, ga_i100 hg (ka_9_6 p0) c1, fun c => ?_, fun c => ?_⟩
      · replace hm := ia_ifn hm c
        show K 39 [some (.inr (.inr a0)), some (.inl x1), some (.inl x2)] [.inl x1] h
        refine ia_go hK ck_Sc_lost_39 ?_
        show K 40 [some (.inr (.inr a0)), some (.inl x1), some (.inl x2)] [.inl 0, .inl x1] h
        refine ia_fg hK (lv' := [some (.inr (.inr a0)), none, some (.inl x2)]) ⟨rfl, rfl, trivial⟩ ?_
        exact tj_Sc_lost_40 hK hg p0 hret ih hk48 x2 x1 0 hm
      · replace hm := ia_ifp hm c
        show K 27 [some (.inr (.inr a0)), some (.inl x1), some (.inl x2)] [.inl x1] h
        obtain ⟨c2, hm⟩ := ia_gd_some hm
        refine ia_go hK ck_Sc_lost_27 ⟨gk_9 hg p0, gk_3 hg (gm_9_0 hg p0), gr_3_15 hg (gm_9_0 hg p0), ga_i100 hg (ka_3_15 (gm_9_0 hg p0)) c2, ?_⟩
        show K 40 [some (.inr (.inr a0)), some (.inl x1), some (.inl x2)] [.inl (ia_i h ((ia_r h a0 0) + 9) ((x2).toNatClampNeg)), .inl x1] h
        refine ia_fg hK (lv' := [some (.inr (.inr a0)), none, some (.inl x2)]) ⟨rfl, rfl, trivial⟩ ?_
        exact tj_Sc_lost_40 hK hg p0 hret ih hk48 x2 x1 (ia_i h ((ia_r h a0 0) + 9) ((x2).toNatClampNeg)) hm
def f_Sc_lost (a0 : Nat) (h : ia_H) : Option Int32 := l_Sc_lost_4 a0 h (fun x1 => some x1) fu_ 0 0
theorem t_Sc_lost {w : ia_O0} (d : Nat) {a0 : Nat} {h : ia_H} (hg : gd_ w h) (p0 : (kd_D a0).1 = 9) {r : Int32} (hm : f_Sc_lost a0 h = some r) : ia_Ev (d + 0) mm_Sc_lost [.inr (.inr a0)] h (some (.inl r)) h := by
  refine ia_Ev_intro ok_Sc_lost (Nat.le_refl _) (Nat.le_refl _) (Nat.le_of_ble_eq_true rfl) (fun K hK hret => ?_)
  show K 0 [some (.inr (.inr a0)), none, none] [] h
  unfold f_Sc_lost at hm
  refine ia_go hK ck_Sc_lost_0 ?_
  show K 4 [some (.inr (.inr a0)), some (.inl 0), some (.inl 0)] [] h
  refine tl_Sc_lost_4 hK hg p0 hret ?_ fu_ 0 0 hm
  · intro x1 hm
    refine ia_go hK ck_Sc_lost_48 ?_
    show K 49 [none, some (.inl x1), none] [.inl x1] h
    obtain rfl := Option.some.inj hm
    exact hret 49 _ dc_Sc_lost_49
def mm_Sc_broken : ia_M := (⟨"IceStreet$Scene", "broken", "()I"⟩, prog_10_method_26_code, 3, (some .int), 9, false)
theorem ok_Sc_broken : ia_mok mm_Sc_broken := ⟨by decide +kernel, by decide +kernel, by decide +kernel, by decide +kernel⟩
theorem mk_Sc_broken : ia_mkn mm_Sc_broken 1 0 := ⟨ia_tb_in (List.mem_of_getElem? (i := 1196) (by decide +kernel)) rfl, ia_tb_in (List.mem_of_getElem? (i := 140) (by decide +kernel)) rfl, by decide +kernel, by decide +kernel, ⟨ia_tb_in (List.mem_of_getElem? (i := 1194) (by decide +kernel)) rfl, ia_tb_in (List.mem_of_getElem? (i := 1195) (by decide +kernel)) rfl⟩⟩
theorem ck_Sc_broken_0 : ia_cks 9 3 false prog_10_method_26_code 0 [(.iconst 0, 0, 0, 0, 0), (.istore_n 1, 0, 0, 0, 0), (.iconst 0, 0, 0, 0, 0), (.istore_n 2, 0, 0, 0, 0)] = true := by decide +kernel
theorem ck_Sc_broken_4 : ia_cks 9 3 false prog_10_method_26_code 4 [(.iload_n 2, 0, 0, 0, 0), (.aload_n 0, 0, 0, 0, 0), (.getfield 33, 9, 0, 2, 0), (.getfield 66, 3, 11, 0, 0), (.if_icmp .ge 66, 0, 0, 0, 0)] = true := by decide +kernel
theorem ck_Sc_broken_15 : ia_cks 9 3 false prog_10_method_26_code 15 [(.aload_n 0, 0, 0, 0, 0), (.getfield 24, 9, 6, 3, 5), (.iload_n 2, 0, 0, 0, 0), (.iaload, 0, 0, 0, 0), (.ifCond .lt 51, 0, 0, 0, 0)] = true := by decide +kernel
theorem ck_Sc_broken_72 : ia_cks 9 3 false prog_10_method_26_code 72 [(.iinc 2 1, 0, 0, 0, 0), (.goto (-71), 0, 0, 0, 0)] = true := by decide +kernel
theorem ck_Sc_broken_24 : ia_cks 9 3 false prog_10_method_26_code 24 [(.aload_n 0, 0, 0, 0, 0), (.getfield 37, 9, 1, 2, 0), (.getfield 146, 4, 7, 1, 0), (.aload_n 0, 0, 0, 0, 0), (.getfield 24, 9, 6, 3, 5), (.iload_n 2, 0, 0, 0, 0), (.iaload, 0, 0, 0, 0)] = true := by decide +kernel
theorem ck_Sc_broken_40 : ia_cks 9 3 false prog_10_method_26_code 40 [(.ifCond .ne 26, 0, 0, 0, 0)] = true := by decide +kernel
theorem ck_Sc_broken_66 : ia_cks 9 3 false prog_10_method_26_code 66 [(.iload_n 1, 0, 0, 0, 0), (.iconst 1, 0, 0, 0, 0), (.iload_n 2, 0, 0, 0, 0), (.ishl, 0, 0, 0, 0), (.ior, 0, 0, 0, 0), (.istore_n 1, 0, 0, 0, 0), (.iinc 2 1, 0, 0, 0, 0), (.goto (-71), 0, 0, 0, 0)] = true := by decide +kernel
theorem ck_Sc_broken_43 : ia_cks 9 3 false prog_10_method_26_code 43 [(.aload_n 0, 0, 0, 0, 0), (.getfield 30, 9, 8, 3, 7), (.iload_n 2, 0, 0, 0, 0), (.iaload, 0, 0, 0, 0), (.ifCond .le 23, 0, 0, 0, 0)] = true := by decide +kernel
theorem ck_Sc_broken_52 : ia_cks 9 3 false prog_10_method_26_code 52 [(.aload_n 0, 0, 0, 0, 0), (.iload_n 2, 0, 0, 0, 0), (.aload_n 0, 0, 0, 0, 0), (.getfield 24, 9, 6, 3, 5), (.iload_n 2, 0, 0, 0, 0), (.iaload, 0, 0, 0, 0)] = true := by decide +kernel
theorem ck_Sc_broken_63 : ia_cks 9 3 false prog_10_method_26_code 63 [(.ifCond .eq 9, 0, 0, 0, 0)] = true := by decide +kernel
theorem ck_Sc_broken_78 : ia_cks 9 3 false prog_10_method_26_code 78 [(.iload_n 1, 0, 0, 0, 0)] = true := by decide +kernel
theorem dc_Sc_broken_37 : decode prog_10_method_26_code 37 = .ok (.invokestatic 136, 3) := by decide +kernel
theorem dc_Sc_broken_60 : decode prog_10_method_26_code 60 = .ok (.invokevirtual 150, 3) := by decide +kernel
theorem dc_Sc_broken_79 : decode prog_10_method_26_code 79 = .ok (.ireturn, 1) := by decide +kernel
def j_Sc_broken_66 (a0 : Nat) (h : ia_H) (kr : Int32 → Int32 → Option Int32) (k78 : Int32 → Option Int32) (x1 : Int32) (x2 : Int32) : Option Int32 := kr (x1 ||| (1 <<< (x2 &&& 31))) (x2 + 1)
theorem tj_Sc_broken_66 {w : ia_O0} {d N1 W1 : Nat} {K : ia_K} (hK : ia_isK (d + 2) mm_Sc_broken N1 W1 K) {a0 : Nat} {h : ia_H} (hg : gd_ w h) (p0 : (kd_D a0).1 = 9) {r : Int32} (hret : ∀ (pc : Nat) (lv : ia_L), ia_ret mm_Sc_broken pc (some (.inl r)) → K pc lv ((some (.inl r)) : Option ia_V).toList h) {kr : Int32 → Int32 → Option Int32} {k78 : Int32 → Option Int32} (hkr : ∀ (x1 : Int32) (x2 : Int32), kr x1 x2 = some r → K 4 [some (.inr (.inr a0)), some (.inl x1), some (.inl x2)] [] h) (hk78 : ∀ (x1 : Int32), k78 x1 = some r → K 78 [none, some (.inl x1), none] [] h) : ∀ (x1 : Int32) (x2 : Int32), j_Sc_broken_66 a0 h kr k78 x1 x2 = some r → K 66 [some (.inr (.inr a0)), some (.inl x1), some (.inl x2)] [] h := by
  intro x1 x2 hm
  unfold j_Sc_broken_66 at hm
  refine ia_go hK ck_Sc_broken_66 ?_
  show K 4 [some (.inr (.inr a0)), some (.inl (x1 ||| (1 <<< (x2 &&& 31)))), some (.inl (x2 + 1))] [] h
  exact hkr (x1 ||| (1 <<< (x2 &&& 31))) (x2 + 1) hm
def l_Sc_broken_4 (a0 : Nat) (h : ia_H) (k78 : Int32 → Option Int32) (n : Nat) (x1 : Int32) (x2 : Int32) : Option Int32 := match n with
  | 0 => none
  | n + 1 => if (ia_i h (ia_r h a0 0) 11) ≤ x2 then (k78 x1) else (ia_gd (ia_ib x2 6) (if (ia_i h (a0 + 5) ((x2).toNatClampNeg)) < 0 then (l_Sc_broken_4 a0 h k78 n x1 (x2 + 1)) else (ia_gd (ia_ib x2 6) ((f_I_hasBit (ia_l h (ia_r h a0 1) 7) (ia_i h (a0 + 5) ((x2).toNatClampNeg)) h).bind fun v3 => (if v3 = 0 then (ia_gd (ia_ib x2 6) (if (ia_i h (a0 + 7) ((x2).toNatClampNeg)) ≤ 0 then (l_Sc_broken_4 a0 h k78 n x1 (x2 + 1)) else (ia_gd (ia_ib x2 6) ((f_Sc_isTooHot a0 x2 (ia_i h (a0 + 5) ((x2).toNatClampNeg)) h).bind fun v6 => (if v6 = 0 then (l_Sc_broken_4 a0 h k78 n x1 (x2 + 1)) else (j_Sc_broken_66 a0 h (l_Sc_broken_4 a0 h k78 n) k78 x1 x2)))))) else (j_Sc_broken_66 a0 h (l_Sc_broken_4 a0 h k78 n) k78 x1 x2))))))
theorem tl_Sc_broken_4 {w : ia_O0} {d N1 W1 : Nat} {K : ia_K} (hK : ia_isK (d + 2) mm_Sc_broken N1 W1 K) {a0 : Nat} {h : ia_H} (hg : gd_ w h) (p0 : (kd_D a0).1 = 9) {r : Int32} (hret : ∀ (pc : Nat) (lv : ia_L), ia_ret mm_Sc_broken pc (some (.inl r)) → K pc lv ((some (.inl r)) : Option ia_V).toList h) {k78 : Int32 → Option Int32} (hk78 : ∀ (x1 : Int32), k78 x1 = some r → K 78 [none, some (.inl x1), none] [] h) : ∀ (n : Nat) (x1 : Int32) (x2 : Int32), l_Sc_broken_4 a0 h k78 n x1 x2 = some r → K 4 [some (.inr (.inr a0)), some (.inl x1), some (.inl x2)] [] h := by
  intro n
  induction n with
  | zero =>
    intro x1 x2 hm
    cases (show (none : Option Int32) = some _ from hm)
  | succ n ih =>
    intro x1 x2 hm
    rw [l_Sc_broken_4] at hm
    refine ia_go hK ck_Sc_broken_4 ⟨gk_9 hg p0, gk_3 hg (gm_9_0 hg p0), fun c => ?_, fun c => ?_⟩
    · replace hm := ia_ifp hm c
      show K 78 [some (.inr (.inr a0)), some (.inl x1), some (.inl x2)] [] h
      refine ia_fg hK (lv' := [none, some (.inl x1), none]) ⟨rfl, trivial⟩ ?_
      exact hk78 x1 hm
    · replace hm := ia_ifn hm c
      show K 15 [some (.inr (.inr a0)), some (.inl x1), some (.inl x2)] [] h
      obtain ⟨c1, hm⟩ := ia_gd_some hm
      refine ia_go hK ck_Sc_broken_15 ⟨gk_9 hg p0, gr_9_6 hg p0, ga_i100 hg (ka_9_6 p0) c1, fun c => ?_, fun c => ?_⟩
      · replace hm := ia_ifp hm c
        show K 72 [some (.inr (.inr a0)), some (.inl x1), some (.inl x2)] [] h
        refine ia_go hK ck_Sc_broken_72 ?_
        show K 4 [some (.inr (.inr a0)), some (.inl x1), some (.inl (x2 + 1))] [] h
        exact ih x1 (x2 + 1) hm
      · replace hm := ia_ifn hm c
        show K 24 [some (.inr (.inr a0)), some (.inl x1), some (.inl x2)] [] h
        obtain ⟨c2, hm⟩ := ia_gd_some hm
        refine ia_go hK ck_Sc_broken_24 ⟨gk_9 hg p0, gk_4 hg (gm_9_1 hg p0), gk_9 hg p0, gr_9_6 hg p0, ga_i100 hg (ka_9_6 p0) c2, ?_⟩
        show K 37 [some (.inr (.inr a0)), some (.inl x1), some (.inl x2)] [.inl (ia_i h (a0 + 5) ((x2).toNatClampNeg)), .inr (.inl (ia_l h (ia_r h a0 1) 7))] h
        obtain ⟨v3, hv3, hm⟩ := ia_bnd hm
        have ev3 := t_I_hasBit (d + 1) hg hv3
        refine ia_cS hK mk_I_hasBit lk_9_136 dc_Sc_broken_37 [.inr (.inl (ia_l h (ia_r h a0 1) 7)), .inl (ia_i h (a0 + 5) ((x2).toNatClampNeg))] [] rfl rfl (Nat.le_of_ble_eq_true rfl) ev3 ⟨rfl, rfl⟩ ?_
        show K 40 [some (.inr (.inr a0)), some (.inl x1), some (.inl x2)] [.inl v3] h
        refine ia_go hK ck_Sc_broken_40 ⟨fun c => ?_, fun c => ?_⟩
        · replace hm := ia_ifn hm c
          show K 66 [some (.inr (.inr a0)), some (.inl x1), some (.inl x2)] [] h
          exact tj_Sc_broken_66 hK hg p0 hret ih hk78 x1 x2 hm
        · replace hm := ia_ifp hm c
          show K 43 [some (.inr (.inr a0)), some (.inl x1), some (.inl x2)] [] h
          obtain ⟨c4, hm⟩ := ia_gd_some hm
          refine ia_go hK ck_Sc_broken_43 ⟨gk_9 hg p0, gr_9_8 hg p0, ga_i100 hg (ka_9_8 p0) c4, fun c => ?_, fun c => ?_⟩
          · replace hm := ia_ifp hm c
            show K 72 [some (.inr (.inr a0)), some (.inl x1), some (.inl x2)] [] h
            refine ia_go hK ck_Sc_broken_72 ?_
            show K 4 [some (.inr (.inr a0)), some (.inl x1), some (.inl (x2 + 1))] [] h
            exact ih x1 (x2 + 1) hm
          · replace hm := ia_ifn hm c
            show K 52 [some (.inr (.inr a0)), some (.inl x1), some (.inl x2)] [] h
            obtain ⟨c5, hm⟩ := ia_gd_some hm
            refine ia_go hK ck_Sc_broken_52 ⟨gk_9 hg p0, gr_9_6 hg p0, ga_i100 hg (ka_9_6 p0) c5, ?_⟩
            show K 60 [some (.inr (.inr a0)), some (.inl x1), some (.inl x2)] [.inl (ia_i h (a0 + 5) ((x2).toNatClampNeg)), .inl x2, .inr (.inr a0)] h
            obtain ⟨v6, hv6, hm⟩ := ia_bnd hm
            have ev6 := t_Sc_isTooHot (d + 0) hg p0 hv6
            refine ia_cV hK mk_Sc_isTooHot lk_9_150 dc_Sc_broken_60 a0 [.inl x2, .inl (ia_i h (a0 + 5) ((x2).toNatClampNeg))] [] rfl rfl (Nat.le_of_ble_eq_true rfl) (by decide) rfl (gk_9 hg p0) ev6 ⟨rfl, rfl⟩ ?_
            show K 63 [some (.inr (.inr a0)), some (.inl x1), some (.inl x2)] [.inl v6] h
            refine ia_go hK ck_Sc_broken_63 ⟨fun c => ?_, fun c => ?_⟩
            · replace hm := ia_ifp hm c
              show K 72 [some (.inr (.inr a0)), some (.inl x1), some (.inl x2)] [] h
              refine ia_go hK ck_Sc_broken_72 ?_
              show K 4 [some (.inr (.inr a0)), some (.inl x1), some (.inl (x2 + 1))] [] h
              exact ih x1 (x2 + 1) hm
            · replace hm := ia_ifn hm c
              show K 66 [some (.inr (.inr a0)), some (.inl x1), some (.inl x2)] [] h
              exact tj_Sc_broken_66 hK hg p0 hret ih hk78 x1 x2 hm
def f_Sc_broken (a0 : Nat) (h : ia_H) : Option Int32 := l_Sc_broken_4 a0 h (fun x1 => some x1) fu_ 0 0
theorem t_Sc_broken {w : ia_O0} (d : Nat) {a0 : Nat} {h : ia_H} (hg : gd_ w h) (p0 : (kd_D a0).1 = 9) {r : Int32} (hm : f_Sc_broken a0 h = some r) : ia_Ev (d + 2) mm_Sc_broken [.inr (.inr a0)] h (some (.inl r)) h := by
  refine ia_Ev_intro ok_Sc_broken (Nat.le_refl _) (Nat.le_refl _) (Nat.le_of_ble_eq_true rfl) (fun K hK hret => ?_)
  show K 0 [some (.inr (.inr a0)), none, none] [] h
  unfold f_Sc_broken at hm
  refine ia_go hK ck_Sc_broken_0 ?_
  show K 4 [some (.inr (.inr a0)), some (.inl 0), some (.inl 0)] [] h
  refine tl_Sc_broken_4 hK hg p0 hret ?_ fu_ 0 0 hm
  · intro x1 hm
    refine ia_go hK ck_Sc_broken_78 ?_
    show K 79 [none, some (.inl x1), none] [.inl x1] h
    obtain rfl := Option.some.inj hm
    exact hret 79 _ dc_Sc_broken_79
def mm_Wa_joined : ia_M := (⟨"IceStreet$Ways", "joined", "(LIceStreet$Lake;I)J"⟩, prog_12_method_29_code, 9, (some .long), 11, false)
theorem ok_Wa_joined : ia_mok mm_Wa_joined := ⟨by decide +kernel, by decide +kernel, by decide +kernel, by decide +kernel⟩
theorem mk_Wa_joined : ia_mkn mm_Wa_joined 1 2 := ⟨ia_tb_in (List.mem_of_getElem? (i := 1206) (by decide +kernel)) rfl, ia_tb_in (List.mem_of_getElem? (i := 141) (by decide +kernel)) rfl, by decide +kernel, by decide +kernel, ⟨ia_tb_in (List.mem_of_getElem? (i := 1204) (by decide +kernel)) rfl, ia_tb_in (List.mem_of_getElem? (i := 1205) (by decide +kernel)) rfl⟩⟩
theorem ck_Wa_joined_0 : ia_cks 11 9 false prog_12_method_29_code 0 [(.iload_n 2, 0, 0, 0, 0)] = true := by decide +kernel
theorem ck_Wa_joined_4 : ia_cks 11 9 false prog_12_method_29_code 4 [(.lstore_n 3, 0, 0, 0, 0), (.aload_n 0, 0, 0, 0, 0), (.getfield 21, 11, 8, 3, 4), (.iconst 0, 0, 0, 0, 0), (.iload_n 2, 0, 0, 0, 0), (.iastore, 0, 0, 0, 0), (.iconst 1, 0, 0, 0, 0), (.istore 5, 0, 0, 0, 0), (.iconst 0, 0, 0, 0, 0), (.istore 6, 0, 0, 0, 0)] = true := by decide +kernel
theorem ck_Wa_joined_18 : ia_cks 11 9 false prog_12_method_29_code 18 [(.iload 6, 0, 0, 0, 0), (.iload 5, 0, 0, 0, 0), (.if_icmp .ge 85, 0, 0, 0, 0)] = true := by decide +kernel
theorem ck_Wa_joined_25 : ia_cks 11 9 false prog_12_method_29_code 25 [(.iload 6, 0, 0, 0, 0), (.bipush 36, 0, 0, 0, 0), (.if_icmp .ge 78, 0, 0, 0, 0)] = true := by decide +kernel
theorem ck_Wa_joined_32 : ia_cks 11 9 false prog_12_method_29_code 32 [(.iconst 0, 0, 0, 0, 0), (.istore 7, 0, 0, 0, 0)] = true := by decide +kernel
theorem ck_Wa_joined_35 : ia_cks 11 9 false prog_12_method_29_code 35 [(.iload 7, 0, 0, 0, 0), (.iconst 4, 0, 0, 0, 0), (.if_icmp .ge 63, 0, 0, 0, 0)] = true := by decide +kernel
theorem ck_Wa_joined_41 : ia_cks 11 9 false prog_12_method_29_code 41 [(.aload_n 1, 0, 0, 0, 0), (.getfield 202, 3, 17, 3, 11), (.aload_n 0, 0, 0, 0, 0), (.getfield 21, 11, 8, 3, 4), (.iload 6, 0, 0, 0, 0), (.iaload, 0, 0, 0, 0), (.iconst 4, 0, 0, 0, 0), (.imul, 0, 0, 0, 0), (.iload 7, 0, 0, 0, 0), (.iadd, 0, 0, 0, 0), (.iaload, 0, 0, 0, 0), (.istore 8, 0, 0, 0, 0), (.iload 8, 0, 0, 0, 0), (.iconst (-1), 0, 0, 0, 0), (.if_icmp .eq 32, 0, 0, 0, 0)] = true := by decide +kernel
theorem ck_Wa_joined_95 : ia_cks 11 9 false prog_12_method_29_code 95 [(.iinc 7 1, 0, 0, 0, 0), (.goto (-63), 0, 0, 0, 0)] = true := by decide +kernel
theorem ck_Wa_joined_66 : ia_cks 11 9 false prog_12_method_29_code 66 [(.lload_n 3, 0, 0, 0, 0), (.iload 8, 0, 0, 0, 0)] = true := by decide +kernel
theorem ck_Wa_joined_72 : ia_cks 11 9 false prog_12_method_29_code 72 [(.ifCond .ne 23, 0, 0, 0, 0)] = true := by decide +kernel
theorem ck_Wa_joined_75 : ia_cks 11 9 false prog_12_method_29_code 75 [(.lload_n 3, 0, 0, 0, 0), (.iload 8, 0, 0, 0, 0)] = true := by decide +kernel
theorem ck_Wa_joined_81 : ia_cks 11 9 false prog_12_method_29_code 81 [(.lor, 0, 0, 0, 0), (.lstore_n 3, 0, 0, 0, 0), (.aload_n 0, 0, 0, 0, 0), (.getfield 21, 11, 8, 3, 4), (.iload 5, 0, 0, 0, 0), (.iinc 5 1, 0, 0, 0, 0), (.iload 8, 0, 0, 0, 0), (.iastore, 0, 0, 0, 0), (.iinc 7 1, 0, 0, 0, 0), (.goto (-63), 0, 0, 0, 0)] = true := by decide +kernel
theorem ck_Wa_joined_101 : ia_cks 11 9 false prog_12_method_29_code 101 [(.iinc 6 1, 0, 0, 0, 0), (.goto (-86), 0, 0, 0, 0)] = true := by decide +kernel
theorem ck_Wa_joined_107 : ia_cks 11 9 false prog_12_method_29_code 107 [(.lload_n 3, 0, 0, 0, 0)] = true := by decide +kernel
theorem dc_Wa_joined_1 : decode prog_12_method_29_code 1 = .ok (.invokestatic 142, 3) := by decide +kernel
theorem dc_Wa_joined_69 : decode prog_12_method_29_code 69 = .ok (.invokestatic 146, 3) := by decide +kernel
theorem dc_Wa_joined_78 : decode prog_12_method_29_code 78 = .ok (.invokestatic 142, 3) := by decide +kernel
theorem dc_Wa_joined_108 : decode prog_12_method_29_code 108 = .ok (.lreturn, 1) := by decide +kernel
def l_Wa_joined_35 (a1 : Nat) (x2 : Int32) (k101 : Int64 → Int32 → Int32 → ia_H → Option (Int64 × ia_H)) (n : Nat) (y3 : Int64) (x5 : Int32) (x6 : Int32) (x7 : Int32) (h : ia_H) : Option (Int64 × ia_H) := match n with
  | 0 => none
  | n + 1 => if 4 ≤ x7 then (k101 y3 x5 x6 h) else (ia_gd (ia_ib x6 36) (ia_gd (ia_ib (((ia_i h 315 ((x6).toNatClampNeg)) * 4) + x7) 144) (if (ia_i h (a1 + 11) ((((ia_i h 315 ((x6).toNatClampNeg)) * 4) + x7).toNatClampNeg)) = (-1) then (l_Wa_joined_35 a1 x2 k101 n y3 x5 x6 (x7 + 1) h) else ((f_I_hasBit y3 (ia_i h (a1 + 11) ((((ia_i h 315 ((x6).toNatClampNeg)) * 4) + x7).toNatClampNeg)) h).bind fun v4 => (if v4 = 0 then ((f_I_bit (ia_i h (a1 + 11) ((((ia_i h 315 ((x6).toNatClampNeg)) * 4) + x7).toNatClampNeg)) h).bind fun v5 => (ia_gd (ia_ib x5 36) (l_Wa_joined_35 a1 x2 k101 n (y3 ||| v5) (x5 + 1) x6 (x7 + 1) (ia_wI h 315 ((x5).toNatClampNeg) (ia_i h (a1 + 11) ((((ia_i h 315 ((x6).toNatClampNeg)) * 4) + x7).toNatClampNeg)))))) else (l_Wa_joined_35 a1 x2 k101 n y3 x5 x6 (x7 + 1) h))))))
theorem tl_Wa_joined_35 {w : ia_O0} {d N1 W1 : Nat} {K : ia_K} (hK : ia_isK (d + 1) mm_Wa_joined N1 W1 K) {a1 : Nat} {x2 : Int32} (p1 : (kd_D a1).1 = 3) {r : Int64} {h1 : ia_H} (hret : ∀ (pc : Nat) (lv : ia_L), ia_ret mm_Wa_joined pc (some (.inr (.inl r))) → K pc lv ((some (.inr (.inl r))) : Option ia_V).toList h1) {k101 : Int64 → Int32 → Int32 → ia_H → Option (Int64 × ia_H)} (hk101 : ∀ (y3 : Int64) (x5 : Int32) (x6 : Int32) (h : ia_H), gd_ w h → k101 y3 x5 x6 h = some (r, h1) → K 101 [some (.inr (.inr 311)), some (.inr (.inr a1)), none, some (.inr (.inl y3)), none, some (.inl x5), some (.inl x6), none, none] [] h) : ∀ (n : Nat) (y3 : Int64) (x5 : Int32) (x6 : Int32) (x7 : Int32) (h : ia_H), gd_ w h → l_Wa_joined_35 a1 x2 k101 n y3 x5 x6 x7 h = some (r, h1) → K 35 [some (.inr (.inr 311)), some (.inr (.inr a1)), none, some (.inr (.inl y3)), none, some (.inl x5), some (.inl x6), some (.inl x7), none] [] h := by
  intro n
  induction n with
  | zero =>
    intro y3 x5 x6 x7 h hg hm
    cases (show (none : Option (Int64 × ia_H)) = some _ from hm)
  | succ n ih =>
    intro y3 x5 x6 x7 h hg hm
    rw [l_Wa_joined_35] at hm
    refine ia_go hK ck_Wa_joined_35 ⟨fun c => ?_, fun c => ?_⟩
    · replace hm := ia_ifp hm c
      show K 101 [some (.inr (.inr 311)), some (.inr (.inr a1)), none, some (.inr (.inl y3)), none, some (.inl x5), some (.inl x6), some (.inl x7), none] [] h
      refine ia_fg hK (lv' := [some (.inr (.inr 311)), some (.inr (.inr a1)), none, some (.inr (.inl y3)), none, some (.inl x5), some (.inl x6), none, none]) ⟨rfl, rfl, rfl, rfl, rfl, trivial⟩ ?_
      exact hk101 y3 x5 x6 h hg hm
    · replace hm := ia_ifn hm c
      show K 41 [some (.inr (.inr 311)), some (.inr (.inr a1)), none, some (.inr (.inl y3)), none, some (.inl x5), some (.inl x6), some (.inl x7), none] [] h
      obtain ⟨c2, hm⟩ := ia_gd_some hm
      obtain ⟨c3, hm⟩ := ia_gd_some hm
      refine ia_go hK ck_Wa_joined_41 ⟨gk_3 hg p1, gr_3_17 hg p1, gk_11 hg pk_311, gr_11_8 hg pk_311, ga_i100 hg (ka_11_8 pk_311) c2, ga_i100 hg (ka_3_17 p1) c3, fun c => ?_, fun c => ?_⟩
      · replace hm := ia_ifp hm c
        show K 95 [some (.inr (.inr 311)), some (.inr (.inr a1)), none, some (.inr (.inl y3)), none, some (.inl x5), some (.inl x6), some (.inl x7), some (.inl (ia_i h (a1 + 11) ((((ia_i h 315 ((x6).toNatClampNeg)) * 4) + x7).toNatClampNeg)))] [] h
        refine ia_go hK ck_Wa_joined_95 ?_
        show K 35 [some (.inr (.inr 311)), some (.inr (.inr a1)), none, some (.inr (.inl y3)), none, some (.inl x5), some (.inl x6), some (.inl (x7 + 1)), some (.inl (ia_i h (a1 + 11) ((((ia_i h 315 ((x6).toNatClampNeg)) * 4) + x7).toNatClampNeg)))] [] h
        refine ia_fg hK (lv' := [some (.inr (.inr 311)), some (.inr (.inr a1)), none, some (.inr (.inl y3)), none, some (.inl x5), some (.inl x6), some (.inl (x7 + 1)), none]) ⟨rfl, rfl, rfl, rfl, rfl, rfl, trivial⟩ ?_
        exact ih y3 x5 x6 (x7 + 1) h hg hm
      · replace hm := ia_ifn hm c
        show K 66 [some (.inr (.inr 311)), some (.inr (.inr a1)), none, some (.inr (.inl y3)), none, some (.inl x5), some (.inl x6), some (.inl x7), some (.inl (ia_i h (a1 + 11) ((((ia_i h 315 ((x6).toNatClampNeg)) * 4) + x7).toNatClampNeg)))] [] h
        refine ia_go hK ck_Wa_joined_66 ?_
        show K 69 [some (.inr (.inr 311)), some (.inr (.inr a1)), none, some (.inr (.inl y3)), none, some (.inl x5), some (.inl x6), some (.inl x7), some (.inl (ia_i h (a1 + 11) ((((ia_i h 315 ((x6).toNatClampNeg)) * 4) + x7).toNatClampNeg)))] [.inl (ia_i h (a1 + 11) ((((ia_i h 315 ((x6).toNatClampNeg)) * 4) + x7).toNatClampNeg)), .inr (.inl y3)] h
        obtain ⟨v4, hv4, hm⟩ := ia_bnd hm
        have ev4 := t_I_hasBit (d + 0) hg hv4
        refine ia_cS hK mk_I_hasBit lk_11_146 dc_Wa_joined_69 [.inr (.inl y3), .inl (ia_i h (a1 + 11) ((((ia_i h 315 ((x6).toNatClampNeg)) * 4) + x7).toNatClampNeg))] [] rfl rfl (Nat.le_of_ble_eq_true rfl) ev4 ⟨rfl, rfl⟩ ?_
        show K 72 [some (.inr (.inr 311)), some (.inr (.inr a1)), none, some (.inr (.inl y3)), none, some (.inl x5), some (.inl x6), some (.inl x7), some (.inl (ia_i h (a1 + 11) ((((ia_i h 315 ((x6).toNatClampNeg)) * 4) + x7).toNatClampNeg)))] [.inl v4] h
        refine ia_go hK ck_Wa_joined_72 ⟨fun c => ?_, fun c => ?_⟩
        · replace hm := ia_ifn hm c
          show K 95 [some (.inr (.inr 311)), some (.inr (.inr a1)), none, some (.inr (.inl y3)), none, some (.inl x5), some (.inl x6), some (.inl x7), some (.inl (ia_i h (a1 + 11) ((((ia_i h 315 ((x6).toNatClampNeg)) * 4) + x7).toNatClampNeg)))] [] h
          refine ia_go hK ck_Wa_joined_95 ?_
          show K 35 [some (.inr (.inr 311)), some (.inr (.inr a1)), none, some (.inr (.inl y3)), none, some (.inl x5), some (.inl x6), some (.inl (x7 + 1)), some (.inl (ia_i h (a1 + 11) ((((ia_i h 315 ((x6).toNatClampNeg)) * 4) + x7).toNatClampNeg)))] [] h
          refine ia_fg hK (lv' := [some (.inr (.inr 311)), some (.inr (.inr a1)), none, some (.inr (.inl y3)), none, some (.inl x5), some (.inl x6), some (.inl (x7 + 1)), none]) ⟨rfl, rfl, rfl, rfl, rfl, rfl, trivial⟩ ?_
          exact ih y3 x5 x6 (x7 + 1) h hg hm
        · replace hm := ia_ifp hm c
          show K 75 [some (.inr (.inr 311)), some (.inr (.inr a1)), none, some (.inr (.inl y3)), none, some (.inl x5), some (.inl x6), some (.inl x7), some (.inl (ia_i h (a1 + 11) ((((ia_i h 315 ((x6).toNatClampNeg)) * 4) + x7).toNatClampNeg)))] [] h
          refine ia_go hK ck_Wa_joined_75 ?_
          show K 78 [some (.inr (.inr 311)), some (.inr (.inr a1)), none, some (.inr (.inl y3)), none, some (.inl x5), some (.inl x6), some (.inl x7), some (.inl (ia_i h (a1 + 11) ((((ia_i h 315 ((x6).toNatClampNeg)) * 4) + x7).toNatClampNeg)))] [.inl (ia_i h (a1 + 11) ((((ia_i h 315 ((x6).toNatClampNeg)) * 4) + x7).toNatClampNeg)), .inr (.inl y3)] h
          obtain ⟨v5, hv5, hm⟩ := ia_bnd hm
          have ev5 := t_I_bit (d + 0) hg hv5
          refine ia_cS hK mk_I_bit lk_11_142 dc_Wa_joined_78 [.inl (ia_i h (a1 + 11) ((((ia_i h 315 ((x6).toNatClampNeg)) * 4) + x7).toNatClampNeg))] [.inr (.inl y3)] rfl rfl (Nat.le_of_ble_eq_true rfl) ev5 ⟨rfl, rfl⟩ ?_
          show K 81 [some (.inr (.inr 311)), some (.inr (.inr a1)), none, some (.inr (.inl y3)), none, some (.inl x5), some (.inl x6), some (.inl x7), some (.inl (ia_i h (a1 + 11) ((((ia_i h 315 ((x6).toNatClampNeg)) * 4) + x7).toNatClampNeg)))] [.inr (.inl v5), .inr (.inl y3)] h
          obtain ⟨c6, hm⟩ := ia_gd_some hm
          refine ia_go hK ck_Wa_joined_81 ⟨gk_11 hg pk_311, gr_11_8 hg pk_311, ga_s100 hg (ka_11_8 pk_311) c6, ?_⟩
          show K 35 [some (.inr (.inr 311)), some (.inr (.inr a1)), none, some (.inr (.inl (y3 ||| v5))), none, some (.inl (x5 + 1)), some (.inl x6), some (.inl (x7 + 1)), some (.inl (ia_i h (a1 + 11) ((((ia_i h 315 ((x6).toNatClampNeg)) * 4) + x7).toNatClampNeg)))] [] (ia_wI h 315 ((x5).toNatClampNeg) (ia_i h (a1 + 11) ((((ia_i h 315 ((x6).toNatClampNeg)) * 4) + x7).toNatClampNeg)))
          refine ia_fg hK (lv' := [some (.inr (.inr 311)), some (.inr (.inr a1)), none, some (.inr (.inl (y3 ||| v5))), none, some (.inl (x5 + 1)), some (.inl x6), some (.inl (x7 + 1)), none]) ⟨rfl, rfl, rfl, rfl, rfl, rfl, trivial⟩ ?_
          exact ih (y3 ||| v5) (x5 + 1) x6 (x7 + 1) (ia_wI h 315 ((x5).toNatClampNeg) (ia_i h (a1 + 11) ((((ia_i h 315 ((x6).toNatClampNeg)) * 4) + x7).toNatClampNeg))) (gd_wI hg (kx_100 (ka_11_8 pk_311))) hm
theorem gl_Wa_joined_35 {w : ia_O0} {a1 : Nat} {x2 : Int32} (p1 : (kd_D a1).1 = 3) {r : Int64} {h1 : ia_H} {k101 : Int64 → Int32 → Int32 → ia_H → Option (Int64 × ia_H)} (hk101 : ∀ (y3 : Int64) (x5 : Int32) (x6 : Int32) (h : ia_H), gd_ w h → k101 y3 x5 x6 h = some (r, h1) → gd_ w h1) : ∀ (n : Nat) (y3 : Int64) (x5 : Int32) (x6 : Int32) (x7 : Int32) (h : ia_H), gd_ w h → l_Wa_joined_35 a1 x2 k101 n y3 x5 x6 x7 h = some (r, h1) → gd_ w h1 := by
  intro n
  induction n with
  | zero =>
    intro y3 x5 x6 x7 h hg hm
    cases (show (none : Option (Int64 × ia_H)) = some _ from hm)
  | succ n ih =>
    intro y3 x5 x6 x7 h hg hm
    rw [l_Wa_joined_35] at hm
    by_cases c : 4 ≤ x7
    · replace hm := ia_ifp hm c
      exact hk101 y3 x5 x6 h hg hm
    · replace hm := ia_ifn hm c
      obtain ⟨c2, hm⟩ := ia_gd_some hm
      obtain ⟨c3, hm⟩ := ia_gd_some hm
      by_cases c : (ia_i h (a1 + 11) ((((ia_i h 315 ((x6).toNatClampNeg)) * 4) + x7).toNatClampNeg)) = (-1)
      · replace hm := ia_ifp hm c
        exact ih y3 x5 x6 (x7 + 1) h hg hm
      · replace hm := ia_ifn hm c
        obtain ⟨v4, hv4, hm⟩ := ia_bnd hm
        by_cases c : v4 = 0
        · replace hm := ia_ifp hm c
          obtain ⟨v5, hv5, hm⟩ := ia_bnd hm
          obtain ⟨c6, hm⟩ := ia_gd_some hm
          exact ih (y3 ||| v5) (x5 + 1) x6 (x7 + 1) (ia_wI h 315 ((x5).toNatClampNeg) (ia_i h (a1 + 11) ((((ia_i h 315 ((x6).toNatClampNeg)) * 4) + x7).toNatClampNeg))) (gd_wI hg (kx_100 (ka_11_8 pk_311))) hm
        · replace hm := ia_ifn hm c
          exact ih y3 x5 x6 (x7 + 1) h hg hm
def l_Wa_joined_18 (a1 : Nat) (x2 : Int32) (k107 : Int64 → ia_H → Option (Int64 × ia_H)) (n : Nat) (y3 : Int64) (x5 : Int32) (x6 : Int32) (h : ia_H) : Option (Int64 × ia_H) := match n with
  | 0 => none
  | n + 1 => if x5 ≤ x6 then (k107 y3 h) else (if 36 ≤ x6 then (k107 y3 h) else (l_Wa_joined_35 a1 x2 (fun y3 x5 x6 h => l_Wa_joined_18 a1 x2 k107 n y3 x5 (x6 + 1) h) fu_ y3 x5 x6 0 h))
theorem tl_Wa_joined_18 {w : ia_O0} {d N1 W1 : Nat} {K : ia_K} (hK : ia_isK (d + 1) mm_Wa_joined N1 W1 K) {a1 : Nat} {x2 : Int32} (p1 : (kd_D a1).1 = 3) {r : Int64} {h1 : ia_H} (hret : ∀ (pc : Nat) (lv : ia_L), ia_ret mm_Wa_joined pc (some (.inr (.inl r))) → K pc lv ((some (.inr (.inl r))) : Option ia_V).toList h1) {k107 : Int64 → ia_H → Option (Int64 × ia_H)} (hk107 : ∀ (y3 : Int64) (h : ia_H), gd_ w h → k107 y3 h = some (r, h1) → K 107 [none, none, none, some (.inr (.inl y3)), none, none, none, none, none] [] h) : ∀ (n : Nat) (y3 : Int64) (x5 : Int32) (x6 : Int32) (h : ia_H), gd_ w h → l_Wa_joined_18 a1 x2 k107 n y3 x5 x6 h = some (r, h1) → K 18 [some (.inr (.inr 311)), some (.inr (.inr a1)), none, some (.inr (.inl y3)), none, some (.inl x5), some (.inl x6), none, none] [] h := by
  intro n
  induction n with
  | zero =>
    intro y3 x5 x6 h hg hm
    cases (show (none : Option (Int64 × ia_H)) = some _ from hm)
  | succ n ih =>
    intro y3 x5 x6 h hg hm
    rw [l_Wa_joined_18] at hm
    refine ia_go hK ck_Wa_joined_18 ⟨fun c => ?_, fun c => ?_⟩
    · replace hm := ia_ifp hm c
      show K 107 [some (.inr (.inr 311)), some (.inr (.inr a1)), none, some (.inr (.inl y3)), none, some (.inl x5), some (.inl x6), none, none] [] h
      refine ia_fg hK (lv' := [none, none, none, some (.inr (.inl y3)), none, none, none, none, none]) ⟨rfl, trivial⟩ ?_
      exact hk107 y3 h hg hm
    · replace hm := ia_ifn hm c
      show K 25 [some (.inr (.inr 311)), some (.inr (.inr a1)), none, some (.inr (.inl y3)), none, some (.inl x5), some (.inl x6), none, none] [] h
      refine ia_go hK ck_Wa_joined_25 ⟨fun c => ?_, fun c => ?_⟩
      · replace hm := ia_ifp hm c
        show K 107 [some (.inr (.inr 311)), some (.inr (.inr a1)), none, some (.inr (.inl y3)), none, some (.inl x5), some (.inl x6), none, none] [] h
        refine ia_fg hK (lv' := [none, none, none, some (.inr (.inl y3)), none, none, none, none, none]) ⟨rfl, trivial⟩ ?_
        exact hk107 y3 h hg hm
      · replace hm := ia_ifn hm c
        show K 32 [some (.inr (.inr 311)), some (.inr (.inr a1)), none, some (.inr (.inl y3)), none, some (.inl x5), some (.inl x6), none, none] [] h
        refine ia_go hK ck_Wa_joined_32 ?_
        show K 35 [some (.inr (.inr 311)), some (.inr (.inr a1)), none, some (.inr (.inl y3)), none, some (.inl x5), some (.inl x6), some (.inl 0), none] [] h
        refine tl_Wa_joined_35 hK p1 hret ?_ fu_ y3 x5 x6 0 h hg hm
        · intro y3 x5 x6 h hg hm
          refine ia_go hK ck_Wa_joined_101 ?_
          show K 18 [some (.inr (.inr 311)), some (.inr (.inr a1)), none, some (.inr (.inl y3)), none, some (.inl x5), some (.inl (x6 + 1)), none, none] [] h
          exact ih y3 x5 (x6 + 1) h hg hm
theorem gl_Wa_joined_18 {w : ia_O0} {a1 : Nat} {x2 : Int32} (p1 : (kd_D a1).1 = 3) {r : Int64} {h1 : ia_H} {k107 : Int64 → ia_H → Option (Int64 × ia_H)} (hk107 : ∀ (y3 : Int64) (h : ia_H), gd_ w h → k107 y3 h = some (r, h1) → gd_ w h1) : ∀ (n : Nat) (y3 : Int64) (x5 : Int32) (x6 : Int32) (h : ia_H), gd_ w h → l_Wa_joined_18 a1 x2 k107 n y3 x5 x6 h = some (r, h1) → gd_ w h1 := by
  intro n
  induction n with
  | zero =>
    intro y3 x5 x6 h hg hm
    cases (show (none : Option (Int64 × ia_H)) = some _ from hm)
  | succ n ih =>
    intro y3 x5 x6 h hg hm
    rw [l_Wa_joined_18] at hm
    by_cases c : x5 ≤ x6
    · replace hm := ia_ifp hm c
      exact hk107 y3 h hg hm
    · replace hm := ia_ifn hm c
      by_cases c : 36 ≤ x6
      · replace hm := ia_ifp hm c
        exact hk107 y3 h hg hm
      · replace hm := ia_ifn hm c
        refine gl_Wa_joined_35 p1 ?_ fu_ y3 x5 x6 0 h hg hm
        · intro y3 x5 x6 h hg hm
          exact ih y3 x5 (x6 + 1) h hg hm
def f_Wa_joined (a1 : Nat) (x2 : Int32) (h : ia_H) : Option (Int64 × ia_H) := (f_I_bit x2 h).bind fun v1 => (l_Wa_joined_18 a1 x2 (fun y3 h => some (y3, h)) fu_ v1 1 0 (ia_wI h 315 0 x2))
theorem g_Wa_joined {w : ia_O0} {a1 : Nat} {x2 : Int32} {h : ia_H} (hg : gd_ w h) (p1 : (kd_D a1).1 = 3) {q : (Int64 × ia_H)} (hm : f_Wa_joined a1 x2 h = some q) : gd_ w q.2 := by
  obtain ⟨r, h1⟩ := q
  unfold f_Wa_joined at hm
  obtain ⟨v1, hv1, hm⟩ := ia_bnd hm
  refine gl_Wa_joined_18 p1 ?_ fu_ v1 1 0 (ia_wI h 315 0 x2) (gd_wI hg (kx_100 (ka_11_8 pk_311))) hm
  · intro y3 h hg hm
    obtain ⟨rfl, rfl⟩ := Prod.mk.inj (Option.some.inj hm)
    exact hg
theorem t_Wa_joined {w : ia_O0} (d : Nat) {a1 : Nat} {x2 : Int32} {h : ia_H} (hg : gd_ w h) (p1 : (kd_D a1).1 = 3) {q : (Int64 × ia_H)} (hm : f_Wa_joined a1 x2 h = some q) : ia_Ev (d + 1) mm_Wa_joined [.inr (.inr 311), .inr (.inr a1), .inl x2] h (some (.inr (.inl q.1))) q.2 := by
  have gq := g_Wa_joined hg p1 hm
  refine ia_Ev_intro ok_Wa_joined (gd_le hg gq).1 (gd_le hg gq).2 (Nat.le_of_ble_eq_true rfl) (fun K hK hret => ?_)
  obtain ⟨r, h1⟩ := q
  show K 0 [some (.inr (.inr 311)), some (.inr (.inr a1)), some (.inl x2), none, none, none, none, none, none] [] h
  unfold f_Wa_joined at hm
  refine ia_go hK ck_Wa_joined_0 ?_
  show K 1 [some (.inr (.inr 311)), some (.inr (.inr a1)), some (.inl x2), none, none, none, none, none, none] [.inl x2] h
  obtain ⟨v1, hv1, hm⟩ := ia_bnd hm
  have ev1 := t_I_bit (d + 0) hg hv1
  refine ia_cS hK mk_I_bit lk_11_142 dc_Wa_joined_1 [.inl x2] [] rfl rfl (Nat.le_of_ble_eq_true rfl) ev1 ⟨rfl, rfl⟩ ?_
  show K 4 [some (.inr (.inr 311)), some (.inr (.inr a1)), some (.inl x2), none, none, none, none, none, none] [.inr (.inl v1)] h
  refine ia_go hK ck_Wa_joined_4 ⟨gk_11 hg pk_311, gr_11_8 hg pk_311, ga_s100 hg (ka_11_8 pk_311) (by decide), ?_⟩
  show K 18 [some (.inr (.inr 311)), some (.inr (.inr a1)), some (.inl x2), some (.inr (.inl v1)), none, some (.inl 1), some (.inl 0), none, none] [] (ia_wI h 315 0 x2)
  refine ia_fg hK (lv' := [some (.inr (.inr 311)), some (.inr (.inr a1)), none, some (.inr (.inl v1)), none, some (.inl 1), some (.inl 0), none, none]) ⟨rfl, rfl, rfl, rfl, rfl, trivial⟩ ?_
  refine tl_Wa_joined_18 hK p1 hret ?_ fu_ v1 1 0 (ia_wI h 315 0 x2) (gd_wI hg (kx_100 (ka_11_8 pk_311))) hm
  · intro y3 h hg hm
    refine ia_go hK ck_Wa_joined_107 ?_
    show K 108 [none, none, none, some (.inr (.inl y3)), none, none, none, none, none] [.inr (.inl y3)] h
    obtain ⟨rfl, rfl⟩ := Prod.mk.inj (Option.some.inj hm)
    exact hret 108 _ dc_Wa_joined_108
def mm_Wa_partCount : ia_M := (⟨"IceStreet$Ways", "partCount", "(LIceStreet$Lake;)I"⟩, prog_12_method_30_code, 6, (some .int), 11, false)
theorem ok_Wa_partCount : ia_mok mm_Wa_partCount := ⟨by decide +kernel, by decide +kernel, by decide +kernel, by decide +kernel⟩
theorem mk_Wa_partCount : ia_mkn mm_Wa_partCount 1 1 := ⟨ia_tb_in (List.mem_of_getElem? (i := 1202) (by decide +kernel)) rfl, ia_tb_in (List.mem_of_getElem? (i := 141) (by decide +kernel)) rfl, by decide +kernel, by decide +kernel, ⟨ia_tb_in (List.mem_of_getElem? (i := 1200) (by decide +kernel)) rfl, ia_tb_in (List.mem_of_getElem? (i := 1201) (by decide +kernel)) rfl⟩⟩
theorem ck_Wa_partCount_0 : ia_cks 11 6 false prog_12_method_30_code 0 [(.lconst 0, 0, 0, 0, 0), (.lstore_n 2, 0, 0, 0, 0), (.iconst 0, 0, 0, 0, 0), (.istore 4, 0, 0, 0, 0), (.iconst 0, 0, 0, 0, 0), (.istore 5, 0, 0, 0, 0)] = true := by decide +kernel
theorem ck_Wa_partCount_8 : ia_cks 11 6 false prog_12_method_30_code 8 [(.iload 5, 0, 0, 0, 0), (.aload_n 1, 0, 0, 0, 0)] = true := by decide +kernel
theorem ck_Wa_partCount_14 : ia_cks 11 6 false prog_12_method_30_code 14 [(.if_icmp .ge 31, 0, 0, 0, 0)] = true := by decide +kernel
theorem ck_Wa_partCount_17 : ia_cks 11 6 false prog_12_method_30_code 17 [(.lload_n 2, 0, 0, 0, 0), (.iload 5, 0, 0, 0, 0)] = true := by decide +kernel
theorem ck_Wa_partCount_23 : ia_cks 11 6 false prog_12_method_30_code 23 [(.ifCond .ne 16, 0, 0, 0, 0)] = true := by decide +kernel
theorem ck_Wa_partCount_39 : ia_cks 11 6 false prog_12_method_30_code 39 [(.iinc 5 1, 0, 0, 0, 0), (.goto (-34), 0, 0, 0, 0)] = true := by decide +kernel
theorem ck_Wa_partCount_26 : ia_cks 11 6 false prog_12_method_30_code 26 [(.lload_n 2, 0, 0, 0, 0), (.aload_n 0, 0, 0, 0, 0), (.aload_n 1, 0, 0, 0, 0), (.iload 5, 0, 0, 0, 0)] = true := by decide +kernel
theorem ck_Wa_partCount_34 : ia_cks 11 6 false prog_12_method_30_code 34 [(.lor, 0, 0, 0, 0), (.lstore_n 2, 0, 0, 0, 0), (.iinc 4 1, 0, 0, 0, 0), (.iinc 5 1, 0, 0, 0, 0), (.goto (-34), 0, 0, 0, 0)] = true := by decide +kernel
theorem ck_Wa_partCount_45 : ia_cks 11 6 false prog_12_method_30_code 45 [(.iload 4, 0, 0, 0, 0)] = true := by decide +kernel
theorem dc_Wa_partCount_11 : decode prog_12_method_30_code 11 = .ok (.invokevirtual 41, 3) := by decide +kernel
theorem dc_Wa_partCount_20 : decode prog_12_method_30_code 20 = .ok (.invokestatic 146, 3) := by decide +kernel
theorem dc_Wa_partCount_31 : decode prog_12_method_30_code 31 = .ok (.invokevirtual 205, 3) := by decide +kernel
theorem dc_Wa_partCount_47 : decode prog_12_method_30_code 47 = .ok (.ireturn, 1) := by decide +kernel
def l_Wa_partCount_8 (a1 : Nat) (k45 : Int32 → ia_H → Option (Int32 × ia_H)) (n : Nat) (y2 : Int64) (x4 : Int32) (x5 : Int32) (h : ia_H) : Option (Int32 × ia_H) := match n with
  | 0 => none
  | n + 1 => (f_La_cells a1 h).bind fun v1 => (if v1 ≤ x5 then (k45 x4 h) else ((f_I_hasBit y2 x5 h).bind fun v2 => (if v2 = 0 then ((f_Wa_joined a1 x5 h).bind fun v3 => (l_Wa_partCount_8 a1 k45 n (y2 ||| v3.1) (x4 + 1) (x5 + 1) v3.2)) else (l_Wa_partCount_8 a1 k45 n y2 x4 (x5 + 1) h))))
theorem tl_Wa_partCount_8 {w : ia_O0} {d N1 W1 : Nat} {K : ia_K} (hK : ia_isK (d + 2) mm_Wa_partCount N1 W1 K) {a1 : Nat} (p1 : (kd_D a1).1 = 3) {r : Int32} {h1 : ia_H} (hret : ∀ (pc : Nat) (lv : ia_L), ia_ret mm_Wa_partCount pc (some (.inl r)) → K pc lv ((some (.inl r)) : Option ia_V).toList h1) {k45 : Int32 → ia_H → Option (Int32 × ia_H)} (hk45 : ∀ (x4 : Int32) (h : ia_H), gd_ w h → k45 x4 h = some (r, h1) → K 45 [none, none, none, none, some (.inl x4), none] [] h) : ∀ (n : Nat) (y2 : Int64) (x4 : Int32) (x5 : Int32) (h : ia_H), gd_ w h → l_Wa_partCount_8 a1 k45 n y2 x4 x5 h = some (r, h1) → K 8 [some (.inr (.inr 311)), some (.inr (.inr a1)), some (.inr (.inl y2)), none, some (.inl x4), some (.inl x5)] [] h := by
  intro n
  induction n with
  | zero =>
    intro y2 x4 x5 h hg hm
    cases (show (none : Option (Int32 × ia_H)) = some _ from hm)
  | succ n ih =>
    intro y2 x4 x5 h hg hm
    rw [l_Wa_partCount_8] at hm
    refine ia_go hK ck_Wa_partCount_8 ?_
    show K 11 [some (.inr (.inr 311)), some (.inr (.inr a1)), some (.inr (.inl y2)), none, some (.inl x4), some (.inl x5)] [.inr (.inr a1), .inl x5] h
    obtain ⟨v1, hv1, hm⟩ := ia_bnd hm
    have ev1 := t_La_cells (d + 1) hg p1 hv1
    refine ia_cV hK mk_La_cells lk_11_41 dc_Wa_partCount_11 a1 [] [.inl x5] rfl rfl (Nat.le_of_ble_eq_true rfl) (by decide) rfl (gk_3 hg p1) ev1 ⟨rfl, rfl⟩ ?_
    show K 14 [some (.inr (.inr 311)), some (.inr (.inr a1)), some (.inr (.inl y2)), none, some (.inl x4), some (.inl x5)] [.inl v1, .inl x5] h
    refine ia_go hK ck_Wa_partCount_14 ⟨fun c => ?_, fun c => ?_⟩
    · replace hm := ia_ifp hm c
      show K 45 [some (.inr (.inr 311)), some (.inr (.inr a1)), some (.inr (.inl y2)), none, some (.inl x4), some (.inl x5)] [] h
      refine ia_fg hK (lv' := [none, none, none, none, some (.inl x4), none]) ⟨rfl, trivial⟩ ?_
      exact hk45 x4 h hg hm
    · replace hm := ia_ifn hm c
      show K 17 [some (.inr (.inr 311)), some (.inr (.inr a1)), some (.inr (.inl y2)), none, some (.inl x4), some (.inl x5)] [] h
      refine ia_go hK ck_Wa_partCount_17 ?_
      show K 20 [some (.inr (.inr 311)), some (.inr (.inr a1)), some (.inr (.inl y2)), none, some (.inl x4), some (.inl x5)] [.inl x5, .inr (.inl y2)] h
      obtain ⟨v2, hv2, hm⟩ := ia_bnd hm
      have ev2 := t_I_hasBit (d + 1) hg hv2
      refine ia_cS hK mk_I_hasBit lk_11_146 dc_Wa_partCount_20 [.inr (.inl y2), .inl x5] [] rfl rfl (Nat.le_of_ble_eq_true rfl) ev2 ⟨rfl, rfl⟩ ?_
      show K 23 [some (.inr (.inr 311)), some (.inr (.inr a1)), some (.inr (.inl y2)), none, some (.inl x4), some (.inl x5)] [.inl v2] h
      refine ia_go hK ck_Wa_partCount_23 ⟨fun c => ?_, fun c => ?_⟩
      · replace hm := ia_ifn hm c
        show K 39 [some (.inr (.inr 311)), some (.inr (.inr a1)), some (.inr (.inl y2)), none, some (.inl x4), some (.inl x5)] [] h
        refine ia_go hK ck_Wa_partCount_39 ?_
        show K 8 [some (.inr (.inr 311)), some (.inr (.inr a1)), some (.inr (.inl y2)), none, some (.inl x4), some (.inl (x5 + 1))] [] h
        exact ih y2 x4 (x5 + 1) h hg hm
      · replace hm := ia_ifp hm c
        show K 26 [some (.inr (.inr 311)), some (.inr (.inr a1)), some (.inr (.inl y2)), none, some (.inl x4), some (.inl x5)] [] h
        refine ia_go hK ck_Wa_partCount_26 ?_
        show K 31 [some (.inr (.inr 311)), some (.inr (.inr a1)), some (.inr (.inl y2)), none, some (.inl x4), some (.inl x5)] [.inl x5, .inr (.inr a1), .inr (.inr 311), .inr (.inl y2)] h
        obtain ⟨v3, hv3, hm⟩ := ia_bnd hm
        have ev3 := t_Wa_joined (d + 0) hg p1 hv3
        have gv3 := g_Wa_joined hg p1 hv3
        refine ia_cV hK mk_Wa_joined lk_11_205 dc_Wa_partCount_31 311 [.inr (.inr a1), .inl x5] [.inr (.inl y2)] rfl rfl (Nat.le_of_ble_eq_true rfl) (by decide) rfl (gk_11 hg pk_311) ev3 (gd_nm hg gv3) ?_
        show K 34 [some (.inr (.inr 311)), some (.inr (.inr a1)), some (.inr (.inl y2)), none, some (.inl x4), some (.inl x5)] [.inr (.inl v3.1), .inr (.inl y2)] v3.2
        refine ia_go hK ck_Wa_partCount_34 ?_
        show K 8 [some (.inr (.inr 311)), some (.inr (.inr a1)), some (.inr (.inl (y2 ||| v3.1))), none, some (.inl (x4 + 1)), some (.inl (x5 + 1))] [] v3.2
        exact ih (y2 ||| v3.1) (x4 + 1) (x5 + 1) v3.2 gv3 hm
theorem gl_Wa_partCount_8 {w : ia_O0} {a1 : Nat} (p1 : (kd_D a1).1 = 3) {r : Int32} {h1 : ia_H} {k45 : Int32 → ia_H → Option (Int32 × ia_H)} (hk45 : ∀ (x4 : Int32) (h : ia_H), gd_ w h → k45 x4 h = some (r, h1) → gd_ w h1) : ∀ (n : Nat) (y2 : Int64) (x4 : Int32) (x5 : Int32) (h : ia_H), gd_ w h → l_Wa_partCount_8 a1 k45 n y2 x4 x5 h = some (r, h1) → gd_ w h1 := by
  intro n
  induction n with
  | zero =>
    intro y2 x4 x5 h hg hm
    cases (show (none : Option (Int32 × ia_H)) = some _ from hm)
  | succ n ih =>
    intro y2 x4 x5 h hg hm
    rw [l_Wa_partCount_8] at hm
    obtain ⟨v1, hv1, hm⟩ := ia_bnd hm
    by_cases c : v1 ≤ x5
    · replace hm := ia_ifp hm c
      exact hk45 x4 h hg hm
    · replace hm := ia_ifn hm c
      obtain ⟨v2, hv2, hm⟩ := ia_bnd hm
      by_cases c : v2 = 0
      · replace hm := ia_ifp hm c
        obtain ⟨v3, hv3, hm⟩ := ia_bnd hm
        have gv3 := g_Wa_joined hg p1 hv3
        exact ih (y2 ||| v3.1) (x4 + 1) (x5 + 1) v3.2 gv3 hm
      · replace hm := ia_ifn hm c
        exact ih y2 x4 (x5 + 1) h hg hm
def f_Wa_partCount (a1 : Nat) (h : ia_H) : Option (Int32 × ia_H) := l_Wa_partCount_8 a1 (fun x4 h => some (x4, h)) fu_ 0 0 0 h
theorem g_Wa_partCount {w : ia_O0} {a1 : Nat} {h : ia_H} (hg : gd_ w h) (p1 : (kd_D a1).1 = 3) {q : (Int32 × ia_H)} (hm : f_Wa_partCount a1 h = some q) : gd_ w q.2 := by
  obtain ⟨r, h1⟩ := q
  unfold f_Wa_partCount at hm
  refine gl_Wa_partCount_8 p1 ?_ fu_ 0 0 0 h hg hm
  · intro x4 h hg hm
    obtain ⟨rfl, rfl⟩ := Prod.mk.inj (Option.some.inj hm)
    exact hg
theorem t_Wa_partCount {w : ia_O0} (d : Nat) {a1 : Nat} {h : ia_H} (hg : gd_ w h) (p1 : (kd_D a1).1 = 3) {q : (Int32 × ia_H)} (hm : f_Wa_partCount a1 h = some q) : ia_Ev (d + 2) mm_Wa_partCount [.inr (.inr 311), .inr (.inr a1)] h (some (.inl q.1)) q.2 := by
  have gq := g_Wa_partCount hg p1 hm
  refine ia_Ev_intro ok_Wa_partCount (gd_le hg gq).1 (gd_le hg gq).2 (Nat.le_of_ble_eq_true rfl) (fun K hK hret => ?_)
  obtain ⟨r, h1⟩ := q
  show K 0 [some (.inr (.inr 311)), some (.inr (.inr a1)), none, none, none, none] [] h
  unfold f_Wa_partCount at hm
  refine ia_go hK ck_Wa_partCount_0 ?_
  show K 8 [some (.inr (.inr 311)), some (.inr (.inr a1)), some (.inr (.inl 0)), none, some (.inl 0), some (.inl 0)] [] h
  refine tl_Wa_partCount_8 hK p1 hret ?_ fu_ 0 0 0 h hg hm
  · intro x4 h hg hm
    refine ia_go hK ck_Wa_partCount_45 ?_
    show K 47 [none, none, none, none, some (.inl x4), none] [.inl x4] h
    obtain ⟨rfl, rfl⟩ := Prod.mk.inj (Option.some.inj hm)
    exact hret 47 _ dc_Wa_partCount_47
def mm_I_state : ia_M := (⟨"IceStreet", "state", "(IIIII)I"⟩, prog_1_method_14_code, 6, (some .int), 0, false)
theorem ok_I_state : ia_mok mm_I_state := ⟨by decide +kernel, by decide +kernel, by decide +kernel, by decide +kernel⟩
theorem mk_I_state : ia_mkn mm_I_state 1 5 := ⟨ia_tb_in (List.mem_of_getElem? (i := 1184) (by decide +kernel)) rfl, ia_tb_in (List.mem_of_getElem? (i := 133) (by decide +kernel)) rfl, by decide +kernel, by decide +kernel, ⟨ia_tb_in (List.mem_of_getElem? (i := 1182) (by decide +kernel)) rfl, ia_tb_in (List.mem_of_getElem? (i := 1183) (by decide +kernel)) rfl⟩⟩
theorem ck_I_state_0 : ia_cks 0 6 false prog_1_method_14_code 0 [(.aload_n 0, 0, 0, 0, 0), (.iload_n 1, 0, 0, 0, 0), (.iload_n 2, 0, 0, 0, 0), (.iload_n 3, 0, 0, 0, 0), (.iload 4, 0, 0, 0, 0)] = true := by decide +kernel
theorem ck_I_state_9 : ia_cks 0 6 false prog_1_method_14_code 9 [(.ifCond .ne 6, 0, 0, 0, 0)] = true := by decide +kernel
theorem ck_I_state_15 : ia_cks 0 6 false prog_1_method_14_code 15 [(.iload 5, 0, 0, 0, 0), (.tableswitch 82 0 4 #[35, 43, 51, 59, 67], 0, 0, 0, 0)] = true := by decide +kernel
theorem ck_I_state_52 : ia_cks 0 6 false prog_1_method_14_code 52 [(.aload_n 0, 0, 0, 0, 0), (.getfield 44, 0, 4, 3, 239), (.getfield 270, 9, 9, 0, 0)] = true := by decide +kernel
theorem ck_I_state_60 : ia_cks 0 6 false prog_1_method_14_code 60 [(.aload_n 0, 0, 0, 0, 0), (.getfield 44, 0, 4, 3, 239), (.getfield 273, 9, 10, 0, 0)] = true := by decide +kernel
theorem ck_I_state_68 : ia_cks 0 6 false prog_1_method_14_code 68 [(.aload_n 0, 0, 0, 0, 0), (.getfield 44, 0, 4, 3, 239)] = true := by decide +kernel
theorem ck_I_state_76 : ia_cks 0 6 false prog_1_method_14_code 76 [(.aload_n 0, 0, 0, 0, 0), (.getfield 44, 0, 4, 3, 239)] = true := by decide +kernel
theorem ck_I_state_84 : ia_cks 0 6 false prog_1_method_14_code 84 [(.aload_n 0, 0, 0, 0, 0), (.getfield 51, 0, 5, 3, 247), (.aload_n 0, 0, 0, 0, 0), (.getfield 44, 0, 4, 3, 239), (.getfield 283, 9, 0, 2, 0)] = true := by decide +kernel
theorem ck_I_state_99 : ia_cks 0 6 false prog_1_method_14_code 99 [(.iload 5, 0, 0, 0, 0), (.bipush 10, 0, 0, 0, 0), (.if_icmp .lt 37, 0, 0, 0, 0)] = true := by decide +kernel
theorem ck_I_state_140 : ia_cks 0 6 false prog_1_method_14_code 140 [(.bipush (-100), 0, 0, 0, 0)] = true := by decide +kernel
theorem ck_I_state_106 : ia_cks 0 6 false prog_1_method_14_code 106 [(.iload 5, 0, 0, 0, 0), (.bipush 10, 0, 0, 0, 0), (.aload_n 0, 0, 0, 0, 0), (.getfield 44, 0, 4, 3, 239), (.getfield 283, 9, 0, 2, 0), (.getfield 176, 3, 11, 0, 0), (.iadd, 0, 0, 0, 0), (.if_icmp .ge 19, 0, 0, 0, 0)] = true := by decide +kernel
theorem ck_I_state_124 : ia_cks 0 6 false prog_1_method_14_code 124 [(.aload_n 0, 0, 0, 0, 0), (.getfield 44, 0, 4, 3, 239), (.getfield 288, 9, 6, 3, 5), (.iload 5, 0, 0, 0, 0), (.bipush 10, 0, 0, 0, 0), (.isub, 0, 0, 0, 0), (.iaload, 0, 0, 0, 0), (.goto 5, 0, 0, 0, 0)] = true := by decide +kernel
theorem ck_I_state_12 : ia_cks 0 6 false prog_1_method_14_code 12 [(.bipush (-100), 0, 0, 0, 0)] = true := by decide +kernel
theorem dc_I_state_6 : decode prog_1_method_14_code 6 = .ok (.invokevirtual 266, 3) := by decide +kernel
theorem dc_I_state_59 : decode prog_1_method_14_code 59 = .ok (.ireturn, 1) := by decide +kernel
theorem dc_I_state_67 : decode prog_1_method_14_code 67 = .ok (.ireturn, 1) := by decide +kernel
theorem dc_I_state_72 : decode prog_1_method_14_code 72 = .ok (.invokevirtual 276, 3) := by decide +kernel
theorem dc_I_state_75 : decode prog_1_method_14_code 75 = .ok (.ireturn, 1) := by decide +kernel
theorem dc_I_state_80 : decode prog_1_method_14_code 80 = .ok (.invokevirtual 280, 3) := by decide +kernel
theorem dc_I_state_83 : decode prog_1_method_14_code 83 = .ok (.ireturn, 1) := by decide +kernel
theorem dc_I_state_95 : decode prog_1_method_14_code 95 = .ok (.invokevirtual 284, 3) := by decide +kernel
theorem dc_I_state_98 : decode prog_1_method_14_code 98 = .ok (.ireturn, 1) := by decide +kernel
theorem dc_I_state_142 : decode prog_1_method_14_code 142 = .ok (.ireturn, 1) := by decide +kernel
theorem dc_I_state_14 : decode prog_1_method_14_code 14 = .ok (.ireturn, 1) := by decide +kernel
def f_I_state (x1 : Int32) (x2 : Int32) (x3 : Int32) (x4 : Int32) (x5 : Int32) (h : ia_H) : Option (Int32 × ia_H) := (f_I_stage x1 x2 x3 x4 h).bind fun v1 => (if v1.1 = 0 then (some ((-100), v1.2)) else (if x5 = 0 then (some (ia_i v1.2 303 9, v1.2)) else if x5 = 1 then (some (ia_i v1.2 303 10, v1.2)) else if x5 = 2 then ((f_Sc_lost 303 v1.2).bind fun v4 => (some (v4, v1.2))) else if x5 = 3 then ((f_Sc_broken 303 v1.2).bind fun v6 => (some (v6, v1.2))) else if x5 = 4 then ((f_Wa_partCount (ia_r v1.2 303 0) v1.2).bind fun v8 => (some (v8.1, v8.2))) else (if x5 < 10 then (some ((-100), v1.2)) else (if (10 + (ia_i v1.2 (ia_r v1.2 303 0) 11)) ≤ x5 then (some ((-100), v1.2)) else (ia_gd (ia_ib (x5 - 10) 6) (some (ia_i v1.2 308 ((x5 - 10).toNatClampNeg), v1.2)))))))
theorem g_I_state {w : ia_O0} {x1 : Int32} {x2 : Int32} {x3 : Int32} {x4 : Int32} {x5 : Int32} {h : ia_H} (hg : gd_ w h) {q : (Int32 × ia_H)} (hm : f_I_state x1 x2 x3 x4 x5 h = some q) : gd_ w q.2 := by
  obtain ⟨r, h1⟩ := q
  unfold f_I_state at hm
  obtain ⟨v1, hv1, hm⟩ := ia_bnd hm
  have gv1 := g_I_stage hg hv1
  by_cases c : v1.1 = 0
  · replace hm := ia_ifp hm c
    obtain ⟨rfl, rfl⟩ := Prod.mk.inj (Option.some.inj hm)
    exact gv1
  · replace hm := ia_ifn hm c
    by_cases c2 : x5 = 0
    · replace hm := ia_ifp hm c2
      obtain ⟨rfl, rfl⟩ := Prod.mk.inj (Option.some.inj hm)
      exact gv1
    · replace hm := ia_ifn hm c2
      by_cases c3 : x5 = 1
      · replace hm := ia_ifp hm c3
        obtain ⟨rfl, rfl⟩ := Prod.mk.inj (Option.some.inj hm)
        exact gv1
      · replace hm := ia_ifn hm c3
        by_cases c5 : x5 = 2
        · replace hm := ia_ifp hm c5
          obtain ⟨v4, hv4, hm⟩ := ia_bnd hm
          obtain ⟨rfl, rfl⟩ := Prod.mk.inj (Option.some.inj hm)
          exact gv1
        · replace hm := ia_ifn hm c5
          by_cases c7 : x5 = 3
          · replace hm := ia_ifp hm c7
            obtain ⟨v6, hv6, hm⟩ := ia_bnd hm
            obtain ⟨rfl, rfl⟩ := Prod.mk.inj (Option.some.inj hm)
            exact gv1
          · replace hm := ia_ifn hm c7
            by_cases c9 : x5 = 4
            · replace hm := ia_ifp hm c9
              obtain ⟨v8, hv8, hm⟩ := ia_bnd hm
              have gv8 := g_Wa_partCount gv1 (gm_9_0 gv1 (ka_0_4 pk_64)) hv8
              obtain ⟨rfl, rfl⟩ := Prod.mk.inj (Option.some.inj hm)
              exact gv8
            · replace hm := ia_ifn hm c9
              by_cases c : x5 < 10
              · replace hm := ia_ifp hm c
                obtain ⟨rfl, rfl⟩ := Prod.mk.inj (Option.some.inj hm)
                exact gv1
              · replace hm := ia_ifn hm c
                by_cases c : (10 + (ia_i v1.2 (ia_r v1.2 303 0) 11)) ≤ x5
                · replace hm := ia_ifp hm c
                  obtain ⟨rfl, rfl⟩ := Prod.mk.inj (Option.some.inj hm)
                  exact gv1
                · replace hm := ia_ifn hm c
                  obtain ⟨c10, hm⟩ := ia_gd_some hm
                  obtain ⟨rfl, rfl⟩ := Prod.mk.inj (Option.some.inj hm)
                  exact gv1
theorem t_I_state {w : ia_O0} (d : Nat) {x1 : Int32} {x2 : Int32} {x3 : Int32} {x4 : Int32} {x5 : Int32} {h : ia_H} (hg : gd_ w h) {q : (Int32 × ia_H)} (hm : f_I_state x1 x2 x3 x4 x5 h = some q) : ia_Ev (d + 7) mm_I_state [.inr (.inr 64), .inl x1, .inl x2, .inl x3, .inl x4, .inl x5] h (some (.inl q.1)) q.2 := by
  have gq := g_I_state hg hm
  refine ia_Ev_intro ok_I_state (gd_le hg gq).1 (gd_le hg gq).2 (Nat.le_of_ble_eq_true rfl) (fun K hK hret => ?_)
  obtain ⟨r, h1⟩ := q
  show K 0 [some (.inr (.inr 64)), some (.inl x1), some (.inl x2), some (.inl x3), some (.inl x4), some (.inl x5)] [] h
  unfold f_I_state at hm
  refine ia_go hK ck_I_state_0 ?_
  show K 6 [some (.inr (.inr 64)), some (.inl x1), some (.inl x2), some (.inl x3), some (.inl x4), some (.inl x5)] [.inl x4, .inl x3, .inl x2, .inl x1, .inr (.inr 64)] h
  obtain ⟨v1, hv1, hm⟩ := ia_bnd hm
  have ev1 := t_I_stage (d + 0) hg hv1
  have gv1 := g_I_stage hg hv1
  refine ia_cV hK mk_I_stage lk_0_266 dc_I_state_6 64 [.inl x1, .inl x2, .inl x3, .inl x4] [] rfl rfl (Nat.le_of_ble_eq_true rfl) (by decide) rfl (gk_0 hg pk_64) ev1 (gd_nm hg gv1) ?_
  show K 9 [some (.inr (.inr 64)), some (.inl x1), some (.inl x2), some (.inl x3), some (.inl x4), some (.inl x5)] [.inl v1.1] v1.2
  refine ia_go hK ck_I_state_9 ⟨fun c => ?_, fun c => ?_⟩
  · replace hm := ia_ifn hm c
    show K 15 [some (.inr (.inr 64)), some (.inl x1), some (.inl x2), some (.inl x3), some (.inl x4), some (.inl x5)] [] v1.2
    refine ia_go hK ck_I_state_15 ?_
    show K (ia_tsw 17 82 0 4 #[35, 43, 51, 59, 67] x5) [some (.inr (.inr 64)), some (.inl x1), some (.inl x2), some (.inl x3), some (.inl x4), some (.inl x5)] [] v1.2
    by_cases c2 : x5 = 0
    · replace hm := ia_ifp hm c2
      rw [show ia_tsw 17 82 0 4 #[35, 43, 51, 59, 67] x5 = 52 from by rw [c2]; decide]
      refine ia_go hK ck_I_state_52 ⟨gk_0 gv1 pk_64, gr_0_4 gv1 pk_64, gk_9 gv1 (ka_0_4 pk_64), ?_⟩
      show K 59 [some (.inr (.inr 64)), some (.inl x1), some (.inl x2), some (.inl x3), some (.inl x4), some (.inl x5)] [.inl (ia_i v1.2 303 9)] v1.2
      obtain ⟨rfl, rfl⟩ := Prod.mk.inj (Option.some.inj hm)
      exact hret 59 _ dc_I_state_59
    · replace hm := ia_ifn hm c2
      by_cases c3 : x5 = 1
      · replace hm := ia_ifp hm c3
        rw [show ia_tsw 17 82 0 4 #[35, 43, 51, 59, 67] x5 = 60 from by rw [c3]; decide]
        refine ia_go hK ck_I_state_60 ⟨gk_0 gv1 pk_64, gr_0_4 gv1 pk_64, gk_9 gv1 (ka_0_4 pk_64), ?_⟩
        show K 67 [some (.inr (.inr 64)), some (.inl x1), some (.inl x2), some (.inl x3), some (.inl x4), some (.inl x5)] [.inl (ia_i v1.2 303 10)] v1.2
        obtain ⟨rfl, rfl⟩ := Prod.mk.inj (Option.some.inj hm)
        exact hret 67 _ dc_I_state_67
      · replace hm := ia_ifn hm c3
        by_cases c5 : x5 = 2
        · replace hm := ia_ifp hm c5
          rw [show ia_tsw 17 82 0 4 #[35, 43, 51, 59, 67] x5 = 68 from by rw [c5]; decide]
          refine ia_go hK ck_I_state_68 ⟨gk_0 gv1 pk_64, gr_0_4 gv1 pk_64, ?_⟩
          show K 72 [some (.inr (.inr 64)), some (.inl x1), some (.inl x2), some (.inl x3), some (.inl x4), some (.inl x5)] [.inr (.inr 303)] v1.2
          obtain ⟨v4, hv4, hm⟩ := ia_bnd hm
          have ev4 := t_Sc_lost (d + 6) gv1 (ka_0_4 pk_64) hv4
          refine ia_cV hK mk_Sc_lost lk_0_276 dc_I_state_72 303 [] [] rfl rfl (Nat.le_of_ble_eq_true rfl) (by decide) rfl (gk_9 gv1 (ka_0_4 pk_64)) ev4 ⟨rfl, rfl⟩ ?_
          show K 75 [some (.inr (.inr 64)), some (.inl x1), some (.inl x2), some (.inl x3), some (.inl x4), some (.inl x5)] [.inl v4] v1.2
          obtain ⟨rfl, rfl⟩ := Prod.mk.inj (Option.some.inj hm)
          exact hret 75 _ dc_I_state_75
        · replace hm := ia_ifn hm c5
          by_cases c7 : x5 = 3
          · replace hm := ia_ifp hm c7
            rw [show ia_tsw 17 82 0 4 #[35, 43, 51, 59, 67] x5 = 76 from by rw [c7]; decide]
            refine ia_go hK ck_I_state_76 ⟨gk_0 gv1 pk_64, gr_0_4 gv1 pk_64, ?_⟩
            show K 80 [some (.inr (.inr 64)), some (.inl x1), some (.inl x2), some (.inl x3), some (.inl x4), some (.inl x5)] [.inr (.inr 303)] v1.2
            obtain ⟨v6, hv6, hm⟩ := ia_bnd hm
            have ev6 := t_Sc_broken (d + 4) gv1 (ka_0_4 pk_64) hv6
            refine ia_cV hK mk_Sc_broken lk_0_280 dc_I_state_80 303 [] [] rfl rfl (Nat.le_of_ble_eq_true rfl) (by decide) rfl (gk_9 gv1 (ka_0_4 pk_64)) ev6 ⟨rfl, rfl⟩ ?_
            show K 83 [some (.inr (.inr 64)), some (.inl x1), some (.inl x2), some (.inl x3), some (.inl x4), some (.inl x5)] [.inl v6] v1.2
            obtain ⟨rfl, rfl⟩ := Prod.mk.inj (Option.some.inj hm)
            exact hret 83 _ dc_I_state_83
          · replace hm := ia_ifn hm c7
            by_cases c9 : x5 = 4
            · replace hm := ia_ifp hm c9
              rw [show ia_tsw 17 82 0 4 #[35, 43, 51, 59, 67] x5 = 84 from by rw [c9]; decide]
              refine ia_go hK ck_I_state_84 ⟨gk_0 gv1 pk_64, gr_0_5 gv1 pk_64, gk_0 gv1 pk_64, gr_0_4 gv1 pk_64, gk_9 gv1 (ka_0_4 pk_64), ?_⟩
              show K 95 [some (.inr (.inr 64)), some (.inl x1), some (.inl x2), some (.inl x3), some (.inl x4), some (.inl x5)] [.inr (.inr (ia_r v1.2 303 0)), .inr (.inr 311)] v1.2
              obtain ⟨v8, hv8, hm⟩ := ia_bnd hm
              have ev8 := t_Wa_partCount (d + 4) gv1 (gm_9_0 gv1 (ka_0_4 pk_64)) hv8
              have gv8 := g_Wa_partCount gv1 (gm_9_0 gv1 (ka_0_4 pk_64)) hv8
              refine ia_cV hK mk_Wa_partCount lk_0_284 dc_I_state_95 311 [.inr (.inr (ia_r v1.2 303 0))] [] rfl rfl (Nat.le_of_ble_eq_true rfl) (by decide) rfl (gk_11 gv1 (ka_0_5 pk_64)) ev8 (gd_nm gv1 gv8) ?_
              show K 98 [some (.inr (.inr 64)), some (.inl x1), some (.inl x2), some (.inl x3), some (.inl x4), some (.inl x5)] [.inl v8.1] v8.2
              obtain ⟨rfl, rfl⟩ := Prod.mk.inj (Option.some.inj hm)
              exact hret 98 _ dc_I_state_98
            · replace hm := ia_ifn hm c9
              rw [show ia_tsw 17 82 0 4 #[35, 43, 51, 59, 67] x5 = 99 from (ia_tsw_d (fun k h1 h2 => by
                  rcases (show k = 0 ∨ k = 1 ∨ k = 2 ∨ k = 3 ∨ k = 4 by omega) with rfl | rfl | rfl | rfl | rfl
                  · exact c2
                  · exact c3
                  · exact c5
                  · exact c7
                  · exact c9
                  )).trans (by decide)]
              refine ia_go hK ck_I_state_99 ⟨fun c => ?_, fun c => ?_⟩
              · replace hm := ia_ifp hm c
                show K 140 [some (.inr (.inr 64)), some (.inl x1), some (.inl x2), some (.inl x3), some (.inl x4), some (.inl x5)] [] v1.2
                refine ia_go hK ck_I_state_140 ?_
                show K 142 [some (.inr (.inr 64)), some (.inl x1), some (.inl x2), some (.inl x3), some (.inl x4), some (.inl x5)] [.inl (-100)] v1.2
                obtain ⟨rfl, rfl⟩ := Prod.mk.inj (Option.some.inj hm)
                exact hret 142 _ dc_I_state_142
              · replace hm := ia_ifn hm c
                show K 106 [some (.inr (.inr 64)), some (.inl x1), some (.inl x2), some (.inl x3), some (.inl x4), some (.inl x5)] [] v1.2
                refine ia_go hK ck_I_state_106 ⟨gk_0 gv1 pk_64, gr_0_4 gv1 pk_64, gk_9 gv1 (ka_0_4 pk_64), gk_3 gv1 (gm_9_0 gv1 (ka_0_4 pk_64)), fun c => ?_, fun c => ?_⟩
                · replace hm := ia_ifp hm c
                  show K 140 [some (.inr (.inr 64)), some (.inl x1), some (.inl x2), some (.inl x3), some (.inl x4), some (.inl x5)] [] v1.2
                  refine ia_go hK ck_I_state_140 ?_
                  show K 142 [some (.inr (.inr 64)), some (.inl x1), some (.inl x2), some (.inl x3), some (.inl x4), some (.inl x5)] [.inl (-100)] v1.2
                  obtain ⟨rfl, rfl⟩ := Prod.mk.inj (Option.some.inj hm)
                  exact hret 142 _ dc_I_state_142
                · replace hm := ia_ifn hm c
                  show K 124 [some (.inr (.inr 64)), some (.inl x1), some (.inl x2), some (.inl x3), some (.inl x4), some (.inl x5)] [] v1.2
                  obtain ⟨c10, hm⟩ := ia_gd_some hm
                  refine ia_go hK ck_I_state_124 ⟨gk_0 gv1 pk_64, gr_0_4 gv1 pk_64, gk_9 gv1 (ka_0_4 pk_64), gr_9_6 gv1 (ka_0_4 pk_64), ga_i100 gv1 (ka_9_6 (ka_0_4 pk_64)) c10, ?_⟩
                  show K 142 [some (.inr (.inr 64)), some (.inl x1), some (.inl x2), some (.inl x3), some (.inl x4), some (.inl x5)] [.inl (ia_i v1.2 308 ((x5 - 10).toNatClampNeg))] v1.2
                  obtain ⟨rfl, rfl⟩ := Prod.mk.inj (Option.some.inj hm)
                  exact hret 142 _ dc_I_state_142
  · replace hm := ia_ifp hm c
    show K 12 [some (.inr (.inr 64)), some (.inl x1), some (.inl x2), some (.inl x3), some (.inl x4), some (.inl x5)] [] v1.2
    refine ia_go hK ck_I_state_12 ?_
    show K 14 [some (.inr (.inr 64)), some (.inl x1), some (.inl x2), some (.inl x3), some (.inl x4), some (.inl x5)] [.inl (-100)] v1.2
    obtain ⟨rfl, rfl⟩ := Prod.mk.inj (Option.some.inj hm)
    exact hret 14 _ dc_I_state_14
def mm_Sc_bears : ia_M := (⟨"IceStreet$Scene", "bears", "(I)I"⟩, prog_10_method_5_code, 2, (some .int), 9, false)
theorem ok_Sc_bears : ia_mok mm_Sc_bears := ⟨by decide +kernel, by decide +kernel, by decide +kernel, by decide +kernel⟩
theorem mk_Sc_bears : ia_mkn mm_Sc_bears 1 1 := ⟨ia_tb_in (List.mem_of_getElem? (i := 1214) (by decide +kernel)) rfl, ia_tb_in (List.mem_of_getElem? (i := 140) (by decide +kernel)) rfl, by decide +kernel, by decide +kernel, ⟨ia_tb_in (List.mem_of_getElem? (i := 1212) (by decide +kernel)) rfl, ia_tb_in (List.mem_of_getElem? (i := 1213) (by decide +kernel)) rfl⟩⟩
theorem ck_Sc_bears_0 : ia_cks 9 2 false prog_10_method_5_code 0 [(.aload_n 0, 0, 0, 0, 0), (.getfield 33, 9, 0, 2, 0), (.aload_n 0, 0, 0, 0, 0), (.getfield 9, 9, 2, 3, 1), (.iload_n 1, 0, 0, 0, 0), (.iaload, 0, 0, 0, 0)] = true := by decide +kernel
theorem dc_Sc_bears_10 : decode prog_10_method_5_code 10 = .ok (.invokevirtual 79, 3) := by decide +kernel
theorem dc_Sc_bears_13 : decode prog_10_method_5_code 13 = .ok (.ireturn, 1) := by decide +kernel
def f_Sc_bears (a0 : Nat) (x1 : Int32) (h : ia_H) : Option Int32 := ia_gd (ia_ib x1 36) ((f_La_bearing (ia_r h a0 0) (ia_i h (a0 + 1) ((x1).toNatClampNeg)) h).bind fun v2 => (some v2))
theorem t_Sc_bears {w : ia_O0} (d : Nat) {a0 : Nat} {x1 : Int32} {h : ia_H} (hg : gd_ w h) (p0 : (kd_D a0).1 = 9) {r : Int32} (hm : f_Sc_bears a0 x1 h = some r) : ia_Ev (d + 1) mm_Sc_bears [.inr (.inr a0), .inl x1] h (some (.inl r)) h := by
  refine ia_Ev_intro ok_Sc_bears (Nat.le_refl _) (Nat.le_refl _) (Nat.le_of_ble_eq_true rfl) (fun K hK hret => ?_)
  show K 0 [some (.inr (.inr a0)), some (.inl x1)] [] h
  unfold f_Sc_bears at hm
  obtain ⟨c1, hm⟩ := ia_gd_some hm
  refine ia_go hK ck_Sc_bears_0 ⟨gk_9 hg p0, gk_9 hg p0, gr_9_2 hg p0, ga_i100 hg (ka_9_2 p0) c1, ?_⟩
  show K 10 [some (.inr (.inr a0)), some (.inl x1)] [.inl (ia_i h (a0 + 1) ((x1).toNatClampNeg)), .inr (.inr (ia_r h a0 0))] h
  obtain ⟨v2, hv2, hm⟩ := ia_bnd hm
  have ev2 := t_La_bearing (d + 0) hg (gm_9_0 hg p0) hv2
  refine ia_cV hK mk_La_bearing lk_9_79 dc_Sc_bears_10 (ia_r h a0 0) [.inl (ia_i h (a0 + 1) ((x1).toNatClampNeg))] [] rfl rfl (Nat.le_of_ble_eq_true rfl) (by decide) rfl (gk_3 hg (gm_9_0 hg p0)) ev2 ⟨rfl, rfl⟩ ?_
  show K 13 [some (.inr (.inr a0)), some (.inl x1)] [.inl v2] h
  obtain rfl := Option.some.inj hm
  exact hret 13 _ dc_Sc_bears_13
def mm_I_ice : ia_M := (⟨"IceStreet", "ice", "(IIIIII)I"⟩, prog_1_method_15_code, 7, (some .int), 0, false)
theorem ok_I_ice : ia_mok mm_I_ice := ⟨by decide +kernel, by decide +kernel, by decide +kernel, by decide +kernel⟩
theorem mk_I_ice : ia_mkn mm_I_ice 1 6 := ⟨ia_tb_in (List.mem_of_getElem? (i := 1210) (by decide +kernel)) rfl, ia_tb_in (List.mem_of_getElem? (i := 133) (by decide +kernel)) rfl, by decide +kernel, by decide +kernel, ⟨ia_tb_in (List.mem_of_getElem? (i := 1208) (by decide +kernel)) rfl, ia_tb_in (List.mem_of_getElem? (i := 1209) (by decide +kernel)) rfl⟩⟩
theorem ck_I_ice_0 : ia_cks 0 7 false prog_1_method_15_code 0 [(.aload_n 0, 0, 0, 0, 0), (.iload_n 1, 0, 0, 0, 0), (.iload_n 2, 0, 0, 0, 0), (.iload_n 3, 0, 0, 0, 0), (.iload 4, 0, 0, 0, 0)] = true := by decide +kernel
theorem ck_I_ice_9 : ia_cks 0 7 false prog_1_method_15_code 9 [(.ifCond .eq 18, 0, 0, 0, 0)] = true := by decide +kernel
theorem ck_I_ice_27 : ia_cks 0 7 false prog_1_method_15_code 27 [(.iconst (-1), 0, 0, 0, 0)] = true := by decide +kernel
theorem ck_I_ice_12 : ia_cks 0 7 false prog_1_method_15_code 12 [(.aload_n 0, 0, 0, 0, 0), (.getfield 44, 0, 4, 3, 239), (.getfield 283, 9, 0, 2, 0), (.iload 5, 0, 0, 0, 0)] = true := by decide +kernel
theorem ck_I_ice_24 : ia_cks 0 7 false prog_1_method_15_code 24 [(.ifCond .ne 5, 0, 0, 0, 0)] = true := by decide +kernel
theorem ck_I_ice_29 : ia_cks 0 7 false prog_1_method_15_code 29 [(.iload 6, 0, 0, 0, 0), (.tableswitch 72 0 3 #[29, 40, 51, 61], 0, 0, 0, 0)] = true := by decide +kernel
theorem ck_I_ice_60 : ia_cks 0 7 false prog_1_method_15_code 60 [(.aload_n 0, 0, 0, 0, 0), (.getfield 44, 0, 4, 3, 239), (.getfield 291, 9, 2, 3, 1), (.iload 5, 0, 0, 0, 0), (.iaload, 0, 0, 0, 0)] = true := by decide +kernel
theorem ck_I_ice_71 : ia_cks 0 7 false prog_1_method_15_code 71 [(.aload_n 0, 0, 0, 0, 0), (.getfield 44, 0, 4, 3, 239), (.getfield 292, 9, 3, 3, 2), (.iload 5, 0, 0, 0, 0), (.iaload, 0, 0, 0, 0)] = true := by decide +kernel
theorem ck_I_ice_82 : ia_cks 0 7 false prog_1_method_15_code 82 [(.aload_n 0, 0, 0, 0, 0), (.getfield 44, 0, 4, 3, 239), (.iload 5, 0, 0, 0, 0)] = true := by decide +kernel
theorem ck_I_ice_92 : ia_cks 0 7 false prog_1_method_15_code 92 [(.aload_n 0, 0, 0, 0, 0), (.getfield 44, 0, 4, 3, 239), (.getfield 296, 9, 4, 3, 3), (.iload 5, 0, 0, 0, 0), (.iaload, 0, 0, 0, 0)] = true := by decide +kernel
theorem ck_I_ice_103 : ia_cks 0 7 false prog_1_method_15_code 103 [(.iconst (-1), 0, 0, 0, 0)] = true := by decide +kernel
theorem dc_I_ice_6 : decode prog_1_method_15_code 6 = .ok (.invokevirtual 266, 3) := by decide +kernel
theorem dc_I_ice_28 : decode prog_1_method_15_code 28 = .ok (.ireturn, 1) := by decide +kernel
theorem dc_I_ice_21 : decode prog_1_method_15_code 21 = .ok (.invokevirtual 182, 3) := by decide +kernel
theorem dc_I_ice_70 : decode prog_1_method_15_code 70 = .ok (.ireturn, 1) := by decide +kernel
theorem dc_I_ice_81 : decode prog_1_method_15_code 81 = .ok (.ireturn, 1) := by decide +kernel
theorem dc_I_ice_88 : decode prog_1_method_15_code 88 = .ok (.invokevirtual 293, 3) := by decide +kernel
theorem dc_I_ice_91 : decode prog_1_method_15_code 91 = .ok (.ireturn, 1) := by decide +kernel
theorem dc_I_ice_102 : decode prog_1_method_15_code 102 = .ok (.ireturn, 1) := by decide +kernel
theorem dc_I_ice_104 : decode prog_1_method_15_code 104 = .ok (.ireturn, 1) := by decide +kernel
def f_I_ice (x1 : Int32) (x2 : Int32) (x3 : Int32) (x4 : Int32) (x5 : Int32) (x6 : Int32) (h : ia_H) : Option (Int32 × ia_H) := (f_I_stage x1 x2 x3 x4 h).bind fun v1 => (if v1.1 = 0 then (some ((-1), v1.2)) else ((f_La_isCell (ia_r v1.2 303 0) x5 v1.2).bind fun v2 => (if v2 = 0 then (some ((-1), v1.2)) else (if x6 = 0 then (ia_gd (ia_ib x5 36) (some (ia_i v1.2 304 ((x5).toNatClampNeg), v1.2))) else if x6 = 1 then (ia_gd (ia_ib x5 36) (some (ia_i v1.2 305 ((x5).toNatClampNeg), v1.2))) else if x6 = 2 then ((f_Sc_bears 303 x5 v1.2).bind fun v7 => (some (v7, v1.2))) else if x6 = 3 then (ia_gd (ia_ib x5 36) (some (ia_i v1.2 306 ((x5).toNatClampNeg), v1.2))) else (some ((-1), v1.2))))))
theorem g_I_ice {w : ia_O0} {x1 : Int32} {x2 : Int32} {x3 : Int32} {x4 : Int32} {x5 : Int32} {x6 : Int32} {h : ia_H} (hg : gd_ w h) {q : (Int32 × ia_H)} (hm : f_I_ice x1 x2 x3 x4 x5 x6 h = some q) : gd_ w q.2 := by
  obtain ⟨r, h1⟩ := q
  unfold f_I_ice at hm
  obtain ⟨v1, hv1, hm⟩ := ia_bnd hm
  have gv1 := g_I_stage hg hv1
  by_cases c : v1.1 = 0
  · replace hm := ia_ifp hm c
    obtain ⟨rfl, rfl⟩ := Prod.mk.inj (Option.some.inj hm)
    exact gv1
  · replace hm := ia_ifn hm c
    obtain ⟨v2, hv2, hm⟩ := ia_bnd hm
    by_cases c : v2 = 0
    · replace hm := ia_ifp hm c
      obtain ⟨rfl, rfl⟩ := Prod.mk.inj (Option.some.inj hm)
      exact gv1
    · replace hm := ia_ifn hm c
      by_cases c4 : x6 = 0
      · replace hm := ia_ifp hm c4
        obtain ⟨c3, hm⟩ := ia_gd_some hm
        obtain ⟨rfl, rfl⟩ := Prod.mk.inj (Option.some.inj hm)
        exact gv1
      · replace hm := ia_ifn hm c4
        by_cases c6 : x6 = 1
        · replace hm := ia_ifp hm c6
          obtain ⟨c5, hm⟩ := ia_gd_some hm
          obtain ⟨rfl, rfl⟩ := Prod.mk.inj (Option.some.inj hm)
          exact gv1
        · replace hm := ia_ifn hm c6
          by_cases c8 : x6 = 2
          · replace hm := ia_ifp hm c8
            obtain ⟨v7, hv7, hm⟩ := ia_bnd hm
            obtain ⟨rfl, rfl⟩ := Prod.mk.inj (Option.some.inj hm)
            exact gv1
          · replace hm := ia_ifn hm c8
            by_cases c10 : x6 = 3
            · replace hm := ia_ifp hm c10
              obtain ⟨c9, hm⟩ := ia_gd_some hm
              obtain ⟨rfl, rfl⟩ := Prod.mk.inj (Option.some.inj hm)
              exact gv1
            · replace hm := ia_ifn hm c10
              obtain ⟨rfl, rfl⟩ := Prod.mk.inj (Option.some.inj hm)
              exact gv1
theorem t_I_ice {w : ia_O0} (d : Nat) {x1 : Int32} {x2 : Int32} {x3 : Int32} {x4 : Int32} {x5 : Int32} {x6 : Int32} {h : ia_H} (hg : gd_ w h) {q : (Int32 × ia_H)} (hm : f_I_ice x1 x2 x3 x4 x5 x6 h = some q) : ia_Ev (d + 7) mm_I_ice [.inr (.inr 64), .inl x1, .inl x2, .inl x3, .inl x4, .inl x5, .inl x6] h (some (.inl q.1)) q.2 := by
  have gq := g_I_ice hg hm
  refine ia_Ev_intro ok_I_ice (gd_le hg gq).1 (gd_le hg gq).2 (Nat.le_of_ble_eq_true rfl) (fun K hK hret => ?_)
  obtain ⟨r, h1⟩ := q
  show K 0 [some (.inr (.inr 64)), some (.inl x1), some (.inl x2), some (.inl x3), some (.inl x4), some (.inl x5), some (.inl x6)] [] h
  unfold f_I_ice at hm
  refine ia_go hK ck_I_ice_0 ?_
  show K 6 [some (.inr (.inr 64)), some (.inl x1), some (.inl x2), some (.inl x3), some (.inl x4), some (.inl x5), some (.inl x6)] [.inl x4, .inl x3, .inl x2, .inl x1, .inr (.inr 64)] h
  obtain ⟨v1, hv1, hm⟩ := ia_bnd hm
  have ev1 := t_I_stage (d + 0) hg hv1
  have gv1 := g_I_stage hg hv1
  refine ia_cV hK mk_I_stage lk_0_266 dc_I_ice_6 64 [.inl x1, .inl x2, .inl x3, .inl x4] [] rfl rfl (Nat.le_of_ble_eq_true rfl) (by decide) rfl (gk_0 hg pk_64) ev1 (gd_nm hg gv1) ?_
  show K 9 [some (.inr (.inr 64)), some (.inl x1), some (.inl x2), some (.inl x3), some (.inl x4), some (.inl x5), some (.inl x6)] [.inl v1.1] v1.2
  refine ia_go hK ck_I_ice_9 ⟨fun c => ?_, fun c => ?_⟩
  · replace hm := ia_ifp hm c
    show K 27 [some (.inr (.inr 64)), some (.inl x1), some (.inl x2), some (.inl x3), some (.inl x4), some (.inl x5), some (.inl x6)] [] v1.2
    refine ia_go hK ck_I_ice_27 ?_
    show K 28 [some (.inr (.inr 64)), some (.inl x1), some (.inl x2), some (.inl x3), some (.inl x4), some (.inl x5), some (.inl x6)] [.inl (-1)] v1.2
    obtain ⟨rfl, rfl⟩ := Prod.mk.inj (Option.some.inj hm)
    exact hret 28 _ dc_I_ice_28
  · replace hm := ia_ifn hm c
    show K 12 [some (.inr (.inr 64)), some (.inl x1), some (.inl x2), some (.inl x3), some (.inl x4), some (.inl x5), some (.inl x6)] [] v1.2
    refine ia_go hK ck_I_ice_12 ⟨gk_0 gv1 pk_64, gr_0_4 gv1 pk_64, gk_9 gv1 (ka_0_4 pk_64), ?_⟩
    show K 21 [some (.inr (.inr 64)), some (.inl x1), some (.inl x2), some (.inl x3), some (.inl x4), some (.inl x5), some (.inl x6)] [.inl x5, .inr (.inr (ia_r v1.2 303 0))] v1.2
    obtain ⟨v2, hv2, hm⟩ := ia_bnd hm
    have ev2 := t_La_isCell (d + 6) gv1 (gm_9_0 gv1 (ka_0_4 pk_64)) hv2
    refine ia_cV hK mk_La_isCell lk_0_182 dc_I_ice_21 (ia_r v1.2 303 0) [.inl x5] [] rfl rfl (Nat.le_of_ble_eq_true rfl) (by decide) rfl (gk_3 gv1 (gm_9_0 gv1 (ka_0_4 pk_64))) ev2 ⟨rfl, rfl⟩ ?_
    show K 24 [some (.inr (.inr 64)), some (.inl x1), some (.inl x2), some (.inl x3), some (.inl x4), some (.inl x5), some (.inl x6)] [.inl v2] v1.2
    refine ia_go hK ck_I_ice_24 ⟨fun c => ?_, fun c => ?_⟩
    · replace hm := ia_ifn hm c
      show K 29 [some (.inr (.inr 64)), some (.inl x1), some (.inl x2), some (.inl x3), some (.inl x4), some (.inl x5), some (.inl x6)] [] v1.2
      refine ia_go hK ck_I_ice_29 ?_
      show K (ia_tsw 31 72 0 3 #[29, 40, 51, 61] x6) [some (.inr (.inr 64)), some (.inl x1), some (.inl x2), some (.inl x3), some (.inl x4), some (.inl x5), some (.inl x6)] [] v1.2
      by_cases c4 : x6 = 0
      · replace hm := ia_ifp hm c4
        rw [show ia_tsw 31 72 0 3 #[29, 40, 51, 61] x6 = 60 from by rw [c4]; decide]
        obtain ⟨c3, hm⟩ := ia_gd_some hm
        refine ia_go hK ck_I_ice_60 ⟨gk_0 gv1 pk_64, gr_0_4 gv1 pk_64, gk_9 gv1 (ka_0_4 pk_64), gr_9_2 gv1 (ka_0_4 pk_64), ga_i100 gv1 (ka_9_2 (ka_0_4 pk_64)) c3, ?_⟩
        show K 70 [some (.inr (.inr 64)), some (.inl x1), some (.inl x2), some (.inl x3), some (.inl x4), some (.inl x5), some (.inl x6)] [.inl (ia_i v1.2 304 ((x5).toNatClampNeg))] v1.2
        obtain ⟨rfl, rfl⟩ := Prod.mk.inj (Option.some.inj hm)
        exact hret 70 _ dc_I_ice_70
      · replace hm := ia_ifn hm c4
        by_cases c6 : x6 = 1
        · replace hm := ia_ifp hm c6
          rw [show ia_tsw 31 72 0 3 #[29, 40, 51, 61] x6 = 71 from by rw [c6]; decide]
          obtain ⟨c5, hm⟩ := ia_gd_some hm
          refine ia_go hK ck_I_ice_71 ⟨gk_0 gv1 pk_64, gr_0_4 gv1 pk_64, gk_9 gv1 (ka_0_4 pk_64), gr_9_3 gv1 (ka_0_4 pk_64), ga_i100 gv1 (ka_9_3 (ka_0_4 pk_64)) c5, ?_⟩
          show K 81 [some (.inr (.inr 64)), some (.inl x1), some (.inl x2), some (.inl x3), some (.inl x4), some (.inl x5), some (.inl x6)] [.inl (ia_i v1.2 305 ((x5).toNatClampNeg))] v1.2
          obtain ⟨rfl, rfl⟩ := Prod.mk.inj (Option.some.inj hm)
          exact hret 81 _ dc_I_ice_81
        · replace hm := ia_ifn hm c6
          by_cases c8 : x6 = 2
          · replace hm := ia_ifp hm c8
            rw [show ia_tsw 31 72 0 3 #[29, 40, 51, 61] x6 = 82 from by rw [c8]; decide]
            refine ia_go hK ck_I_ice_82 ⟨gk_0 gv1 pk_64, gr_0_4 gv1 pk_64, ?_⟩
            show K 88 [some (.inr (.inr 64)), some (.inl x1), some (.inl x2), some (.inl x3), some (.inl x4), some (.inl x5), some (.inl x6)] [.inl x5, .inr (.inr 303)] v1.2
            obtain ⟨v7, hv7, hm⟩ := ia_bnd hm
            have ev7 := t_Sc_bears (d + 5) gv1 (ka_0_4 pk_64) hv7
            refine ia_cV hK mk_Sc_bears lk_0_293 dc_I_ice_88 303 [.inl x5] [] rfl rfl (Nat.le_of_ble_eq_true rfl) (by decide) rfl (gk_9 gv1 (ka_0_4 pk_64)) ev7 ⟨rfl, rfl⟩ ?_
            show K 91 [some (.inr (.inr 64)), some (.inl x1), some (.inl x2), some (.inl x3), some (.inl x4), some (.inl x5), some (.inl x6)] [.inl v7] v1.2
            obtain ⟨rfl, rfl⟩ := Prod.mk.inj (Option.some.inj hm)
            exact hret 91 _ dc_I_ice_91
          · replace hm := ia_ifn hm c8
            by_cases c10 : x6 = 3
            · replace hm := ia_ifp hm c10
              rw [show ia_tsw 31 72 0 3 #[29, 40, 51, 61] x6 = 92 from by rw [c10]; decide]
              obtain ⟨c9, hm⟩ := ia_gd_some hm
              refine ia_go hK ck_I_ice_92 ⟨gk_0 gv1 pk_64, gr_0_4 gv1 pk_64, gk_9 gv1 (ka_0_4 pk_64), gr_9_4 gv1 (ka_0_4 pk_64), ga_i100 gv1 (ka_9_4 (ka_0_4 pk_64)) c9, ?_⟩
              show K 102 [some (.inr (.inr 64)), some (.inl x1), some (.inl x2), some (.inl x3), some (.inl x4), some (.inl x5), some (.inl x6)] [.inl (ia_i v1.2 306 ((x5).toNatClampNeg))] v1.2
              obtain ⟨rfl, rfl⟩ := Prod.mk.inj (Option.some.inj hm)
              exact hret 102 _ dc_I_ice_102
            · replace hm := ia_ifn hm c10
              rw [show ia_tsw 31 72 0 3 #[29, 40, 51, 61] x6 = 103 from (ia_tsw_d (fun k h1 h2 => by
                  rcases (show k = 0 ∨ k = 1 ∨ k = 2 ∨ k = 3 by omega) with rfl | rfl | rfl | rfl
                  · exact c4
                  · exact c6
                  · exact c8
                  · exact c10
                  )).trans (by decide)]
              refine ia_go hK ck_I_ice_103 ?_
              show K 104 [some (.inr (.inr 64)), some (.inl x1), some (.inl x2), some (.inl x3), some (.inl x4), some (.inl x5), some (.inl x6)] [.inl (-1)] v1.2
              obtain ⟨rfl, rfl⟩ := Prod.mk.inj (Option.some.inj hm)
              exact hret 104 _ dc_I_ice_104
    · replace hm := ia_ifp hm c
      show K 27 [some (.inr (.inr 64)), some (.inl x1), some (.inl x2), some (.inl x3), some (.inl x4), some (.inl x5), some (.inl x6)] [] v1.2
      refine ia_go hK ck_I_ice_27 ?_
      show K 28 [some (.inr (.inr 64)), some (.inl x1), some (.inl x2), some (.inl x3), some (.inl x4), some (.inl x5), some (.inl x6)] [.inl (-1)] v1.2
      obtain ⟨rfl, rfl⟩ := Prod.mk.inj (Option.some.inj hm)
      exact hret 28 _ dc_I_ice_28
def mm_I_isLoad : ia_M := (⟨"IceStreet", "isLoad", "(I)Z"⟩, prog_1_method_44_code, 1, (some .boolean), 0, false)
theorem ok_I_isLoad : ia_mok mm_I_isLoad := ⟨by decide +kernel, by decide +kernel, by decide +kernel, by decide +kernel⟩
theorem mk_I_isLoad : ia_mkn mm_I_isLoad 0 1 := ⟨ia_tb_in (List.mem_of_getElem? (i := 1225) (by decide +kernel)) rfl, ia_tb_in (List.mem_of_getElem? (i := 133) (by decide +kernel)) rfl, by decide +kernel, by decide +kernel, ia_tb_in (List.mem_of_getElem? (i := 1224) (by decide +kernel)) rfl⟩
theorem ck_I_isLoad_0 : ia_cks 0 1 false prog_1_method_44_code 0 [(.iload_n 0, 0, 0, 0, 0), (.iconst 1, 0, 0, 0, 0), (.if_icmp .lt 14, 0, 0, 0, 0)] = true := by decide +kernel
theorem ck_I_isLoad_16 : ia_cks 0 1 false prog_1_method_44_code 16 [(.iconst 0, 0, 0, 0, 0)] = true := by decide +kernel
theorem ck_I_isLoad_5 : ia_cks 0 1 false prog_1_method_44_code 5 [(.iload_n 0, 0, 0, 0, 0), (.sipush 999, 0, 0, 0, 0), (.if_icmp .gt 7, 0, 0, 0, 0)] = true := by decide +kernel
theorem ck_I_isLoad_12 : ia_cks 0 1 false prog_1_method_44_code 12 [(.iconst 1, 0, 0, 0, 0), (.goto 4, 0, 0, 0, 0)] = true := by decide +kernel
theorem dc_I_isLoad_17 : decode prog_1_method_44_code 17 = .ok (.ireturn, 1) := by decide +kernel
def f_I_isLoad (x0 : Int32) (h : ia_H) : Option Int32 := if x0 < 1 then (some 0) else (if 999 < x0 then (some 0) else (some 1))
theorem t_I_isLoad {w : ia_O0} (d : Nat) {x0 : Int32} {h : ia_H} (hg : gd_ w h) {r : Int32} (hm : f_I_isLoad x0 h = some r) : ia_Ev (d + 0) mm_I_isLoad [.inl x0] h (some (.inl r)) h := by
  refine ia_Ev_intro ok_I_isLoad (Nat.le_refl _) (Nat.le_refl _) (Nat.le_of_ble_eq_true rfl) (fun K hK hret => ?_)
  show K 0 [some (.inl x0)] [] h
  unfold f_I_isLoad at hm
  refine ia_go hK ck_I_isLoad_0 ⟨fun c => ?_, fun c => ?_⟩
  · replace hm := ia_ifp hm c
    show K 16 [some (.inl x0)] [] h
    refine ia_go hK ck_I_isLoad_16 ?_
    show K 17 [some (.inl x0)] [.inl 0] h
    obtain rfl := Option.some.inj hm
    exact hret 17 _ ⟨Or.inl rfl, dc_I_isLoad_17⟩
  · replace hm := ia_ifn hm c
    show K 5 [some (.inl x0)] [] h
    refine ia_go hK ck_I_isLoad_5 ⟨fun c => ?_, fun c => ?_⟩
    · replace hm := ia_ifp hm c
      show K 16 [some (.inl x0)] [] h
      refine ia_go hK ck_I_isLoad_16 ?_
      show K 17 [some (.inl x0)] [.inl 0] h
      obtain rfl := Option.some.inj hm
      exact hret 17 _ ⟨Or.inl rfl, dc_I_isLoad_17⟩
    · replace hm := ia_ifn hm c
      show K 12 [some (.inl x0)] [] h
      refine ia_go hK ck_I_isLoad_12 ?_
      show K 17 [some (.inl x0)] [.inl 1] h
      obtain rfl := Option.some.inj hm
      exact hret 17 _ ⟨Or.inr rfl, dc_I_isLoad_17⟩
def mm_I_isTrip : ia_M := (⟨"IceStreet", "isTrip", "(III)Z"⟩, prog_1_method_43_code, 4, (some .boolean), 0, false)
theorem ok_I_isTrip : ia_mok mm_I_isTrip := ⟨by decide +kernel, by decide +kernel, by decide +kernel, by decide +kernel⟩
theorem mk_I_isTrip : ia_mkn mm_I_isTrip 1 3 := ⟨ia_tb_in (List.mem_of_getElem? (i := 1222) (by decide +kernel)) rfl, ia_tb_in (List.mem_of_getElem? (i := 133) (by decide +kernel)) rfl, by decide +kernel, by decide +kernel, ⟨ia_tb_in (List.mem_of_getElem? (i := 1221) (by decide +kernel)) rfl, ia_tb_in (List.mem_of_getElem? (i := 33) (by decide +kernel)) rfl⟩⟩
theorem ck_I_isTrip_0 : ia_cks 0 4 false prog_1_method_43_code 0 [(.iload_n 1, 0, 0, 0, 0)] = true := by decide +kernel
theorem ck_I_isTrip_4 : ia_cks 0 4 false prog_1_method_43_code 4 [(.ifCond .eq 40, 0, 0, 0, 0)] = true := by decide +kernel
theorem ck_I_isTrip_44 : ia_cks 0 4 false prog_1_method_43_code 44 [(.iconst 0, 0, 0, 0, 0)] = true := by decide +kernel
theorem ck_I_isTrip_7 : ia_cks 0 4 false prog_1_method_43_code 7 [(.iload_n 2, 0, 0, 0, 0), (.iload_n 3, 0, 0, 0, 0), (.if_icmp .eq 35, 0, 0, 0, 0)] = true := by decide +kernel
theorem ck_I_isTrip_12 : ia_cks 0 4 false prog_1_method_43_code 12 [(.aload_n 0, 0, 0, 0, 0), (.getfield 44, 0, 4, 3, 239), (.getfield 283, 9, 0, 2, 0), (.iload_n 2, 0, 0, 0, 0)] = true := by decide +kernel
theorem ck_I_isTrip_23 : ia_cks 0 4 false prog_1_method_43_code 23 [(.ifCond .eq 21, 0, 0, 0, 0)] = true := by decide +kernel
theorem ck_I_isTrip_26 : ia_cks 0 4 false prog_1_method_43_code 26 [(.aload_n 0, 0, 0, 0, 0), (.getfield 44, 0, 4, 3, 239), (.getfield 283, 9, 0, 2, 0), (.iload_n 3, 0, 0, 0, 0)] = true := by decide +kernel
theorem ck_I_isTrip_37 : ia_cks 0 4 false prog_1_method_43_code 37 [(.ifCond .eq 7, 0, 0, 0, 0)] = true := by decide +kernel
theorem ck_I_isTrip_40 : ia_cks 0 4 false prog_1_method_43_code 40 [(.iconst 1, 0, 0, 0, 0), (.goto 4, 0, 0, 0, 0)] = true := by decide +kernel
theorem dc_I_isTrip_1 : decode prog_1_method_43_code 1 = .ok (.invokestatic 333, 3) := by decide +kernel
theorem dc_I_isTrip_45 : decode prog_1_method_43_code 45 = .ok (.ireturn, 1) := by decide +kernel
theorem dc_I_isTrip_20 : decode prog_1_method_43_code 20 = .ok (.invokevirtual 182, 3) := by decide +kernel
theorem dc_I_isTrip_34 : decode prog_1_method_43_code 34 = .ok (.invokevirtual 182, 3) := by decide +kernel
def f_I_isTrip (x1 : Int32) (x2 : Int32) (x3 : Int32) (h : ia_H) : Option Int32 := (f_I_isLoad x1 h).bind fun v1 => (if v1 = 0 then (some 0) else (if x2 = x3 then (some 0) else ((f_La_isCell (ia_r h 303 0) x2 h).bind fun v2 => (if v2 = 0 then (some 0) else ((f_La_isCell (ia_r h 303 0) x3 h).bind fun v3 => (if v3 = 0 then (some 0) else (some 1)))))))
theorem t_I_isTrip {w : ia_O0} (d : Nat) {x1 : Int32} {x2 : Int32} {x3 : Int32} {h : ia_H} (hg : gd_ w h) {r : Int32} (hm : f_I_isTrip x1 x2 x3 h = some r) : ia_Ev (d + 1) mm_I_isTrip [.inr (.inr 64), .inl x1, .inl x2, .inl x3] h (some (.inl r)) h := by
  refine ia_Ev_intro ok_I_isTrip (Nat.le_refl _) (Nat.le_refl _) (Nat.le_of_ble_eq_true rfl) (fun K hK hret => ?_)
  show K 0 [some (.inr (.inr 64)), some (.inl x1), some (.inl x2), some (.inl x3)] [] h
  unfold f_I_isTrip at hm
  refine ia_go hK ck_I_isTrip_0 ?_
  show K 1 [some (.inr (.inr 64)), some (.inl x1), some (.inl x2), some (.inl x3)] [.inl x1] h
  obtain ⟨v1, hv1, hm⟩ := ia_bnd hm
  have ev1 := t_I_isLoad (d + 0) hg hv1
  refine ia_cS hK mk_I_isLoad lk_0_333 dc_I_isTrip_1 [.inl x1] [] rfl rfl (Nat.le_of_ble_eq_true rfl) ev1 ⟨rfl, rfl⟩ ?_
  show K 4 [some (.inr (.inr 64)), some (.inl x1), some (.inl x2), some (.inl x3)] [.inl v1] h
  refine ia_go hK ck_I_isTrip_4 ⟨fun c => ?_, fun c => ?_⟩
  · replace hm := ia_ifp hm c
    show K 44 [some (.inr (.inr 64)), some (.inl x1), some (.inl x2), some (.inl x3)] [] h
    refine ia_go hK ck_I_isTrip_44 ?_
    show K 45 [some (.inr (.inr 64)), some (.inl x1), some (.inl x2), some (.inl x3)] [.inl 0] h
    obtain rfl := Option.some.inj hm
    exact hret 45 _ ⟨Or.inl rfl, dc_I_isTrip_45⟩
  · replace hm := ia_ifn hm c
    show K 7 [some (.inr (.inr 64)), some (.inl x1), some (.inl x2), some (.inl x3)] [] h
    refine ia_go hK ck_I_isTrip_7 ⟨fun c => ?_, fun c => ?_⟩
    · replace hm := ia_ifp hm c
      show K 44 [some (.inr (.inr 64)), some (.inl x1), some (.inl x2), some (.inl x3)] [] h
      refine ia_go hK ck_I_isTrip_44 ?_
      show K 45 [some (.inr (.inr 64)), some (.inl x1), some (.inl x2), some (.inl x3)] [.inl 0] h
      obtain rfl := Option.some.inj hm
      exact hret 45 _ ⟨Or.inl rfl, dc_I_isTrip_45⟩
    · replace hm := ia_ifn hm c
      show K 12 [some (.inr (.inr 64)), some (.inl x1), some (.inl x2), some (.inl x3)] [] h
      refine ia_go hK ck_I_isTrip_12 ⟨gk_0 hg pk_64, gr_0_4 hg pk_64, gk_9 hg (ka_0_4 pk_64), ?_⟩
      show K 20 [some (.inr (.inr 64)), some (.inl x1), some (.inl x2), some (.inl x3)] [.inl x2, .inr (.inr (ia_r h 303 0))] h
      obtain ⟨v2, hv2, hm⟩ := ia_bnd hm
      have ev2 := t_La_isCell (d + 0) hg (gm_9_0 hg (ka_0_4 pk_64)) hv2
      refine ia_cV hK mk_La_isCell lk_0_182 dc_I_isTrip_20 (ia_r h 303 0) [.inl x2] [] rfl rfl (Nat.le_of_ble_eq_true rfl) (by decide) rfl (gk_3 hg (gm_9_0 hg (ka_0_4 pk_64))) ev2 ⟨rfl, rfl⟩ ?_
      show K 23 [some (.inr (.inr 64)), some (.inl x1), some (.inl x2), some (.inl x3)] [.inl v2] h
      refine ia_go hK ck_I_isTrip_23 ⟨fun c => ?_, fun c => ?_⟩
      · replace hm := ia_ifp hm c
        show K 44 [some (.inr (.inr 64)), some (.inl x1), some (.inl x2), some (.inl x3)] [] h
        refine ia_go hK ck_I_isTrip_44 ?_
        show K 45 [some (.inr (.inr 64)), some (.inl x1), some (.inl x2), some (.inl x3)] [.inl 0] h
        obtain rfl := Option.some.inj hm
        exact hret 45 _ ⟨Or.inl rfl, dc_I_isTrip_45⟩
      · replace hm := ia_ifn hm c
        show K 26 [some (.inr (.inr 64)), some (.inl x1), some (.inl x2), some (.inl x3)] [] h
        refine ia_go hK ck_I_isTrip_26 ⟨gk_0 hg pk_64, gr_0_4 hg pk_64, gk_9 hg (ka_0_4 pk_64), ?_⟩
        show K 34 [some (.inr (.inr 64)), some (.inl x1), some (.inl x2), some (.inl x3)] [.inl x3, .inr (.inr (ia_r h 303 0))] h
        obtain ⟨v3, hv3, hm⟩ := ia_bnd hm
        have ev3 := t_La_isCell (d + 0) hg (gm_9_0 hg (ka_0_4 pk_64)) hv3
        refine ia_cV hK mk_La_isCell lk_0_182 dc_I_isTrip_34 (ia_r h 303 0) [.inl x3] [] rfl rfl (Nat.le_of_ble_eq_true rfl) (by decide) rfl (gk_3 hg (gm_9_0 hg (ka_0_4 pk_64))) ev3 ⟨rfl, rfl⟩ ?_
        show K 37 [some (.inr (.inr 64)), some (.inl x1), some (.inl x2), some (.inl x3)] [.inl v3] h
        refine ia_go hK ck_I_isTrip_37 ⟨fun c => ?_, fun c => ?_⟩
        · replace hm := ia_ifp hm c
          show K 44 [some (.inr (.inr 64)), some (.inl x1), some (.inl x2), some (.inl x3)] [] h
          refine ia_go hK ck_I_isTrip_44 ?_
          show K 45 [some (.inr (.inr 64)), some (.inl x1), some (.inl x2), some (.inl x3)] [.inl 0] h
          obtain rfl := Option.some.inj hm
          exact hret 45 _ ⟨Or.inl rfl, dc_I_isTrip_45⟩
        · replace hm := ia_ifn hm c
          show K 40 [some (.inr (.inr 64)), some (.inl x1), some (.inl x2), some (.inl x3)] [] h
          refine ia_go hK ck_I_isTrip_40 ?_
          show K 45 [some (.inr (.inr 64)), some (.inl x1), some (.inl x2), some (.inl x3)] [.inl 1] h
          obtain rfl := Option.some.inj hm
          exact hret 45 _ ⟨Or.inr rfl, dc_I_isTrip_45⟩
def mm_Wa_greatestLoad : ia_M := (⟨"IceStreet$Ways", "greatestLoad", "(II)I"⟩, prog_12_method_8_code, 7, (some .int), 11, false)
theorem ok_Wa_greatestLoad : ia_mok mm_Wa_greatestLoad := ⟨by decide +kernel, by decide +kernel, by decide +kernel, by decide +kernel⟩
theorem mk_Wa_greatestLoad : ia_mkn mm_Wa_greatestLoad 1 2 := ⟨ia_tb_in (List.mem_of_getElem? (i := 1239) (by decide +kernel)) rfl, ia_tb_in (List.mem_of_getElem? (i := 141) (by decide +kernel)) rfl, by decide +kernel, by decide +kernel, ⟨ia_tb_in (List.mem_of_getElem? (i := 1237) (by decide +kernel)) rfl, ia_tb_in (List.mem_of_getElem? (i := 1238) (by decide +kernel)) rfl⟩⟩
theorem ck_Wa_greatestLoad_0 : ia_cks 11 7 false prog_12_method_8_code 0 [(.iconst 0, 0, 0, 0, 0), (.istore_n 3, 0, 0, 0, 0), (.aload_n 0, 0, 0, 0, 0), (.getfield 15, 11, 6, 3, 2), (.iload_n 2, 0, 0, 0, 0), (.iaload, 0, 0, 0, 0), (.iconst 1, 0, 0, 0, 0), (.iadd, 0, 0, 0, 0), (.istore 4, 0, 0, 0, 0), (.iconst 0, 0, 0, 0, 0), (.istore 5, 0, 0, 0, 0)] = true := by decide +kernel
theorem ck_Wa_greatestLoad_15 : ia_cks 11 7 false prog_12_method_8_code 15 [(.iload 5, 0, 0, 0, 0), (.bipush 14, 0, 0, 0, 0), (.if_icmp .ge 49, 0, 0, 0, 0)] = true := by decide +kernel
theorem ck_Wa_greatestLoad_22 : ia_cks 11 7 false prog_12_method_8_code 22 [(.iload_n 3, 0, 0, 0, 0), (.iconst 1, 0, 0, 0, 0), (.iadd, 0, 0, 0, 0), (.iload 4, 0, 0, 0, 0), (.if_icmp .ge 41, 0, 0, 0, 0)] = true := by decide +kernel
theorem ck_Wa_greatestLoad_30 : ia_cks 11 7 false prog_12_method_8_code 30 [(.iload_n 3, 0, 0, 0, 0), (.iload 4, 0, 0, 0, 0), (.iload_n 3, 0, 0, 0, 0), (.isub, 0, 0, 0, 0), (.iconst 2, 0, 0, 0, 0), (.idiv, 0, 0, 0, 0), (.iadd, 0, 0, 0, 0), (.istore 6, 0, 0, 0, 0), (.aload_n 0, 0, 0, 0, 0), (.iload 6, 0, 0, 0, 0), (.iload_n 1, 0, 0, 0, 0), (.iload_n 2, 0, 0, 0, 0)] = true := by decide +kernel
theorem ck_Wa_greatestLoad_48 : ia_cks 11 7 false prog_12_method_8_code 48 [(.iconst (-1), 0, 0, 0, 0), (.if_icmp .eq 9, 0, 0, 0, 0)] = true := by decide +kernel
theorem ck_Wa_greatestLoad_58 : ia_cks 11 7 false prog_12_method_8_code 58 [(.iload 6, 0, 0, 0, 0), (.istore 4, 0, 0, 0, 0), (.iinc 5 1, 0, 0, 0, 0), (.goto (-50), 0, 0, 0, 0)] = true := by decide +kernel
theorem ck_Wa_greatestLoad_52 : ia_cks 11 7 false prog_12_method_8_code 52 [(.iload 6, 0, 0, 0, 0), (.istore_n 3, 0, 0, 0, 0), (.goto 7, 0, 0, 0, 0)] = true := by decide +kernel
theorem ck_Wa_greatestLoad_62 : ia_cks 11 7 false prog_12_method_8_code 62 [(.iinc 5 1, 0, 0, 0, 0), (.goto (-50), 0, 0, 0, 0)] = true := by decide +kernel
theorem ck_Wa_greatestLoad_68 : ia_cks 11 7 false prog_12_method_8_code 68 [(.iload_n 3, 0, 0, 0, 0)] = true := by decide +kernel
theorem dc_Wa_greatestLoad_45 : decode prog_12_method_8_code 45 = .ok (.invokevirtual 83, 3) := by decide +kernel
theorem dc_Wa_greatestLoad_69 : decode prog_12_method_8_code 69 = .ok (.ireturn, 1) := by decide +kernel
def l_Wa_greatestLoad_15 (x1 : Int32) (x2 : Int32) (k68 : Int32 → ia_H → Option (Int32 × ia_H)) (n : Nat) (x3 : Int32) (x4 : Int32) (x5 : Int32) (h : ia_H) : Option (Int32 × ia_H) := match n with
  | 0 => none
  | n + 1 => if 14 ≤ x5 then (k68 x3 h) else (if x4 ≤ (x3 + 1) then (k68 x3 h) else ((f_Wa_measure (x3 + ((x4 - x3) / 2)) x1 x2 h).bind fun v2 => (if v2.1 = (-1) then (l_Wa_greatestLoad_15 x1 x2 k68 n x3 (x3 + ((x4 - x3) / 2)) (x5 + 1) v2.2) else (l_Wa_greatestLoad_15 x1 x2 k68 n (x3 + ((x4 - x3) / 2)) x4 (x5 + 1) v2.2))))
theorem tl_Wa_greatestLoad_15 {w : ia_O0} {d N1 W1 : Nat} {K : ia_K} (hK : ia_isK (d + 2) mm_Wa_greatestLoad N1 W1 K) {x1 : Int32} {x2 : Int32} {r : Int32} {h1 : ia_H} (hret : ∀ (pc : Nat) (lv : ia_L), ia_ret mm_Wa_greatestLoad pc (some (.inl r)) → K pc lv ((some (.inl r)) : Option ia_V).toList h1) {k68 : Int32 → ia_H → Option (Int32 × ia_H)} (hk68 : ∀ (x3 : Int32) (h : ia_H), gd_ w h → k68 x3 h = some (r, h1) → K 68 [none, none, none, some (.inl x3), none, none, none] [] h) : ∀ (n : Nat) (x3 : Int32) (x4 : Int32) (x5 : Int32) (h : ia_H), gd_ w h → l_Wa_greatestLoad_15 x1 x2 k68 n x3 x4 x5 h = some (r, h1) → K 15 [some (.inr (.inr 311)), some (.inl x1), some (.inl x2), some (.inl x3), some (.inl x4), some (.inl x5), none] [] h := by
  intro n
  induction n with
  | zero =>
    intro x3 x4 x5 h hg hm
    cases (show (none : Option (Int32 × ia_H)) = some _ from hm)
  | succ n ih =>
    intro x3 x4 x5 h hg hm
    rw [l_Wa_greatestLoad_15] at hm
    refine ia_go hK ck_Wa_greatestLoad_15 ⟨fun c => ?_, fun c => ?_⟩
    · replace hm := ia_ifp hm c
      show K 68 [some (.inr (.inr 311)), some (.inl x1), some (.inl x2), some (.inl x3), some (.inl x4), some (.inl x5), none] [] h
      refine ia_fg hK (lv' := [none, none, none, some (.inl x3), none, none, none]) ⟨rfl, trivial⟩ ?_
      exact hk68 x3 h hg hm
    · replace hm := ia_ifn hm c
      show K 22 [some (.inr (.inr 311)), some (.inl x1), some (.inl x2), some (.inl x3), some (.inl x4), some (.inl x5), none] [] h
      refine ia_go hK ck_Wa_greatestLoad_22 ⟨fun c => ?_, fun c => ?_⟩
      · replace hm := ia_ifp hm c
        show K 68 [some (.inr (.inr 311)), some (.inl x1), some (.inl x2), some (.inl x3), some (.inl x4), some (.inl x5), none] [] h
        refine ia_fg hK (lv' := [none, none, none, some (.inl x3), none, none, none]) ⟨rfl, trivial⟩ ?_
        exact hk68 x3 h hg hm
      · replace hm := ia_ifn hm c
        show K 30 [some (.inr (.inr 311)), some (.inl x1), some (.inl x2), some (.inl x3), some (.inl x4), some (.inl x5), none] [] h
        refine ia_go hK ck_Wa_greatestLoad_30 ⟨(by decide), ?_⟩
        show K 45 [some (.inr (.inr 311)), some (.inl x1), some (.inl x2), some (.inl x3), some (.inl x4), some (.inl x5), some (.inl (x3 + ((x4 - x3) / 2)))] [.inl x2, .inl x1, .inl (x3 + ((x4 - x3) / 2)), .inr (.inr 311)] h
        obtain ⟨v2, hv2, hm⟩ := ia_bnd hm
        have ev2 := t_Wa_measure (d + 0) hg hv2
        have gv2 := g_Wa_measure hg hv2
        refine ia_cV hK mk_Wa_measure lk_11_83 dc_Wa_greatestLoad_45 311 [.inl (x3 + ((x4 - x3) / 2)), .inl x1, .inl x2] [] rfl rfl (Nat.le_of_ble_eq_true rfl) (by decide) rfl (gk_11 hg pk_311) ev2 (gd_nm hg gv2) ?_
        show K 48 [some (.inr (.inr 311)), some (.inl x1), some (.inl x2), some (.inl x3), some (.inl x4), some (.inl x5), some (.inl (x3 + ((x4 - x3) / 2)))] [.inl v2.1] v2.2
        refine ia_go hK ck_Wa_greatestLoad_48 ⟨fun c => ?_, fun c => ?_⟩
        · replace hm := ia_ifp hm c
          show K 58 [some (.inr (.inr 311)), some (.inl x1), some (.inl x2), some (.inl x3), some (.inl x4), some (.inl x5), some (.inl (x3 + ((x4 - x3) / 2)))] [] v2.2
          refine ia_go hK ck_Wa_greatestLoad_58 ?_
          show K 15 [some (.inr (.inr 311)), some (.inl x1), some (.inl x2), some (.inl x3), some (.inl (x3 + ((x4 - x3) / 2))), some (.inl (x5 + 1)), some (.inl (x3 + ((x4 - x3) / 2)))] [] v2.2
          refine ia_fg hK (lv' := [some (.inr (.inr 311)), some (.inl x1), some (.inl x2), some (.inl x3), some (.inl (x3 + ((x4 - x3) / 2))), some (.inl (x5 + 1)), none]) ⟨rfl, rfl, rfl, rfl, rfl, rfl, trivial⟩ ?_
          exact ih x3 (x3 + ((x4 - x3) / 2)) (x5 + 1) v2.2 gv2 hm
        · replace hm := ia_ifn hm c
          show K 52 [some (.inr (.inr 311)), some (.inl x1), some (.inl x2), some (.inl x3), some (.inl x4), some (.inl x5), some (.inl (x3 + ((x4 - x3) / 2)))] [] v2.2
          refine ia_go hK ck_Wa_greatestLoad_52 ?_
          show K 62 [some (.inr (.inr 311)), some (.inl x1), some (.inl x2), some (.inl (x3 + ((x4 - x3) / 2))), some (.inl x4), some (.inl x5), some (.inl (x3 + ((x4 - x3) / 2)))] [] v2.2
          refine ia_go hK ck_Wa_greatestLoad_62 ?_
          show K 15 [some (.inr (.inr 311)), some (.inl x1), some (.inl x2), some (.inl (x3 + ((x4 - x3) / 2))), some (.inl x4), some (.inl (x5 + 1)), some (.inl (x3 + ((x4 - x3) / 2)))] [] v2.2
          refine ia_fg hK (lv' := [some (.inr (.inr 311)), some (.inl x1), some (.inl x2), some (.inl (x3 + ((x4 - x3) / 2))), some (.inl x4), some (.inl (x5 + 1)), none]) ⟨rfl, rfl, rfl, rfl, rfl, rfl, trivial⟩ ?_
          exact ih (x3 + ((x4 - x3) / 2)) x4 (x5 + 1) v2.2 gv2 hm
theorem gl_Wa_greatestLoad_15 {w : ia_O0} {x1 : Int32} {x2 : Int32} {r : Int32} {h1 : ia_H} {k68 : Int32 → ia_H → Option (Int32 × ia_H)} (hk68 : ∀ (x3 : Int32) (h : ia_H), gd_ w h → k68 x3 h = some (r, h1) → gd_ w h1) : ∀ (n : Nat) (x3 : Int32) (x4 : Int32) (x5 : Int32) (h : ia_H), gd_ w h → l_Wa_greatestLoad_15 x1 x2 k68 n x3 x4 x5 h = some (r, h1) → gd_ w h1 := by
  intro n
  induction n with
  | zero =>
    intro x3 x4 x5 h hg hm
    cases (show (none : Option (Int32 × ia_H)) = some _ from hm)
  | succ n ih =>
    intro x3 x4 x5 h hg hm
    rw [l_Wa_greatestLoad_15] at hm
    by_cases c : 14 ≤ x5
    · replace hm := ia_ifp hm c
      exact hk68 x3 h hg hm
    · replace hm := ia_ifn hm c
      by_cases c : x4 ≤ (x3 + 1)
      · replace hm := ia_ifp hm c
        exact hk68 x3 h hg hm
      · replace hm := ia_ifn hm c
        obtain ⟨v2, hv2, hm⟩ := ia_bnd hm
        have gv2 := g_Wa_measure hg hv2
        by_cases c : v2.1 = (-1)
        · replace hm := ia_ifp hm c
          exact ih x3 (x3 + ((x4 - x3) / 2)) (x5 + 1) v2.2 gv2 hm
        · replace hm := ia_ifn hm c
          exact ih (x3 + ((x4 - x3) / 2)) x4 (x5 + 1) v2.2 gv2 hm
def f_Wa_greatestLoad (x1 : Int32) (x2 : Int32) (h : ia_H) : Option (Int32 × ia_H) := ia_gd (ia_ib x2 36) (l_Wa_greatestLoad_15 x1 x2 (fun x3 h => some (x3, h)) fu_ 0 ((ia_i h 313 ((x2).toNatClampNeg)) + 1) 0 h)
theorem g_Wa_greatestLoad {w : ia_O0} {x1 : Int32} {x2 : Int32} {h : ia_H} (hg : gd_ w h) {q : (Int32 × ia_H)} (hm : f_Wa_greatestLoad x1 x2 h = some q) : gd_ w q.2 := by
  obtain ⟨r, h1⟩ := q
  unfold f_Wa_greatestLoad at hm
  obtain ⟨c1, hm⟩ := ia_gd_some hm
  refine gl_Wa_greatestLoad_15 ?_ fu_ 0 ((ia_i h 313 ((x2).toNatClampNeg)) + 1) 0 h hg hm
  · intro x3 h hg hm
    obtain ⟨rfl, rfl⟩ := Prod.mk.inj (Option.some.inj hm)
    exact hg
theorem t_Wa_greatestLoad {w : ia_O0} (d : Nat) {x1 : Int32} {x2 : Int32} {h : ia_H} (hg : gd_ w h) {q : (Int32 × ia_H)} (hm : f_Wa_greatestLoad x1 x2 h = some q) : ia_Ev (d + 2) mm_Wa_greatestLoad [.inr (.inr 311), .inl x1, .inl x2] h (some (.inl q.1)) q.2 := by
  have gq := g_Wa_greatestLoad hg hm
  refine ia_Ev_intro ok_Wa_greatestLoad (gd_le hg gq).1 (gd_le hg gq).2 (Nat.le_of_ble_eq_true rfl) (fun K hK hret => ?_)
  obtain ⟨r, h1⟩ := q
  show K 0 [some (.inr (.inr 311)), some (.inl x1), some (.inl x2), none, none, none, none] [] h
  unfold f_Wa_greatestLoad at hm
  obtain ⟨c1, hm⟩ := ia_gd_some hm
  refine ia_go hK ck_Wa_greatestLoad_0 ⟨gk_11 hg pk_311, gr_11_6 hg pk_311, ga_i100 hg (ka_11_6 pk_311) c1, ?_⟩
  show K 15 [some (.inr (.inr 311)), some (.inl x1), some (.inl x2), some (.inl 0), some (.inl ((ia_i h 313 ((x2).toNatClampNeg)) + 1)), some (.inl 0), none] [] h
  refine tl_Wa_greatestLoad_15 hK hret ?_ fu_ 0 ((ia_i h 313 ((x2).toNatClampNeg)) + 1) 0 h hg hm
  · intro x3 h hg hm
    refine ia_go hK ck_Wa_greatestLoad_68 ?_
    show K 69 [none, none, none, some (.inl x3), none, none, none] [.inl x3] h
    obtain ⟨rfl, rfl⟩ := Prod.mk.inj (Option.some.inj hm)
    exact hret 69 _ dc_Wa_greatestLoad_69
def mm_Wa_findSpare : ia_M := (⟨"IceStreet$Ways", "findSpare", "(III)Z"⟩, prog_12_method_9_code, 5, (some .boolean), 11, false)
theorem ok_Wa_findSpare : ia_mok mm_Wa_findSpare := ⟨by decide +kernel, by decide +kernel, by decide +kernel, by decide +kernel⟩
theorem mk_Wa_findSpare : ia_mkn mm_Wa_findSpare 1 3 := ⟨ia_tb_in (List.mem_of_getElem? (i := 1235) (by decide +kernel)) rfl, ia_tb_in (List.mem_of_getElem? (i := 141) (by decide +kernel)) rfl, by decide +kernel, by decide +kernel, ⟨ia_tb_in (List.mem_of_getElem? (i := 1234) (by decide +kernel)) rfl, ia_tb_in (List.mem_of_getElem? (i := 34) (by decide +kernel)) rfl⟩⟩
theorem ck_Wa_findSpare_0 : ia_cks 11 5 false prog_12_method_9_code 0 [(.aload_n 0, 0, 0, 0, 0), (.iload_n 2, 0, 0, 0, 0), (.iload_n 3, 0, 0, 0, 0)] = true := by decide +kernel
theorem ck_Wa_findSpare_6 : ia_cks 11 5 false prog_12_method_9_code 6 [(.istore 4, 0, 0, 0, 0), (.aload_n 0, 0, 0, 0, 0), (.iload 4, 0, 0, 0, 0), (.iload_n 1, 0, 0, 0, 0), (.isub, 0, 0, 0, 0), (.putfield 110, 11, 1, 0, 0), (.iload 4, 0, 0, 0, 0), (.iload_n 1, 0, 0, 0, 0), (.if_icmp .lt 18, 0, 0, 0, 0)] = true := by decide +kernel
theorem ck_Wa_findSpare_37 : ia_cks 11 5 false prog_12_method_9_code 37 [(.iconst 0, 0, 0, 0, 0)] = true := by decide +kernel
theorem ck_Wa_findSpare_22 : ia_cks 11 5 false prog_12_method_9_code 22 [(.aload_n 0, 0, 0, 0, 0), (.iload 4, 0, 0, 0, 0), (.iload_n 2, 0, 0, 0, 0), (.iload_n 3, 0, 0, 0, 0)] = true := by decide +kernel
theorem ck_Wa_findSpare_30 : ia_cks 11 5 false prog_12_method_9_code 30 [(.ifCond .eq 7, 0, 0, 0, 0)] = true := by decide +kernel
theorem ck_Wa_findSpare_33 : ia_cks 11 5 false prog_12_method_9_code 33 [(.iconst 1, 0, 0, 0, 0), (.goto 4, 0, 0, 0, 0)] = true := by decide +kernel
theorem dc_Wa_findSpare_3 : decode prog_12_method_9_code 3 = .ok (.invokevirtual 107, 3) := by decide +kernel
theorem dc_Wa_findSpare_38 : decode prog_12_method_9_code 38 = .ok (.ireturn, 1) := by decide +kernel
theorem dc_Wa_findSpare_27 : decode prog_12_method_9_code 27 = .ok (.invokevirtual 73, 3) := by decide +kernel
def f_Wa_findSpare (x1 : Int32) (x2 : Int32) (x3 : Int32) (h : ia_H) : Option (Int32 × ia_H) := (f_Wa_greatestLoad x2 x3 h).bind fun v1 => (if v1.1 < x1 then (some (0, ia_wI v1.2 311 1 (v1.1 - x1))) else ((f_Wa_findShort v1.1 x2 x3 (ia_wI v1.2 311 1 (v1.1 - x1))).bind fun v2 => (if v2.1 = 0 then (some (0, v2.2)) else (some (1, v2.2)))))
theorem g_Wa_findSpare {w : ia_O0} {x1 : Int32} {x2 : Int32} {x3 : Int32} {h : ia_H} (hg : gd_ w h) {q : (Int32 × ia_H)} (hm : f_Wa_findSpare x1 x2 x3 h = some q) : gd_ w q.2 := by
  obtain ⟨r, h1⟩ := q
  unfold f_Wa_findSpare at hm
  obtain ⟨v1, hv1, hm⟩ := ia_bnd hm
  have gv1 := g_Wa_greatestLoad hg hv1
  by_cases c : v1.1 < x1
  · replace hm := ia_ifp hm c
    obtain ⟨rfl, rfl⟩ := Prod.mk.inj (Option.some.inj hm)
    exact (gd_wI gv1 (ko_11 pk_311))
  · replace hm := ia_ifn hm c
    obtain ⟨v2, hv2, hm⟩ := ia_bnd hm
    have gv2 := g_Wa_findShort (gd_wI gv1 (ko_11 pk_311)) hv2
    by_cases c : v2.1 = 0
    · replace hm := ia_ifp hm c
      obtain ⟨rfl, rfl⟩ := Prod.mk.inj (Option.some.inj hm)
      exact gv2
    · replace hm := ia_ifn hm c
      obtain ⟨rfl, rfl⟩ := Prod.mk.inj (Option.some.inj hm)
      exact gv2
theorem t_Wa_findSpare {w : ia_O0} (d : Nat) {x1 : Int32} {x2 : Int32} {x3 : Int32} {h : ia_H} (hg : gd_ w h) {q : (Int32 × ia_H)} (hm : f_Wa_findSpare x1 x2 x3 h = some q) : ia_Ev (d + 3) mm_Wa_findSpare [.inr (.inr 311), .inl x1, .inl x2, .inl x3] h (some (.inl q.1)) q.2 := by
  have gq := g_Wa_findSpare hg hm
  refine ia_Ev_intro ok_Wa_findSpare (gd_le hg gq).1 (gd_le hg gq).2 (Nat.le_of_ble_eq_true rfl) (fun K hK hret => ?_)
  obtain ⟨r, h1⟩ := q
  show K 0 [some (.inr (.inr 311)), some (.inl x1), some (.inl x2), some (.inl x3), none] [] h
  unfold f_Wa_findSpare at hm
  refine ia_go hK ck_Wa_findSpare_0 ?_
  show K 3 [some (.inr (.inr 311)), some (.inl x1), some (.inl x2), some (.inl x3), none] [.inl x3, .inl x2, .inr (.inr 311)] h
  obtain ⟨v1, hv1, hm⟩ := ia_bnd hm
  have ev1 := t_Wa_greatestLoad (d + 0) hg hv1
  have gv1 := g_Wa_greatestLoad hg hv1
  refine ia_cV hK mk_Wa_greatestLoad lk_11_107 dc_Wa_findSpare_3 311 [.inl x2, .inl x3] [] rfl rfl (Nat.le_of_ble_eq_true rfl) (by decide) rfl (gk_11 hg pk_311) ev1 (gd_nm hg gv1) ?_
  show K 6 [some (.inr (.inr 311)), some (.inl x1), some (.inl x2), some (.inl x3), none] [.inl v1.1] v1.2
  refine ia_go hK ck_Wa_findSpare_6 ⟨gk_11 gv1 pk_311, fun c => ?_, fun c => ?_⟩
  · replace hm := ia_ifp hm c
    show K 37 [some (.inr (.inr 311)), some (.inl x1), some (.inl x2), some (.inl x3), some (.inl v1.1)] [] (ia_wI v1.2 311 1 (v1.1 - x1))
    refine ia_go hK ck_Wa_findSpare_37 ?_
    show K 38 [some (.inr (.inr 311)), some (.inl x1), some (.inl x2), some (.inl x3), some (.inl v1.1)] [.inl 0] (ia_wI v1.2 311 1 (v1.1 - x1))
    obtain ⟨rfl, rfl⟩ := Prod.mk.inj (Option.some.inj hm)
    exact hret 38 _ ⟨Or.inl rfl, dc_Wa_findSpare_38⟩
  · replace hm := ia_ifn hm c
    show K 22 [some (.inr (.inr 311)), some (.inl x1), some (.inl x2), some (.inl x3), some (.inl v1.1)] [] (ia_wI v1.2 311 1 (v1.1 - x1))
    refine ia_go hK ck_Wa_findSpare_22 ?_
    show K 27 [some (.inr (.inr 311)), some (.inl x1), some (.inl x2), some (.inl x3), some (.inl v1.1)] [.inl x3, .inl x2, .inl v1.1, .inr (.inr 311)] (ia_wI v1.2 311 1 (v1.1 - x1))
    obtain ⟨v2, hv2, hm⟩ := ia_bnd hm
    have ev2 := t_Wa_findShort (d + 0) (gd_wI gv1 (ko_11 pk_311)) hv2
    have gv2 := g_Wa_findShort (gd_wI gv1 (ko_11 pk_311)) hv2
    refine ia_cV hK mk_Wa_findShort lk_11_73 dc_Wa_findSpare_27 311 [.inl v1.1, .inl x2, .inl x3] [] rfl rfl (Nat.le_of_ble_eq_true rfl) (by decide) rfl (gk_11 (gd_wI gv1 (ko_11 pk_311)) pk_311) ev2 (gd_nm (gd_wI gv1 (ko_11 pk_311)) gv2) ?_
    show K 30 [some (.inr (.inr 311)), some (.inl x1), some (.inl x2), some (.inl x3), some (.inl v1.1)] [.inl v2.1] v2.2
    refine ia_go hK ck_Wa_findSpare_30 ⟨fun c => ?_, fun c => ?_⟩
    · replace hm := ia_ifp hm c
      show K 37 [some (.inr (.inr 311)), some (.inl x1), some (.inl x2), some (.inl x3), some (.inl v1.1)] [] v2.2
      refine ia_go hK ck_Wa_findSpare_37 ?_
      show K 38 [some (.inr (.inr 311)), some (.inl x1), some (.inl x2), some (.inl x3), some (.inl v1.1)] [.inl 0] v2.2
      obtain ⟨rfl, rfl⟩ := Prod.mk.inj (Option.some.inj hm)
      exact hret 38 _ ⟨Or.inl rfl, dc_Wa_findSpare_38⟩
    · replace hm := ia_ifn hm c
      show K 33 [some (.inr (.inr 311)), some (.inl x1), some (.inl x2), some (.inl x3), some (.inl v1.1)] [] v2.2
      refine ia_go hK ck_Wa_findSpare_33 ?_
      show K 38 [some (.inr (.inr 311)), some (.inl x1), some (.inl x2), some (.inl x3), some (.inl v1.1)] [.inl 1] v2.2
      obtain ⟨rfl, rfl⟩ := Prod.mk.inj (Option.some.inj hm)
      exact hret 38 _ ⟨Or.inr rfl, dc_Wa_findSpare_38⟩
def mm_Wa_luckBy : ia_M := (⟨"IceStreet$Ways", "luckBy", "(IIII)I"⟩, prog_12_method_12_code, 6, (some .int), 11, false)
theorem ok_Wa_luckBy : ia_mok mm_Wa_luckBy := ⟨by decide +kernel, by decide +kernel, by decide +kernel, by decide +kernel⟩
theorem mk_Wa_luckBy : ia_mkn mm_Wa_luckBy 1 4 := ⟨ia_tb_in (List.mem_of_getElem? (i := 1251) (by decide +kernel)) rfl, ia_tb_in (List.mem_of_getElem? (i := 141) (by decide +kernel)) rfl, by decide +kernel, by decide +kernel, ⟨ia_tb_in (List.mem_of_getElem? (i := 1250) (by decide +kernel)) rfl, ia_tb_in (List.mem_of_getElem? (i := 37) (by decide +kernel)) rfl⟩⟩
theorem ck_Wa_luckBy_0 : ia_cks 11 6 false prog_12_method_12_code 0 [(.aload_n 0, 0, 0, 0, 0), (.getfield 29, 11, 4, 2, 0), (.getfield 94, 3, 16, 3, 10), (.iload_n 2, 0, 0, 0, 0), (.iconst 4, 0, 0, 0, 0), (.imul, 0, 0, 0, 0), (.iload_n 3, 0, 0, 0, 0), (.iadd, 0, 0, 0, 0), (.iaload, 0, 0, 0, 0), (.istore 5, 0, 0, 0, 0), (.iload 5, 0, 0, 0, 0), (.iconst (-1), 0, 0, 0, 0), (.if_icmp .eq 25, 0, 0, 0, 0)] = true := by decide +kernel
theorem ck_Wa_luckBy_43 : ia_cks 11 6 false prog_12_method_12_code 43 [(.iconst 0, 0, 0, 0, 0)] = true := by decide +kernel
theorem ck_Wa_luckBy_21 : ia_cks 11 6 false prog_12_method_12_code 21 [(.aload_n 0, 0, 0, 0, 0), (.getfield 15, 11, 6, 3, 2), (.iload 5, 0, 0, 0, 0), (.iaload, 0, 0, 0, 0), (.iload 4, 0, 0, 0, 0), (.if_icmp .lt 13, 0, 0, 0, 0)] = true := by decide +kernel
theorem ck_Wa_luckBy_33 : ia_cks 11 6 false prog_12_method_12_code 33 [(.aload_n 0, 0, 0, 0, 0), (.iload_n 2, 0, 0, 0, 0), (.iload 5, 0, 0, 0, 0)] = true := by decide +kernel
theorem ck_Wa_luckBy_40 : ia_cks 11 6 false prog_12_method_12_code 40 [(.ifCond .ne 5, 0, 0, 0, 0)] = true := by decide +kernel
theorem ck_Wa_luckBy_45 : ia_cks 11 6 false prog_12_method_12_code 45 [(.bipush 10, 0, 0, 0, 0), (.aload_n 0, 0, 0, 0, 0), (.getfield 29, 11, 4, 2, 0), (.getfield 137, 3, 5, 3, 3), (.iload 5, 0, 0, 0, 0), (.iaload, 0, 0, 0, 0), (.isub, 0, 0, 0, 0), (.aload_n 0, 0, 0, 0, 0), (.getfield 26, 11, 9, 3, 5), (.iload_n 1, 0, 0, 0, 0), (.iconst 1, 0, 0, 0, 0), (.isub, 0, 0, 0, 0), (.aaload, 117, 1, 0, 0), (.iload 5, 0, 0, 0, 0), (.iaload, 0, 0, 0, 0), (.imul, 0, 0, 0, 0)] = true := by decide +kernel
theorem dc_Wa_luckBy_44 : decode prog_12_method_12_code 44 = .ok (.ireturn, 1) := by decide +kernel
theorem dc_Wa_luckBy_37 : decode prog_12_method_12_code 37 = .ok (.invokevirtual 97, 3) := by decide +kernel
theorem dc_Wa_luckBy_70 : decode prog_12_method_12_code 70 = .ok (.ireturn, 1) := by decide +kernel
def f_Wa_luckBy (x1 : Int32) (x2 : Int32) (x3 : Int32) (x4 : Int32) (h : ia_H) : Option Int32 := ia_gd (ia_ib ((x2 * 4) + x3) 144) (if (ia_i h ((ia_r h 311 4) + 10) (((x2 * 4) + x3).toNatClampNeg)) = (-1) then (some 0) else (ia_gd (ia_ib (ia_i h ((ia_r h 311 4) + 10) (((x2 * 4) + x3).toNatClampNeg)) 36) (if (ia_i h 313 ((ia_i h ((ia_r h 311 4) + 10) (((x2 * 4) + x3).toNatClampNeg)).toNatClampNeg)) < x4 then (some 0) else ((f_Wa_mayStep x2 (ia_i h ((ia_r h 311 4) + 10) (((x2 * 4) + x3).toNatClampNeg)) h).bind fun v3 => (if v3 = 0 then (some 0) else (ia_gd (ia_ib (ia_i h ((ia_r h 311 4) + 10) (((x2 * 4) + x3).toNatClampNeg)) 36) (ia_gd (ia_ib (x1 - 1) 8) (ia_gd (ia_ib (ia_i h ((ia_r h 311 4) + 10) (((x2 * 4) + x3).toNatClampNeg)) 36) (some ((10 - (ia_i h ((ia_r h 311 4) + 3) ((ia_i h ((ia_r h 311 4) + 10) (((x2 * 4) + x3).toNatClampNeg)).toNatClampNeg))) * (ia_i h (316 + 1 + 1 * (x1 - 1).toNatClampNeg) ((ia_i h ((ia_r h 311 4) + 10) (((x2 * 4) + x3).toNatClampNeg)).toNatClampNeg))))))))))))
theorem t_Wa_luckBy {w : ia_O0} (d : Nat) {x1 : Int32} {x2 : Int32} {x3 : Int32} {x4 : Int32} {h : ia_H} (hg : gd_ w h) {r : Int32} (hm : f_Wa_luckBy x1 x2 x3 x4 h = some r) : ia_Ev (d + 1) mm_Wa_luckBy [.inr (.inr 311), .inl x1, .inl x2, .inl x3, .inl x4] h (some (.inl r)) h := by
  refine ia_Ev_intro ok_Wa_luckBy (Nat.le_refl _) (Nat.le_refl _) (Nat.le_of_ble_eq_true rfl) (fun K hK hret => ?_)
  show K 0 [some (.inr (.inr 311)), some (.inl x1), some (.inl x2), some (.inl x3), some (.inl x4), none] [] h
  unfold f_Wa_luckBy at hm
  obtain ⟨c1, hm⟩ := ia_gd_some hm
  refine ia_go hK ck_Wa_luckBy_0 ⟨gk_11 hg pk_311, gk_3 hg (gm_11_4 hg pk_311), gr_3_16 hg (gm_11_4 hg pk_311), ga_i100 hg (ka_3_16 (gm_11_4 hg pk_311)) c1, fun c => ?_, fun c => ?_⟩
  · replace hm := ia_ifp hm c
    show K 43 [some (.inr (.inr 311)), some (.inl x1), some (.inl x2), some (.inl x3), some (.inl x4), some (.inl (ia_i h ((ia_r h 311 4) + 10) (((x2 * 4) + x3).toNatClampNeg)))] [] h
    refine ia_go hK ck_Wa_luckBy_43 ?_
    show K 44 [some (.inr (.inr 311)), some (.inl x1), some (.inl x2), some (.inl x3), some (.inl x4), some (.inl (ia_i h ((ia_r h 311 4) + 10) (((x2 * 4) + x3).toNatClampNeg)))] [.inl 0] h
    obtain rfl := Option.some.inj hm
    exact hret 44 _ dc_Wa_luckBy_44
  · replace hm := ia_ifn hm c
    show K 21 [some (.inr (.inr 311)), some (.inl x1), some (.inl x2), some (.inl x3), some (.inl x4), some (.inl (ia_i h ((ia_r h 311 4) + 10) (((x2 * 4) + x3).toNatClampNeg)))] [] h
    obtain ⟨c2, hm⟩ := ia_gd_some hm
    refine ia_go hK ck_Wa_luckBy_21 ⟨gk_11 hg pk_311, gr_11_6 hg pk_311, ga_i100 hg (ka_11_6 pk_311) c2, fun c => ?_, fun c => ?_⟩
    · replace hm := ia_ifp hm c
      show K 43 [some (.inr (.inr 311)), some (.inl x1), some (.inl x2), some (.inl x3), some (.inl x4), some (.inl (ia_i h ((ia_r h 311 4) + 10) (((x2 * 4) + x3).toNatClampNeg)))] [] h
      refine ia_go hK ck_Wa_luckBy_43 ?_
      show K 44 [some (.inr (.inr 311)), some (.inl x1), some (.inl x2), some (.inl x3), some (.inl x4), some (.inl (ia_i h ((ia_r h 311 4) + 10) (((x2 * 4) + x3).toNatClampNeg)))] [.inl 0] h
      obtain rfl := Option.some.inj hm
      exact hret 44 _ dc_Wa_luckBy_44
    · replace hm := ia_ifn hm c
      show K 33 [some (.inr (.inr 311)), some (.inl x1), some (.inl x2), some (.inl x3), some (.inl x4), some (.inl (ia_i h ((ia_r h 311 4) + 10) (((x2 * 4) + x3).toNatClampNeg)))] [] h
      refine ia_go hK ck_Wa_luckBy_33 ?_
      show K 37 [some (.inr (.inr 311)), some (.inl x1), some (.inl x2), some (.inl x3), some (.inl x4), some (.inl (ia_i h ((ia_r h 311 4) + 10) (((x2 * 4) + x3).toNatClampNeg)))] [.inl (ia_i h ((ia_r h 311 4) + 10) (((x2 * 4) + x3).toNatClampNeg)), .inl x2, .inr (.inr 311)] h
      obtain ⟨v3, hv3, hm⟩ := ia_bnd hm
      have ev3 := t_Wa_mayStep (d + 0) hg hv3
      refine ia_cV hK mk_Wa_mayStep lk_11_97 dc_Wa_luckBy_37 311 [.inl x2, .inl (ia_i h ((ia_r h 311 4) + 10) (((x2 * 4) + x3).toNatClampNeg))] [] rfl rfl (Nat.le_of_ble_eq_true rfl) (by decide) rfl (gk_11 hg pk_311) ev3 ⟨rfl, rfl⟩ ?_
      show K 40 [some (.inr (.inr 311)), some (.inl x1), some (.inl x2), some (.inl x3), some (.inl x4), some (.inl (ia_i h ((ia_r h 311 4) + 10) (((x2 * 4) + x3).toNatClampNeg)))] [.inl v3] h
      refine ia_go hK ck_Wa_luckBy_40 ⟨fun c => ?_, fun c => ?_⟩
      · replace hm := ia_ifn hm c
        show K 45 [some (.inr (.inr 311)), some (.inl x1), some (.inl x2), some (.inl x3), some (.inl x4), some (.inl (ia_i h ((ia_r h 311 4) + 10) (((x2 * 4) + x3).toNatClampNeg)))] [] h
        obtain ⟨c4, hm⟩ := ia_gd_some hm
        obtain ⟨c5, hm⟩ := ia_gd_some hm
        obtain ⟨c6, hm⟩ := ia_gd_some hm
        refine ia_go hK ck_Wa_luckBy_45 ⟨gk_11 hg pk_311, gk_3 hg (gm_11_4 hg pk_311), gr_3_5 hg (gm_11_4 hg pk_311), ga_i100 hg (ka_3_5 (gm_11_4 hg pk_311)) c4, gk_11 hg pk_311, gr_11_9 hg pk_311, ga_r117 hg (ka_11_9 pk_311) c5, ga_i100 hg (ke_117 (ka_11_9 pk_311) c5) c6, ?_⟩
        show K 70 [some (.inr (.inr 311)), some (.inl x1), some (.inl x2), some (.inl x3), some (.inl x4), some (.inl (ia_i h ((ia_r h 311 4) + 10) (((x2 * 4) + x3).toNatClampNeg)))] [.inl ((10 - (ia_i h ((ia_r h 311 4) + 3) ((ia_i h ((ia_r h 311 4) + 10) (((x2 * 4) + x3).toNatClampNeg)).toNatClampNeg))) * (ia_i h (316 + 1 + 1 * (x1 - 1).toNatClampNeg) ((ia_i h ((ia_r h 311 4) + 10) (((x2 * 4) + x3).toNatClampNeg)).toNatClampNeg)))] h
        obtain rfl := Option.some.inj hm
        exact hret 70 _ dc_Wa_luckBy_70
      · replace hm := ia_ifp hm c
        show K 43 [some (.inr (.inr 311)), some (.inl x1), some (.inl x2), some (.inl x3), some (.inl x4), some (.inl (ia_i h ((ia_r h 311 4) + 10) (((x2 * 4) + x3).toNatClampNeg)))] [] h
        refine ia_go hK ck_Wa_luckBy_43 ?_
        show K 44 [some (.inr (.inr 311)), some (.inl x1), some (.inl x2), some (.inl x3), some (.inl x4), some (.inl (ia_i h ((ia_r h 311 4) + 10) (((x2 * 4) + x3).toNatClampNeg)))] [.inl 0] h
        obtain rfl := Option.some.inj hm
        exact hret 44 _ dc_Wa_luckBy_44
def mm_Wa_bestLuck : ia_M := (⟨"IceStreet$Ways", "bestLuck", "(III)I"⟩, prog_12_method_11_code, 6, (some .int), 11, false)
theorem ok_Wa_bestLuck : ia_mok mm_Wa_bestLuck := ⟨by decide +kernel, by decide +kernel, by decide +kernel, by decide +kernel⟩
theorem mk_Wa_bestLuck : ia_mkn mm_Wa_bestLuck 1 3 := ⟨ia_tb_in (List.mem_of_getElem? (i := 1247) (by decide +kernel)) rfl, ia_tb_in (List.mem_of_getElem? (i := 141) (by decide +kernel)) rfl, by decide +kernel, by decide +kernel, ⟨ia_tb_in (List.mem_of_getElem? (i := 1246) (by decide +kernel)) rfl, ia_tb_in (List.mem_of_getElem? (i := 36) (by decide +kernel)) rfl⟩⟩
theorem ck_Wa_bestLuck_0 : ia_cks 11 6 false prog_12_method_11_code 0 [(.iconst 0, 0, 0, 0, 0), (.istore 4, 0, 0, 0, 0), (.iconst 0, 0, 0, 0, 0), (.istore 5, 0, 0, 0, 0)] = true := by decide +kernel
theorem ck_Wa_bestLuck_6 : ia_cks 11 6 false prog_12_method_11_code 6 [(.iload 5, 0, 0, 0, 0), (.iconst 4, 0, 0, 0, 0), (.if_icmp .ge 25, 0, 0, 0, 0)] = true := by decide +kernel
theorem ck_Wa_bestLuck_12 : ia_cks 11 6 false prog_12_method_11_code 12 [(.iload 4, 0, 0, 0, 0), (.aload_n 0, 0, 0, 0, 0), (.iload_n 1, 0, 0, 0, 0), (.iload_n 2, 0, 0, 0, 0), (.iload 5, 0, 0, 0, 0), (.iload_n 3, 0, 0, 0, 0)] = true := by decide +kernel
theorem ck_Wa_bestLuck_26 : ia_cks 11 6 false prog_12_method_11_code 26 [(.istore 4, 0, 0, 0, 0), (.iinc 5 1, 0, 0, 0, 0), (.goto (-25), 0, 0, 0, 0)] = true := by decide +kernel
theorem ck_Wa_bestLuck_34 : ia_cks 11 6 false prog_12_method_11_code 34 [(.iload 4, 0, 0, 0, 0)] = true := by decide +kernel
theorem dc_Wa_bestLuck_20 : decode prog_12_method_11_code 20 = .ok (.invokevirtual 128, 3) := by decide +kernel
theorem dc_Wa_bestLuck_23 : decode prog_12_method_11_code 23 = .ok (.invokestatic 132, 3) := by decide +kernel
theorem dc_Wa_bestLuck_36 : decode prog_12_method_11_code 36 = .ok (.ireturn, 1) := by decide +kernel
def l_Wa_bestLuck_6 (x1 : Int32) (x2 : Int32) (x3 : Int32) (h : ia_H) (k34 : Int32 → Option Int32) (n : Nat) (x4 : Int32) (x5 : Int32) : Option Int32 := match n with
  | 0 => none
  | n + 1 => if 4 ≤ x5 then (k34 x4) else ((f_Wa_luckBy x1 x2 x5 x3 h).bind fun v1 => (l_Wa_bestLuck_6 x1 x2 x3 h k34 n (ia_max x4 v1) (x5 + 1)))
theorem tl_Wa_bestLuck_6 {w : ia_O0} {d N1 W1 : Nat} {K : ia_K} (hK : ia_isK (d + 2) mm_Wa_bestLuck N1 W1 K) {x1 : Int32} {x2 : Int32} {x3 : Int32} {h : ia_H} (hg : gd_ w h) {r : Int32} (hret : ∀ (pc : Nat) (lv : ia_L), ia_ret mm_Wa_bestLuck pc (some (.inl r)) → K pc lv ((some (.inl r)) : Option ia_V).toList h) {k34 : Int32 → Option Int32} (hk34 : ∀ (x4 : Int32), k34 x4 = some r → K 34 [none, none, none, none, some (.inl x4), none] [] h) : ∀ (n : Nat) (x4 : Int32) (x5 : Int32), l_Wa_bestLuck_6 x1 x2 x3 h k34 n x4 x5 = some r → K 6 [some (.inr (.inr 311)), some (.inl x1), some (.inl x2), some (.inl x3), some (.inl x4), some (.inl x5)] [] h := by
  intro n
  induction n with
  | zero =>
    intro x4 x5 hm
    cases (show (none : Option Int32) = some _ from hm)
  | succ n ih =>
    intro x4 x5 hm
    rw [l_Wa_bestLuck_6] at hm
    refine ia_go hK ck_Wa_bestLuck_6 ⟨fun c => ?_, fun c => ?_⟩
    · replace hm := ia_ifp hm c
      show K 34 [some (.inr (.inr 311)), some (.inl x1), some (.inl x2), some (.inl x3), some (.inl x4), some (.inl x5)] [] h
      refine ia_fg hK (lv' := [none, none, none, none, some (.inl x4), none]) ⟨rfl, trivial⟩ ?_
      exact hk34 x4 hm
    · replace hm := ia_ifn hm c
      show K 12 [some (.inr (.inr 311)), some (.inl x1), some (.inl x2), some (.inl x3), some (.inl x4), some (.inl x5)] [] h
      refine ia_go hK ck_Wa_bestLuck_12 ?_
      show K 20 [some (.inr (.inr 311)), some (.inl x1), some (.inl x2), some (.inl x3), some (.inl x4), some (.inl x5)] [.inl x3, .inl x5, .inl x2, .inl x1, .inr (.inr 311), .inl x4] h
      obtain ⟨v1, hv1, hm⟩ := ia_bnd hm
      have ev1 := t_Wa_luckBy (d + 0) hg hv1
      refine ia_cV hK mk_Wa_luckBy lk_11_128 dc_Wa_bestLuck_20 311 [.inl x1, .inl x2, .inl x5, .inl x3] [.inl x4] rfl rfl (Nat.le_of_ble_eq_true rfl) (by decide) rfl (gk_11 hg pk_311) ev1 ⟨rfl, rfl⟩ ?_
      show K 23 [some (.inr (.inr 311)), some (.inl x1), some (.inl x2), some (.inl x3), some (.inl x4), some (.inl x5)] [.inl v1, .inl x4] h
      refine ia_mmax hK (ia_tb_in (List.mem_of_getElem? (i := 1252) (by decide +kernel)) rfl) dc_Wa_bestLuck_23 (Nat.le_of_ble_eq_true rfl) ?_
      show K 26 [some (.inr (.inr 311)), some (.inl x1), some (.inl x2), some (.inl x3), some (.inl x4), some (.inl x5)] [.inl (ia_max x4 v1)] h
      refine ia_go hK ck_Wa_bestLuck_26 ?_
      show K 6 [some (.inr (.inr 311)), some (.inl x1), some (.inl x2), some (.inl x3), some (.inl (ia_max x4 v1)), some (.inl (x5 + 1))] [] h
      exact ih (ia_max x4 v1) (x5 + 1) hm
def f_Wa_bestLuck (x1 : Int32) (x2 : Int32) (x3 : Int32) (h : ia_H) : Option Int32 := l_Wa_bestLuck_6 x1 x2 x3 h (fun x4 => some x4) fu_ 0 0
theorem t_Wa_bestLuck {w : ia_O0} (d : Nat) {x1 : Int32} {x2 : Int32} {x3 : Int32} {h : ia_H} (hg : gd_ w h) {r : Int32} (hm : f_Wa_bestLuck x1 x2 x3 h = some r) : ia_Ev (d + 2) mm_Wa_bestLuck [.inr (.inr 311), .inl x1, .inl x2, .inl x3] h (some (.inl r)) h := by
  refine ia_Ev_intro ok_Wa_bestLuck (Nat.le_refl _) (Nat.le_refl _) (Nat.le_of_ble_eq_true rfl) (fun K hK hret => ?_)
  show K 0 [some (.inr (.inr 311)), some (.inl x1), some (.inl x2), some (.inl x3), none, none] [] h
  unfold f_Wa_bestLuck at hm
  refine ia_go hK ck_Wa_bestLuck_0 ?_
  show K 6 [some (.inr (.inr 311)), some (.inl x1), some (.inl x2), some (.inl x3), some (.inl 0), some (.inl 0)] [] h
  refine tl_Wa_bestLuck_6 hK hg hret ?_ fu_ 0 0 hm
  · intro x4 hm
    refine ia_go hK ck_Wa_bestLuck_34 ?_
    show K 36 [none, none, none, none, some (.inl x4), none] [.inl x4] h
    obtain rfl := Option.some.inj hm
    exact hret 36 _ dc_Wa_bestLuck_36
def mm_Wa_inParts : ia_M := (⟨"IceStreet$Ways", "inParts", "(II)J"⟩, prog_12_method_13_code, 5, (some .long), 11, false)
theorem ok_Wa_inParts : ia_mok mm_Wa_inParts := ⟨by decide +kernel, by decide +kernel, by decide +kernel, by decide +kernel⟩
theorem mk_Wa_inParts : ia_mkn mm_Wa_inParts 0 2 := ⟨ia_tb_in (List.mem_of_getElem? (i := 1255) (by decide +kernel)) rfl, ia_tb_in (List.mem_of_getElem? (i := 141) (by decide +kernel)) rfl, by decide +kernel, by decide +kernel, ia_tb_in (List.mem_of_getElem? (i := 1254) (by decide +kernel)) rfl⟩
theorem ck_Wa_inParts_0 : ia_cks 11 5 false prog_12_method_13_code 0 [(.iload_n 0, 0, 0, 0, 0), (.i2l, 0, 0, 0, 0), (.lstore_n 2, 0, 0, 0, 0), (.iload_n 1, 0, 0, 0, 0), (.istore 4, 0, 0, 0, 0)] = true := by decide +kernel
theorem ck_Wa_inParts_6 : ia_cks 11 5 false prog_12_method_13_code 6 [(.iload 4, 0, 0, 0, 0), (.bipush 7, 0, 0, 0, 0), (.if_icmp .ge 15, 0, 0, 0, 0)] = true := by decide +kernel
theorem ck_Wa_inParts_13 : ia_cks 11 5 false prog_12_method_13_code 13 [(.lload_n 2, 0, 0, 0, 0)] = true := by decide +kernel
theorem ck_Wa_inParts_17 : ia_cks 11 5 false prog_12_method_13_code 17 [(.lmul, 0, 0, 0, 0), (.lstore_n 2, 0, 0, 0, 0), (.iinc 4 1, 0, 0, 0, 0), (.goto (-16), 0, 0, 0, 0)] = true := by decide +kernel
theorem ck_Wa_inParts_25 : ia_cks 11 5 false prog_12_method_13_code 25 [(.lload_n 2, 0, 0, 0, 0)] = true := by decide +kernel
theorem dc_Wa_inParts_14 : decode prog_12_method_13_code 14 = .ok (.ldc2_w 140, 3) := by decide +kernel
theorem dc_Wa_inParts_26 : decode prog_12_method_13_code 26 = .ok (.lreturn, 1) := by decide +kernel
def l_Wa_inParts_6 (x0 : Int32) (x1 : Int32) (h : ia_H) (k25 : Int64 → Option Int64) (n : Nat) (y2 : Int64) (x4 : Int32) : Option Int64 := match n with
  | 0 => none
  | n + 1 => if 7 ≤ x4 then (k25 y2) else (l_Wa_inParts_6 x0 x1 h k25 n (y2 * 10) (x4 + 1))
theorem tl_Wa_inParts_6 {w : ia_O0} {d N1 W1 : Nat} {K : ia_K} (hK : ia_isK (d + 0) mm_Wa_inParts N1 W1 K) {x0 : Int32} {x1 : Int32} {h : ia_H} (hg : gd_ w h) {r : Int64} (hret : ∀ (pc : Nat) (lv : ia_L), ia_ret mm_Wa_inParts pc (some (.inr (.inl r))) → K pc lv ((some (.inr (.inl r))) : Option ia_V).toList h) {k25 : Int64 → Option Int64} (hk25 : ∀ (y2 : Int64), k25 y2 = some r → K 25 [none, none, some (.inr (.inl y2)), none, none] [] h) : ∀ (n : Nat) (y2 : Int64) (x4 : Int32), l_Wa_inParts_6 x0 x1 h k25 n y2 x4 = some r → K 6 [none, none, some (.inr (.inl y2)), none, some (.inl x4)] [] h := by
  intro n
  induction n with
  | zero =>
    intro y2 x4 hm
    cases (show (none : Option Int64) = some _ from hm)
  | succ n ih =>
    intro y2 x4 hm
    rw [l_Wa_inParts_6] at hm
    refine ia_go hK ck_Wa_inParts_6 ⟨fun c => ?_, fun c => ?_⟩
    · replace hm := ia_ifp hm c
      show K 25 [none, none, some (.inr (.inl y2)), none, some (.inl x4)] [] h
      refine ia_fg hK (lv' := [none, none, some (.inr (.inl y2)), none, none]) ⟨rfl, trivial⟩ ?_
      exact hk25 y2 hm
    · replace hm := ia_ifn hm c
      show K 13 [none, none, some (.inr (.inl y2)), none, some (.inl x4)] [] h
      refine ia_go hK ck_Wa_inParts_13 ?_
      show K 14 [none, none, some (.inr (.inl y2)), none, some (.inl x4)] [.inr (.inl y2)] h
      refine ia_ldc2 hK (v := 10) (ia_tb_in (List.mem_of_getElem? (i := 1256) (by decide +kernel)) rfl) dc_Wa_inParts_14 ?_
      show K 17 [none, none, some (.inr (.inl y2)), none, some (.inl x4)] [.inr (.inl 10), .inr (.inl y2)] h
      refine ia_go hK ck_Wa_inParts_17 ?_
      show K 6 [none, none, some (.inr (.inl (y2 * 10))), none, some (.inl (x4 + 1))] [] h
      exact ih (y2 * 10) (x4 + 1) hm
def f_Wa_inParts (x0 : Int32) (x1 : Int32) (h : ia_H) : Option Int64 := l_Wa_inParts_6 x0 x1 h (fun y2 => some y2) fu_ x0.toInt64 x1
theorem t_Wa_inParts {w : ia_O0} (d : Nat) {x0 : Int32} {x1 : Int32} {h : ia_H} (hg : gd_ w h) {r : Int64} (hm : f_Wa_inParts x0 x1 h = some r) : ia_Ev (d + 0) mm_Wa_inParts [.inl x0, .inl x1] h (some (.inr (.inl r))) h := by
  refine ia_Ev_intro ok_Wa_inParts (Nat.le_refl _) (Nat.le_refl _) (Nat.le_of_ble_eq_true rfl) (fun K hK hret => ?_)
  show K 0 [some (.inl x0), some (.inl x1), none, none, none] [] h
  unfold f_Wa_inParts at hm
  refine ia_go hK ck_Wa_inParts_0 ?_
  show K 6 [some (.inl x0), some (.inl x1), some (.inr (.inl x0.toInt64)), none, some (.inl x1)] [] h
  refine ia_fg hK (lv' := [none, none, some (.inr (.inl x0.toInt64)), none, some (.inl x1)]) ⟨rfl, rfl, trivial⟩ ?_
  refine tl_Wa_inParts_6 hK hg hret ?_ fu_ x0.toInt64 x1 hm
  · intro y2 hm
    refine ia_go hK ck_Wa_inParts_25 ?_
    show K 26 [none, none, some (.inr (.inl y2)), none, none] [.inr (.inl y2)] h
    obtain rfl := Option.some.inj hm
    exact hret 26 _ dc_Wa_inParts_26
def mm_Wa_followLuck : ia_M := (⟨"IceStreet$Ways", "followLuck", "(III)V"⟩, prog_12_method_14_code, 7, none, 11, false)
theorem ok_Wa_followLuck : ia_mok mm_Wa_followLuck := ⟨by decide +kernel, by decide +kernel, by decide +kernel, by decide +kernel⟩
theorem mk_Wa_followLuck : ia_mkn mm_Wa_followLuck 1 3 := ⟨ia_tb_in (List.mem_of_getElem? (i := 1260) (by decide +kernel)) rfl, ia_tb_in (List.mem_of_getElem? (i := 141) (by decide +kernel)) rfl, by decide +kernel, by decide +kernel, ⟨ia_tb_in (List.mem_of_getElem? (i := 1259) (by decide +kernel)) rfl, ia_tb_in (List.mem_of_getElem? (i := 38) (by decide +kernel)) rfl⟩⟩
theorem ck_Wa_followLuck_0 : ia_cks 11 7 false prog_12_method_14_code 0 [(.aload_n 0, 0, 0, 0, 0), (.getfield 9, 11, 3, 3, 1), (.iconst 0, 0, 0, 0, 0), (.iload_n 2, 0, 0, 0, 0), (.iastore, 0, 0, 0, 0), (.aload_n 0, 0, 0, 0, 0), (.iconst 1, 0, 0, 0, 0), (.putfield 87, 11, 0, 0, 0), (.iload_n 3, 0, 0, 0, 0), (.istore 4, 0, 0, 0, 0)] = true := by decide +kernel
theorem ck_Wa_followLuck_15 : ia_cks 11 7 false prog_12_method_14_code 15 [(.iload 4, 0, 0, 0, 0), (.ifCond .le 101, 0, 0, 0, 0)] = true := by decide +kernel
theorem ck_Wa_followLuck_20 : ia_cks 11 7 false prog_12_method_14_code 20 [(.aload_n 0, 0, 0, 0, 0), (.getfield 87, 11, 0, 0, 0), (.bipush 36, 0, 0, 0, 0), (.if_icmp .ge 92, 0, 0, 0, 0)] = true := by decide +kernel
theorem ck_Wa_followLuck_29 : ia_cks 11 7 false prog_12_method_14_code 29 [(.aload_n 0, 0, 0, 0, 0), (.getfield 9, 11, 3, 3, 1), (.aload_n 0, 0, 0, 0, 0), (.getfield 87, 11, 0, 0, 0), (.iconst 1, 0, 0, 0, 0), (.isub, 0, 0, 0, 0), (.iaload, 0, 0, 0, 0), (.istore 5, 0, 0, 0, 0), (.iconst 0, 0, 0, 0, 0), (.istore 6, 0, 0, 0, 0)] = true := by decide +kernel
theorem ck_Wa_followLuck_45 : ia_cks 11 7 false prog_12_method_14_code 45 [(.iload 6, 0, 0, 0, 0), (.iconst 3, 0, 0, 0, 0), (.if_icmp .ge 33, 0, 0, 0, 0)] = true := by decide +kernel
theorem ck_Wa_followLuck_51 : ia_cks 11 7 false prog_12_method_14_code 51 [(.aload_n 0, 0, 0, 0, 0), (.iload 4, 0, 0, 0, 0), (.iload 5, 0, 0, 0, 0), (.iload 6, 0, 0, 0, 0), (.iload_n 1, 0, 0, 0, 0)] = true := by decide +kernel
theorem ck_Wa_followLuck_62 : ia_cks 11 7 false prog_12_method_14_code 62 [(.aload_n 0, 0, 0, 0, 0), (.getfield 26, 11, 9, 3, 5), (.iload 4, 0, 0, 0, 0), (.aaload, 117, 1, 0, 0), (.iload 5, 0, 0, 0, 0), (.iaload, 0, 0, 0, 0), (.if_icmp .eq 9, 0, 0, 0, 0)] = true := by decide +kernel
theorem ck_Wa_followLuck_75 : ia_cks 11 7 false prog_12_method_14_code 75 [(.iinc 6 1, 0, 0, 0, 0), (.goto (-33), 0, 0, 0, 0)] = true := by decide +kernel
theorem ck_Wa_followLuck_81 : ia_cks 11 7 false prog_12_method_14_code 81 [(.aload_n 0, 0, 0, 0, 0), (.getfield 9, 11, 3, 3, 1), (.aload_n 0, 0, 0, 0, 0), (.dup, 0, 0, 0, 0), (.getfield 87, 11, 0, 0, 0), (.dup_x1, 0, 0, 0, 0), (.iconst 1, 0, 0, 0, 0), (.iadd, 0, 0, 0, 0), (.putfield 87, 11, 0, 0, 0), (.aload_n 0, 0, 0, 0, 0), (.getfield 29, 11, 4, 2, 0), (.getfield 94, 3, 16, 3, 10), (.iload 5, 0, 0, 0, 0), (.iconst 4, 0, 0, 0, 0), (.imul, 0, 0, 0, 0), (.iload 6, 0, 0, 0, 0), (.iadd, 0, 0, 0, 0), (.iaload, 0, 0, 0, 0), (.iastore, 0, 0, 0, 0), (.iinc 4 (-1), 0, 0, 0, 0), (.goto (-100), 0, 0, 0, 0)] = true := by decide +kernel
theorem dc_Wa_followLuck_59 : decode prog_12_method_14_code 59 = .ok (.invokevirtual 128, 3) := by decide +kernel
theorem dc_Wa_followLuck_118 : decode prog_12_method_14_code 118 = .ok (.return_, 1) := by decide +kernel
def l_Wa_followLuck_45 (x1 : Int32) (x2 : Int32) (x3 : Int32) (k81 : Int32 → Int32 → Int32 → ia_H → Option ia_H) (n : Nat) (x4 : Int32) (x5 : Int32) (x6 : Int32) (h : ia_H) : Option ia_H := match n with
  | 0 => none
  | n + 1 => if 3 ≤ x6 then (k81 x4 x5 x6 h) else ((f_Wa_luckBy x4 x5 x6 x1 h).bind fun v2 => (ia_gd (ia_ib x4 8) (ia_gd (ia_ib x5 36) (if v2 = (ia_i h (316 + 1 + 1 * (x4).toNatClampNeg) ((x5).toNatClampNeg)) then (k81 x4 x5 x6 h) else (l_Wa_followLuck_45 x1 x2 x3 k81 n x4 x5 (x6 + 1) h)))))
theorem tl_Wa_followLuck_45 {w : ia_O0} {d N1 W1 : Nat} {K : ia_K} (hK : ia_isK (d + 2) mm_Wa_followLuck N1 W1 K) {x1 : Int32} {x2 : Int32} {x3 : Int32} {h1 : ia_H} (hret : ∀ (pc : Nat) (lv : ia_L), ia_ret mm_Wa_followLuck pc none → K pc lv (none : Option ia_V).toList h1) {k81 : Int32 → Int32 → Int32 → ia_H → Option ia_H} (hk81 : ∀ (x4 : Int32) (x5 : Int32) (x6 : Int32) (h : ia_H), gd_ w h → k81 x4 x5 x6 h = some h1 → K 81 [some (.inr (.inr 311)), some (.inl x1), none, none, some (.inl x4), some (.inl x5), some (.inl x6)] [] h) : ∀ (n : Nat) (x4 : Int32) (x5 : Int32) (x6 : Int32) (h : ia_H), gd_ w h → l_Wa_followLuck_45 x1 x2 x3 k81 n x4 x5 x6 h = some h1 → K 45 [some (.inr (.inr 311)), some (.inl x1), none, none, some (.inl x4), some (.inl x5), some (.inl x6)] [] h := by
  intro n
  induction n with
  | zero =>
    intro x4 x5 x6 h hg hm
    cases (show (none : Option ia_H) = some _ from hm)
  | succ n ih =>
    intro x4 x5 x6 h hg hm
    rw [l_Wa_followLuck_45] at hm
    refine ia_go hK ck_Wa_followLuck_45 ⟨fun c => ?_, fun c => ?_⟩
    · replace hm := ia_ifp hm c
      show K 81 [some (.inr (.inr 311)), some (.inl x1), none, none, some (.inl x4), some (.inl x5), some (.inl x6)] [] h
      exact hk81 x4 x5 x6 h hg hm
    · replace hm := ia_ifn hm c
      show K 51 [some (.inr (.inr 311)), some (.inl x1), none, none, some (.inl x4), some (.inl x5), some (.inl x6)] [] h
      refine ia_go hK ck_Wa_followLuck_51 ?_
      show K 59 [some (.inr (.inr 311)), some (.inl x1), none, none, some (.inl x4), some (.inl x5), some (.inl x6)] [.inl x1, .inl x6, .inl x5, .inl x4, .inr (.inr 311)] h
      obtain ⟨v2, hv2, hm⟩ := ia_bnd hm
      have ev2 := t_Wa_luckBy (d + 0) hg hv2
      refine ia_cV hK mk_Wa_luckBy lk_11_128 dc_Wa_followLuck_59 311 [.inl x4, .inl x5, .inl x6, .inl x1] [] rfl rfl (Nat.le_of_ble_eq_true rfl) (by decide) rfl (gk_11 hg pk_311) ev2 ⟨rfl, rfl⟩ ?_
      show K 62 [some (.inr (.inr 311)), some (.inl x1), none, none, some (.inl x4), some (.inl x5), some (.inl x6)] [.inl v2] h
      obtain ⟨c3, hm⟩ := ia_gd_some hm
      obtain ⟨c4, hm⟩ := ia_gd_some hm
      refine ia_go hK ck_Wa_followLuck_62 ⟨gk_11 hg pk_311, gr_11_9 hg pk_311, ga_r117 hg (ka_11_9 pk_311) c3, ga_i100 hg (ke_117 (ka_11_9 pk_311) c3) c4, fun c => ?_, fun c => ?_⟩
      · replace hm := ia_ifp hm c
        show K 81 [some (.inr (.inr 311)), some (.inl x1), none, none, some (.inl x4), some (.inl x5), some (.inl x6)] [] h
        exact hk81 x4 x5 x6 h hg hm
      · replace hm := ia_ifn hm c
        show K 75 [some (.inr (.inr 311)), some (.inl x1), none, none, some (.inl x4), some (.inl x5), some (.inl x6)] [] h
        refine ia_go hK ck_Wa_followLuck_75 ?_
        show K 45 [some (.inr (.inr 311)), some (.inl x1), none, none, some (.inl x4), some (.inl x5), some (.inl (x6 + 1))] [] h
        exact ih x4 x5 (x6 + 1) h hg hm
theorem gl_Wa_followLuck_45 {w : ia_O0} {x1 : Int32} {x2 : Int32} {x3 : Int32} {h1 : ia_H} {k81 : Int32 → Int32 → Int32 → ia_H → Option ia_H} (hk81 : ∀ (x4 : Int32) (x5 : Int32) (x6 : Int32) (h : ia_H), gd_ w h → k81 x4 x5 x6 h = some h1 → gd_ w h1) : ∀ (n : Nat) (x4 : Int32) (x5 : Int32) (x6 : Int32) (h : ia_H), gd_ w h → l_Wa_followLuck_45 x1 x2 x3 k81 n x4 x5 x6 h = some h1 → gd_ w h1 := by
  intro n
  induction n with
  | zero =>
    intro x4 x5 x6 h hg hm
    cases (show (none : Option ia_H) = some _ from hm)
  | succ n ih =>
    intro x4 x5 x6 h hg hm
    rw [l_Wa_followLuck_45] at hm
    by_cases c : 3 ≤ x6
    · replace hm := ia_ifp hm c
      exact hk81 x4 x5 x6 h hg hm
    · replace hm := ia_ifn hm c
      obtain ⟨v2, hv2, hm⟩ := ia_bnd hm
      obtain ⟨c3, hm⟩ := ia_gd_some hm
      obtain ⟨c4, hm⟩ := ia_gd_some hm
      by_cases c : v2 = (ia_i h (316 + 1 + 1 * (x4).toNatClampNeg) ((x5).toNatClampNeg))
      · replace hm := ia_ifp hm c
        exact hk81 x4 x5 x6 h hg hm
      · replace hm := ia_ifn hm c
        exact ih x4 x5 (x6 + 1) h hg hm
def j_Wa_followLuck_81 (x1 : Int32) (x2 : Int32) (x3 : Int32) (kr : Int32 → ia_H → Option ia_H) (k118 : ia_H → Option ia_H) (x4 : Int32) (x5 : Int32) (x6 : Int32) (h : ia_H) : Option ia_H := ia_gd (ia_ib ((x5 * 4) + x6) 144) (ia_gd (ia_ib (ia_i h 311 0) 36) (kr (x4 + (-1)) (ia_wI (ia_wI h 311 0 ((ia_i h 311 0) + 1)) 312 ((ia_i h 311 0).toNatClampNeg) (ia_i (ia_wI h 311 0 ((ia_i h 311 0) + 1)) ((ia_r (ia_wI h 311 0 ((ia_i h 311 0) + 1)) 311 4) + 10) (((x5 * 4) + x6).toNatClampNeg)))))
theorem tj_Wa_followLuck_81 {w : ia_O0} {d N1 W1 : Nat} {K : ia_K} (hK : ia_isK (d + 2) mm_Wa_followLuck N1 W1 K) {x1 : Int32} {x2 : Int32} {x3 : Int32} {h1 : ia_H} (hret : ∀ (pc : Nat) (lv : ia_L), ia_ret mm_Wa_followLuck pc none → K pc lv (none : Option ia_V).toList h1) {kr : Int32 → ia_H → Option ia_H} {k118 : ia_H → Option ia_H} (hkr : ∀ (x4 : Int32) (h : ia_H), gd_ w h → kr x4 h = some h1 → K 15 [some (.inr (.inr 311)), some (.inl x1), none, none, some (.inl x4), none, none] [] h) (hk118 : ∀ (h : ia_H), gd_ w h → k118 h = some h1 → K 118 [none, none, none, none, none, none, none] [] h) : ∀ (x4 : Int32) (x5 : Int32) (x6 : Int32) (h : ia_H), gd_ w h → j_Wa_followLuck_81 x1 x2 x3 kr k118 x4 x5 x6 h = some h1 → K 81 [some (.inr (.inr 311)), some (.inl x1), none, none, some (.inl x4), some (.inl x5), some (.inl x6)] [] h := by
  intro x4 x5 x6 h hg hm
  unfold j_Wa_followLuck_81 at hm
  obtain ⟨c5, hm⟩ := ia_gd_some hm
  obtain ⟨c6, hm⟩ := ia_gd_some hm
  refine ia_go hK ck_Wa_followLuck_81 ⟨gk_11 hg pk_311, gr_11_3 hg pk_311, gk_11 hg pk_311, gk_11 hg pk_311, gk_11 (gd_wI hg (ko_11 pk_311)) pk_311, gk_3 (gd_wI hg (ko_11 pk_311)) (gm_11_4 (gd_wI hg (ko_11 pk_311)) pk_311), gr_3_16 (gd_wI hg (ko_11 pk_311)) (gm_11_4 (gd_wI hg (ko_11 pk_311)) pk_311), ga_i100 (gd_wI hg (ko_11 pk_311)) (ka_3_16 (gm_11_4 (gd_wI hg (ko_11 pk_311)) pk_311)) c5, ga_s100 (gd_wI hg (ko_11 pk_311)) (ka_11_3 pk_311) c6, ?_⟩
  show K 15 [some (.inr (.inr 311)), some (.inl x1), none, none, some (.inl (x4 + (-1))), some (.inl x5), some (.inl x6)] [] (ia_wI (ia_wI h 311 0 ((ia_i h 311 0) + 1)) 312 ((ia_i h 311 0).toNatClampNeg) (ia_i (ia_wI h 311 0 ((ia_i h 311 0) + 1)) ((ia_r (ia_wI h 311 0 ((ia_i h 311 0) + 1)) 311 4) + 10) (((x5 * 4) + x6).toNatClampNeg)))
  refine ia_fg hK (lv' := [some (.inr (.inr 311)), some (.inl x1), none, none, some (.inl (x4 + (-1))), none, none]) ⟨rfl, rfl, rfl, trivial⟩ ?_
  exact hkr (x4 + (-1)) (ia_wI (ia_wI h 311 0 ((ia_i h 311 0) + 1)) 312 ((ia_i h 311 0).toNatClampNeg) (ia_i (ia_wI h 311 0 ((ia_i h 311 0) + 1)) ((ia_r (ia_wI h 311 0 ((ia_i h 311 0) + 1)) 311 4) + 10) (((x5 * 4) + x6).toNatClampNeg))) (gd_wI (gd_wI hg (ko_11 pk_311)) (kx_100 (ka_11_3 pk_311))) hm
theorem gj_Wa_followLuck_81 {w : ia_O0} {x1 : Int32} {x2 : Int32} {x3 : Int32} {h1 : ia_H} {kr : Int32 → ia_H → Option ia_H} {k118 : ia_H → Option ia_H} (hkr : ∀ (x4 : Int32) (h : ia_H), gd_ w h → kr x4 h = some h1 → gd_ w h1) (hk118 : ∀ (h : ia_H), gd_ w h → k118 h = some h1 → gd_ w h1) : ∀ (x4 : Int32) (x5 : Int32) (x6 : Int32) (h : ia_H), gd_ w h → j_Wa_followLuck_81 x1 x2 x3 kr k118 x4 x5 x6 h = some h1 → gd_ w h1 := by
  intro x4 x5 x6 h hg hm
  unfold j_Wa_followLuck_81 at hm
  obtain ⟨c5, hm⟩ := ia_gd_some hm
  obtain ⟨c6, hm⟩ := ia_gd_some hm
  exact hkr (x4 + (-1)) (ia_wI (ia_wI h 311 0 ((ia_i h 311 0) + 1)) 312 ((ia_i h 311 0).toNatClampNeg) (ia_i (ia_wI h 311 0 ((ia_i h 311 0) + 1)) ((ia_r (ia_wI h 311 0 ((ia_i h 311 0) + 1)) 311 4) + 10) (((x5 * 4) + x6).toNatClampNeg))) (gd_wI (gd_wI hg (ko_11 pk_311)) (kx_100 (ka_11_3 pk_311))) hm
def l_Wa_followLuck_15 (x1 : Int32) (x2 : Int32) (x3 : Int32) (k118 : ia_H → Option ia_H) (n : Nat) (x4 : Int32) (h : ia_H) : Option ia_H := match n with
  | 0 => none
  | n + 1 => if x4 ≤ 0 then (k118 h) else (if 36 ≤ (ia_i h 311 0) then (k118 h) else (ia_gd (ia_ib ((ia_i h 311 0) - 1) 36) (l_Wa_followLuck_45 x1 x2 x3 (fun x4 x5 x6 h => j_Wa_followLuck_81 x1 x2 x3 (l_Wa_followLuck_15 x1 x2 x3 k118 n) k118 x4 x5 x6 h) fu_ x4 (ia_i h 312 (((ia_i h 311 0) - 1).toNatClampNeg)) 0 h)))
theorem tl_Wa_followLuck_15 {w : ia_O0} {d N1 W1 : Nat} {K : ia_K} (hK : ia_isK (d + 2) mm_Wa_followLuck N1 W1 K) {x1 : Int32} {x2 : Int32} {x3 : Int32} {h1 : ia_H} (hret : ∀ (pc : Nat) (lv : ia_L), ia_ret mm_Wa_followLuck pc none → K pc lv (none : Option ia_V).toList h1) {k118 : ia_H → Option ia_H} (hk118 : ∀ (h : ia_H), gd_ w h → k118 h = some h1 → K 118 [none, none, none, none, none, none, none] [] h) : ∀ (n : Nat) (x4 : Int32) (h : ia_H), gd_ w h → l_Wa_followLuck_15 x1 x2 x3 k118 n x4 h = some h1 → K 15 [some (.inr (.inr 311)), some (.inl x1), none, none, some (.inl x4), none, none] [] h := by
  intro n
  induction n with
  | zero =>
    intro x4 h hg hm
    cases (show (none : Option ia_H) = some _ from hm)
  | succ n ih =>
    intro x4 h hg hm
    rw [l_Wa_followLuck_15] at hm
    refine ia_go hK ck_Wa_followLuck_15 ⟨fun c => ?_, fun c => ?_⟩
    · replace hm := ia_ifp hm c
      show K 118 [some (.inr (.inr 311)), some (.inl x1), none, none, some (.inl x4), none, none] [] h
      refine ia_fg hK (lv' := [none, none, none, none, none, none, none]) trivial ?_
      exact hk118 h hg hm
    · replace hm := ia_ifn hm c
      show K 20 [some (.inr (.inr 311)), some (.inl x1), none, none, some (.inl x4), none, none] [] h
      refine ia_go hK ck_Wa_followLuck_20 ⟨gk_11 hg pk_311, fun c => ?_, fun c => ?_⟩
      · replace hm := ia_ifp hm c
        show K 118 [some (.inr (.inr 311)), some (.inl x1), none, none, some (.inl x4), none, none] [] h
        refine ia_fg hK (lv' := [none, none, none, none, none, none, none]) trivial ?_
        exact hk118 h hg hm
      · replace hm := ia_ifn hm c
        show K 29 [some (.inr (.inr 311)), some (.inl x1), none, none, some (.inl x4), none, none] [] h
        obtain ⟨c1, hm⟩ := ia_gd_some hm
        refine ia_go hK ck_Wa_followLuck_29 ⟨gk_11 hg pk_311, gr_11_3 hg pk_311, gk_11 hg pk_311, ga_i100 hg (ka_11_3 pk_311) c1, ?_⟩
        show K 45 [some (.inr (.inr 311)), some (.inl x1), none, none, some (.inl x4), some (.inl (ia_i h 312 (((ia_i h 311 0) - 1).toNatClampNeg))), some (.inl 0)] [] h
        refine tl_Wa_followLuck_45 hK hret ?_ fu_ x4 (ia_i h 312 (((ia_i h 311 0) - 1).toNatClampNeg)) 0 h hg hm
        · intro x4 x5 x6 h hg hm
          exact tj_Wa_followLuck_81 hK hret ih hk118 x4 x5 x6 h hg hm
theorem gl_Wa_followLuck_15 {w : ia_O0} {x1 : Int32} {x2 : Int32} {x3 : Int32} {h1 : ia_H} {k118 : ia_H → Option ia_H} (hk118 : ∀ (h : ia_H), gd_ w h → k118 h = some h1 → gd_ w h1) : ∀ (n : Nat) (x4 : Int32) (h : ia_H), gd_ w h → l_Wa_followLuck_15 x1 x2 x3 k118 n x4 h = some h1 → gd_ w h1 := by
  intro n
  induction n with
  | zero =>
    intro x4 h hg hm
    cases (show (none : Option ia_H) = some _ from hm)
  | succ n ih =>
    intro x4 h hg hm
    rw [l_Wa_followLuck_15] at hm
    by_cases c : x4 ≤ 0
    · replace hm := ia_ifp hm c
      exact hk118 h hg hm
    · replace hm := ia_ifn hm c
      by_cases c : 36 ≤ (ia_i h 311 0)
      · replace hm := ia_ifp hm c
        exact hk118 h hg hm
      · replace hm := ia_ifn hm c
        obtain ⟨c1, hm⟩ := ia_gd_some hm
        refine gl_Wa_followLuck_45 ?_ fu_ x4 (ia_i h 312 (((ia_i h 311 0) - 1).toNatClampNeg)) 0 h hg hm
        · intro x4 x5 x6 h hg hm
          exact gj_Wa_followLuck_81 ih hk118 x4 x5 x6 h hg hm
def f_Wa_followLuck (x1 : Int32) (x2 : Int32) (x3 : Int32) (h : ia_H) : Option ia_H := l_Wa_followLuck_15 x1 x2 x3 (fun h => some h) fu_ x3 (ia_wI (ia_wI h 312 0 x2) 311 0 1)
theorem g_Wa_followLuck {w : ia_O0} {x1 : Int32} {x2 : Int32} {x3 : Int32} {h : ia_H} (hg : gd_ w h) {q : ia_H} (hm : f_Wa_followLuck x1 x2 x3 h = some q) : gd_ w q := by
  obtain ⟨h1, e1⟩ : ∃ x, x = q := ⟨_, rfl⟩
  subst e1
  unfold f_Wa_followLuck at hm
  refine gl_Wa_followLuck_15 ?_ fu_ x3 (ia_wI (ia_wI h 312 0 x2) 311 0 1) (gd_wI (gd_wI hg (kx_100 (ka_11_3 pk_311))) (ko_11 pk_311)) hm
  · intro h hg hm
    obtain rfl := Option.some.inj hm
    exact hg
theorem t_Wa_followLuck {w : ia_O0} (d : Nat) {x1 : Int32} {x2 : Int32} {x3 : Int32} {h : ia_H} (hg : gd_ w h) {q : ia_H} (hm : f_Wa_followLuck x1 x2 x3 h = some q) : ia_Ev (d + 2) mm_Wa_followLuck [.inr (.inr 311), .inl x1, .inl x2, .inl x3] h none q := by
  have gq := g_Wa_followLuck hg hm
  refine ia_Ev_intro ok_Wa_followLuck (gd_le hg gq).1 (gd_le hg gq).2 (Nat.le_of_ble_eq_true rfl) (fun K hK hret => ?_)
  obtain ⟨h1, e1⟩ : ∃ x, x = q := ⟨_, rfl⟩
  subst e1
  show K 0 [some (.inr (.inr 311)), some (.inl x1), some (.inl x2), some (.inl x3), none, none, none] [] h
  unfold f_Wa_followLuck at hm
  refine ia_go hK ck_Wa_followLuck_0 ⟨gk_11 hg pk_311, gr_11_3 hg pk_311, ga_s100 hg (ka_11_3 pk_311) (by decide), gk_11 (gd_wI hg (kx_100 (ka_11_3 pk_311))) pk_311, ?_⟩
  show K 15 [some (.inr (.inr 311)), some (.inl x1), some (.inl x2), some (.inl x3), some (.inl x3), none, none] [] (ia_wI (ia_wI h 312 0 x2) 311 0 1)
  refine ia_fg hK (lv' := [some (.inr (.inr 311)), some (.inl x1), none, none, some (.inl x3), none, none]) ⟨rfl, rfl, rfl, trivial⟩ ?_
  refine tl_Wa_followLuck_15 hK hret ?_ fu_ x3 (ia_wI (ia_wI h 312 0 x2) 311 0 1) (gd_wI (gd_wI hg (kx_100 (ka_11_3 pk_311))) (ko_11 pk_311)) hm
  · intro h hg hm
    obtain rfl := Option.some.inj hm
    exact hret 118 _ dc_Wa_followLuck_118
def mm_Wa_findLucky : ia_M := (⟨"IceStreet$Ways", "findLucky", "(III)Z"⟩, prog_12_method_10_code, 8, (some .boolean), 11, false)
theorem ok_Wa_findLucky : ia_mok mm_Wa_findLucky := ⟨by decide +kernel, by decide +kernel, by decide +kernel, by decide +kernel⟩
theorem mk_Wa_findLucky : ia_mkn mm_Wa_findLucky 1 3 := ⟨ia_tb_in (List.mem_of_getElem? (i := 1243) (by decide +kernel)) rfl, ia_tb_in (List.mem_of_getElem? (i := 141) (by decide +kernel)) rfl, by decide +kernel, by decide +kernel, ⟨ia_tb_in (List.mem_of_getElem? (i := 1242) (by decide +kernel)) rfl, ia_tb_in (List.mem_of_getElem? (i := 35) (by decide +kernel)) rfl⟩⟩
theorem ck_Wa_findLucky_0 : ia_cks 11 8 false prog_12_method_10_code 0 [(.aload_n 0, 0, 0, 0, 0), (.getfield 26, 11, 9, 3, 5), (.iconst 0, 0, 0, 0, 0), (.aaload, 117, 1, 0, 0), (.iconst 0, 0, 0, 0, 0)] = true := by decide +kernel
theorem ck_Wa_findLucky_10 : ia_cks 11 8 false prog_12_method_10_code 10 [(.aload_n 0, 0, 0, 0, 0), (.getfield 26, 11, 9, 3, 5), (.iconst 0, 0, 0, 0, 0), (.aaload, 117, 1, 0, 0), (.iload_n 3, 0, 0, 0, 0), (.aload_n 0, 0, 0, 0, 0), (.getfield 15, 11, 6, 3, 2), (.iload_n 3, 0, 0, 0, 0), (.iaload, 0, 0, 0, 0), (.iload_n 1, 0, 0, 0, 0), (.if_icmp .lt 7, 0, 0, 0, 0)] = true := by decide +kernel
theorem ck_Wa_findLucky_31 : ia_cks 11 8 false prog_12_method_10_code 31 [(.iconst 0, 0, 0, 0, 0)] = true := by decide +kernel
theorem ck_Wa_findLucky_32 : ia_cks 11 8 false prog_12_method_10_code 32 [(.iastore, 0, 0, 0, 0), (.aload_n 0, 0, 0, 0, 0), (.lconst 0, 0, 0, 0, 0), (.putfield 113, 11, 2, 1, 0), (.iconst 0, 0, 0, 0, 0), (.istore 4, 0, 0, 0, 0), (.iconst 1, 0, 0, 0, 0), (.istore 5, 0, 0, 0, 0)] = true := by decide +kernel
theorem ck_Wa_findLucky_44 : ia_cks 11 8 false prog_12_method_10_code 44 [(.iload 5, 0, 0, 0, 0), (.bipush 7, 0, 0, 0, 0), (.if_icmp .gt 85, 0, 0, 0, 0)] = true := by decide +kernel
theorem ck_Wa_findLucky_51 : ia_cks 11 8 false prog_12_method_10_code 51 [(.iconst 0, 0, 0, 0, 0), (.istore 6, 0, 0, 0, 0)] = true := by decide +kernel
theorem ck_Wa_findLucky_54 : ia_cks 11 8 false prog_12_method_10_code 54 [(.iload 6, 0, 0, 0, 0), (.aload_n 0, 0, 0, 0, 0), (.getfield 29, 11, 4, 2, 0)] = true := by decide +kernel
theorem ck_Wa_findLucky_63 : ia_cks 11 8 false prog_12_method_10_code 63 [(.if_icmp .ge 28, 0, 0, 0, 0)] = true := by decide +kernel
theorem ck_Wa_findLucky_66 : ia_cks 11 8 false prog_12_method_10_code 66 [(.aload_n 0, 0, 0, 0, 0), (.getfield 26, 11, 9, 3, 5), (.iload 5, 0, 0, 0, 0), (.aaload, 117, 1, 0, 0), (.iload 6, 0, 0, 0, 0), (.aload_n 0, 0, 0, 0, 0), (.iload 5, 0, 0, 0, 0), (.iload 6, 0, 0, 0, 0), (.iload_n 1, 0, 0, 0, 0)] = true := by decide +kernel
theorem ck_Wa_findLucky_84 : ia_cks 11 8 false prog_12_method_10_code 84 [(.iastore, 0, 0, 0, 0), (.iinc 6 1, 0, 0, 0, 0), (.goto (-34), 0, 0, 0, 0)] = true := by decide +kernel
theorem ck_Wa_findLucky_91 : ia_cks 11 8 false prog_12_method_10_code 91 [(.aload_n 0, 0, 0, 0, 0), (.getfield 26, 11, 9, 3, 5), (.iload 5, 0, 0, 0, 0), (.aaload, 117, 1, 0, 0), (.iload_n 2, 0, 0, 0, 0), (.iaload, 0, 0, 0, 0), (.iload 5, 0, 0, 0, 0)] = true := by decide +kernel
theorem ck_Wa_findLucky_105 : ia_cks 11 8 false prog_12_method_10_code 105 [(.lstore 6, 0, 0, 0, 0), (.lload 6, 0, 0, 0, 0), (.aload_n 0, 0, 0, 0, 0), (.getfield 113, 11, 2, 1, 0), (.lcmp, 0, 0, 0, 0), (.ifCond .le 13, 0, 0, 0, 0)] = true := by decide +kernel
theorem ck_Wa_findLucky_127 : ia_cks 11 8 false prog_12_method_10_code 127 [(.iinc 5 1, 0, 0, 0, 0), (.goto (-86), 0, 0, 0, 0)] = true := by decide +kernel
theorem ck_Wa_findLucky_117 : ia_cks 11 8 false prog_12_method_10_code 117 [(.aload_n 0, 0, 0, 0, 0), (.lload 6, 0, 0, 0, 0), (.putfield 113, 11, 2, 1, 0), (.iload 5, 0, 0, 0, 0), (.istore 4, 0, 0, 0, 0), (.iinc 5 1, 0, 0, 0, 0), (.goto (-86), 0, 0, 0, 0)] = true := by decide +kernel
theorem ck_Wa_findLucky_133 : ia_cks 11 8 false prog_12_method_10_code 133 [(.aload_n 0, 0, 0, 0, 0), (.getfield 113, 11, 2, 1, 0), (.lconst 0, 0, 0, 0, 0), (.lcmp, 0, 0, 0, 0), (.ifCond .ne 5, 0, 0, 0, 0)] = true := by decide +kernel
theorem ck_Wa_findLucky_144 : ia_cks 11 8 false prog_12_method_10_code 144 [(.aload_n 0, 0, 0, 0, 0), (.iload_n 1, 0, 0, 0, 0), (.iload_n 2, 0, 0, 0, 0), (.iload 4, 0, 0, 0, 0)] = true := by decide +kernel
theorem ck_Wa_findLucky_152 : ia_cks 11 8 false prog_12_method_10_code 152 [(.iconst 1, 0, 0, 0, 0)] = true := by decide +kernel
theorem ck_Wa_findLucky_142 : ia_cks 11 8 false prog_12_method_10_code 142 [(.iconst 0, 0, 0, 0, 0)] = true := by decide +kernel
theorem ck_Wa_findLucky_27 : ia_cks 11 8 false prog_12_method_10_code 27 [(.iconst 1, 0, 0, 0, 0), (.goto 4, 0, 0, 0, 0)] = true := by decide +kernel
theorem dc_Wa_findLucky_7 : decode prog_12_method_10_code 7 = .ok (.invokestatic 101, 3) := by decide +kernel
theorem dc_Wa_findLucky_60 : decode prog_12_method_10_code 60 = .ok (.invokevirtual 41, 3) := by decide +kernel
theorem dc_Wa_findLucky_81 : decode prog_12_method_10_code 81 = .ok (.invokevirtual 117, 3) := by decide +kernel
theorem dc_Wa_findLucky_102 : decode prog_12_method_10_code 102 = .ok (.invokestatic 120, 3) := by decide +kernel
theorem dc_Wa_findLucky_149 : decode prog_12_method_10_code 149 = .ok (.invokevirtual 124, 3) := by decide +kernel
theorem dc_Wa_findLucky_153 : decode prog_12_method_10_code 153 = .ok (.ireturn, 1) := by decide +kernel
theorem dc_Wa_findLucky_143 : decode prog_12_method_10_code 143 = .ok (.ireturn, 1) := by decide +kernel
def l_Wa_findLucky_54 (x1 : Int32) (x2 : Int32) (x3 : Int32) (k91 : Int32 → Int32 → ia_H → Option (Int32 × ia_H)) (n : Nat) (x4 : Int32) (x5 : Int32) (x6 : Int32) (h : ia_H) : Option (Int32 × ia_H) := match n with
  | 0 => none
  | n + 1 => (f_La_cells (ia_r h 311 4) h).bind fun v4 => (if v4 ≤ x6 then (k91 x4 x5 h) else (ia_gd (ia_ib x5 8) ((f_Wa_bestLuck x5 x6 x1 h).bind fun v6 => (ia_gd (ia_ib x6 36) (l_Wa_findLucky_54 x1 x2 x3 k91 n x4 x5 (x6 + 1) (ia_wI h (316 + 1 + 1 * (x5).toNatClampNeg) ((x6).toNatClampNeg) v6))))))
theorem tl_Wa_findLucky_54 {w : ia_O0} {d N1 W1 : Nat} {K : ia_K} (hK : ia_isK (d + 3) mm_Wa_findLucky N1 W1 K) {x1 : Int32} {x2 : Int32} {x3 : Int32} {r : Int32} {h1 : ia_H} (hret : ∀ (pc : Nat) (lv : ia_L), ia_ret mm_Wa_findLucky pc (some (.inl r)) → K pc lv ((some (.inl r)) : Option ia_V).toList h1) {k91 : Int32 → Int32 → ia_H → Option (Int32 × ia_H)} (hk91 : ∀ (x4 : Int32) (x5 : Int32) (h : ia_H), gd_ w h → k91 x4 x5 h = some (r, h1) → K 91 [some (.inr (.inr 311)), some (.inl x1), some (.inl x2), none, some (.inl x4), some (.inl x5), none, none] [] h) : ∀ (n : Nat) (x4 : Int32) (x5 : Int32) (x6 : Int32) (h : ia_H), gd_ w h → l_Wa_findLucky_54 x1 x2 x3 k91 n x4 x5 x6 h = some (r, h1) → K 54 [some (.inr (.inr 311)), some (.inl x1), some (.inl x2), none, some (.inl x4), some (.inl x5), some (.inl x6), none] [] h := by
  intro n
  induction n with
  | zero =>
    intro x4 x5 x6 h hg hm
    cases (show (none : Option (Int32 × ia_H)) = some _ from hm)
  | succ n ih =>
    intro x4 x5 x6 h hg hm
    rw [l_Wa_findLucky_54] at hm
    refine ia_go hK ck_Wa_findLucky_54 ⟨gk_11 hg pk_311, ?_⟩
    show K 60 [some (.inr (.inr 311)), some (.inl x1), some (.inl x2), none, some (.inl x4), some (.inl x5), some (.inl x6), none] [.inr (.inr (ia_r h 311 4)), .inl x6] h
    obtain ⟨v4, hv4, hm⟩ := ia_bnd hm
    have ev4 := t_La_cells (d + 2) hg (gm_11_4 hg pk_311) hv4
    refine ia_cV hK mk_La_cells lk_11_41 dc_Wa_findLucky_60 (ia_r h 311 4) [] [.inl x6] rfl rfl (Nat.le_of_ble_eq_true rfl) (by decide) rfl (gk_3 hg (gm_11_4 hg pk_311)) ev4 ⟨rfl, rfl⟩ ?_
    show K 63 [some (.inr (.inr 311)), some (.inl x1), some (.inl x2), none, some (.inl x4), some (.inl x5), some (.inl x6), none] [.inl v4, .inl x6] h
    refine ia_go hK ck_Wa_findLucky_63 ⟨fun c => ?_, fun c => ?_⟩
    · replace hm := ia_ifp hm c
      show K 91 [some (.inr (.inr 311)), some (.inl x1), some (.inl x2), none, some (.inl x4), some (.inl x5), some (.inl x6), none] [] h
      refine ia_fg hK (lv' := [some (.inr (.inr 311)), some (.inl x1), some (.inl x2), none, some (.inl x4), some (.inl x5), none, none]) ⟨rfl, rfl, rfl, rfl, rfl, trivial⟩ ?_
      exact hk91 x4 x5 h hg hm
    · replace hm := ia_ifn hm c
      show K 66 [some (.inr (.inr 311)), some (.inl x1), some (.inl x2), none, some (.inl x4), some (.inl x5), some (.inl x6), none] [] h
      obtain ⟨c5, hm⟩ := ia_gd_some hm
      refine ia_go hK ck_Wa_findLucky_66 ⟨gk_11 hg pk_311, gr_11_9 hg pk_311, ga_r117 hg (ka_11_9 pk_311) c5, ?_⟩
      show K 81 [some (.inr (.inr 311)), some (.inl x1), some (.inl x2), none, some (.inl x4), some (.inl x5), some (.inl x6), none] [.inl x1, .inl x6, .inl x5, .inr (.inr 311), .inl x6, .inr (.inr (316 + 1 + 1 * (x5).toNatClampNeg))] h
      obtain ⟨v6, hv6, hm⟩ := ia_bnd hm
      have ev6 := t_Wa_bestLuck (d + 0) hg hv6
      refine ia_cV hK mk_Wa_bestLuck lk_11_117 dc_Wa_findLucky_81 311 [.inl x5, .inl x6, .inl x1] [.inl x6, .inr (.inr (316 + 1 + 1 * (x5).toNatClampNeg))] rfl rfl (Nat.le_of_ble_eq_true rfl) (by decide) rfl (gk_11 hg pk_311) ev6 ⟨rfl, rfl⟩ ?_
      show K 84 [some (.inr (.inr 311)), some (.inl x1), some (.inl x2), none, some (.inl x4), some (.inl x5), some (.inl x6), none] [.inl v6, .inl x6, .inr (.inr (316 + 1 + 1 * (x5).toNatClampNeg))] h
      obtain ⟨c7, hm⟩ := ia_gd_some hm
      refine ia_go hK ck_Wa_findLucky_84 ⟨ga_s100 hg (ke_117 (ka_11_9 pk_311) c5) c7, ?_⟩
      show K 54 [some (.inr (.inr 311)), some (.inl x1), some (.inl x2), none, some (.inl x4), some (.inl x5), some (.inl (x6 + 1)), none] [] (ia_wI h (316 + 1 + 1 * (x5).toNatClampNeg) ((x6).toNatClampNeg) v6)
      exact ih x4 x5 (x6 + 1) (ia_wI h (316 + 1 + 1 * (x5).toNatClampNeg) ((x6).toNatClampNeg) v6) (gd_wI hg (kx_100 (ke_117 (ka_11_9 pk_311) c5))) hm
theorem gl_Wa_findLucky_54 {w : ia_O0} {x1 : Int32} {x2 : Int32} {x3 : Int32} {r : Int32} {h1 : ia_H} {k91 : Int32 → Int32 → ia_H → Option (Int32 × ia_H)} (hk91 : ∀ (x4 : Int32) (x5 : Int32) (h : ia_H), gd_ w h → k91 x4 x5 h = some (r, h1) → gd_ w h1) : ∀ (n : Nat) (x4 : Int32) (x5 : Int32) (x6 : Int32) (h : ia_H), gd_ w h → l_Wa_findLucky_54 x1 x2 x3 k91 n x4 x5 x6 h = some (r, h1) → gd_ w h1 := by
  intro n
  induction n with
  | zero =>
    intro x4 x5 x6 h hg hm
    cases (show (none : Option (Int32 × ia_H)) = some _ from hm)
  | succ n ih =>
    intro x4 x5 x6 h hg hm
    rw [l_Wa_findLucky_54] at hm
    obtain ⟨v4, hv4, hm⟩ := ia_bnd hm
    by_cases c : v4 ≤ x6
    · replace hm := ia_ifp hm c
      exact hk91 x4 x5 h hg hm
    · replace hm := ia_ifn hm c
      obtain ⟨c5, hm⟩ := ia_gd_some hm
      obtain ⟨v6, hv6, hm⟩ := ia_bnd hm
      obtain ⟨c7, hm⟩ := ia_gd_some hm
      exact ih x4 x5 (x6 + 1) (ia_wI h (316 + 1 + 1 * (x5).toNatClampNeg) ((x6).toNatClampNeg) v6) (gd_wI hg (kx_100 (ke_117 (ka_11_9 pk_311) c5))) hm
def l_Wa_findLucky_44 (x1 : Int32) (x2 : Int32) (x3 : Int32) (k133 : Int32 → ia_H → Option (Int32 × ia_H)) (n : Nat) (x4 : Int32) (x5 : Int32) (h : ia_H) : Option (Int32 × ia_H) := match n with
  | 0 => none
  | n + 1 => if 7 < x5 then (k133 x4 h) else (l_Wa_findLucky_54 x1 x2 x3 (fun x4 x5 h => ia_gd (ia_ib x5 8) (ia_gd (ia_ib x2 36) ((f_Wa_inParts (ia_i h (316 + 1 + 1 * (x5).toNatClampNeg) ((x2).toNatClampNeg)) x5 h).bind fun v10 => (if (lg_cmp v10 (ia_l h 311 2)) ≤ 0 then (l_Wa_findLucky_44 x1 x2 x3 k133 n x4 (x5 + 1) h) else (l_Wa_findLucky_44 x1 x2 x3 k133 n x5 (x5 + 1) (ia_wL h 311 2 v10)))))) fu_ x4 x5 0 h)
theorem tl_Wa_findLucky_44 {w : ia_O0} {d N1 W1 : Nat} {K : ia_K} (hK : ia_isK (d + 3) mm_Wa_findLucky N1 W1 K) {x1 : Int32} {x2 : Int32} {x3 : Int32} {r : Int32} {h1 : ia_H} (hret : ∀ (pc : Nat) (lv : ia_L), ia_ret mm_Wa_findLucky pc (some (.inl r)) → K pc lv ((some (.inl r)) : Option ia_V).toList h1) {k133 : Int32 → ia_H → Option (Int32 × ia_H)} (hk133 : ∀ (x4 : Int32) (h : ia_H), gd_ w h → k133 x4 h = some (r, h1) → K 133 [some (.inr (.inr 311)), some (.inl x1), some (.inl x2), none, some (.inl x4), none, none, none] [] h) : ∀ (n : Nat) (x4 : Int32) (x5 : Int32) (h : ia_H), gd_ w h → l_Wa_findLucky_44 x1 x2 x3 k133 n x4 x5 h = some (r, h1) → K 44 [some (.inr (.inr 311)), some (.inl x1), some (.inl x2), none, some (.inl x4), some (.inl x5), none, none] [] h := by
  intro n
  induction n with
  | zero =>
    intro x4 x5 h hg hm
    cases (show (none : Option (Int32 × ia_H)) = some _ from hm)
  | succ n ih =>
    intro x4 x5 h hg hm
    rw [l_Wa_findLucky_44] at hm
    refine ia_go hK ck_Wa_findLucky_44 ⟨fun c => ?_, fun c => ?_⟩
    · replace hm := ia_ifp hm c
      show K 133 [some (.inr (.inr 311)), some (.inl x1), some (.inl x2), none, some (.inl x4), some (.inl x5), none, none] [] h
      refine ia_fg hK (lv' := [some (.inr (.inr 311)), some (.inl x1), some (.inl x2), none, some (.inl x4), none, none, none]) ⟨rfl, rfl, rfl, rfl, trivial⟩ ?_
      exact hk133 x4 h hg hm
    · replace hm := ia_ifn hm c
      show K 51 [some (.inr (.inr 311)), some (.inl x1), some (.inl x2), none, some (.inl x4), some (.inl x5), none, none] [] h
      refine ia_go hK ck_Wa_findLucky_51 ?_
      show K 54 [some (.inr (.inr 311)), some (.inl x1), some (.inl x2), none, some (.inl x4), some (.inl x5), some (.inl 0), none] [] h
      refine tl_Wa_findLucky_54 hK hret ?_ fu_ x4 x5 0 h hg hm
      · intro x4 x5 h hg hm
        obtain ⟨c8, hm⟩ := ia_gd_some hm
        obtain ⟨c9, hm⟩ := ia_gd_some hm
        refine ia_go hK ck_Wa_findLucky_91 ⟨gk_11 hg pk_311, gr_11_9 hg pk_311, ga_r117 hg (ka_11_9 pk_311) c8, ga_i100 hg (ke_117 (ka_11_9 pk_311) c8) c9, ?_⟩
        show K 102 [some (.inr (.inr 311)), some (.inl x1), some (.inl x2), none, some (.inl x4), some (.inl x5), none, none] [.inl x5, .inl (ia_i h (316 + 1 + 1 * (x5).toNatClampNeg) ((x2).toNatClampNeg))] h
        obtain ⟨v10, hv10, hm⟩ := ia_bnd hm
        have ev10 := t_Wa_inParts (d + 2) hg hv10
        refine ia_cS hK mk_Wa_inParts lk_11_120 dc_Wa_findLucky_102 [.inl (ia_i h (316 + 1 + 1 * (x5).toNatClampNeg) ((x2).toNatClampNeg)), .inl x5] [] rfl rfl (Nat.le_of_ble_eq_true rfl) ev10 ⟨rfl, rfl⟩ ?_
        show K 105 [some (.inr (.inr 311)), some (.inl x1), some (.inl x2), none, some (.inl x4), some (.inl x5), none, none] [.inr (.inl v10)] h
        refine ia_go hK ck_Wa_findLucky_105 ⟨gk_11 hg pk_311, fun c => ?_, fun c => ?_⟩
        · replace hm := ia_ifp hm c
          show K 127 [some (.inr (.inr 311)), some (.inl x1), some (.inl x2), none, some (.inl x4), some (.inl x5), some (.inr (.inl v10)), none] [] h
          refine ia_go hK ck_Wa_findLucky_127 ?_
          show K 44 [some (.inr (.inr 311)), some (.inl x1), some (.inl x2), none, some (.inl x4), some (.inl (x5 + 1)), some (.inr (.inl v10)), none] [] h
          refine ia_fg hK (lv' := [some (.inr (.inr 311)), some (.inl x1), some (.inl x2), none, some (.inl x4), some (.inl (x5 + 1)), none, none]) ⟨rfl, rfl, rfl, rfl, rfl, trivial⟩ ?_
          exact ih x4 (x5 + 1) h hg hm
        · replace hm := ia_ifn hm c
          show K 117 [some (.inr (.inr 311)), some (.inl x1), some (.inl x2), none, some (.inl x4), some (.inl x5), some (.inr (.inl v10)), none] [] h
          refine ia_go hK ck_Wa_findLucky_117 ⟨gk_11 hg pk_311, ?_⟩
          show K 44 [some (.inr (.inr 311)), some (.inl x1), some (.inl x2), none, some (.inl x5), some (.inl (x5 + 1)), some (.inr (.inl v10)), none] [] (ia_wL h 311 2 v10)
          refine ia_fg hK (lv' := [some (.inr (.inr 311)), some (.inl x1), some (.inl x2), none, some (.inl x5), some (.inl (x5 + 1)), none, none]) ⟨rfl, rfl, rfl, rfl, rfl, trivial⟩ ?_
          exact ih x5 (x5 + 1) (ia_wL h 311 2 v10) (gd_wL hg) hm
theorem gl_Wa_findLucky_44 {w : ia_O0} {x1 : Int32} {x2 : Int32} {x3 : Int32} {r : Int32} {h1 : ia_H} {k133 : Int32 → ia_H → Option (Int32 × ia_H)} (hk133 : ∀ (x4 : Int32) (h : ia_H), gd_ w h → k133 x4 h = some (r, h1) → gd_ w h1) : ∀ (n : Nat) (x4 : Int32) (x5 : Int32) (h : ia_H), gd_ w h → l_Wa_findLucky_44 x1 x2 x3 k133 n x4 x5 h = some (r, h1) → gd_ w h1 := by
  intro n
  induction n with
  | zero =>
    intro x4 x5 h hg hm
    cases (show (none : Option (Int32 × ia_H)) = some _ from hm)
  | succ n ih =>
    intro x4 x5 h hg hm
    rw [l_Wa_findLucky_44] at hm
    by_cases c : 7 < x5
    · replace hm := ia_ifp hm c
      exact hk133 x4 h hg hm
    · replace hm := ia_ifn hm c
      refine gl_Wa_findLucky_54 ?_ fu_ x4 x5 0 h hg hm
      · intro x4 x5 h hg hm
        obtain ⟨c8, hm⟩ := ia_gd_some hm
        obtain ⟨c9, hm⟩ := ia_gd_some hm
        obtain ⟨v10, hv10, hm⟩ := ia_bnd hm
        by_cases c : (lg_cmp v10 (ia_l h 311 2)) ≤ 0
        · replace hm := ia_ifp hm c
          exact ih x4 (x5 + 1) h hg hm
        · replace hm := ia_ifn hm c
          exact ih x5 (x5 + 1) (ia_wL h 311 2 v10) (gd_wL hg) hm
def j_Wa_findLucky_32 (x1 : Int32) (x2 : Int32) (x3 : Int32) (b0 : Nat) (s1 : Int32) (s2 : Int32) (h : ia_H) : Option (Int32 × ia_H) := ia_gd (ia_ib s1 36) (l_Wa_findLucky_44 x1 x2 x3 (fun x4 h => if (lg_cmp (ia_l h 311 2) 0) = 0 then (some (0, h)) else ((f_Wa_followLuck x1 x2 x4 h).bind fun v11 => (some (1, v11)))) fu_ 0 1 (ia_wL (ia_wI h b0 ((s1).toNatClampNeg) s2) 311 2 0))
theorem tj_Wa_findLucky_32 {w : ia_O0} {d N1 W1 : Nat} {K : ia_K} (hK : ia_isK (d + 3) mm_Wa_findLucky N1 W1 K) {x1 : Int32} {x2 : Int32} {x3 : Int32} {r : Int32} {h1 : ia_H} (hret : ∀ (pc : Nat) (lv : ia_L), ia_ret mm_Wa_findLucky pc (some (.inl r)) → K pc lv ((some (.inl r)) : Option ia_V).toList h1) : ∀ (b0 : Nat) (s1 : Int32) (s2 : Int32) (h : ia_H), gd_ w h → kd_D b0 = (100, 36) → j_Wa_findLucky_32 x1 x2 x3 b0 s1 s2 h = some (r, h1) → K 32 [some (.inr (.inr 311)), some (.inl x1), some (.inl x2), none, none, none, none, none] [.inl s2, .inl s1, .inr (.inr b0)] h := by
  intro b0 s1 s2 h hg q_b0 hm
  unfold j_Wa_findLucky_32 at hm
  obtain ⟨c3, hm⟩ := ia_gd_some hm
  refine ia_go hK ck_Wa_findLucky_32 ⟨ga_s100 hg q_b0 c3, gk_11 (gd_wI hg (kx_100 q_b0)) pk_311, ?_⟩
  show K 44 [some (.inr (.inr 311)), some (.inl x1), some (.inl x2), none, some (.inl 0), some (.inl 1), none, none] [] (ia_wL (ia_wI h b0 ((s1).toNatClampNeg) s2) 311 2 0)
  refine tl_Wa_findLucky_44 hK hret ?_ fu_ 0 1 (ia_wL (ia_wI h b0 ((s1).toNatClampNeg) s2) 311 2 0) (gd_wL (gd_wI hg (kx_100 q_b0))) hm
  · intro x4 h hg hm
    refine ia_go hK ck_Wa_findLucky_133 ⟨gk_11 hg pk_311, fun c => ?_, fun c => ?_⟩
    · replace hm := ia_ifn hm c
      show K 144 [some (.inr (.inr 311)), some (.inl x1), some (.inl x2), none, some (.inl x4), none, none, none] [] h
      refine ia_go hK ck_Wa_findLucky_144 ?_
      show K 149 [some (.inr (.inr 311)), some (.inl x1), some (.inl x2), none, some (.inl x4), none, none, none] [.inl x4, .inl x2, .inl x1, .inr (.inr 311)] h
      obtain ⟨v11, hv11, hm⟩ := ia_bnd hm
      have ev11 := t_Wa_followLuck (d + 0) hg hv11
      have gv11 := g_Wa_followLuck hg hv11
      refine ia_cV hK mk_Wa_followLuck lk_11_124 dc_Wa_findLucky_149 311 [.inl x1, .inl x2, .inl x4] [] rfl rfl (Nat.le_of_ble_eq_true rfl) (by decide) rfl (gk_11 hg pk_311) ev11 (gd_nm hg gv11) ?_
      show K 152 [some (.inr (.inr 311)), some (.inl x1), some (.inl x2), none, some (.inl x4), none, none, none] [] v11
      refine ia_go hK ck_Wa_findLucky_152 ?_
      show K 153 [some (.inr (.inr 311)), some (.inl x1), some (.inl x2), none, some (.inl x4), none, none, none] [.inl 1] v11
      obtain ⟨rfl, rfl⟩ := Prod.mk.inj (Option.some.inj hm)
      exact hret 153 _ ⟨Or.inr rfl, dc_Wa_findLucky_153⟩
    · replace hm := ia_ifp hm c
      show K 142 [some (.inr (.inr 311)), some (.inl x1), some (.inl x2), none, some (.inl x4), none, none, none] [] h
      refine ia_go hK ck_Wa_findLucky_142 ?_
      show K 143 [some (.inr (.inr 311)), some (.inl x1), some (.inl x2), none, some (.inl x4), none, none, none] [.inl 0] h
      obtain ⟨rfl, rfl⟩ := Prod.mk.inj (Option.some.inj hm)
      exact hret 143 _ ⟨Or.inl rfl, dc_Wa_findLucky_143⟩
theorem gj_Wa_findLucky_32 {w : ia_O0} {x1 : Int32} {x2 : Int32} {x3 : Int32} {r : Int32} {h1 : ia_H} : ∀ (b0 : Nat) (s1 : Int32) (s2 : Int32) (h : ia_H), gd_ w h → kd_D b0 = (100, 36) → j_Wa_findLucky_32 x1 x2 x3 b0 s1 s2 h = some (r, h1) → gd_ w h1 := by
  intro b0 s1 s2 h hg q_b0 hm
  unfold j_Wa_findLucky_32 at hm
  obtain ⟨c3, hm⟩ := ia_gd_some hm
  refine gl_Wa_findLucky_44 ?_ fu_ 0 1 (ia_wL (ia_wI h b0 ((s1).toNatClampNeg) s2) 311 2 0) (gd_wL (gd_wI hg (kx_100 q_b0))) hm
  · intro x4 h hg hm
    by_cases c : (lg_cmp (ia_l h 311 2) 0) = 0
    · replace hm := ia_ifp hm c
      obtain ⟨rfl, rfl⟩ := Prod.mk.inj (Option.some.inj hm)
      exact hg
    · replace hm := ia_ifn hm c
      obtain ⟨v11, hv11, hm⟩ := ia_bnd hm
      have gv11 := g_Wa_followLuck hg hv11
      obtain ⟨rfl, rfl⟩ := Prod.mk.inj (Option.some.inj hm)
      exact gv11
def f_Wa_findLucky (x1 : Int32) (x2 : Int32) (x3 : Int32) (h : ia_H) : Option (Int32 × ia_H) := (f_Ar_fill 317 0 h).bind fun v1 => (ia_gd (ia_ib x3 36) (if (ia_i v1 313 ((x3).toNatClampNeg)) < x1 then (j_Wa_findLucky_32 x1 x2 x3 317 x3 0 v1) else (j_Wa_findLucky_32 x1 x2 x3 317 x3 1 v1)))
theorem g_Wa_findLucky {w : ia_O0} {x1 : Int32} {x2 : Int32} {x3 : Int32} {h : ia_H} (hg : gd_ w h) {q : (Int32 × ia_H)} (hm : f_Wa_findLucky x1 x2 x3 h = some q) : gd_ w q.2 := by
  obtain ⟨r, h1⟩ := q
  unfold f_Wa_findLucky at hm
  obtain ⟨v1, hv1, hm⟩ := ia_bnd hm
  have gv1 := g_Ar_fill hg (congrArg Prod.fst (ke_117 (ka_11_9 pk_311) (i := 0) (by decide))) hv1
  obtain ⟨c2, hm⟩ := ia_gd_some hm
  by_cases c : (ia_i v1 313 ((x3).toNatClampNeg)) < x1
  · replace hm := ia_ifp hm c
    exact gj_Wa_findLucky_32 317 x3 0 v1 gv1 (ke_117 (ka_11_9 pk_311) (i := 0) (by decide)) hm
  · replace hm := ia_ifn hm c
    exact gj_Wa_findLucky_32 317 x3 1 v1 gv1 (ke_117 (ka_11_9 pk_311) (i := 0) (by decide)) hm
theorem t_Wa_findLucky {w : ia_O0} (d : Nat) {x1 : Int32} {x2 : Int32} {x3 : Int32} {h : ia_H} (hg : gd_ w h) {q : (Int32 × ia_H)} (hm : f_Wa_findLucky x1 x2 x3 h = some q) : ia_Ev (d + 3) mm_Wa_findLucky [.inr (.inr 311), .inl x1, .inl x2, .inl x3] h (some (.inl q.1)) q.2 := by
  have gq := g_Wa_findLucky hg hm
  refine ia_Ev_intro ok_Wa_findLucky (gd_le hg gq).1 (gd_le hg gq).2 (Nat.le_of_ble_eq_true rfl) (fun K hK hret => ?_)
  obtain ⟨r, h1⟩ := q
  show K 0 [some (.inr (.inr 311)), some (.inl x1), some (.inl x2), some (.inl x3), none, none, none, none] [] h
  unfold f_Wa_findLucky at hm
  refine ia_go hK ck_Wa_findLucky_0 ⟨gk_11 hg pk_311, gr_11_9 hg pk_311, ga_r117 hg (ka_11_9 pk_311) (by decide), ?_⟩
  show K 7 [some (.inr (.inr 311)), some (.inl x1), some (.inl x2), some (.inl x3), none, none, none, none] [.inl 0, .inr (.inr 317)] h
  obtain ⟨v1, hv1, hm⟩ := ia_bnd hm
  have ev1 := t_Ar_fill (d + 2) hg (congrArg Prod.fst (ke_117 (ka_11_9 pk_311) (i := 0) (by decide))) hv1
  have gv1 := g_Ar_fill hg (congrArg Prod.fst (ke_117 (ka_11_9 pk_311) (i := 0) (by decide))) hv1
  refine ia_cS hK mk_Ar_fill lk_11_101 dc_Wa_findLucky_7 [.inr (.inr 317), .inl 0] [] rfl rfl (Nat.le_of_ble_eq_true rfl) ev1 (gd_nm hg gv1) ?_
  show K 10 [some (.inr (.inr 311)), some (.inl x1), some (.inl x2), some (.inl x3), none, none, none, none] [] v1
  obtain ⟨c2, hm⟩ := ia_gd_some hm
  refine ia_go hK ck_Wa_findLucky_10 ⟨gk_11 gv1 pk_311, gr_11_9 gv1 pk_311, ga_r117 gv1 (ka_11_9 pk_311) (by decide), gk_11 gv1 pk_311, gr_11_6 gv1 pk_311, ga_i100 gv1 (ka_11_6 pk_311) c2, fun c => ?_, fun c => ?_⟩
  · replace hm := ia_ifp hm c
    show K 31 [some (.inr (.inr 311)), some (.inl x1), some (.inl x2), some (.inl x3), none, none, none, none] [.inl x3, .inr (.inr 317)] v1
    refine ia_go hK ck_Wa_findLucky_31 ?_
    show K 32 [some (.inr (.inr 311)), some (.inl x1), some (.inl x2), some (.inl x3), none, none, none, none] [.inl 0, .inl x3, .inr (.inr 317)] v1
    refine ia_fg hK (lv' := [some (.inr (.inr 311)), some (.inl x1), some (.inl x2), none, none, none, none, none]) ⟨rfl, rfl, rfl, trivial⟩ ?_
    exact tj_Wa_findLucky_32 hK hret 317 x3 0 v1 gv1 (ke_117 (ka_11_9 pk_311) (i := 0) (by decide)) hm
  · replace hm := ia_ifn hm c
    show K 27 [some (.inr (.inr 311)), some (.inl x1), some (.inl x2), some (.inl x3), none, none, none, none] [.inl x3, .inr (.inr 317)] v1
    refine ia_go hK ck_Wa_findLucky_27 ?_
    show K 32 [some (.inr (.inr 311)), some (.inl x1), some (.inl x2), some (.inl x3), none, none, none, none] [.inl 1, .inl x3, .inr (.inr 317)] v1
    refine ia_fg hK (lv' := [some (.inr (.inr 311)), some (.inl x1), some (.inl x2), none, none, none, none, none]) ⟨rfl, rfl, rfl, trivial⟩ ?_
    exact tj_Wa_findLucky_32 hK hret 317 x3 1 v1 gv1 (ke_117 (ka_11_9 pk_311) (i := 0) (by decide)) hm
