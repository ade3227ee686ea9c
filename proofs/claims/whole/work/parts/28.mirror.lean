def mm_I_lowestBit : ia_M := (⟨"IceStreet", "lowestBit", "(J)I"⟩, prog_1_method_47_code, 3, (some .int), 0, false)
theorem ok_I_lowestBit : ia_mok mm_I_lowestBit := ⟨by decide +kernel, by decide +kernel, by decide +kernel, by decide +kernel⟩
theorem mk_I_lowestBit : ia_mkn mm_I_lowestBit 0 1 := ⟨ia_tb_in (List.mem_of_getElem? (i := 1331) (by decide +kernel)) rfl, ia_tb_in (List.mem_of_getElem? (i := 133) (by decide +kernel)) rfl, by decide +kernel, by decide +kernel, ia_tb_in (List.mem_of_getElem? (i := 1330) (by decide +kernel)) rfl⟩
theorem ck_I_lowestBit_0 : ia_cks 0 3 false prog_1_method_47_code 0 [(.iconst 0, 0, 0, 0, 0), (.istore_n 2, 0, 0, 0, 0)] = true := by decide +kernel
theorem ck_I_lowestBit_2 : ia_cks 0 3 false prog_1_method_47_code 2 [(.iload_n 2, 0, 0, 0, 0), (.bipush 36, 0, 0, 0, 0), (.if_icmp .ge 19, 0, 0, 0, 0)] = true := by decide +kernel
theorem ck_I_lowestBit_8 : ia_cks 0 3 false prog_1_method_47_code 8 [(.lload_n 0, 0, 0, 0, 0), (.iload_n 2, 0, 0, 0, 0)] = true := by decide +kernel
theorem ck_I_lowestBit_13 : ia_cks 0 3 false prog_1_method_47_code 13 [(.ifCond .eq 5, 0, 0, 0, 0)] = true := by decide +kernel
theorem ck_I_lowestBit_18 : ia_cks 0 3 false prog_1_method_47_code 18 [(.iinc 2 1, 0, 0, 0, 0), (.goto (-19), 0, 0, 0, 0)] = true := by decide +kernel
theorem ck_I_lowestBit_16 : ia_cks 0 3 false prog_1_method_47_code 16 [(.iload_n 2, 0, 0, 0, 0)] = true := by decide +kernel
theorem ck_I_lowestBit_24 : ia_cks 0 3 false prog_1_method_47_code 24 [(.iconst (-1), 0, 0, 0, 0)] = true := by decide +kernel
theorem dc_I_lowestBit_10 : decode prog_1_method_47_code 10 = .ok (.invokestatic 199, 3) := by decide +kernel
theorem dc_I_lowestBit_17 : decode prog_1_method_47_code 17 = .ok (.ireturn, 1) := by decide +kernel
theorem dc_I_lowestBit_25 : decode prog_1_method_47_code 25 = .ok (.ireturn, 1) := by decide +kernel
def l_I_lowestBit_2 (y0 : Int64) (h : ia_H) (k16 : Int32 → Option Int32) (k24 : Option Int32) (n : Nat) (x2 : Int32) : Option Int32 := match n with
  | 0 => none
  | n + 1 => if 36 ≤ x2 then k24 else ((f_I_hasBit y0 x2 h).bind fun v1 => (if v1 = 0 then (l_I_lowestBit_2 y0 h k16 k24 n (x2 + 1)) else (k16 x2)))
theorem tl_I_lowestBit_2 {w : ia_O0} {d N1 W1 : Nat} {K : ia_K} (hK : ia_isK (d + 1) mm_I_lowestBit N1 W1 K) {y0 : Int64} {h : ia_H} (hg : gd_ w h) {r : Int32} (hret : ∀ (pc : Nat) (lv : ia_L), ia_ret mm_I_lowestBit pc (some (.inl r)) → K pc lv ((some (.inl r)) : Option ia_V).toList h) {k16 : Int32 → Option Int32} {k24 : Option Int32} (hk16 : ∀ (x2 : Int32), k16 x2 = some r → K 16 [none, none, some (.inl x2)] [] h) (hk24 : k24 = some r → K 24 [none, none, none] [] h) : ∀ (n : Nat) (x2 : Int32), l_I_lowestBit_2 y0 h k16 k24 n x2 = some r → K 2 [some (.inr (.inl y0)), none, some (.inl x2)] [] h := by
  intro n
  induction n with
  | zero =>
    intro x2 hm
    cases (show (none : Option Int32) = some _ from hm)
  | succ n ih =>
    intro x2 hm
    rw [l_I_lowestBit_2] at hm
    refine ia_go hK ck_I_lowestBit_2 ⟨fun c => ?_, fun c => ?_⟩
    · replace hm := ia_ifp hm c
      show K 24 [some (.inr (.inl y0)), none, some (.inl x2)] [] h
      refine ia_fg hK (lv' := [none, none, none]) trivial ?_
      exact hk24 hm
    · replace hm := ia_ifn hm c
      show K 8 [some (.inr (.inl y0)), none, some (.inl x2)] [] h
      refine ia_go hK ck_I_lowestBit_8 ?_
      show K 10 [some (.inr (.inl y0)), none, some (.inl x2)] [.inl x2, .inr (.inl y0)] h
      obtain ⟨v1, hv1, hm⟩ := ia_bnd hm
      have ev1 := t_I_hasBit (d + 0) hg hv1
      refine ia_cS hK mk_I_hasBit lk_0_199 dc_I_lowestBit_10 [.inr (.inl y0), .inl x2] [] rfl rfl (Nat.le_of_ble_eq_true rfl) ev1 ⟨rfl, rfl⟩ ?_
      show K 13 [some (.inr (.inl y0)), none, some (.inl x2)] [.inl v1] h
      refine ia_go hK ck_I_lowestBit_13 ⟨fun c => ?_, fun c => ?_⟩
      · replace hm := ia_ifp hm c
        show K 18 [some (.inr (.inl y0)), none, some (.inl x2)] [] h
        refine ia_go hK ck_I_lowestBit_18 ?_
        show K 2 [some (.inr (.inl y0)), none, some (.inl (x2 + 1))] [] h
        exact ih (x2 + 1) hm
      · replace hm := ia_ifn hm c
        show K 16 [some (.inr (.inl y0)), none, some (.inl x2)] [] h
        refine ia_fg hK (lv' := [none, none, some (.inl x2)]) ⟨rfl, trivial⟩ ?_
        exact hk16 x2 hm
def f_I_lowestBit (y0 : Int64) (h : ia_H) : Option Int32 := l_I_lowestBit_2 y0 h (fun x2 => some x2) (some (-1)) fu_ 0
theorem t_I_lowestBit {w : ia_O0} (d : Nat) {y0 : Int64} {h : ia_H} (hg : gd_ w h) {r : Int32} (hm : f_I_lowestBit y0 h = some r) : ia_Ev (d + 1) mm_I_lowestBit [.inr (.inl y0)] h (some (.inl r)) h := by
  refine ia_Ev_intro ok_I_lowestBit (Nat.le_refl _) (Nat.le_refl _) (Nat.le_of_ble_eq_true rfl) (fun K hK hret => ?_)
  show K 0 [some (.inr (.inl y0)), none, none] [] h
  unfold f_I_lowestBit at hm
  refine ia_go hK ck_I_lowestBit_0 ?_
  show K 2 [some (.inr (.inl y0)), none, some (.inl 0)] [] h
  refine tl_I_lowestBit_2 hK hg hret ?_ ?_ fu_ 0 hm
  · intro x2 hm
    refine ia_go hK ck_I_lowestBit_16 ?_
    show K 17 [none, none, some (.inl x2)] [.inl x2] h
    obtain rfl := Option.some.inj hm
    exact hret 17 _ dc_I_lowestBit_17
  · intro hm
    refine ia_go hK ck_I_lowestBit_24 ?_
    show K 25 [none, none, none] [.inl (-1)] h
    obtain rfl := Option.some.inj hm
    exact hret 25 _ dc_I_lowestBit_25
def mm_Ou_longestFair : ia_M := (⟨"IceStreet$Outlook", "longestFair", "(LIceStreet$Scene;IIIZ)I"⟩, prog_6_method_7_code, 12, (some .int), 5, false)
theorem ok_Ou_longestFair : ia_mok mm_Ou_longestFair := ⟨by decide +kernel, by decide +kernel, by decide +kernel, by decide +kernel⟩
theorem mk_Ou_longestFair : ia_mkn mm_Ou_longestFair 1 5 := ⟨ia_tb_in (List.mem_of_getElem? (i := 1312) (by decide +kernel)) rfl, ia_tb_in (List.mem_of_getElem? (i := 143) (by decide +kernel)) rfl, by decide +kernel, by decide +kernel, ⟨ia_tb_in (List.mem_of_getElem? (i := 1310) (by decide +kernel)) rfl, ia_tb_in (List.mem_of_getElem? (i := 1311) (by decide +kernel)) rfl⟩⟩
theorem ck_Ou_longestFair_0 : ia_cks 5 12 false prog_6_method_7_code 0 [(.aload_n 1, 0, 0, 0, 0), (.aload_n 1, 0, 0, 0, 0), (.iload_n 2, 0, 0, 0, 0)] = true := by decide +kernel
theorem ck_Ou_longestFair_6 : ia_cks 5 12 false prog_6_method_7_code 6 [(.iload_n 3, 0, 0, 0, 0), (.iload 4, 0, 0, 0, 0)] = true := by decide +kernel
theorem ck_Ou_longestFair_12 : ia_cks 5 12 false prog_6_method_7_code 12 [(.lstore 6, 0, 0, 0, 0), (.lload 6, 0, 0, 0, 0), (.lconst 0, 0, 0, 0, 0), (.lcmp, 0, 0, 0, 0), (.ifCond .ne 5, 0, 0, 0, 0)] = true := by decide +kernel
theorem ck_Ou_longestFair_23 : ia_cks 5 12 false prog_6_method_7_code 23 [(.iconst 0, 0, 0, 0, 0), (.istore 8, 0, 0, 0, 0), (.iconst 1, 0, 0, 0, 0), (.istore 9, 0, 0, 0, 0)] = true := by decide +kernel
theorem ck_Ou_longestFair_29 : ia_cks 5 12 false prog_6_method_7_code 29 [(.iload 9, 0, 0, 0, 0), (.bipush 60, 0, 0, 0, 0), (.if_icmp .gt 52, 0, 0, 0, 0)] = true := by decide +kernel
theorem ck_Ou_longestFair_36 : ia_cks 5 12 false prog_6_method_7_code 36 [(.aload_n 1, 0, 0, 0, 0), (.aload_n 1, 0, 0, 0, 0)] = true := by decide +kernel
theorem ck_Ou_longestFair_44 : ia_cks 5 12 false prog_6_method_7_code 44 [(.lload 6, 0, 0, 0, 0), (.aload_n 1, 0, 0, 0, 0), (.aload_n 1, 0, 0, 0, 0), (.iload_n 2, 0, 0, 0, 0)] = true := by decide +kernel
theorem ck_Ou_longestFair_52 : ia_cks 5 12 false prog_6_method_7_code 52 [(.iload_n 3, 0, 0, 0, 0), (.iload 4, 0, 0, 0, 0)] = true := by decide +kernel
theorem ck_Ou_longestFair_58 : ia_cks 5 12 false prog_6_method_7_code 58 [(.land, 0, 0, 0, 0), (.lstore 10, 0, 0, 0, 0), (.lload 10, 0, 0, 0, 0), (.lconst 0, 0, 0, 0, 0), (.lcmp, 0, 0, 0, 0), (.ifCond .ne 6, 0, 0, 0, 0)] = true := by decide +kernel
theorem ck_Ou_longestFair_71 : ia_cks 5 12 false prog_6_method_7_code 71 [(.lload 10, 0, 0, 0, 0), (.lstore 6, 0, 0, 0, 0), (.iload 9, 0, 0, 0, 0), (.istore 8, 0, 0, 0, 0), (.iinc 9 1, 0, 0, 0, 0), (.goto (-53), 0, 0, 0, 0)] = true := by decide +kernel
theorem ck_Ou_longestFair_68 : ia_cks 5 12 false prog_6_method_7_code 68 [(.goto 17, 0, 0, 0, 0)] = true := by decide +kernel
theorem ck_Ou_longestFair_85 : ia_cks 5 12 false prog_6_method_7_code 85 [(.iload 5, 0, 0, 0, 0), (.ifCond .eq 8, 0, 0, 0, 0)] = true := by decide +kernel
theorem ck_Ou_longestFair_95 : ia_cks 5 12 false prog_6_method_7_code 95 [(.lload 6, 0, 0, 0, 0)] = true := by decide +kernel
theorem ck_Ou_longestFair_90 : ia_cks 5 12 false prog_6_method_7_code 90 [(.iload 8, 0, 0, 0, 0), (.goto 8, 0, 0, 0, 0)] = true := by decide +kernel
theorem ck_Ou_longestFair_21 : ia_cks 5 12 false prog_6_method_7_code 21 [(.iconst (-1), 0, 0, 0, 0)] = true := by decide +kernel
theorem dc_Ou_longestFair_3 : decode prog_6_method_7_code 3 = .ok (.invokestatic 104, 3) := by decide +kernel
theorem dc_Ou_longestFair_9 : decode prog_6_method_7_code 9 = .ok (.invokestatic 107, 3) := by decide +kernel
theorem dc_Ou_longestFair_38 : decode prog_6_method_7_code 38 = .ok (.invokevirtual 42, 3) := by decide +kernel
theorem dc_Ou_longestFair_41 : decode prog_6_method_7_code 41 = .ok (.invokevirtual 111, 3) := by decide +kernel
theorem dc_Ou_longestFair_49 : decode prog_6_method_7_code 49 = .ok (.invokestatic 104, 3) := by decide +kernel
theorem dc_Ou_longestFair_55 : decode prog_6_method_7_code 55 = .ok (.invokestatic 107, 3) := by decide +kernel
theorem dc_Ou_longestFair_97 : decode prog_6_method_7_code 97 = .ok (.invokestatic 114, 3) := by decide +kernel
theorem dc_Ou_longestFair_100 : decode prog_6_method_7_code 100 = .ok (.ireturn, 1) := by decide +kernel
theorem dc_Ou_longestFair_22 : decode prog_6_method_7_code 22 = .ok (.ireturn, 1) := by decide +kernel
def l_Ou_longestFair_29 (a1 : Nat) (x2 : Int32) (x3 : Int32) (x4 : Int32) (x5 : Int32) (k68 : Int64 → Int32 → ia_H → Option (Int32 × ia_H)) (k85 : Int64 → Int32 → ia_H → Option (Int32 × ia_H)) (n : Nat) (y6 : Int64) (x8 : Int32) (x9 : Int32) (h : ia_H) : Option (Int32 × ia_H) := match n with
  | 0 => none
  | n + 1 => if 60 < x9 then (k85 y6 x8 h) else ((f_Sc_frost a1 h).bind fun v3 => ((f_Sc_passDay a1 v3 h).bind fun v4 => ((f_Ou_firmCells a1 x2 v4).bind fun v5 => ((f_Ou_blocksOf a1 v5 x3 x4 v4).bind fun v6 => (if (lg_cmp (y6 &&& v6) 0) = 0 then (k68 y6 x8 v4) else (l_Ou_longestFair_29 a1 x2 x3 x4 x5 k68 k85 n (y6 &&& v6) x9 (x9 + 1) v4))))))
theorem tl_Ou_longestFair_29 {w : ia_O0} {d N1 W1 : Nat} {K : ia_K} (hK : ia_isK (d + 4) mm_Ou_longestFair N1 W1 K) {a1 : Nat} {x2 : Int32} {x3 : Int32} {x4 : Int32} {x5 : Int32} (p1 : (kd_D a1).1 = 9) {r : Int32} {h1 : ia_H} (hret : ∀ (pc : Nat) (lv : ia_L), ia_ret mm_Ou_longestFair pc (some (.inl r)) → K pc lv ((some (.inl r)) : Option ia_V).toList h1) {k68 : Int64 → Int32 → ia_H → Option (Int32 × ia_H)} {k85 : Int64 → Int32 → ia_H → Option (Int32 × ia_H)} (hk68 : ∀ (y6 : Int64) (x8 : Int32) (h : ia_H), gd_ w h → k68 y6 x8 h = some (r, h1) → K 68 [none, none, none, none, none, some (.inl x5), some (.inr (.inl y6)), none, some (.inl x8), none, none, none] [] h) (hk85 : ∀ (y6 : Int64) (x8 : Int32) (h : ia_H), gd_ w h → k85 y6 x8 h = some (r, h1) → K 85 [none, none, none, none, none, some (.inl x5), some (.inr (.inl y6)), none, some (.inl x8), none, none, none] [] h) : ∀ (n : Nat) (y6 : Int64) (x8 : Int32) (x9 : Int32) (h : ia_H), gd_ w h → l_Ou_longestFair_29 a1 x2 x3 x4 x5 k68 k85 n y6 x8 x9 h = some (r, h1) → K 29 [none, some (.inr (.inr a1)), some (.inl x2), some (.inl x3), some (.inl x4), some (.inl x5), some (.inr (.inl y6)), none, some (.inl x8), some (.inl x9), none, none] [] h := by
  intro n
  induction n with
  | zero =>
    intro y6 x8 x9 h hg hm
    cases (show (none : Option (Int32 × ia_H)) = some _ from hm)
  | succ n ih =>
    intro y6 x8 x9 h hg hm
    rw [l_Ou_longestFair_29] at hm
    refine ia_go hK ck_Ou_longestFair_29 ⟨fun c => ?_, fun c => ?_⟩
    · replace hm := ia_ifp hm c
      show K 85 [none, some (.inr (.inr a1)), some (.inl x2), some (.inl x3), some (.inl x4), some (.inl x5), some (.inr (.inl y6)), none, some (.inl x8), some (.inl x9), none, none] [] h
      refine ia_fg hK (lv' := [none, none, none, none, none, some (.inl x5), some (.inr (.inl y6)), none, some (.inl x8), none, none, none]) ⟨rfl, rfl, rfl, trivial⟩ ?_
      exact hk85 y6 x8 h hg hm
    · replace hm := ia_ifn hm c
      show K 36 [none, some (.inr (.inr a1)), some (.inl x2), some (.inl x3), some (.inl x4), some (.inl x5), some (.inr (.inl y6)), none, some (.inl x8), some (.inl x9), none, none] [] h
      refine ia_go hK ck_Ou_longestFair_36 ?_
      show K 38 [none, some (.inr (.inr a1)), some (.inl x2), some (.inl x3), some (.inl x4), some (.inl x5), some (.inr (.inl y6)), none, some (.inl x8), some (.inl x9), none, none] [.inr (.inr a1), .inr (.inr a1)] h
      obtain ⟨v3, hv3, hm⟩ := ia_bnd hm
      have ev3 := t_Sc_frost (d + 3) hg p1 hv3
      refine ia_cV hK mk_Sc_frost lk_5_42 dc_Ou_longestFair_38 a1 [] [.inr (.inr a1)] rfl rfl (Nat.le_of_ble_eq_true rfl) (by decide) rfl (gk_9 hg p1) ev3 ⟨rfl, rfl⟩ ?_
      show K 41 [none, some (.inr (.inr a1)), some (.inl x2), some (.inl x3), some (.inl x4), some (.inl x5), some (.inr (.inl y6)), none, some (.inl x8), some (.inl x9), none, none] [.inl v3, .inr (.inr a1)] h
      obtain ⟨v4, hv4, hm⟩ := ia_bnd hm
      have ev4 := t_Sc_passDay (d + 0) hg p1 hv4
      have gv4 := g_Sc_passDay hg p1 hv4
      refine ia_cV hK mk_Sc_passDay lk_5_111 dc_Ou_longestFair_41 a1 [.inl v3] [] rfl rfl (Nat.le_of_ble_eq_true rfl) (by decide) rfl (gk_9 hg p1) ev4 (gd_nm hg gv4) ?_
      show K 44 [none, some (.inr (.inr a1)), some (.inl x2), some (.inl x3), some (.inl x4), some (.inl x5), some (.inr (.inl y6)), none, some (.inl x8), some (.inl x9), none, none] [] v4
      refine ia_go hK ck_Ou_longestFair_44 ?_
      show K 49 [none, some (.inr (.inr a1)), some (.inl x2), some (.inl x3), some (.inl x4), some (.inl x5), some (.inr (.inl y6)), none, some (.inl x8), some (.inl x9), none, none] [.inl x2, .inr (.inr a1), .inr (.inr a1), .inr (.inl y6)] v4
      obtain ⟨v5, hv5, hm⟩ := ia_bnd hm
      have ev5 := t_Ou_firmCells (d + 1) gv4 p1 hv5
      refine ia_cS hK mk_Ou_firmCells lk_5_104 dc_Ou_longestFair_49 [.inr (.inr a1), .inl x2] [.inr (.inr a1), .inr (.inl y6)] rfl rfl (Nat.le_of_ble_eq_true rfl) ev5 ⟨rfl, rfl⟩ ?_
      show K 52 [none, some (.inr (.inr a1)), some (.inl x2), some (.inl x3), some (.inl x4), some (.inl x5), some (.inr (.inl y6)), none, some (.inl x8), some (.inl x9), none, none] [.inr (.inl v5), .inr (.inr a1), .inr (.inl y6)] v4
      refine ia_go hK ck_Ou_longestFair_52 ?_
      show K 55 [none, some (.inr (.inr a1)), some (.inl x2), some (.inl x3), some (.inl x4), some (.inl x5), some (.inr (.inl y6)), none, some (.inl x8), some (.inl x9), none, none] [.inl x4, .inl x3, .inr (.inl v5), .inr (.inr a1), .inr (.inl y6)] v4
      obtain ⟨v6, hv6, hm⟩ := ia_bnd hm
      have ev6 := t_Ou_blocksOf (d + 2) gv4 p1 hv6
      refine ia_cS hK mk_Ou_blocksOf lk_5_107 dc_Ou_longestFair_55 [.inr (.inr a1), .inr (.inl v5), .inl x3, .inl x4] [.inr (.inl y6)] rfl rfl (Nat.le_of_ble_eq_true rfl) ev6 ⟨rfl, rfl⟩ ?_
      show K 58 [none, some (.inr (.inr a1)), some (.inl x2), some (.inl x3), some (.inl x4), some (.inl x5), some (.inr (.inl y6)), none, some (.inl x8), some (.inl x9), none, none] [.inr (.inl v6), .inr (.inl y6)] v4
      refine ia_go hK ck_Ou_longestFair_58 ⟨fun c => ?_, fun c => ?_⟩
      · replace hm := ia_ifn hm c
        show K 71 [none, some (.inr (.inr a1)), some (.inl x2), some (.inl x3), some (.inl x4), some (.inl x5), some (.inr (.inl y6)), none, some (.inl x8), some (.inl x9), some (.inr (.inl (y6 &&& v6))), none] [] v4
        refine ia_go hK ck_Ou_longestFair_71 ?_
        show K 29 [none, some (.inr (.inr a1)), some (.inl x2), some (.inl x3), some (.inl x4), some (.inl x5), some (.inr (.inl (y6 &&& v6))), none, some (.inl x9), some (.inl (x9 + 1)), some (.inr (.inl (y6 &&& v6))), none] [] v4
        refine ia_fg hK (lv' := [none, some (.inr (.inr a1)), some (.inl x2), some (.inl x3), some (.inl x4), some (.inl x5), some (.inr (.inl (y6 &&& v6))), none, some (.inl x9), some (.inl (x9 + 1)), none, none]) ⟨rfl, rfl, rfl, rfl, rfl, rfl, rfl, rfl, trivial⟩ ?_
        exact ih (y6 &&& v6) x9 (x9 + 1) v4 gv4 hm
      · replace hm := ia_ifp hm c
        show K 68 [none, some (.inr (.inr a1)), some (.inl x2), some (.inl x3), some (.inl x4), some (.inl x5), some (.inr (.inl y6)), none, some (.inl x8), some (.inl x9), some (.inr (.inl (y6 &&& v6))), none] [] v4
        refine ia_fg hK (lv' := [none, none, none, none, none, some (.inl x5), some (.inr (.inl y6)), none, some (.inl x8), none, none, none]) ⟨rfl, rfl, rfl, trivial⟩ ?_
        exact hk68 y6 x8 v4 gv4 hm
theorem gl_Ou_longestFair_29 {w : ia_O0} {a1 : Nat} {x2 : Int32} {x3 : Int32} {x4 : Int32} {x5 : Int32} (p1 : (kd_D a1).1 = 9) {r : Int32} {h1 : ia_H} {k68 : Int64 → Int32 → ia_H → Option (Int32 × ia_H)} {k85 : Int64 → Int32 → ia_H → Option (Int32 × ia_H)} (hk68 : ∀ (y6 : Int64) (x8 : Int32) (h : ia_H), gd_ w h → k68 y6 x8 h = some (r, h1) → gd_ w h1) (hk85 : ∀ (y6 : Int64) (x8 : Int32) (h : ia_H), gd_ w h → k85 y6 x8 h = some (r, h1) → gd_ w h1) : ∀ (n : Nat) (y6 : Int64) (x8 : Int32) (x9 : Int32) (h : ia_H), gd_ w h → l_Ou_longestFair_29 a1 x2 x3 x4 x5 k68 k85 n y6 x8 x9 h = some (r, h1) → gd_ w h1 := by
  intro n
  induction n with
  | zero =>
    intro y6 x8 x9 h hg hm
    cases (show (none : Option (Int32 × ia_H)) = some _ from hm)
  | succ n ih =>
    intro y6 x8 x9 h hg hm
    rw [l_Ou_longestFair_29] at hm
    by_cases c : 60 < x9
    · replace hm := ia_ifp hm c
      exact hk85 y6 x8 h hg hm
    · replace hm := ia_ifn hm c
      obtain ⟨v3, hv3, hm⟩ := ia_bnd hm
      obtain ⟨v4, hv4, hm⟩ := ia_bnd hm
      have gv4 := g_Sc_passDay hg p1 hv4
      obtain ⟨v5, hv5, hm⟩ := ia_bnd hm
      obtain ⟨v6, hv6, hm⟩ := ia_bnd hm
      by_cases c : (lg_cmp (y6 &&& v6) 0) = 0
      · replace hm := ia_ifp hm c
        exact hk68 y6 x8 v4 gv4 hm
      · replace hm := ia_ifn hm c
        exact ih (y6 &&& v6) x9 (x9 + 1) v4 gv4 hm
def j_Ou_longestFair_85 (a1 : Nat) (x2 : Int32) (x3 : Int32) (x4 : Int32) (x5 : Int32) (y6 : Int64) (x8 : Int32) (h : ia_H) : Option (Int32 × ia_H) := if x5 = 0 then ((f_I_lowestBit y6 h).bind fun v7 => (some (v7, h))) else (some (x8, h))
theorem tj_Ou_longestFair_85 {w : ia_O0} {d N1 W1 : Nat} {K : ia_K} (hK : ia_isK (d + 4) mm_Ou_longestFair N1 W1 K) {a1 : Nat} {x2 : Int32} {x3 : Int32} {x4 : Int32} {x5 : Int32} (p1 : (kd_D a1).1 = 9) {r : Int32} {h1 : ia_H} (hret : ∀ (pc : Nat) (lv : ia_L), ia_ret mm_Ou_longestFair pc (some (.inl r)) → K pc lv ((some (.inl r)) : Option ia_V).toList h1) : ∀ (y6 : Int64) (x8 : Int32) (h : ia_H), gd_ w h → j_Ou_longestFair_85 a1 x2 x3 x4 x5 y6 x8 h = some (r, h1) → K 85 [none, none, none, none, none, some (.inl x5), some (.inr (.inl y6)), none, some (.inl x8), none, none, none] [] h := by
  intro y6 x8 h hg hm
  unfold j_Ou_longestFair_85 at hm
  refine ia_go hK ck_Ou_longestFair_85 ⟨fun c => ?_, fun c => ?_⟩
  · replace hm := ia_ifp hm c
    show K 95 [none, none, none, none, none, some (.inl x5), some (.inr (.inl y6)), none, some (.inl x8), none, none, none] [] h
    refine ia_go hK ck_Ou_longestFair_95 ?_
    show K 97 [none, none, none, none, none, some (.inl x5), some (.inr (.inl y6)), none, some (.inl x8), none, none, none] [.inr (.inl y6)] h
    obtain ⟨v7, hv7, hm⟩ := ia_bnd hm
    have ev7 := t_I_lowestBit (d + 2) hg hv7
    refine ia_cS hK mk_I_lowestBit lk_5_114 dc_Ou_longestFair_97 [.inr (.inl y6)] [] rfl rfl (Nat.le_of_ble_eq_true rfl) ev7 ⟨rfl, rfl⟩ ?_
    show K 100 [none, none, none, none, none, some (.inl x5), some (.inr (.inl y6)), none, some (.inl x8), none, none, none] [.inl v7] h
    obtain ⟨rfl, rfl⟩ := Prod.mk.inj (Option.some.inj hm)
    exact hret 100 _ dc_Ou_longestFair_100
  · replace hm := ia_ifn hm c
    show K 90 [none, none, none, none, none, some (.inl x5), some (.inr (.inl y6)), none, some (.inl x8), none, none, none] [] h
    refine ia_go hK ck_Ou_longestFair_90 ?_
    show K 100 [none, none, none, none, none, some (.inl x5), some (.inr (.inl y6)), none, some (.inl x8), none, none, none] [.inl x8] h
    obtain ⟨rfl, rfl⟩ := Prod.mk.inj (Option.some.inj hm)
    exact hret 100 _ dc_Ou_longestFair_100
theorem gj_Ou_longestFair_85 {w : ia_O0} {a1 : Nat} {x2 : Int32} {x3 : Int32} {x4 : Int32} {x5 : Int32} (p1 : (kd_D a1).1 = 9) {r : Int32} {h1 : ia_H} : ∀ (y6 : Int64) (x8 : Int32) (h : ia_H), gd_ w h → j_Ou_longestFair_85 a1 x2 x3 x4 x5 y6 x8 h = some (r, h1) → gd_ w h1 := by
  intro y6 x8 h hg hm
  unfold j_Ou_longestFair_85 at hm
  by_cases c : x5 = 0
  · replace hm := ia_ifp hm c
    obtain ⟨v7, hv7, hm⟩ := ia_bnd hm
    obtain ⟨rfl, rfl⟩ := Prod.mk.inj (Option.some.inj hm)
    exact hg
  · replace hm := ia_ifn hm c
    obtain ⟨rfl, rfl⟩ := Prod.mk.inj (Option.some.inj hm)
    exact hg
def f_Ou_longestFair (a1 : Nat) (x2 : Int32) (x3 : Int32) (x4 : Int32) (x5 : Int32) (h : ia_H) : Option (Int32 × ia_H) := (f_Ou_firmCells a1 x2 h).bind fun v1 => ((f_Ou_blocksOf a1 v1 x3 x4 h).bind fun v2 => (if (lg_cmp v2 0) = 0 then (some ((-1), h)) else (l_Ou_longestFair_29 a1 x2 x3 x4 x5 (fun y6 x8 h => j_Ou_longestFair_85 a1 x2 x3 x4 x5 y6 x8 h) (fun y6 x8 h => j_Ou_longestFair_85 a1 x2 x3 x4 x5 y6 x8 h) fu_ v2 0 1 h)))
theorem g_Ou_longestFair {w : ia_O0} {a1 : Nat} {x2 : Int32} {x3 : Int32} {x4 : Int32} {x5 : Int32} {h : ia_H} (hg : gd_ w h) (p1 : (kd_D a1).1 = 9) {q : (Int32 × ia_H)} (hm : f_Ou_longestFair a1 x2 x3 x4 x5 h = some q) : gd_ w q.2 := by
  obtain ⟨r, h1⟩ := q
  unfold f_Ou_longestFair at hm
  obtain ⟨v1, hv1, hm⟩ := ia_bnd hm
  obtain ⟨v2, hv2, hm⟩ := ia_bnd hm
  by_cases c : (lg_cmp v2 0) = 0
  · replace hm := ia_ifp hm c
    obtain ⟨rfl, rfl⟩ := Prod.mk.inj (Option.some.inj hm)
    exact hg
  · replace hm := ia_ifn hm c
    refine gl_Ou_longestFair_29 p1 ?_ ?_ fu_ v2 0 1 h hg hm
    · intro y6 x8 h hg hm
      exact gj_Ou_longestFair_85 p1 y6 x8 h hg hm
    · intro y6 x8 h hg hm
      exact gj_Ou_longestFair_85 p1 y6 x8 h hg hm
theorem t_Ou_longestFair {w : ia_O0} (d : Nat) {a1 : Nat} {x2 : Int32} {x3 : Int32} {x4 : Int32} {x5 : Int32} {h : ia_H} (hg : gd_ w h) (p1 : (kd_D a1).1 = 9) {q : (Int32 × ia_H)} (hm : f_Ou_longestFair a1 x2 x3 x4 x5 h = some q) : ia_Ev (d + 4) mm_Ou_longestFair [.inr (.inr 326), .inr (.inr a1), .inl x2, .inl x3, .inl x4, .inl x5] h (some (.inl q.1)) q.2 := by
  have gq := g_Ou_longestFair hg p1 hm
  refine ia_Ev_intro ok_Ou_longestFair (gd_le hg gq).1 (gd_le hg gq).2 (Nat.le_of_ble_eq_true rfl) (fun K hK hret => ?_)
  obtain ⟨r, h1⟩ := q
  show K 0 [some (.inr (.inr 326)), some (.inr (.inr a1)), some (.inl x2), some (.inl x3), some (.inl x4), some (.inl x5), none, none, none, none, none, none] [] h
  unfold f_Ou_longestFair at hm
  refine ia_go hK ck_Ou_longestFair_0 ?_
  show K 3 [some (.inr (.inr 326)), some (.inr (.inr a1)), some (.inl x2), some (.inl x3), some (.inl x4), some (.inl x5), none, none, none, none, none, none] [.inl x2, .inr (.inr a1), .inr (.inr a1)] h
  obtain ⟨v1, hv1, hm⟩ := ia_bnd hm
  have ev1 := t_Ou_firmCells (d + 1) hg p1 hv1
  refine ia_cS hK mk_Ou_firmCells lk_5_104 dc_Ou_longestFair_3 [.inr (.inr a1), .inl x2] [.inr (.inr a1)] rfl rfl (Nat.le_of_ble_eq_true rfl) ev1 ⟨rfl, rfl⟩ ?_
  show K 6 [some (.inr (.inr 326)), some (.inr (.inr a1)), some (.inl x2), some (.inl x3), some (.inl x4), some (.inl x5), none, none, none, none, none, none] [.inr (.inl v1), .inr (.inr a1)] h
  refine ia_go hK ck_Ou_longestFair_6 ?_
  show K 9 [some (.inr (.inr 326)), some (.inr (.inr a1)), some (.inl x2), some (.inl x3), some (.inl x4), some (.inl x5), none, none, none, none, none, none] [.inl x4, .inl x3, .inr (.inl v1), .inr (.inr a1)] h
  obtain ⟨v2, hv2, hm⟩ := ia_bnd hm
  have ev2 := t_Ou_blocksOf (d + 2) hg p1 hv2
  refine ia_cS hK mk_Ou_blocksOf lk_5_107 dc_Ou_longestFair_9 [.inr (.inr a1), .inr (.inl v1), .inl x3, .inl x4] [] rfl rfl (Nat.le_of_ble_eq_true rfl) ev2 ⟨rfl, rfl⟩ ?_
  show K 12 [some (.inr (.inr 326)), some (.inr (.inr a1)), some (.inl x2), some (.inl x3), some (.inl x4), some (.inl x5), none, none, none, none, none, none] [.inr (.inl v2)] h
  refine ia_go hK ck_Ou_longestFair_12 ⟨fun c => ?_, fun c => ?_⟩
  · replace hm := ia_ifn hm c
    show K 23 [some (.inr (.inr 326)), some (.inr (.inr a1)), some (.inl x2), some (.inl x3), some (.inl x4), some (.inl x5), some (.inr (.inl v2)), none, none, none, none, none] [] h
    refine ia_go hK ck_Ou_longestFair_23 ?_
    show K 29 [some (.inr (.inr 326)), some (.inr (.inr a1)), some (.inl x2), some (.inl x3), some (.inl x4), some (.inl x5), some (.inr (.inl v2)), none, some (.inl 0), some (.inl 1), none, none] [] h
    refine ia_fg hK (lv' := [none, some (.inr (.inr a1)), some (.inl x2), some (.inl x3), some (.inl x4), some (.inl x5), some (.inr (.inl v2)), none, some (.inl 0), some (.inl 1), none, none]) ⟨rfl, rfl, rfl, rfl, rfl, rfl, rfl, rfl, trivial⟩ ?_
    refine tl_Ou_longestFair_29 hK p1 hret ?_ ?_ fu_ v2 0 1 h hg hm
    · intro y6 x8 h hg hm
      refine ia_go hK ck_Ou_longestFair_68 ?_
      show K 85 [none, none, none, none, none, some (.inl x5), some (.inr (.inl y6)), none, some (.inl x8), none, none, none] [] h
      exact tj_Ou_longestFair_85 hK p1 hret y6 x8 h hg hm
    · intro y6 x8 h hg hm
      exact tj_Ou_longestFair_85 hK p1 hret y6 x8 h hg hm
  · replace hm := ia_ifp hm c
    show K 21 [some (.inr (.inr 326)), some (.inr (.inr a1)), some (.inl x2), some (.inl x3), some (.inl x4), some (.inl x5), some (.inr (.inl v2)), none, none, none, none, none] [] h
    refine ia_go hK ck_Ou_longestFair_21 ?_
    show K 22 [some (.inr (.inr 326)), some (.inr (.inr a1)), some (.inl x2), some (.inl x3), some (.inl x4), some (.inl x5), some (.inr (.inl v2)), none, none, none, none, none] [.inl (-1)] h
    obtain ⟨rfl, rfl⟩ := Prod.mk.inj (Option.some.inj hm)
    exact hret 22 _ dc_Ou_longestFair_22
def mm_I_fair : ia_M := (⟨"IceStreet", "fair", "(IIIIIIIZ)I"⟩, prog_1_method_22_code, 9, (some .int), 0, false)
theorem ok_I_fair : ia_mok mm_I_fair := ⟨by decide +kernel, by decide +kernel, by decide +kernel, by decide +kernel⟩
theorem mk_I_fair : ia_mkn mm_I_fair 1 8 := ⟨ia_tb_in (List.mem_of_getElem? (i := 1308) (by decide +kernel)) rfl, ia_tb_in (List.mem_of_getElem? (i := 133) (by decide +kernel)) rfl, by decide +kernel, by decide +kernel, ⟨ia_tb_in (List.mem_of_getElem? (i := 1306) (by decide +kernel)) rfl, ia_tb_in (List.mem_of_getElem? (i := 1307) (by decide +kernel)) rfl⟩⟩
theorem ck_I_fair_0 : ia_cks 0 9 false prog_1_method_22_code 0 [(.aload_n 0, 0, 0, 0, 0), (.iload_n 1, 0, 0, 0, 0), (.iload_n 2, 0, 0, 0, 0), (.iload_n 3, 0, 0, 0, 0), (.iload 4, 0, 0, 0, 0)] = true := by decide +kernel
theorem ck_I_fair_9 : ia_cks 0 9 false prog_1_method_22_code 9 [(.ifCond .eq 37, 0, 0, 0, 0)] = true := by decide +kernel
theorem ck_I_fair_46 : ia_cks 0 9 false prog_1_method_22_code 46 [(.iconst (-1), 0, 0, 0, 0)] = true := by decide +kernel
theorem ck_I_fair_12 : ia_cks 0 9 false prog_1_method_22_code 12 [(.iload 5, 0, 0, 0, 0)] = true := by decide +kernel
theorem ck_I_fair_17 : ia_cks 0 9 false prog_1_method_22_code 17 [(.ifCond .eq 29, 0, 0, 0, 0)] = true := by decide +kernel
theorem ck_I_fair_20 : ia_cks 0 9 false prog_1_method_22_code 20 [(.iload 6, 0, 0, 0, 0), (.iconst 1, 0, 0, 0, 0), (.if_icmp .lt 23, 0, 0, 0, 0)] = true := by decide +kernel
theorem ck_I_fair_26 : ia_cks 0 9 false prog_1_method_22_code 26 [(.iload 6, 0, 0, 0, 0), (.bipush 6, 0, 0, 0, 0), (.if_icmp .gt 16, 0, 0, 0, 0)] = true := by decide +kernel
theorem ck_I_fair_33 : ia_cks 0 9 false prog_1_method_22_code 33 [(.iload 7, 0, 0, 0, 0), (.iconst 1, 0, 0, 0, 0), (.if_icmp .lt 10, 0, 0, 0, 0)] = true := by decide +kernel
theorem ck_I_fair_39 : ia_cks 0 9 false prog_1_method_22_code 39 [(.iload 7, 0, 0, 0, 0), (.bipush 6, 0, 0, 0, 0), (.if_icmp .le 5, 0, 0, 0, 0)] = true := by decide +kernel
theorem ck_I_fair_48 : ia_cks 0 9 false prog_1_method_22_code 48 [(.aload_n 0, 0, 0, 0, 0), (.getfield 69, 0, 7, 3, 262), (.aload_n 0, 0, 0, 0, 0), (.getfield 44, 0, 4, 3, 239), (.iload 5, 0, 0, 0, 0), (.iload 6, 0, 0, 0, 0), (.iload 7, 0, 0, 0, 0), (.iload 8, 0, 0, 0, 0)] = true := by decide +kernel
theorem dc_I_fair_6 : decode prog_1_method_22_code 6 = .ok (.invokevirtual 266, 3) := by decide +kernel
theorem dc_I_fair_47 : decode prog_1_method_22_code 47 = .ok (.ireturn, 1) := by decide +kernel
theorem dc_I_fair_14 : decode prog_1_method_22_code 14 = .ok (.invokestatic 333, 3) := by decide +kernel
theorem dc_I_fair_64 : decode prog_1_method_22_code 64 = .ok (.invokevirtual 354, 3) := by decide +kernel
theorem dc_I_fair_67 : decode prog_1_method_22_code 67 = .ok (.ireturn, 1) := by decide +kernel
def f_I_fair (x1 : Int32) (x2 : Int32) (x3 : Int32) (x4 : Int32) (x5 : Int32) (x6 : Int32) (x7 : Int32) (x8 : Int32) (h : ia_H) : Option (Int32 × ia_H) := (f_I_stage x1 x2 x3 x4 h).bind fun v1 => (if v1.1 = 0 then (some ((-1), v1.2)) else ((f_I_isLoad x5 v1.2).bind fun v2 => (if v2 = 0 then (some ((-1), v1.2)) else (if x6 < 1 then (some ((-1), v1.2)) else (if 6 < x6 then (some ((-1), v1.2)) else (if x7 < 1 then (some ((-1), v1.2)) else (if x7 ≤ 6 then ((f_Ou_longestFair 303 x5 x6 x7 x8 v1.2).bind fun v3 => (some (v3.1, v3.2))) else (some ((-1), v1.2)))))))))
theorem g_I_fair {w : ia_O0} {x1 : Int32} {x2 : Int32} {x3 : Int32} {x4 : Int32} {x5 : Int32} {x6 : Int32} {x7 : Int32} {x8 : Int32} {h : ia_H} (hg : gd_ w h) {q : (Int32 × ia_H)} (hm : f_I_fair x1 x2 x3 x4 x5 x6 x7 x8 h = some q) : gd_ w q.2 := by
  obtain ⟨r, h1⟩ := q
  unfold f_I_fair at hm
  obtain ⟨v1, hv1, hm⟩ := ia_bnd hm
  have gv1 := g_I_stage hg hv1
  by_cases c : v1.1 = 0
  · replace hm := ia_ifp hm c
    obtain ⟨rfl, rfl⟩ := Prod.mk.inj (Option.some.inj hm)
    exact gv1
  · replace hm := ia_ifn hm c
    obtain ⟨v2, hv2, hm⟩ := ia_bnd hm
    by_cases c : v2 = 0
    · replace hm := ia_ifp hm c
      obtain ⟨rfl, rfl⟩ := Prod.mk.inj (Option.some.inj hm)
      exact gv1
    · replace hm := ia_ifn hm c
      by_cases c : x6 < 1
      · replace hm := ia_ifp hm c
        obtain ⟨rfl, rfl⟩ := Prod.mk.inj (Option.some.inj hm)
        exact gv1
      · replace hm := ia_ifn hm c
        by_cases c : 6 < x6
        · replace hm := ia_ifp hm c
          obtain ⟨rfl, rfl⟩ := Prod.mk.inj (Option.some.inj hm)
          exact gv1
        · replace hm := ia_ifn hm c
          by_cases c : x7 < 1
          · replace hm := ia_ifp hm c
            obtain ⟨rfl, rfl⟩ := Prod.mk.inj (Option.some.inj hm)
            exact gv1
          · replace hm := ia_ifn hm c
            by_cases c : x7 ≤ 6
            · replace hm := ia_ifp hm c
              obtain ⟨v3, hv3, hm⟩ := ia_bnd hm
              have gv3 := g_Ou_longestFair gv1 (ka_0_4 pk_64) hv3
              obtain ⟨rfl, rfl⟩ := Prod.mk.inj (Option.some.inj hm)
              exact gv3
            · replace hm := ia_ifn hm c
              obtain ⟨rfl, rfl⟩ := Prod.mk.inj (Option.some.inj hm)
              exact gv1
theorem t_I_fair {w : ia_O0} (d : Nat) {x1 : Int32} {x2 : Int32} {x3 : Int32} {x4 : Int32} {x5 : Int32} {x6 : Int32} {x7 : Int32} {x8 : Int32} {h : ia_H} (hg : gd_ w h) {q : (Int32 × ia_H)} (hm : f_I_fair x1 x2 x3 x4 x5 x6 x7 x8 h = some q) : ia_Ev (d + 7) mm_I_fair [.inr (.inr 64), .inl x1, .inl x2, .inl x3, .inl x4, .inl x5, .inl x6, .inl x7, .inl x8] h (some (.inl q.1)) q.2 := by
  have gq := g_I_fair hg hm
  refine ia_Ev_intro ok_I_fair (gd_le hg gq).1 (gd_le hg gq).2 (Nat.le_of_ble_eq_true rfl) (fun K hK hret => ?_)
  obtain ⟨r, h1⟩ := q
  show K 0 [some (.inr (.inr 64)), some (.inl x1), some (.inl x2), some (.inl x3), some (.inl x4), some (.inl x5), some (.inl x6), some (.inl x7), some (.inl x8)] [] h
  unfold f_I_fair at hm
  refine ia_go hK ck_I_fair_0 ?_
  show K 6 [some (.inr (.inr 64)), some (.inl x1), some (.inl x2), some (.inl x3), some (.inl x4), some (.inl x5), some (.inl x6), some (.inl x7), some (.inl x8)] [.inl x4, .inl x3, .inl x2, .inl x1, .inr (.inr 64)] h
  obtain ⟨v1, hv1, hm⟩ := ia_bnd hm
  have ev1 := t_I_stage (d + 0) hg hv1
  have gv1 := g_I_stage hg hv1
  refine ia_cV hK mk_I_stage lk_0_266 dc_I_fair_6 64 [.inl x1, .inl x2, .inl x3, .inl x4] [] rfl rfl (Nat.le_of_ble_eq_true rfl) (by decide) rfl (gk_0 hg pk_64) ev1 (gd_nm hg gv1) ?_
  show K 9 [some (.inr (.inr 64)), some (.inl x1), some (.inl x2), some (.inl x3), some (.inl x4), some (.inl x5), some (.inl x6), some (.inl x7), some (.inl x8)] [.inl v1.1] v1.2
  refine ia_go hK ck_I_fair_9 ⟨fun c => ?_, fun c => ?_⟩
  · replace hm := ia_ifp hm c
    show K 46 [some (.inr (.inr 64)), some (.inl x1), some (.inl x2), some (.inl x3), some (.inl x4), some (.inl x5), some (.inl x6), some (.inl x7), some (.inl x8)] [] v1.2
    refine ia_go hK ck_I_fair_46 ?_
    show K 47 [some (.inr (.inr 64)), some (.inl x1), some (.inl x2), some (.inl x3), some (.inl x4), some (.inl x5), some (.inl x6), some (.inl x7), some (.inl x8)] [.inl (-1)] v1.2
    obtain ⟨rfl, rfl⟩ := Prod.mk.inj (Option.some.inj hm)
    exact hret 47 _ dc_I_fair_47
  · replace hm := ia_ifn hm c
    show K 12 [some (.inr (.inr 64)), some (.inl x1), some (.inl x2), some (.inl x3), some (.inl x4), some (.inl x5), some (.inl x6), some (.inl x7), some (.inl x8)] [] v1.2
    refine ia_go hK ck_I_fair_12 ?_
    show K 14 [some (.inr (.inr 64)), some (.inl x1), some (.inl x2), some (.inl x3), some (.inl x4), some (.inl x5), some (.inl x6), some (.inl x7), some (.inl x8)] [.inl x5] v1.2
    obtain ⟨v2, hv2, hm⟩ := ia_bnd hm
    have ev2 := t_I_isLoad (d + 6) gv1 hv2
    refine ia_cS hK mk_I_isLoad lk_0_333 dc_I_fair_14 [.inl x5] [] rfl rfl (Nat.le_of_ble_eq_true rfl) ev2 ⟨rfl, rfl⟩ ?_
    show K 17 [some (.inr (.inr 64)), some (.inl x1), some (.inl x2), some (.inl x3), some (.inl x4), some (.inl x5), some (.inl x6), some (.inl x7), some (.inl x8)] [.inl v2] v1.2
    refine ia_go hK ck_I_fair_17 ⟨fun c => ?_, fun c => ?_⟩
    · replace hm := ia_ifp hm c
      show K 46 [some (.inr (.inr 64)), some (.inl x1), some (.inl x2), some (.inl x3), some (.inl x4), some (.inl x5), some (.inl x6), some (.inl x7), some (.inl x8)] [] v1.2
      refine ia_go hK ck_I_fair_46 ?_
      show K 47 [some (.inr (.inr 64)), some (.inl x1), some (.inl x2), some (.inl x3), some (.inl x4), some (.inl x5), some (.inl x6), some (.inl x7), some (.inl x8)] [.inl (-1)] v1.2
      obtain ⟨rfl, rfl⟩ := Prod.mk.inj (Option.some.inj hm)
      exact hret 47 _ dc_I_fair_47
    · replace hm := ia_ifn hm c
      show K 20 [some (.inr (.inr 64)), some (.inl x1), some (.inl x2), some (.inl x3), some (.inl x4), some (.inl x5), some (.inl x6), some (.inl x7), some (.inl x8)] [] v1.2
      refine ia_go hK ck_I_fair_20 ⟨fun c => ?_, fun c => ?_⟩
      · replace hm := ia_ifp hm c
        show K 46 [some (.inr (.inr 64)), some (.inl x1), some (.inl x2), some (.inl x3), some (.inl x4), some (.inl x5), some (.inl x6), some (.inl x7), some (.inl x8)] [] v1.2
        refine ia_go hK ck_I_fair_46 ?_
        show K 47 [some (.inr (.inr 64)), some (.inl x1), some (.inl x2), some (.inl x3), some (.inl x4), some (.inl x5), some (.inl x6), some (.inl x7), some (.inl x8)] [.inl (-1)] v1.2
        obtain ⟨rfl, rfl⟩ := Prod.mk.inj (Option.some.inj hm)
        exact hret 47 _ dc_I_fair_47
      · replace hm := ia_ifn hm c
        show K 26 [some (.inr (.inr 64)), some (.inl x1), some (.inl x2), some (.inl x3), some (.inl x4), some (.inl x5), some (.inl x6), some (.inl x7), some (.inl x8)] [] v1.2
        refine ia_go hK ck_I_fair_26 ⟨fun c => ?_, fun c => ?_⟩
        · replace hm := ia_ifp hm c
          show K 46 [some (.inr (.inr 64)), some (.inl x1), some (.inl x2), some (.inl x3), some (.inl x4), some (.inl x5), some (.inl x6), some (.inl x7), some (.inl x8)] [] v1.2
          refine ia_go hK ck_I_fair_46 ?_
          show K 47 [some (.inr (.inr 64)), some (.inl x1), some (.inl x2), some (.inl x3), some (.inl x4), some (.inl x5), some (.inl x6), some (.inl x7), some (.inl x8)] [.inl (-1)] v1.2
          obtain ⟨rfl, rfl⟩ := Prod.mk.inj (Option.some.inj hm)
          exact hret 47 _ dc_I_fair_47
        · replace hm := ia_ifn hm c
          show K 33 [some (.inr (.inr 64)), some (.inl x1), some (.inl x2), some (.inl x3), some (.inl x4), some (.inl x5), some (.inl x6), some (.inl x7), some (.inl x8)] [] v1.2
          refine ia_go hK ck_I_fair_33 ⟨fun c => ?_, fun c => ?_⟩
          · replace hm := ia_ifp hm c
            show K 46 [some (.inr (.inr 64)), some (.inl x1), some (.inl x2), some (.inl x3), some (.inl x4), some (.inl x5), some (.inl x6), some (.inl x7), some (.inl x8)] [] v1.2
            refine ia_go hK ck_I_fair_46 ?_
            show K 47 [some (.inr (.inr 64)), some (.inl x1), some (.inl x2), some (.inl x3), some (.inl x4), some (.inl x5), some (.inl x6), some (.inl x7), some (.inl x8)] [.inl (-1)] v1.2
            obtain ⟨rfl, rfl⟩ := Prod.mk.inj (Option.some.inj hm)
            exact hret 47 _ dc_I_fair_47
          · replace hm := ia_ifn hm c
            show K 39 [some (.inr (.inr 64)), some (.inl x1), some (.inl x2), some (.inl x3), some (.inl x4), some (.inl x5), some (.inl x6), some (.inl x7), some (.inl x8)] [] v1.2
            refine ia_go hK ck_I_fair_39 ⟨fun c => ?_, fun c => ?_⟩
            · replace hm := ia_ifp hm c
              show K 48 [some (.inr (.inr 64)), some (.inl x1), some (.inl x2), some (.inl x3), some (.inl x4), some (.inl x5), some (.inl x6), some (.inl x7), some (.inl x8)] [] v1.2
              refine ia_go hK ck_I_fair_48 ⟨gk_0 gv1 pk_64, gr_0_7 gv1 pk_64, gk_0 gv1 pk_64, gr_0_4 gv1 pk_64, ?_⟩
              show K 64 [some (.inr (.inr 64)), some (.inl x1), some (.inl x2), some (.inl x3), some (.inl x4), some (.inl x5), some (.inl x6), some (.inl x7), some (.inl x8)] [.inl x8, .inl x7, .inl x6, .inl x5, .inr (.inr 303), .inr (.inr 326)] v1.2
              obtain ⟨v3, hv3, hm⟩ := ia_bnd hm
              have ev3 := t_Ou_longestFair (d + 2) gv1 (ka_0_4 pk_64) hv3
              have gv3 := g_Ou_longestFair gv1 (ka_0_4 pk_64) hv3
              refine ia_cV hK mk_Ou_longestFair lk_0_354 dc_I_fair_64 326 [.inr (.inr 303), .inl x5, .inl x6, .inl x7, .inl x8] [] rfl rfl (Nat.le_of_ble_eq_true rfl) (by decide) rfl (gk_5 gv1 (ka_0_7 pk_64)) ev3 (gd_nm gv1 gv3) ?_
              show K 67 [some (.inr (.inr 64)), some (.inl x1), some (.inl x2), some (.inl x3), some (.inl x4), some (.inl x5), some (.inl x6), some (.inl x7), some (.inl x8)] [.inl v3.1] v3.2
              obtain ⟨rfl, rfl⟩ := Prod.mk.inj (Option.some.inj hm)
              exact hret 67 _ dc_I_fair_67
            · replace hm := ia_ifn hm c
              show K 46 [some (.inr (.inr 64)), some (.inl x1), some (.inl x2), some (.inl x3), some (.inl x4), some (.inl x5), some (.inl x6), some (.inl x7), some (.inl x8)] [] v1.2
              refine ia_go hK ck_I_fair_46 ?_
              show K 47 [some (.inr (.inr 64)), some (.inl x1), some (.inl x2), some (.inl x3), some (.inl x4), some (.inl x5), some (.inl x6), some (.inl x7), some (.inl x8)] [.inl (-1)] v1.2
              obtain ⟨rfl, rfl⟩ := Prod.mk.inj (Option.some.inj hm)
              exact hret 47 _ dc_I_fair_47
def mm_Dr_ready : ia_M := (⟨"IceStreet$Drawing", "ready", "(LIceStreet$Scene;I)V"⟩, prog_3_method_2_code, 3, none, 2, false)
theorem ok_Dr_ready : ia_mok mm_Dr_ready := ⟨by decide +kernel, by decide +kernel, by decide +kernel, by decide +kernel⟩
theorem mk_Dr_ready : ia_mkn mm_Dr_ready 1 2 := ⟨ia_tb_in (List.mem_of_getElem? (i := 1339) (by decide +kernel)) rfl, ia_tb_in (List.mem_of_getElem? (i := 144) (by decide +kernel)) rfl, by decide +kernel, by decide +kernel, ⟨ia_tb_in (List.mem_of_getElem? (i := 1337) (by decide +kernel)) rfl, ia_tb_in (List.mem_of_getElem? (i := 1338) (by decide +kernel)) rfl⟩⟩
theorem ck_Dr_ready_0 : ia_cks 2 3 false prog_3_method_2_code 0 [(.aload_n 0, 0, 0, 0, 0), (.iload_n 2, 0, 0, 0, 0), (.bipush 6, 0, 0, 0, 0)] = true := by decide +kernel
theorem ck_Dr_ready_7 : ia_cks 2 3 false prog_3_method_2_code 7 [(.putfield 41, 2, 6, 0, 0), (.aload_n 0, 0, 0, 0, 0), (.getfield 20, 2, 4, 3, 3), (.iconst 0, 0, 0, 0, 0), (.aaload, 113, 8, 0, 0), (.aload_n 1, 0, 0, 0, 0)] = true := by decide +kernel
theorem ck_Dr_ready_20 : ia_cks 2 3 false prog_3_method_2_code 20 [(.aload_n 0, 0, 0, 0, 0), (.sipush 1000, 0, 0, 0, 0), (.putfield 49, 2, 0, 0, 0)] = true := by decide +kernel
theorem dc_Dr_ready_4 : decode prog_3_method_2_code 4 = .ok (.invokestatic 35, 3) := by decide +kernel
theorem dc_Dr_ready_17 : decode prog_3_method_2_code 17 = .ok (.invokevirtual 45, 3) := by decide +kernel
theorem dc_Dr_ready_27 : decode prog_3_method_2_code 27 = .ok (.return_, 1) := by decide +kernel
def f_Dr_ready (a1 : Nat) (x2 : Int32) (h : ia_H) : Option ia_H := (f_Sc_become 349 a1 (ia_wI h 345 6 (ia_min x2 6))).bind fun v1 => (some (ia_wI v1 345 0 1000))
theorem g_Dr_ready {w : ia_O0} {a1 : Nat} {x2 : Int32} {h : ia_H} (hg : gd_ w h) (p1 : (kd_D a1).1 = 9) {q : ia_H} (hm : f_Dr_ready a1 x2 h = some q) : gd_ w q := by
  obtain ⟨h1, e1⟩ : ∃ x, x = q := ⟨_, rfl⟩
  subst e1
  unfold f_Dr_ready at hm
  obtain ⟨v1, hv1, hm⟩ := ia_bnd hm
  have gv1 := g_Sc_become (gd_wI hg (ko_2 pk_345)) (ke_113 (ka_2_4 pk_345) (i := 0) (by decide)) p1 hv1
  obtain rfl := Option.some.inj hm
  exact (gd_wI gv1 (ko_2 pk_345))
theorem t_Dr_ready {w : ia_O0} (d : Nat) {a1 : Nat} {x2 : Int32} {h : ia_H} (hg : gd_ w h) (p1 : (kd_D a1).1 = 9) {q : ia_H} (hm : f_Dr_ready a1 x2 h = some q) : ia_Ev (d + 1) mm_Dr_ready [.inr (.inr 345), .inr (.inr a1), .inl x2] h none q := by
  have gq := g_Dr_ready hg p1 hm
  refine ia_Ev_intro ok_Dr_ready (gd_le hg gq).1 (gd_le hg gq).2 (Nat.le_of_ble_eq_true rfl) (fun K hK hret => ?_)
  obtain ⟨h1, e1⟩ : ∃ x, x = q := ⟨_, rfl⟩
  subst e1
  show K 0 [some (.inr (.inr 345)), some (.inr (.inr a1)), some (.inl x2)] [] h
  unfold f_Dr_ready at hm
  refine ia_go hK ck_Dr_ready_0 ?_
  show K 4 [some (.inr (.inr 345)), some (.inr (.inr a1)), some (.inl x2)] [.inl 6, .inl x2, .inr (.inr 345)] h
  refine ia_mmin hK (ia_tb_in (List.mem_of_getElem? (i := 1340) (by decide +kernel)) rfl) dc_Dr_ready_4 (Nat.le_of_ble_eq_true rfl) ?_
  show K 7 [some (.inr (.inr 345)), some (.inr (.inr a1)), some (.inl x2)] [.inl (ia_min x2 6), .inr (.inr 345)] h
  refine ia_go hK ck_Dr_ready_7 ⟨gk_2 hg pk_345, gk_2 (gd_wI hg (ko_2 pk_345)) pk_345, gr_2_4 (gd_wI hg (ko_2 pk_345)) pk_345, ga_r113 (gd_wI hg (ko_2 pk_345)) (ka_2_4 pk_345) (by decide), ?_⟩
  show K 17 [some (.inr (.inr 345)), some (.inr (.inr a1)), some (.inl x2)] [.inr (.inr a1), .inr (.inr 349)] (ia_wI h 345 6 (ia_min x2 6))
  obtain ⟨v1, hv1, hm⟩ := ia_bnd hm
  have ev1 := t_Sc_become (d + 0) (gd_wI hg (ko_2 pk_345)) (ke_113 (ka_2_4 pk_345) (i := 0) (by decide)) p1 hv1
  have gv1 := g_Sc_become (gd_wI hg (ko_2 pk_345)) (ke_113 (ka_2_4 pk_345) (i := 0) (by decide)) p1 hv1
  refine ia_cV hK mk_Sc_become lk_2_45 dc_Dr_ready_17 349 [.inr (.inr a1)] [] rfl rfl (Nat.le_of_ble_eq_true rfl) (by decide) rfl (gk_9 (gd_wI hg (ko_2 pk_345)) (ke_113 (ka_2_4 pk_345) (i := 0) (by decide))) ev1 (gd_nm (gd_wI hg (ko_2 pk_345)) gv1) ?_
  show K 20 [some (.inr (.inr 345)), some (.inr (.inr a1)), some (.inl x2)] [] v1
  refine ia_go hK ck_Dr_ready_20 ⟨gk_2 gv1 pk_345, ?_⟩
  show K 27 [some (.inr (.inr 345)), some (.inr (.inr a1)), some (.inl x2)] [] (ia_wI v1 345 0 1000)
  obtain rfl := Option.some.inj hm
  exact hret 27 _ dc_Dr_ready_27
def mm_Sc_worthNotOff : ia_M := (⟨"IceStreet$Scene", "worthNotOff", "()I"⟩, prog_10_method_21_code, 3, (some .int), 9, false)
theorem ok_Sc_worthNotOff : ia_mok mm_Sc_worthNotOff := ⟨by decide +kernel, by decide +kernel, by decide +kernel, by decide +kernel⟩
theorem mk_Sc_worthNotOff : ia_mkn mm_Sc_worthNotOff 1 0 := ⟨ia_tb_in (List.mem_of_getElem? (i := 1349) (by decide +kernel)) rfl, ia_tb_in (List.mem_of_getElem? (i := 140) (by decide +kernel)) rfl, by decide +kernel, by decide +kernel, ⟨ia_tb_in (List.mem_of_getElem? (i := 1347) (by decide +kernel)) rfl, ia_tb_in (List.mem_of_getElem? (i := 1348) (by decide +kernel)) rfl⟩⟩
theorem ck_Sc_worthNotOff_0 : ia_cks 9 3 false prog_10_method_21_code 0 [(.iconst 0, 0, 0, 0, 0), (.istore_n 1, 0, 0, 0, 0), (.iconst 0, 0, 0, 0, 0), (.istore_n 2, 0, 0, 0, 0)] = true := by decide +kernel
theorem ck_Sc_worthNotOff_4 : ia_cks 9 3 false prog_10_method_21_code 4 [(.iload_n 2, 0, 0, 0, 0), (.aload_n 0, 0, 0, 0, 0), (.getfield 33, 9, 0, 2, 0), (.getfield 66, 3, 11, 0, 0), (.if_icmp .ge 35, 0, 0, 0, 0)] = true := by decide +kernel
theorem ck_Sc_worthNotOff_15 : ia_cks 9 3 false prog_10_method_21_code 15 [(.iload_n 1, 0, 0, 0, 0), (.aload_n 0, 0, 0, 0, 0), (.getfield 24, 9, 6, 3, 5), (.iload_n 2, 0, 0, 0, 0), (.iaload, 0, 0, 0, 0), (.iconst (-1), 0, 0, 0, 0), (.if_icmp .ne 7, 0, 0, 0, 0)] = true := by decide +kernel
theorem ck_Sc_worthNotOff_30 : ia_cks 9 3 false prog_10_method_21_code 30 [(.aload_n 0, 0, 0, 0, 0), (.getfield 33, 9, 0, 2, 0), (.getfield 129, 3, 15, 3, 9), (.iload_n 2, 0, 0, 0, 0), (.iaload, 0, 0, 0, 0)] = true := by decide +kernel
theorem ck_Sc_worthNotOff_39 : ia_cks 9 3 false prog_10_method_21_code 39 [(.iadd, 0, 0, 0, 0), (.istore_n 1, 0, 0, 0, 0), (.iinc 2 1, 0, 0, 0, 0), (.goto (-40), 0, 0, 0, 0)] = true := by decide +kernel
theorem ck_Sc_worthNotOff_26 : ia_cks 9 3 false prog_10_method_21_code 26 [(.iconst 0, 0, 0, 0, 0), (.goto 12, 0, 0, 0, 0)] = true := by decide +kernel
theorem ck_Sc_worthNotOff_47 : ia_cks 9 3 false prog_10_method_21_code 47 [(.iload_n 1, 0, 0, 0, 0)] = true := by decide +kernel
theorem dc_Sc_worthNotOff_48 : decode prog_10_method_21_code 48 = .ok (.ireturn, 1) := by decide +kernel
def j_Sc_worthNotOff_39 (a0 : Nat) (h : ia_H) (kr : Int32 → Int32 → Option Int32) (k47 : Int32 → Option Int32) (x2 : Int32) (s0 : Int32) (s1 : Int32) : Option Int32 := kr (s0 + s1) (x2 + 1)
theorem tj_Sc_worthNotOff_39 {w : ia_O0} {d N1 W1 : Nat} {K : ia_K} (hK : ia_isK (d + 0) mm_Sc_worthNotOff N1 W1 K) {a0 : Nat} {h : ia_H} (hg : gd_ w h) (p0 : (kd_D a0).1 = 9) {r : Int32} (hret : ∀ (pc : Nat) (lv : ia_L), ia_ret mm_Sc_worthNotOff pc (some (.inl r)) → K pc lv ((some (.inl r)) : Option ia_V).toList h) {kr : Int32 → Int32 → Option Int32} {k47 : Int32 → Option Int32} (hkr : ∀ (x1 : Int32) (x2 : Int32), kr x1 x2 = some r → K 4 [some (.inr (.inr a0)), some (.inl x1), some (.inl x2)] [] h) (hk47 : ∀ (x1 : Int32), k47 x1 = some r → K 47 [none, some (.inl x1), none] [] h) : ∀ (x2 : Int32) (s0 : Int32) (s1 : Int32), j_Sc_worthNotOff_39 a0 h kr k47 x2 s0 s1 = some r → K 39 [some (.inr (.inr a0)), none, some (.inl x2)] [.inl s1, .inl s0] h := by
  intro x2 s0 s1 hm
  unfold j_Sc_worthNotOff_39 at hm
  refine ia_go hK ck_Sc_worthNotOff_39 ?_
  show K 4 [some (.inr (.inr a0)), some (.inl (s0 + s1)), some (.inl (x2 + 1))] [] h
  exact hkr (s0 + s1) (x2 + 1) hm
def l_Sc_worthNotOff_4 (a0 : Nat) (h : ia_H) (k47 : Int32 → Option Int32) (n : Nat) (x1 : Int32) (x2 : Int32) : Option Int32 := match n with
  | 0 => none
  | n + 1 => if (ia_i h (ia_r h a0 0) 11) ≤ x2 then (k47 x1) else (ia_gd (ia_ib x2 6) (if (ia_i h (a0 + 5) ((x2).toNatClampNeg)) = (-1) then (j_Sc_worthNotOff_39 a0 h (l_Sc_worthNotOff_4 a0 h k47 n) k47 x2 x1 0) else (ia_gd (ia_ib x2 6) (j_Sc_worthNotOff_39 a0 h (l_Sc_worthNotOff_4 a0 h k47 n) k47 x2 x1 (ia_i h ((ia_r h a0 0) + 9) ((x2).toNatClampNeg))))))
theorem tl_Sc_worthNotOff_4 {w : ia_O0} {d N1 W1 : Nat} {K : ia_K} (hK : ia_isK (d + 0) mm_Sc_worthNotOff N1 W1 K) {a0 : Nat} {h : ia_H} (hg : gd_ w h) (p0 : (kd_D a0).1 = 9) {r : Int32} (hret : ∀ (pc : Nat) (lv : ia_L), ia_ret mm_Sc_worthNotOff pc (some (.inl r)) → K pc lv ((some (.inl r)) : Option ia_V).toList h) {k47 : Int32 → Option Int32} (hk47 : ∀ (x1 : Int32), k47 x1 = some r → K 47 [none, some (.inl x1), none] [] h) : ∀ (n : Nat) (x1 : Int32) (x2 : Int32), l_Sc_worthNotOff_4 a0 h k47 n x1 x2 = some r → K 4 [some (.inr (.inr a0)), some (.inl x1), some (.inl x2)] [] h := by
  intro n
  induction n with
  | zero =>
    intro x1 x2 hm
    cases (show (none : Option Int32) = some _ from hm)
  | succ n ih =>
    intro x1 x2 hm
    rw [l_Sc_worthNotOff_4] at hm
    refine ia_go hK ck_Sc_worthNotOff_4 ⟨gk_9 hg p0, gk_3 hg (gm_9_0 hg p0), fun c => ?_, fun c => ?_⟩
    · replace hm := ia_ifp hm c
      show K 47 [some (.inr (.inr a0)), some (.inl x1), some (.inl x2)] [] h
      refine ia_fg hK (lv' := [none, some (.inl x1), none]) ⟨rfl, trivial⟩ ?_
      exact hk47 x1 hm
    · replace hm := ia_ifn hm c
      show K 15 [some (.inr (.inr a0)), some (.inl x1), some (.inl x2)] [] h
      obtain ⟨c1, hm⟩ := ia_gd_some hm
      refine ia_go hK ck_Sc_worthNotOff_15 ⟨gk_9 hg p0, gr_9_6 hg p0, ga_i100 hg (ka_9_6 p0) c1, fun c => ?_, fun c => ?_⟩
      · replace hm := ia_ifn hm c
        show K 30 [some (.inr (.inr a0)), some (.inl x1), some (.inl x2)] [.inl x1] h
        obtain ⟨c2, hm⟩ := ia_gd_some hm
        refine ia_go hK ck_Sc_worthNotOff_30 ⟨gk_9 hg p0, gk_3 hg (gm_9_0 hg p0), gr_3_15 hg (gm_9_0 hg p0), ga_i100 hg (ka_3_15 (gm_9_0 hg p0)) c2, ?_⟩
        show K 39 [some (.inr (.inr a0)), some (.inl x1), some (.inl x2)] [.inl (ia_i h ((ia_r h a0 0) + 9) ((x2).toNatClampNeg)), .inl x1] h
        refine ia_fg hK (lv' := [some (.inr (.inr a0)), none, some (.inl x2)]) ⟨rfl, rfl, trivial⟩ ?_
        exact tj_Sc_worthNotOff_39 hK hg p0 hret ih hk47 x2 x1 (ia_i h ((ia_r h a0 0) + 9) ((x2).toNatClampNeg)) hm
      · replace hm := ia_ifp hm c
        show K 26 [some (.inr (.inr a0)), some (.inl x1), some (.inl x2)] [.inl x1] h
        refine ia_go hK ck_Sc_worthNotOff_26 ?_
        show K 39 [some (.inr (.inr a0)), some (.inl x1), some (.inl x2)] [.inl 0, .inl x1] h
        refine ia_fg hK (lv' := [some (.inr (.inr a0)), none, some (.inl x2)]) ⟨rfl, rfl, trivial⟩ ?_
        exact tj_Sc_worthNotOff_39 hK hg p0 hret ih hk47 x2 x1 0 hm
def f_Sc_worthNotOff (a0 : Nat) (h : ia_H) : Option Int32 := l_Sc_worthNotOff_4 a0 h (fun x1 => some x1) fu_ 0 0
theorem t_Sc_worthNotOff {w : ia_O0} (d : Nat) {a0 : Nat} {h : ia_H} (hg : gd_ w h) (p0 : (kd_D a0).1 = 9) {r : Int32} (hm : f_Sc_worthNotOff a0 h = some r) : ia_Ev (d + 0) mm_Sc_worthNotOff [.inr (.inr a0)] h (some (.inl r)) h := by
  refine ia_Ev_intro ok_Sc_worthNotOff (Nat.le_refl _) (Nat.le_refl _) (Nat.le_of_ble_eq_true rfl) (fun K hK hret => ?_)
  show K 0 [some (.inr (.inr a0)), none, none] [] h
  unfold f_Sc_worthNotOff at hm
  refine ia_go hK ck_Sc_worthNotOff_0 ?_
  show K 4 [some (.inr (.inr a0)), some (.inl 0), some (.inl 0)] [] h
  refine tl_Sc_worthNotOff_4 hK hg p0 hret ?_ fu_ 0 0 hm
  · intro x1 hm
    refine ia_go hK ck_Sc_worthNotOff_47 ?_
    show K 48 [none, some (.inl x1), none] [.inl x1] h
    obtain rfl := Option.some.inj hm
    exact hret 48 _ dc_Sc_worthNotOff_48
def mm_Dr_keepBetter : ia_M := (⟨"IceStreet$Drawing", "keepBetter", "(I)V"⟩, prog_3_method_5_code, 2, none, 2, false)
theorem ok_Dr_keepBetter : ia_mok mm_Dr_keepBetter := ⟨by decide +kernel, by decide +kernel, by decide +kernel, by decide +kernel⟩
theorem mk_Dr_keepBetter : ia_mkn mm_Dr_keepBetter 1 1 := ⟨ia_tb_in (List.mem_of_getElem? (i := 1353) (by decide +kernel)) rfl, ia_tb_in (List.mem_of_getElem? (i := 144) (by decide +kernel)) rfl, by decide +kernel, by decide +kernel, ⟨ia_tb_in (List.mem_of_getElem? (i := 1352) (by decide +kernel)) rfl, ia_tb_in (List.mem_of_getElem? (i := 40) (by decide +kernel)) rfl⟩⟩
theorem ck_Dr_keepBetter_0 : ia_cks 2 2 false prog_3_method_5_code 0 [(.iload_n 1, 0, 0, 0, 0), (.aload_n 0, 0, 0, 0, 0), (.getfield 49, 2, 0, 0, 0), (.if_icmp .ge 25, 0, 0, 0, 0)] = true := by decide +kernel
theorem ck_Dr_keepBetter_8 : ia_cks 2 2 false prog_3_method_5_code 8 [(.aload_n 0, 0, 0, 0, 0), (.iload_n 1, 0, 0, 0, 0), (.putfield 49, 2, 0, 0, 0), (.aload_n 0, 0, 0, 0, 0), (.getfield 15, 2, 3, 3, 2), (.iconst 0, 0, 0, 0, 0), (.aload_n 0, 0, 0, 0, 0), (.getfield 9, 2, 1, 3, 1), (.iconst 0, 0, 0, 0, 0), (.aload_n 0, 0, 0, 0, 0), (.getfield 41, 2, 6, 0, 0)] = true := by decide +kernel
theorem dc_Dr_keepBetter_30 : decode prog_3_method_5_code 30 = .ok (.return_, 1) := by decide +kernel
theorem dc_Dr_keepBetter_27 : decode prog_3_method_5_code 27 = .ok (.invokestatic 103, 3) := by decide +kernel
def f_Dr_keepBetter (x1 : Int32) (h : ia_H) : Option ia_H := if (ia_i h 345 0) ≤ x1 then (some h) else (ia_gd (ia_cb 0 0 (ia_i (ia_wI h 345 0 x1) 345 6) 6 6) (some (ia_cpI (ia_wI h 345 0 x1) 347 346 0 0 ((ia_i (ia_wI h 345 0 x1) 345 6).toNatClampNeg))))
theorem g_Dr_keepBetter {w : ia_O0} {x1 : Int32} {h : ia_H} (hg : gd_ w h) {q : ia_H} (hm : f_Dr_keepBetter x1 h = some q) : gd_ w q := by
  obtain ⟨h1, e1⟩ : ∃ x, x = q := ⟨_, rfl⟩
  subst e1
  unfold f_Dr_keepBetter at hm
  by_cases c : (ia_i h 345 0) ≤ x1
  · replace hm := ia_ifp hm c
    obtain rfl := Option.some.inj hm
    exact hg
  · replace hm := ia_ifn hm c
    obtain ⟨c1, hm⟩ := ia_gd_some hm
    obtain rfl := Option.some.inj hm
    exact (gd_cpI (gd_wI hg (ko_2 pk_345)) (kx_100 (ka_2_1 pk_345)))
theorem t_Dr_keepBetter {w : ia_O0} (d : Nat) {x1 : Int32} {h : ia_H} (hg : gd_ w h) {q : ia_H} (hm : f_Dr_keepBetter x1 h = some q) : ia_Ev (d + 0) mm_Dr_keepBetter [.inr (.inr 345), .inl x1] h none q := by
  have gq := g_Dr_keepBetter hg hm
  refine ia_Ev_intro ok_Dr_keepBetter (gd_le hg gq).1 (gd_le hg gq).2 (Nat.le_of_ble_eq_true rfl) (fun K hK hret => ?_)
  obtain ⟨h1, e1⟩ : ∃ x, x = q := ⟨_, rfl⟩
  subst e1
  show K 0 [some (.inr (.inr 345)), some (.inl x1)] [] h
  unfold f_Dr_keepBetter at hm
  refine ia_go hK ck_Dr_keepBetter_0 ⟨gk_2 hg pk_345, fun c => ?_, fun c => ?_⟩
  · replace hm := ia_ifp hm c
    show K 30 [some (.inr (.inr 345)), some (.inl x1)] [] h
    obtain rfl := Option.some.inj hm
    exact hret 30 _ dc_Dr_keepBetter_30
  · replace hm := ia_ifn hm c
    show K 8 [some (.inr (.inr 345)), some (.inl x1)] [] h
    refine ia_go hK ck_Dr_keepBetter_8 ⟨gk_2 hg pk_345, gk_2 (gd_wI hg (ko_2 pk_345)) pk_345, gr_2_3 (gd_wI hg (ko_2 pk_345)) pk_345, gk_2 (gd_wI hg (ko_2 pk_345)) pk_345, gr_2_1 (gd_wI hg (ko_2 pk_345)) pk_345, gk_2 (gd_wI hg (ko_2 pk_345)) pk_345, ?_⟩
    show K 27 [some (.inr (.inr 345)), some (.inl x1)] [.inl (ia_i (ia_wI h 345 0 x1) 345 6), .inl 0, .inr (.inr 346), .inl 0, .inr (.inr 347)] (ia_wI h 345 0 x1)
    obtain ⟨c1, hm⟩ := ia_gd_some hm
    refine gd_cI hK (ia_tb_in (List.mem_of_getElem? (i := 1354) (by decide +kernel)) rfl) dc_Dr_keepBetter_27 (Nat.le_of_ble_eq_true rfl) (Or.inl rfl) (gd_wI hg (ko_2 pk_345)) (ka_2_3 pk_345) (ka_2_1 pk_345) c1 rfl ?_
    show K 30 [some (.inr (.inr 345)), some (.inl x1)] [] (ia_cpI (ia_wI h 345 0 x1) 347 346 0 0 ((ia_i (ia_wI h 345 0 x1) 345 6).toNatClampNeg))
    obtain rfl := Option.some.inj hm
    exact hret 30 _ dc_Dr_keepBetter_30
def mm_Dr_shopsWithHope : ia_M := (⟨"IceStreet$Drawing", "shopsWithHope", "(LIceStreet$Scene;I)I"⟩, prog_3_method_7_code, 5, (some .int), 2, false)
theorem ok_Dr_shopsWithHope : ia_mok mm_Dr_shopsWithHope := ⟨by decide +kernel, by decide +kernel, by decide +kernel, by decide +kernel⟩
theorem mk_Dr_shopsWithHope : ia_mkn mm_Dr_shopsWithHope 1 2 := ⟨ia_tb_in (List.mem_of_getElem? (i := 1358) (by decide +kernel)) rfl, ia_tb_in (List.mem_of_getElem? (i := 144) (by decide +kernel)) rfl, by decide +kernel, by decide +kernel, ⟨ia_tb_in (List.mem_of_getElem? (i := 1357) (by decide +kernel)) rfl, ia_tb_in (List.mem_of_getElem? (i := 41) (by decide +kernel)) rfl⟩⟩
theorem ck_Dr_shopsWithHope_0 : ia_cks 2 5 false prog_3_method_7_code 0 [(.aload_n 0, 0, 0, 0, 0), (.getfield 31, 2, 5, 3, 60), (.aload_n 1, 0, 0, 0, 0)] = true := by decide +kernel
theorem ck_Dr_shopsWithHope_8 : ia_cks 2 5 false prog_3_method_7_code 8 [(.iconst 0, 0, 0, 0, 0), (.istore_n 3, 0, 0, 0, 0)] = true := by decide +kernel
theorem ck_Dr_shopsWithHope_10 : ia_cks 2 5 false prog_3_method_7_code 10 [(.iload_n 3, 0, 0, 0, 0), (.aload_n 1, 0, 0, 0, 0), (.getfield 68, 9, 0, 2, 0), (.getfield 72, 3, 11, 0, 0), (.if_icmp .ge 27, 0, 0, 0, 0)] = true := by decide +kernel
theorem ck_Dr_shopsWithHope_21 : ia_cks 2 5 false prog_3_method_7_code 21 [(.aload_n 1, 0, 0, 0, 0), (.getfield 112, 9, 6, 3, 5), (.iload_n 3, 0, 0, 0, 0), (.iaload, 0, 0, 0, 0), (.ifCond .lt 12, 0, 0, 0, 0)] = true := by decide +kernel
theorem ck_Dr_shopsWithHope_39 : ia_cks 2 5 false prog_3_method_7_code 39 [(.iinc 3 1, 0, 0, 0, 0), (.goto (-32), 0, 0, 0, 0)] = true := by decide +kernel
theorem ck_Dr_shopsWithHope_30 : ia_cks 2 5 false prog_3_method_7_code 30 [(.aload_n 0, 0, 0, 0, 0), (.getfield 31, 2, 5, 3, 60), (.iload_n 3, 0, 0, 0, 0), (.iconst (-1), 0, 0, 0, 0)] = true := by decide +kernel
theorem ck_Dr_shopsWithHope_45 : ia_cks 2 5 false prog_3_method_7_code 45 [(.iconst 1, 0, 0, 0, 0), (.istore_n 3, 0, 0, 0, 0)] = true := by decide +kernel
theorem ck_Dr_shopsWithHope_47 : ia_cks 2 5 false prog_3_method_7_code 47 [(.iload_n 3, 0, 0, 0, 0), (.iload_n 2, 0, 0, 0, 0), (.if_icmp .ge 27, 0, 0, 0, 0)] = true := by decide +kernel
theorem ck_Dr_shopsWithHope_52 : ia_cks 2 5 false prog_3_method_7_code 52 [(.aload_n 0, 0, 0, 0, 0), (.getfield 31, 2, 5, 3, 60), (.iconst 0, 0, 0, 0, 0), (.aload_n 0, 0, 0, 0, 0), (.getfield 31, 2, 5, 3, 60)] = true := by decide +kernel
theorem ck_Dr_shopsWithHope_70 : ia_cks 2 5 false prog_3_method_7_code 70 [(.iinc 3 1, 0, 0, 0, 0), (.goto (-26), 0, 0, 0, 0)] = true := by decide +kernel
theorem ck_Dr_shopsWithHope_76 : ia_cks 2 5 false prog_3_method_7_code 76 [(.aload_n 0, 0, 0, 0, 0), (.getfield 24, 2, 2, 4, 311), (.aload_n 0, 0, 0, 0, 0), (.getfield 31, 2, 5, 3, 60), (.iconst 0, 0, 0, 0, 0)] = true := by decide +kernel
theorem ck_Dr_shopsWithHope_88 : ia_cks 2 5 false prog_3_method_7_code 88 [(.iconst 0, 0, 0, 0, 0), (.istore_n 3, 0, 0, 0, 0), (.iconst 0, 0, 0, 0, 0), (.istore 4, 0, 0, 0, 0)] = true := by decide +kernel
theorem ck_Dr_shopsWithHope_93 : ia_cks 2 5 false prog_3_method_7_code 93 [(.iload 4, 0, 0, 0, 0), (.aload_n 1, 0, 0, 0, 0), (.getfield 68, 9, 0, 2, 0), (.getfield 72, 3, 11, 0, 0), (.if_icmp .ge 50, 0, 0, 0, 0)] = true := by decide +kernel
theorem ck_Dr_shopsWithHope_105 : ia_cks 2 5 false prog_3_method_7_code 105 [(.aload_n 1, 0, 0, 0, 0), (.getfield 112, 9, 6, 3, 5), (.iload 4, 0, 0, 0, 0), (.iaload, 0, 0, 0, 0), (.ifCond .lt 34, 0, 0, 0, 0)] = true := by decide +kernel
theorem ck_Dr_shopsWithHope_146 : ia_cks 2 5 false prog_3_method_7_code 146 [(.iinc 4 1, 0, 0, 0, 0), (.goto (-56), 0, 0, 0, 0)] = true := by decide +kernel
theorem ck_Dr_shopsWithHope_115 : ia_cks 2 5 false prog_3_method_7_code 115 [(.aload_n 0, 0, 0, 0, 0), (.getfield 24, 2, 2, 4, 311), (.aload_n 1, 0, 0, 0, 0), (.getfield 125, 9, 7, 3, 6), (.iload 4, 0, 0, 0, 0), (.iaload, 0, 0, 0, 0), (.aload_n 1, 0, 0, 0, 0), (.getfield 112, 9, 6, 3, 5), (.iload 4, 0, 0, 0, 0), (.iaload, 0, 0, 0, 0)] = true := by decide +kernel
theorem ck_Dr_shopsWithHope_136 : ia_cks 2 5 false prog_3_method_7_code 136 [(.ifCond .eq 10, 0, 0, 0, 0)] = true := by decide +kernel
theorem ck_Dr_shopsWithHope_139 : ia_cks 2 5 false prog_3_method_7_code 139 [(.iload_n 3, 0, 0, 0, 0), (.iconst 1, 0, 0, 0, 0), (.iload 4, 0, 0, 0, 0), (.ishl, 0, 0, 0, 0), (.ior, 0, 0, 0, 0), (.istore_n 3, 0, 0, 0, 0), (.iinc 4 1, 0, 0, 0, 0), (.goto (-56), 0, 0, 0, 0)] = true := by decide +kernel
theorem ck_Dr_shopsWithHope_152 : ia_cks 2 5 false prog_3_method_7_code 152 [(.iload_n 3, 0, 0, 0, 0)] = true := by decide +kernel
theorem dc_Dr_shopsWithHope_5 : decode prog_3_method_7_code 5 = .ok (.invokevirtual 45, 3) := by decide +kernel
theorem dc_Dr_shopsWithHope_36 : decode prog_3_method_7_code 36 = .ok (.invokevirtual 115, 3) := by decide +kernel
theorem dc_Dr_shopsWithHope_61 : decode prog_3_method_7_code 61 = .ok (.invokevirtual 94, 3) := by decide +kernel
theorem dc_Dr_shopsWithHope_64 : decode prog_3_method_7_code 64 = .ok (.invokestatic 118, 3) := by decide +kernel
theorem dc_Dr_shopsWithHope_67 : decode prog_3_method_7_code 67 = .ok (.invokevirtual 97, 3) := by decide +kernel
theorem dc_Dr_shopsWithHope_85 : decode prog_3_method_7_code 85 = .ok (.invokevirtual 121, 3) := by decide +kernel
theorem dc_Dr_shopsWithHope_133 : decode prog_3_method_7_code 133 = .ok (.invokevirtual 128, 3) := by decide +kernel
theorem dc_Dr_shopsWithHope_153 : decode prog_3_method_7_code 153 = .ok (.ireturn, 1) := by decide +kernel
def l_Dr_shopsWithHope_10 (a1 : Nat) (x2 : Int32) (k45 : ia_H → Option (Int32 × ia_H)) (n : Nat) (x3 : Int32) (h : ia_H) : Option (Int32 × ia_H) := match n with
  | 0 => none
  | n + 1 => if (ia_i h (ia_r h a1 0) 11) ≤ x3 then (k45 h) else (ia_gd (ia_ib x3 6) (if (ia_i h (a1 + 5) ((x3).toNatClampNeg)) < 0 then (l_Dr_shopsWithHope_10 a1 x2 k45 n (x3 + 1) h) else ((f_Sc_lift 405 x3 (-1) h).bind fun v3 => (l_Dr_shopsWithHope_10 a1 x2 k45 n (x3 + 1) v3))))
theorem tl_Dr_shopsWithHope_10 {w : ia_O0} {d N1 W1 : Nat} {K : ia_K} (hK : ia_isK (d + 4) mm_Dr_shopsWithHope N1 W1 K) {a1 : Nat} {x2 : Int32} (p1 : (kd_D a1).1 = 9) {r : Int32} {h1 : ia_H} (hret : ∀ (pc : Nat) (lv : ia_L), ia_ret mm_Dr_shopsWithHope pc (some (.inl r)) → K pc lv ((some (.inl r)) : Option ia_V).toList h1) {k45 : ia_H → Option (Int32 × ia_H)} (hk45 : ∀ (h : ia_H), gd_ w h → k45 h = some (r, h1) → K 45 [some (.inr (.inr 345)), some (.inr (.inr a1)), some (.inl x2), none, none] [] h) : ∀ (n : Nat) (x3 : Int32) (h : ia_H), gd_ w h → l_Dr_shopsWithHope_10 a1 x2 k45 n x3 h = some (r, h1) → K 10 [some (.inr (.inr 345)), some (.inr (.inr a1)), some (.inl x2), some (.inl x3), none] [] h := by
  intro n
  induction n with
  | zero =>
    intro x3 h hg hm
    cases (show (none : Option (Int32 × ia_H)) = some _ from hm)
  | succ n ih =>
    intro x3 h hg hm
    rw [l_Dr_shopsWithHope_10] at hm
    refine ia_go hK ck_Dr_shopsWithHope_10 ⟨gk_9 hg p1, gk_3 hg (gm_9_0 hg p1), fun c => ?_, fun c => ?_⟩
    · replace hm := ia_ifp hm c
      show K 45 [some (.inr (.inr 345)), some (.inr (.inr a1)), some (.inl x2), some (.inl x3), none] [] h
      refine ia_fg hK (lv' := [some (.inr (.inr 345)), some (.inr (.inr a1)), some (.inl x2), none, none]) ⟨rfl, rfl, rfl, trivial⟩ ?_
      exact hk45 h hg hm
    · replace hm := ia_ifn hm c
      show K 21 [some (.inr (.inr 345)), some (.inr (.inr a1)), some (.inl x2), some (.inl x3), none] [] h
      obtain ⟨c2, hm⟩ := ia_gd_some hm
      refine ia_go hK ck_Dr_shopsWithHope_21 ⟨gk_9 hg p1, gr_9_6 hg p1, ga_i100 hg (ka_9_6 p1) c2, fun c => ?_, fun c => ?_⟩
      · replace hm := ia_ifp hm c
        show K 39 [some (.inr (.inr 345)), some (.inr (.inr a1)), some (.inl x2), some (.inl x3), none] [] h
        refine ia_go hK ck_Dr_shopsWithHope_39 ?_
        show K 10 [some (.inr (.inr 345)), some (.inr (.inr a1)), some (.inl x2), some (.inl (x3 + 1)), none] [] h
        exact ih (x3 + 1) h hg hm
      · replace hm := ia_ifn hm c
        show K 30 [some (.inr (.inr 345)), some (.inr (.inr a1)), some (.inl x2), some (.inl x3), none] [] h
        refine ia_go hK ck_Dr_shopsWithHope_30 ⟨gk_2 hg pk_345, gr_2_5 hg pk_345, ?_⟩
        show K 36 [some (.inr (.inr 345)), some (.inr (.inr a1)), some (.inl x2), some (.inl x3), none] [.inl (-1), .inl x3, .inr (.inr 405)] h
        obtain ⟨v3, hv3, hm⟩ := ia_bnd hm
        have ev3 := t_Sc_lift (d + 2) hg (ka_2_5 pk_345) hv3
        have gv3 := g_Sc_lift hg (ka_2_5 pk_345) hv3
        refine ia_cV hK mk_Sc_lift lk_2_115 dc_Dr_shopsWithHope_36 405 [.inl x3, .inl (-1)] [] rfl rfl (Nat.le_of_ble_eq_true rfl) (by decide) rfl (gk_9 hg (ka_2_5 pk_345)) ev3 (gd_nm hg gv3) ?_
        show K 39 [some (.inr (.inr 345)), some (.inr (.inr a1)), some (.inl x2), some (.inl x3), none] [] v3
        refine ia_go hK ck_Dr_shopsWithHope_39 ?_
        show K 10 [some (.inr (.inr 345)), some (.inr (.inr a1)), some (.inl x2), some (.inl (x3 + 1)), none] [] v3
        exact ih (x3 + 1) v3 gv3 hm
theorem gl_Dr_shopsWithHope_10 {w : ia_O0} {a1 : Nat} {x2 : Int32} (p1 : (kd_D a1).1 = 9) {r : Int32} {h1 : ia_H} {k45 : ia_H → Option (Int32 × ia_H)} (hk45 : ∀ (h : ia_H), gd_ w h → k45 h = some (r, h1) → gd_ w h1) : ∀ (n : Nat) (x3 : Int32) (h : ia_H), gd_ w h → l_Dr_shopsWithHope_10 a1 x2 k45 n x3 h = some (r, h1) → gd_ w h1 := by
  intro n
  induction n with
  | zero =>
    intro x3 h hg hm
    cases (show (none : Option (Int32 × ia_H)) = some _ from hm)
  | succ n ih =>
    intro x3 h hg hm
    rw [l_Dr_shopsWithHope_10] at hm
    by_cases c : (ia_i h (ia_r h a1 0) 11) ≤ x3
    · replace hm := ia_ifp hm c
      exact hk45 h hg hm
    · replace hm := ia_ifn hm c
      obtain ⟨c2, hm⟩ := ia_gd_some hm
      by_cases c : (ia_i h (a1 + 5) ((x3).toNatClampNeg)) < 0
      · replace hm := ia_ifp hm c
        exact ih (x3 + 1) h hg hm
      · replace hm := ia_ifn hm c
        obtain ⟨v3, hv3, hm⟩ := ia_bnd hm
        have gv3 := g_Sc_lift hg (ka_2_5 pk_345) hv3
        exact ih (x3 + 1) v3 gv3 hm
def l_Dr_shopsWithHope_47 (a1 : Nat) (x2 : Int32) (k76 : ia_H → Option (Int32 × ia_H)) (n : Nat) (x3 : Int32) (h : ia_H) : Option (Int32 × ia_H) := match n with
  | 0 => none
  | n + 1 => if x2 ≤ x3 then (k76 h) else ((f_Sc_frost 405 h).bind fun v4 => ((f_Sc_passDay 405 (ia_max 0 v4) h).bind fun v5 => (l_Dr_shopsWithHope_47 a1 x2 k76 n (x3 + 1) v5)))
theorem tl_Dr_shopsWithHope_47 {w : ia_O0} {d N1 W1 : Nat} {K : ia_K} (hK : ia_isK (d + 4) mm_Dr_shopsWithHope N1 W1 K) {a1 : Nat} {x2 : Int32} (p1 : (kd_D a1).1 = 9) {r : Int32} {h1 : ia_H} (hret : ∀ (pc : Nat) (lv : ia_L), ia_ret mm_Dr_shopsWithHope pc (some (.inl r)) → K pc lv ((some (.inl r)) : Option ia_V).toList h1) {k76 : ia_H → Option (Int32 × ia_H)} (hk76 : ∀ (h : ia_H), gd_ w h → k76 h = some (r, h1) → K 76 [some (.inr (.inr 345)), some (.inr (.inr a1)), none, none, none] [] h) : ∀ (n : Nat) (x3 : Int32) (h : ia_H), gd_ w h → l_Dr_shopsWithHope_47 a1 x2 k76 n x3 h = some (r, h1) → K 47 [some (.inr (.inr 345)), some (.inr (.inr a1)), some (.inl x2), some (.inl x3), none] [] h := by
  intro n
  induction n with
  | zero =>
    intro x3 h hg hm
    cases (show (none : Option (Int32 × ia_H)) = some _ from hm)
  | succ n ih =>
    intro x3 h hg hm
    rw [l_Dr_shopsWithHope_47] at hm
    refine ia_go hK ck_Dr_shopsWithHope_47 ⟨fun c => ?_, fun c => ?_⟩
    · replace hm := ia_ifp hm c
      show K 76 [some (.inr (.inr 345)), some (.inr (.inr a1)), some (.inl x2), some (.inl x3), none] [] h
      refine ia_fg hK (lv' := [some (.inr (.inr 345)), some (.inr (.inr a1)), none, none, none]) ⟨rfl, rfl, trivial⟩ ?_
      exact hk76 h hg hm
    · replace hm := ia_ifn hm c
      show K 52 [some (.inr (.inr 345)), some (.inr (.inr a1)), some (.inl x2), some (.inl x3), none] [] h
      refine ia_go hK ck_Dr_shopsWithHope_52 ⟨gk_2 hg pk_345, gr_2_5 hg pk_345, gk_2 hg pk_345, gr_2_5 hg pk_345, ?_⟩
      show K 61 [some (.inr (.inr 345)), some (.inr (.inr a1)), some (.inl x2), some (.inl x3), none] [.inr (.inr 405), .inl 0, .inr (.inr 405)] h
      obtain ⟨v4, hv4, hm⟩ := ia_bnd hm
      have ev4 := t_Sc_frost (d + 3) hg (ka_2_5 pk_345) hv4
      refine ia_cV hK mk_Sc_frost lk_2_94 dc_Dr_shopsWithHope_61 405 [] [.inl 0, .inr (.inr 405)] rfl rfl (Nat.le_of_ble_eq_true rfl) (by decide) rfl (gk_9 hg (ka_2_5 pk_345)) ev4 ⟨rfl, rfl⟩ ?_
      show K 64 [some (.inr (.inr 345)), some (.inr (.inr a1)), some (.inl x2), some (.inl x3), none] [.inl v4, .inl 0, .inr (.inr 405)] h
      refine ia_mmax hK (ia_tb_in (List.mem_of_getElem? (i := 1361) (by decide +kernel)) rfl) dc_Dr_shopsWithHope_64 (Nat.le_of_ble_eq_true rfl) ?_
      show K 67 [some (.inr (.inr 345)), some (.inr (.inr a1)), some (.inl x2), some (.inl x3), none] [.inl (ia_max 0 v4), .inr (.inr 405)] h
      obtain ⟨v5, hv5, hm⟩ := ia_bnd hm
      have ev5 := t_Sc_passDay (d + 0) hg (ka_2_5 pk_345) hv5
      have gv5 := g_Sc_passDay hg (ka_2_5 pk_345) hv5
      refine ia_cV hK mk_Sc_passDay lk_2_97 dc_Dr_shopsWithHope_67 405 [.inl (ia_max 0 v4)] [] rfl rfl (Nat.le_of_ble_eq_true rfl) (by decide) rfl (gk_9 hg (ka_2_5 pk_345)) ev5 (gd_nm hg gv5) ?_
      show K 70 [some (.inr (.inr 345)), some (.inr (.inr a1)), some (.inl x2), some (.inl x3), none] [] v5
      refine ia_go hK ck_Dr_shopsWithHope_70 ?_
      show K 47 [some (.inr (.inr 345)), some (.inr (.inr a1)), some (.inl x2), some (.inl (x3 + 1)), none] [] v5
      exact ih (x3 + 1) v5 gv5 hm
theorem gl_Dr_shopsWithHope_47 {w : ia_O0} {a1 : Nat} {x2 : Int32} (p1 : (kd_D a1).1 = 9) {r : Int32} {h1 : ia_H} {k76 : ia_H → Option (Int32 × ia_H)} (hk76 : ∀ (h : ia_H), gd_ w h → k76 h = some (r, h1) → gd_ w h1) : ∀ (n : Nat) (x3 : Int32) (h : ia_H), gd_ w h → l_Dr_shopsWithHope_47 a1 x2 k76 n x3 h = some (r, h1) → gd_ w h1 := by
  intro n
  induction n with
  | zero =>
    intro x3 h hg hm
    cases (show (none : Option (Int32 × ia_H)) = some _ from hm)
  | succ n ih =>
    intro x3 h hg hm
    rw [l_Dr_shopsWithHope_47] at hm
    by_cases c : x2 ≤ x3
    · replace hm := ia_ifp hm c
      exact hk76 h hg hm
    · replace hm := ia_ifn hm c
      obtain ⟨v4, hv4, hm⟩ := ia_bnd hm
      obtain ⟨v5, hv5, hm⟩ := ia_bnd hm
      have gv5 := g_Sc_passDay hg (ka_2_5 pk_345) hv5
      exact ih (x3 + 1) v5 gv5 hm
def l_Dr_shopsWithHope_93 (a1 : Nat) (x2 : Int32) (k152 : Int32 → ia_H → Option (Int32 × ia_H)) (n : Nat) (x3 : Int32) (x4 : Int32) (h : ia_H) : Option (Int32 × ia_H) := match n with
  | 0 => none
  | n + 1 => if (ia_i h (ia_r h a1 0) 11) ≤ x4 then (k152 x3 h) else (ia_gd (ia_ib x4 6) (if (ia_i h (a1 + 5) ((x4).toNatClampNeg)) < 0 then (l_Dr_shopsWithHope_93 a1 x2 k152 n x3 (x4 + 1) h) else (ia_gd (ia_ib x4 6) (ia_gd (ia_ib x4 6) ((f_Wa_reachesShore (ia_i h (a1 + 6) ((x4).toNatClampNeg)) (ia_i h (a1 + 5) ((x4).toNatClampNeg)) h).bind fun v10 => (if v10.1 = 0 then (l_Dr_shopsWithHope_93 a1 x2 k152 n x3 (x4 + 1) v10.2) else (l_Dr_shopsWithHope_93 a1 x2 k152 n (x3 ||| (1 <<< (x4 &&& 31))) (x4 + 1) v10.2)))))))
theorem tl_Dr_shopsWithHope_93 {w : ia_O0} {d N1 W1 : Nat} {K : ia_K} (hK : ia_isK (d + 4) mm_Dr_shopsWithHope N1 W1 K) {a1 : Nat} {x2 : Int32} (p1 : (kd_D a1).1 = 9) {r : Int32} {h1 : ia_H} (hret : ∀ (pc : Nat) (lv : ia_L), ia_ret mm_Dr_shopsWithHope pc (some (.inl r)) → K pc lv ((some (.inl r)) : Option ia_V).toList h1) {k152 : Int32 → ia_H → Option (Int32 × ia_H)} (hk152 : ∀ (x3 : Int32) (h : ia_H), gd_ w h → k152 x3 h = some (r, h1) → K 152 [none, none, none, some (.inl x3), none] [] h) : ∀ (n : Nat) (x3 : Int32) (x4 : Int32) (h : ia_H), gd_ w h → l_Dr_shopsWithHope_93 a1 x2 k152 n x3 x4 h = some (r, h1) → K 93 [some (.inr (.inr 345)), some (.inr (.inr a1)), none, some (.inl x3), some (.inl x4)] [] h := by
  intro n
  induction n with
  | zero =>
    intro x3 x4 h hg hm
    cases (show (none : Option (Int32 × ia_H)) = some _ from hm)
  | succ n ih =>
    intro x3 x4 h hg hm
    rw [l_Dr_shopsWithHope_93] at hm
    refine ia_go hK ck_Dr_shopsWithHope_93 ⟨gk_9 hg p1, gk_3 hg (gm_9_0 hg p1), fun c => ?_, fun c => ?_⟩
    · replace hm := ia_ifp hm c
      show K 152 [some (.inr (.inr 345)), some (.inr (.inr a1)), none, some (.inl x3), some (.inl x4)] [] h
      refine ia_fg hK (lv' := [none, none, none, some (.inl x3), none]) ⟨rfl, trivial⟩ ?_
      exact hk152 x3 h hg hm
    · replace hm := ia_ifn hm c
      show K 105 [some (.inr (.inr 345)), some (.inr (.inr a1)), none, some (.inl x3), some (.inl x4)] [] h
      obtain ⟨c7, hm⟩ := ia_gd_some hm
      refine ia_go hK ck_Dr_shopsWithHope_105 ⟨gk_9 hg p1, gr_9_6 hg p1, ga_i100 hg (ka_9_6 p1) c7, fun c => ?_, fun c => ?_⟩
      · replace hm := ia_ifp hm c
        show K 146 [some (.inr (.inr 345)), some (.inr (.inr a1)), none, some (.inl x3), some (.inl x4)] [] h
        refine ia_go hK ck_Dr_shopsWithHope_146 ?_
        show K 93 [some (.inr (.inr 345)), some (.inr (.inr a1)), none, some (.inl x3), some (.inl (x4 + 1))] [] h
        exact ih x3 (x4 + 1) h hg hm
      · replace hm := ia_ifn hm c
        show K 115 [some (.inr (.inr 345)), some (.inr (.inr a1)), none, some (.inl x3), some (.inl x4)] [] h
        obtain ⟨c8, hm⟩ := ia_gd_some hm
        obtain ⟨c9, hm⟩ := ia_gd_some hm
        refine ia_go hK ck_Dr_shopsWithHope_115 ⟨gk_2 hg pk_345, gr_2_2 hg pk_345, gk_9 hg p1, gr_9_7 hg p1, ga_i100 hg (ka_9_7 p1) c8, gk_9 hg p1, gr_9_6 hg p1, ga_i100 hg (ka_9_6 p1) c9, ?_⟩
        show K 133 [some (.inr (.inr 345)), some (.inr (.inr a1)), none, some (.inl x3), some (.inl x4)] [.inl (ia_i h (a1 + 5) ((x4).toNatClampNeg)), .inl (ia_i h (a1 + 6) ((x4).toNatClampNeg)), .inr (.inr 311)] h
        obtain ⟨v10, hv10, hm⟩ := ia_bnd hm
        have ev10 := t_Wa_reachesShore (d + 1) hg hv10
        have gv10 := g_Wa_reachesShore hg hv10
        refine ia_cV hK mk_Wa_reachesShore lk_2_128 dc_Dr_shopsWithHope_133 311 [.inl (ia_i h (a1 + 6) ((x4).toNatClampNeg)), .inl (ia_i h (a1 + 5) ((x4).toNatClampNeg))] [] rfl rfl (Nat.le_of_ble_eq_true rfl) (by decide) rfl (gk_11 hg pk_311) ev10 (gd_nm hg gv10) ?_
        show K 136 [some (.inr (.inr 345)), some (.inr (.inr a1)), none, some (.inl x3), some (.inl x4)] [.inl v10.1] v10.2
        refine ia_go hK ck_Dr_shopsWithHope_136 ⟨fun c => ?_, fun c => ?_⟩
        · replace hm := ia_ifp hm c
          show K 146 [some (.inr (.inr 345)), some (.inr (.inr a1)), none, some (.inl x3), some (.inl x4)] [] v10.2
          refine ia_go hK ck_Dr_shopsWithHope_146 ?_
          show K 93 [some (.inr (.inr 345)), some (.inr (.inr a1)), none, some (.inl x3), some (.inl (x4 + 1))] [] v10.2
          exact ih x3 (x4 + 1) v10.2 gv10 hm
        · replace hm := ia_ifn hm c
          show K 139 [some (.inr (.inr 345)), some (.inr (.inr a1)), none, some (.inl x3), some (.inl x4)] [] v10.2
          refine ia_go hK ck_Dr_shopsWithHope_139 ?_
          show K 93 [some (.inr (.inr 345)), some (.inr (.inr a1)), none, some (.inl (x3 ||| (1 <<< (x4 &&& 31)))), some (.inl (x4 + 1))] [] v10.2
          exact ih (x3 ||| (1 <<< (x4 &&& 31))) (x4 + 1) v10.2 gv10 hm
theorem gl_Dr_shopsWithHope_93 {w : ia_O0} {a1 : Nat} {x2 : Int32} (p1 : (kd_D a1).1 = 9) {r : Int32} {h1 : ia_H} {k152 : Int32 → ia_H → Option (Int32 × ia_H)} (hk152 : ∀ (x3 : Int32) (h : ia_H), gd_ w h → k152 x3 h = some (r, h1) → gd_ w h1) : ∀ (n : Nat) (x3 : Int32) (x4 : Int32) (h : ia_H), gd_ w h → l_Dr_shopsWithHope_93 a1 x2 k152 n x3 x4 h = some (r, h1) → gd_ w h1 := by
  intro n
  induction n with
  | zero =>
    intro x3 x4 h hg hm
    cases (show (none : Option (Int32 × ia_H)) = some _ from hm)
  | succ n ih =>
    intro x3 x4 h hg hm
    rw [l_Dr_shopsWithHope_93] at hm
    by_cases c : (ia_i h (ia_r h a1 0) 11) ≤ x4
    · replace hm := ia_ifp hm c
      exact hk152 x3 h hg hm
    · replace hm := ia_ifn hm c
      obtain ⟨c7, hm⟩ := ia_gd_some hm
      by_cases c : (ia_i h (a1 + 5) ((x4).toNatClampNeg)) < 0
      · replace hm := ia_ifp hm c
        exact ih x3 (x4 + 1) h hg hm
      · replace hm := ia_ifn hm c
        obtain ⟨c8, hm⟩ := ia_gd_some hm
        obtain ⟨c9, hm⟩ := ia_gd_some hm
        obtain ⟨v10, hv10, hm⟩ := ia_bnd hm
        have gv10 := g_Wa_reachesShore hg hv10
        by_cases c : v10.1 = 0
        · replace hm := ia_ifp hm c
          exact ih x3 (x4 + 1) v10.2 gv10 hm
        · replace hm := ia_ifn hm c
          exact ih (x3 ||| (1 <<< (x4 &&& 31))) (x4 + 1) v10.2 gv10 hm
def f_Dr_shopsWithHope (a1 : Nat) (x2 : Int32) (h : ia_H) : Option (Int32 × ia_H) := (f_Sc_become 405 a1 h).bind fun v1 => (l_Dr_shopsWithHope_10 a1 x2 (fun h => l_Dr_shopsWithHope_47 a1 x2 (fun h => (f_Wa_survey 405 0 h).bind fun v6 => (l_Dr_shopsWithHope_93 a1 x2 (fun x3 h => some (x3, h)) fu_ 0 0 v6)) fu_ 1 h) fu_ 0 v1)
theorem g_Dr_shopsWithHope {w : ia_O0} {a1 : Nat} {x2 : Int32} {h : ia_H} (hg : gd_ w h) (p1 : (kd_D a1).1 = 9) {q : (Int32 × ia_H)} (hm : f_Dr_shopsWithHope a1 x2 h = some q) : gd_ w q.2 := by
  obtain ⟨r, h1⟩ := q
  unfold f_Dr_shopsWithHope at hm
  obtain ⟨v1, hv1, hm⟩ := ia_bnd hm
  have gv1 := g_Sc_become hg (ka_2_5 pk_345) p1 hv1
  refine gl_Dr_shopsWithHope_10 p1 ?_ fu_ 0 v1 gv1 hm
  · intro h hg hm
    refine gl_Dr_shopsWithHope_47 p1 ?_ fu_ 1 h hg hm
    · intro h hg hm
      obtain ⟨v6, hv6, hm⟩ := ia_bnd hm
      have gv6 := g_Wa_survey hg (ka_2_5 pk_345) hv6
      refine gl_Dr_shopsWithHope_93 p1 ?_ fu_ 0 0 v6 gv6 hm
      · intro x3 h hg hm
        obtain ⟨rfl, rfl⟩ := Prod.mk.inj (Option.some.inj hm)
        exact hg
theorem t_Dr_shopsWithHope {w : ia_O0} (d : Nat) {a1 : Nat} {x2 : Int32} {h : ia_H} (hg : gd_ w h) (p1 : (kd_D a1).1 = 9) {q : (Int32 × ia_H)} (hm : f_Dr_shopsWithHope a1 x2 h = some q) : ia_Ev (d + 4) mm_Dr_shopsWithHope [.inr (.inr 345), .inr (.inr a1), .inl x2] h (some (.inl q.1)) q.2 := by
  have gq := g_Dr_shopsWithHope hg p1 hm
  refine ia_Ev_intro ok_Dr_shopsWithHope (gd_le hg gq).1 (gd_le hg gq).2 (Nat.le_of_ble_eq_true rfl) (fun K hK hret => ?_)
  obtain ⟨r, h1⟩ := q
  show K 0 [some (.inr (.inr 345)), some (.inr (.inr a1)), some (.inl x2), none, none] [] h
  unfold f_Dr_shopsWithHope at hm
  refine ia_go hK ck_Dr_shopsWithHope_0 ⟨gk_2 hg pk_345, gr_2_5 hg pk_345, ?_⟩
  show K 5 [some (.inr (.inr 345)), some (.inr (.inr a1)), some (.inl x2), none, none] [.inr (.inr a1), .inr (.inr 405)] h
  obtain ⟨v1, hv1, hm⟩ := ia_bnd hm
  have ev1 := t_Sc_become (d + 3) hg (ka_2_5 pk_345) p1 hv1
  have gv1 := g_Sc_become hg (ka_2_5 pk_345) p1 hv1
  refine ia_cV hK mk_Sc_become lk_2_45 dc_Dr_shopsWithHope_5 405 [.inr (.inr a1)] [] rfl rfl (Nat.le_of_ble_eq_true rfl) (by decide) rfl (gk_9 hg (ka_2_5 pk_345)) ev1 (gd_nm hg gv1) ?_
  show K 8 [some (.inr (.inr 345)), some (.inr (.inr a1)), some (.inl x2), none, none] [] v1
  refine ia_go hK ck_Dr_shopsWithHope_8 ?_
  show K 10 [some (.inr (.inr 345)), some (.inr (.inr a1)), some (.inl x2), some (.inl 0), none] [] v1
  refine tl_Dr_shopsWithHope_10 hK p1 hret ?_ fu_ 0 v1 gv1 hm
  · intro h hg hm
    refine ia_go hK ck_Dr_shopsWithHope_45 ?_
    show K 47 [some (.inr (.inr 345)), some (.inr (.inr a1)), some (.inl x2), some (.inl 1), none] [] h
    refine tl_Dr_shopsWithHope_47 hK p1 hret ?_ fu_ 1 h hg hm
    · intro h hg hm
      refine ia_go hK ck_Dr_shopsWithHope_76 ⟨gk_2 hg pk_345, gr_2_2 hg pk_345, gk_2 hg pk_345, gr_2_5 hg pk_345, ?_⟩
      show K 85 [some (.inr (.inr 345)), some (.inr (.inr a1)), none, none, none] [.inl 0, .inr (.inr 405), .inr (.inr 311)] h
      obtain ⟨v6, hv6, hm⟩ := ia_bnd hm
      have ev6 := t_Wa_survey (d + 2) hg (ka_2_5 pk_345) hv6
      have gv6 := g_Wa_survey hg (ka_2_5 pk_345) hv6
      refine ia_cV hK mk_Wa_survey lk_2_121 dc_Dr_shopsWithHope_85 311 [.inr (.inr 405), .inl 0] [] rfl rfl (Nat.le_of_ble_eq_true rfl) (by decide) rfl (gk_11 hg pk_311) ev6 (gd_nm hg gv6) ?_
      show K 88 [some (.inr (.inr 345)), some (.inr (.inr a1)), none, none, none] [] v6
      refine ia_go hK ck_Dr_shopsWithHope_88 ?_
      show K 93 [some (.inr (.inr 345)), some (.inr (.inr a1)), none, some (.inl 0), some (.inl 0)] [] v6
      refine tl_Dr_shopsWithHope_93 hK p1 hret ?_ fu_ 0 0 v6 gv6 hm
      · intro x3 h hg hm
        refine ia_go hK ck_Dr_shopsWithHope_152 ?_
        show K 153 [none, none, none, some (.inl x3), none] [.inl x3] h
        obtain ⟨rfl, rfl⟩ := Prod.mk.inj (Option.some.inj hm)
        exact hret 153 _ dc_Dr_shopsWithHope_153
def mm_Dr_worthAtLeast : ia_M := (⟨"IceStreet$Drawing", "worthAtLeast", "(LIceStreet$Scene;II)I"⟩, prog_3_method_6_code, 9, (some .int), 2, false)
theorem ok_Dr_worthAtLeast : ia_mok mm_Dr_worthAtLeast := ⟨by decide +kernel, by decide +kernel, by decide +kernel, by decide +kernel⟩
theorem mk_Dr_worthAtLeast : ia_mkn mm_Dr_worthAtLeast 0 3 := ⟨ia_tb_in (List.mem_of_getElem? (i := 1367) (by decide +kernel)) rfl, ia_tb_in (List.mem_of_getElem? (i := 144) (by decide +kernel)) rfl, by decide +kernel, by decide +kernel, ia_tb_in (List.mem_of_getElem? (i := 1366) (by decide +kernel)) rfl⟩
theorem ck_Dr_worthAtLeast_0 : ia_cks 2 9 false prog_3_method_6_code 0 [(.aload_n 0, 0, 0, 0, 0)] = true := by decide +kernel
theorem ck_Dr_worthAtLeast_4 : ia_cks 2 9 false prog_3_method_6_code 4 [(.istore_n 3, 0, 0, 0, 0), (.iload_n 2, 0, 0, 0, 0), (.istore 4, 0, 0, 0, 0), (.iconst 0, 0, 0, 0, 0), (.istore 5, 0, 0, 0, 0)] = true := by decide +kernel
theorem ck_Dr_worthAtLeast_11 : ia_cks 2 9 false prog_3_method_6_code 11 [(.iload 5, 0, 0, 0, 0), (.iload_n 1, 0, 0, 0, 0), (.if_icmp .ge 123, 0, 0, 0, 0)] = true := by decide +kernel
theorem ck_Dr_worthAtLeast_17 : ia_cks 2 9 false prog_3_method_6_code 17 [(.iload 4, 0, 0, 0, 0), (.ifCond .eq 118, 0, 0, 0, 0)] = true := by decide +kernel
theorem ck_Dr_worthAtLeast_22 : ia_cks 2 9 false prog_3_method_6_code 22 [(.iconst (-1), 0, 0, 0, 0), (.istore 6, 0, 0, 0, 0), (.iconst 0, 0, 0, 0, 0), (.istore 7, 0, 0, 0, 0)] = true := by decide +kernel
theorem ck_Dr_worthAtLeast_28 : ia_cks 2 9 false prog_3_method_6_code 28 [(.iload 7, 0, 0, 0, 0), (.aload_n 0, 0, 0, 0, 0), (.getfield 68, 9, 0, 2, 0), (.getfield 72, 3, 11, 0, 0), (.if_icmp .ge 64, 0, 0, 0, 0)] = true := by decide +kernel
theorem ck_Dr_worthAtLeast_40 : ia_cks 2 9 false prog_3_method_6_code 40 [(.iload 6, 0, 0, 0, 0), (.iconst (-1), 0, 0, 0, 0), (.if_icmp .eq 26, 0, 0, 0, 0)] = true := by decide +kernel
theorem ck_Dr_worthAtLeast_69 : ia_cks 2 9 false prog_3_method_6_code 69 [(.iconst 1, 0, 0, 0, 0), (.goto 4, 0, 0, 0, 0)] = true := by decide +kernel
theorem ck_Dr_worthAtLeast_74 : ia_cks 2 9 false prog_3_method_6_code 74 [(.istore 8, 0, 0, 0, 0), (.iload 4, 0, 0, 0, 0), (.iload 7, 0, 0, 0, 0), (.ishr, 0, 0, 0, 0), (.iconst 1, 0, 0, 0, 0), (.iand, 0, 0, 0, 0), (.ifCond .eq 12, 0, 0, 0, 0)] = true := by decide +kernel
theorem ck_Dr_worthAtLeast_95 : ia_cks 2 9 false prog_3_method_6_code 95 [(.iinc 7 1, 0, 0, 0, 0), (.goto (-70), 0, 0, 0, 0)] = true := by decide +kernel
theorem ck_Dr_worthAtLeast_86 : ia_cks 2 9 false prog_3_method_6_code 86 [(.iload 8, 0, 0, 0, 0), (.ifCond .eq 7, 0, 0, 0, 0)] = true := by decide +kernel
theorem ck_Dr_worthAtLeast_91 : ia_cks 2 9 false prog_3_method_6_code 91 [(.iload 7, 0, 0, 0, 0), (.istore 6, 0, 0, 0, 0), (.iinc 7 1, 0, 0, 0, 0), (.goto (-70), 0, 0, 0, 0)] = true := by decide +kernel
theorem ck_Dr_worthAtLeast_46 : ia_cks 2 9 false prog_3_method_6_code 46 [(.aload_n 0, 0, 0, 0, 0), (.getfield 68, 9, 0, 2, 0), (.getfield 109, 3, 15, 3, 9), (.iload 7, 0, 0, 0, 0), (.iaload, 0, 0, 0, 0), (.aload_n 0, 0, 0, 0, 0), (.getfield 68, 9, 0, 2, 0), (.getfield 109, 3, 15, 3, 9), (.iload 6, 0, 0, 0, 0), (.iaload, 0, 0, 0, 0), (.if_icmp .le 7, 0, 0, 0, 0)] = true := by decide +kernel
theorem ck_Dr_worthAtLeast_73 : ia_cks 2 9 false prog_3_method_6_code 73 [(.iconst 0, 0, 0, 0, 0)] = true := by decide +kernel
theorem ck_Dr_worthAtLeast_101 : ia_cks 2 9 false prog_3_method_6_code 101 [(.iload 6, 0, 0, 0, 0), (.iconst (-1), 0, 0, 0, 0), (.if_icmp .eq 27, 0, 0, 0, 0)] = true := by decide +kernel
theorem ck_Dr_worthAtLeast_131 : ia_cks 2 9 false prog_3_method_6_code 131 [(.iinc 5 1, 0, 0, 0, 0), (.goto (-123), 0, 0, 0, 0)] = true := by decide +kernel
theorem ck_Dr_worthAtLeast_107 : ia_cks 2 9 false prog_3_method_6_code 107 [(.iload 4, 0, 0, 0, 0), (.iconst 1, 0, 0, 0, 0), (.iload 6, 0, 0, 0, 0), (.ishl, 0, 0, 0, 0), (.iconst (-1), 0, 0, 0, 0), (.ixor, 0, 0, 0, 0), (.iand, 0, 0, 0, 0), (.istore 4, 0, 0, 0, 0), (.iload_n 3, 0, 0, 0, 0), (.aload_n 0, 0, 0, 0, 0), (.getfield 68, 9, 0, 2, 0), (.getfield 109, 3, 15, 3, 9), (.iload 6, 0, 0, 0, 0), (.iaload, 0, 0, 0, 0), (.isub, 0, 0, 0, 0), (.istore_n 3, 0, 0, 0, 0), (.iinc 5 1, 0, 0, 0, 0), (.goto (-123), 0, 0, 0, 0)] = true := by decide +kernel
theorem ck_Dr_worthAtLeast_137 : ia_cks 2 9 false prog_3_method_6_code 137 [(.iload_n 3, 0, 0, 0, 0)] = true := by decide +kernel
theorem dc_Dr_worthAtLeast_1 : decode prog_3_method_6_code 1 = .ok (.invokevirtual 52, 3) := by decide +kernel
theorem dc_Dr_worthAtLeast_138 : decode prog_3_method_6_code 138 = .ok (.ireturn, 1) := by decide +kernel
def j_Dr_worthAtLeast_74 (a0 : Nat) (x1 : Int32) (x2 : Int32) (h : ia_H) (kr : Int32 → Int32 → Int32 → Int32 → Int32 → Option Int32) (k101 : Int32 → Int32 → Int32 → Int32 → Option Int32) (x3 : Int32) (x4 : Int32) (x5 : Int32) (x6 : Int32) (x7 : Int32) (s0 : Int32) : Option Int32 := if ((x4 >>> (x7 &&& 31)) &&& 1) = 0 then (kr x3 x4 x5 x6 (x7 + 1)) else (if s0 = 0 then (kr x3 x4 x5 x6 (x7 + 1)) else (kr x3 x4 x5 x7 (x7 + 1)))
theorem tj_Dr_worthAtLeast_74 {w : ia_O0} {d N1 W1 : Nat} {K : ia_K} (hK : ia_isK (d + 1) mm_Dr_worthAtLeast N1 W1 K) {a0 : Nat} {x1 : Int32} {x2 : Int32} {h : ia_H} (hg : gd_ w h) (p0 : (kd_D a0).1 = 9) {r : Int32} (hret : ∀ (pc : Nat) (lv : ia_L), ia_ret mm_Dr_worthAtLeast pc (some (.inl r)) → K pc lv ((some (.inl r)) : Option ia_V).toList h) {kr : Int32 → Int32 → Int32 → Int32 → Int32 → Option Int32} {k101 : Int32 → Int32 → Int32 → Int32 → Option Int32} (hkr : ∀ (x3 : Int32) (x4 : Int32) (x5 : Int32) (x6 : Int32) (x7 : Int32), kr x3 x4 x5 x6 x7 = some r → K 28 [some (.inr (.inr a0)), some (.inl x1), none, some (.inl x3), some (.inl x4), some (.inl x5), some (.inl x6), some (.inl x7), none] [] h) (hk101 : ∀ (x3 : Int32) (x4 : Int32) (x5 : Int32) (x6 : Int32), k101 x3 x4 x5 x6 = some r → K 101 [some (.inr (.inr a0)), some (.inl x1), none, some (.inl x3), some (.inl x4), some (.inl x5), some (.inl x6), none, none] [] h) : ∀ (x3 : Int32) (x4 : Int32) (x5 : Int32) (x6 : Int32) (x7 : Int32) (s0 : Int32), j_Dr_worthAtLeast_74 a0 x1 x2 h kr k101 x3 x4 x5 x6 x7 s0 = some r → K 74 [some (.inr (.inr a0)), some (.inl x1), none, some (.inl x3), some (.inl x4), some (.inl x5), some (.inl x6), some (.inl x7), none] [.inl s0] h := by
  intro x3 x4 x5 x6 x7 s0 hm
  unfold j_Dr_worthAtLeast_74 at hm
  refine ia_go hK ck_Dr_worthAtLeast_74 ⟨fun c => ?_, fun c => ?_⟩
  · replace hm := ia_ifp hm c
    show K 95 [some (.inr (.inr a0)), some (.inl x1), none, some (.inl x3), some (.inl x4), some (.inl x5), some (.inl x6), some (.inl x7), some (.inl s0)] [] h
    refine ia_go hK ck_Dr_worthAtLeast_95 ?_
    show K 28 [some (.inr (.inr a0)), some (.inl x1), none, some (.inl x3), some (.inl x4), some (.inl x5), some (.inl x6), some (.inl (x7 + 1)), some (.inl s0)] [] h
    refine ia_fg hK (lv' := [some (.inr (.inr a0)), some (.inl x1), none, some (.inl x3), some (.inl x4), some (.inl x5), some (.inl x6), some (.inl (x7 + 1)), none]) ⟨rfl, rfl, rfl, rfl, rfl, rfl, rfl, trivial⟩ ?_
    exact hkr x3 x4 x5 x6 (x7 + 1) hm
  · replace hm := ia_ifn hm c
    show K 86 [some (.inr (.inr a0)), some (.inl x1), none, some (.inl x3), some (.inl x4), some (.inl x5), some (.inl x6), some (.inl x7), some (.inl s0)] [] h
    refine ia_go hK ck_Dr_worthAtLeast_86 ⟨fun c => ?_, fun c => ?_⟩
    · replace hm := ia_ifp hm c
      show K 95 [some (.inr (.inr a0)), some (.inl x1), none, some (.inl x3), some (.inl x4), some (.inl x5), some (.inl x6), some (.inl x7), some (.inl s0)] [] h
      refine ia_go hK ck_Dr_worthAtLeast_95 ?_
      show K 28 [some (.inr (.inr a0)), some (.inl x1), none, some (.inl x3), some (.inl x4), some (.inl x5), some (.inl x6), some (.inl (x7 + 1)), some (.inl s0)] [] h
      refine ia_fg hK (lv' := [some (.inr (.inr a0)), some (.inl x1), none, some (.inl x3), some (.inl x4), some (.inl x5), some (.inl x6), some (.inl (x7 + 1)), none]) ⟨rfl, rfl, rfl, rfl, rfl, rfl, rfl, trivial⟩ ?_
      exact hkr x3 x4 x5 x6 (x7 + 1) hm
    · replace hm := ia_ifn hm c
      show K 91 [some (.inr (.inr a0)), some (.inl x1), none, some (.inl x3), some (.inl x4), some (.inl x5), some (.inl x6), some (.inl x7), some (.inl s0)] [] h
      refine ia_go hK ck_Dr_worthAtLeast_91 ?_
      show K 28 [some (.inr (.inr a0)), some (.inl x1), none, some (.inl x3), some (.inl x4), some (.inl x5), some (.inl x7), some (.inl (x7 + 1)), some (.inl s0)] [] h
      refine ia_fg hK (lv' := [some (.inr (.inr a0)), some (.inl x1), none, some (.inl x3), some (.inl x4), some (.inl x5), some (.inl x7), some (.inl (x7 + 1)), none]) ⟨rfl, rfl, rfl, rfl, rfl, rfl, rfl, trivial⟩ ?_
      exact hkr x3 x4 x5 x7 (x7 + 1) hm
def l_Dr_worthAtLeast_28 (a0 : Nat) (x1 : Int32) (x2 : Int32) (h : ia_H) (k101 : Int32 → Int32 → Int32 → Int32 → Option Int32) (n : Nat) (x3 : Int32) (x4 : Int32) (x5 : Int32) (x6 : Int32) (x7 : Int32) : Option Int32 := match n with
  | 0 => none
  | n + 1 => if (ia_i h (ia_r h a0 0) 11) ≤ x7 then (k101 x3 x4 x5 x6) else (if x6 = (-1) then (j_Dr_worthAtLeast_74 a0 x1 x2 h (l_Dr_worthAtLeast_28 a0 x1 x2 h k101 n) k101 x3 x4 x5 x6 x7 1) else (ia_gd (ia_ib x7 6) (ia_gd (ia_ib x6 6) (if (ia_i h ((ia_r h a0 0) + 9) ((x7).toNatClampNeg)) ≤ (ia_i h ((ia_r h a0 0) + 9) ((x6).toNatClampNeg)) then (j_Dr_worthAtLeast_74 a0 x1 x2 h (l_Dr_worthAtLeast_28 a0 x1 x2 h k101 n) k101 x3 x4 x5 x6 x7 0) else (j_Dr_worthAtLeast_74 a0 x1 x2 h (l_Dr_worthAtLeast_28 a0 x1 x2 h k101 n) k101 x3 x4 x5 x6 x7 1)))))
theorem tl_Dr_worthAtLeast_28 {w : ia_O0} {d N1 W1 : Nat} {K : ia_K} (hK : ia_isK (d + 1) mm_Dr_worthAtLeast N1 W1 K) {a0 : Nat} {x1 : Int32} {x2 : Int32} {h : ia_H} (hg : gd_ w h) (p0 : (kd_D a0).1 = 9) {r : Int32} (hret : ∀ (pc : Nat) (lv : ia_L), ia_ret mm_Dr_worthAtLeast pc (some (.inl r)) → K pc lv ((some (.inl r)) : Option ia_V).toList h) {k101 : Int32 → Int32 → Int32 → Int32 → Option Int32} (hk101 : ∀ (x3 : Int32) (x4 : Int32) (x5 : Int32) (x6 : Int32), k101 x3 x4 x5 x6 = some r → K 101 [some (.inr (.inr a0)), some (.inl x1), none, some (.inl x3), some (.inl x4), some (.inl x5), some (.inl x6), none, none] [] h) : ∀ (n : Nat) (x3 : Int32) (x4 : Int32) (x5 : Int32) (x6 : Int32) (x7 : Int32), l_Dr_worthAtLeast_28 a0 x1 x2 h k101 n x3 x4 x5 x6 x7 = some r → K 28 [some (.inr (.inr a0)), some (.inl x1), none, some (.inl x3), some (.inl x4), some (.inl x5), some (.inl x6), some (.inl x7), none] [] h := by
  intro n
  induction n with
  | zero =>
    intro x3 x4 x5 x6 x7 hm
    cases (show (none : Option Int32) = some _ from hm)
  | succ n ih =>
    intro x3 x4 x5 x6 x7 hm
    rw [l_Dr_worthAtLeast_28] at hm
    refine ia_go hK ck_Dr_worthAtLeast_28 ⟨gk_9 hg p0, gk_3 hg (gm_9_0 hg p0), fun c => ?_, fun c => ?_⟩
    · replace hm := ia_ifp hm c
      show K 101 [some (.inr (.inr a0)), some (.inl x1), none, some (.inl x3), some (.inl x4), some (.inl x5), some (.inl x6), some (.inl x7), none] [] h
      refine ia_fg hK (lv' := [some (.inr (.inr a0)), some (.inl x1), none, some (.inl x3), some (.inl x4), some (.inl x5), some (.inl x6), none, none]) ⟨rfl, rfl, rfl, rfl, rfl, rfl, trivial⟩ ?_
      exact hk101 x3 x4 x5 x6 hm
    · replace hm := ia_ifn hm c
      show K 40 [some (.inr (.inr a0)), some (.inl x1), none, some (.inl x3), some (.inl x4), some (.inl x5), some (.inl x6), some (.inl x7), none] [] h
      refine ia_go hK ck_Dr_worthAtLeast_40 ⟨fun c => ?_, fun c => ?_⟩
      · replace hm := ia_ifp hm c
        show K 69 [some (.inr (.inr a0)), some (.inl x1), none, some (.inl x3), some (.inl x4), some (.inl x5), some (.inl x6), some (.inl x7), none] [] h
        refine ia_go hK ck_Dr_worthAtLeast_69 ?_
        show K 74 [some (.inr (.inr a0)), some (.inl x1), none, some (.inl x3), some (.inl x4), some (.inl x5), some (.inl x6), some (.inl x7), none] [.inl 1] h
        exact tj_Dr_worthAtLeast_74 hK hg p0 hret ih hk101 x3 x4 x5 x6 x7 1 hm
      · replace hm := ia_ifn hm c
        show K 46 [some (.inr (.inr a0)), some (.inl x1), none, some (.inl x3), some (.inl x4), some (.inl x5), some (.inl x6), some (.inl x7), none] [] h
        obtain ⟨c2, hm⟩ := ia_gd_some hm
        obtain ⟨c3, hm⟩ := ia_gd_some hm
        refine ia_go hK ck_Dr_worthAtLeast_46 ⟨gk_9 hg p0, gk_3 hg (gm_9_0 hg p0), gr_3_15 hg (gm_9_0 hg p0), ga_i100 hg (ka_3_15 (gm_9_0 hg p0)) c2, gk_9 hg p0, gk_3 hg (gm_9_0 hg p0), gr_3_15 hg (gm_9_0 hg p0), ga_i100 hg (ka_3_15 (gm_9_0 hg p0)) c3, fun c => ?_, fun c => ?_⟩
        · replace hm := ia_ifp hm c
          show K 73 [some (.inr (.inr a0)), some (.inl x1), none, some (.inl x3), some (.inl x4), some (.inl x5), some (.inl x6), some (.inl x7), none] [] h
          refine ia_go hK ck_Dr_worthAtLeast_73 ?_
          show K 74 [some (.inr (.inr a0)), some (.inl x1), none, some (.inl x3), some (.inl x4), some (.inl x5), some (.inl x6), some (.inl x7), none] [.inl 0] h
          exact tj_Dr_worthAtLeast_74 hK hg p0 hret ih hk101 x3 x4 x5 x6 x7 0 hm
        · replace hm := ia_ifn hm c
          show K 69 [some (.inr (.inr a0)), some (.inl x1), none, some (.inl x3), some (.inl x4), some (.inl x5), some (.inl x6), some (.inl x7), none] [] h
          refine ia_go hK ck_Dr_worthAtLeast_69 ?_
          show K 74 [some (.inr (.inr a0)), some (.inl x1), none, some (.inl x3), some (.inl x4), some (.inl x5), some (.inl x6), some (.inl x7), none] [.inl 1] h
          exact tj_Dr_worthAtLeast_74 hK hg p0 hret ih hk101 x3 x4 x5 x6 x7 1 hm
def l_Dr_worthAtLeast_11 (a0 : Nat) (x1 : Int32) (x2 : Int32) (h : ia_H) (k137 : Int32 → Option Int32) (n : Nat) (x3 : Int32) (x4 : Int32) (x5 : Int32) : Option Int32 := match n with
  | 0 => none
  | n + 1 => if x1 ≤ x5 then (k137 x3) else (if x4 = 0 then (k137 x3) else (l_Dr_worthAtLeast_28 a0 x1 x2 h (fun x3 x4 x5 x6 => if x6 = (-1) then (l_Dr_worthAtLeast_11 a0 x1 x2 h k137 n x3 x4 (x5 + 1)) else (ia_gd (ia_ib x6 6) (l_Dr_worthAtLeast_11 a0 x1 x2 h k137 n (x3 - (ia_i h ((ia_r h a0 0) + 9) ((x6).toNatClampNeg))) (x4 &&& ((1 <<< (x6 &&& 31)) ^^^ (-1))) (x5 + 1)))) fu_ x3 x4 x5 (-1) 0))
theorem tl_Dr_worthAtLeast_11 {w : ia_O0} {d N1 W1 : Nat} {K : ia_K} (hK : ia_isK (d + 1) mm_Dr_worthAtLeast N1 W1 K) {a0 : Nat} {x1 : Int32} {x2 : Int32} {h : ia_H} (hg : gd_ w h) (p0 : (kd_D a0).1 = 9) {r : Int32} (hret : ∀ (pc : Nat) (lv : ia_L), ia_ret mm_Dr_worthAtLeast pc (some (.inl r)) → K pc lv ((some (.inl r)) : Option ia_V).toList h) {k137 : Int32 → Option Int32} (hk137 : ∀ (x3 : Int32), k137 x3 = some r → K 137 [none, none, none, some (.inl x3), none, none, none, none, none] [] h) : ∀ (n : Nat) (x3 : Int32) (x4 : Int32) (x5 : Int32), l_Dr_worthAtLeast_11 a0 x1 x2 h k137 n x3 x4 x5 = some r → K 11 [some (.inr (.inr a0)), some (.inl x1), none, some (.inl x3), some (.inl x4), some (.inl x5), none, none, none] [] h := by
  intro n
  induction n with
  | zero =>
    intro x3 x4 x5 hm
    cases (show (none : Option Int32) = some _ from hm)
  | succ n ih =>
    intro x3 x4 x5 hm
    rw [l_Dr_worthAtLeast_11] at hm
    refine ia_go hK ck_Dr_worthAtLeast_11 ⟨fun c => ?_, fun c => ?_⟩
    · replace hm := ia_ifp hm c
      show K 137 [some (.inr (.inr a0)), some (.inl x1), none, some (.inl x3), some (.inl x4), some (.inl x5), none, none, none] [] h
      refine ia_fg hK (lv' := [none, none, none, some (.inl x3), none, none, none, none, none]) ⟨rfl, trivial⟩ ?_
      exact hk137 x3 hm
    · replace hm := ia_ifn hm c
      show K 17 [some (.inr (.inr a0)), some (.inl x1), none, some (.inl x3), some (.inl x4), some (.inl x5), none, none, none] [] h
      refine ia_go hK ck_Dr_worthAtLeast_17 ⟨fun c => ?_, fun c => ?_⟩
      · replace hm := ia_ifp hm c
        show K 137 [some (.inr (.inr a0)), some (.inl x1), none, some (.inl x3), some (.inl x4), some (.inl x5), none, none, none] [] h
        refine ia_fg hK (lv' := [none, none, none, some (.inl x3), none, none, none, none, none]) ⟨rfl, trivial⟩ ?_
        exact hk137 x3 hm
      · replace hm := ia_ifn hm c
        show K 22 [some (.inr (.inr a0)), some (.inl x1), none, some (.inl x3), some (.inl x4), some (.inl x5), none, none, none] [] h
        refine ia_go hK ck_Dr_worthAtLeast_22 ?_
        show K 28 [some (.inr (.inr a0)), some (.inl x1), none, some (.inl x3), some (.inl x4), some (.inl x5), some (.inl (-1)), some (.inl 0), none] [] h
        refine tl_Dr_worthAtLeast_28 hK hg p0 hret ?_ fu_ x3 x4 x5 (-1) 0 hm
        · intro x3 x4 x5 x6 hm
          refine ia_go hK ck_Dr_worthAtLeast_101 ⟨fun c => ?_, fun c => ?_⟩
          · replace hm := ia_ifp hm c
            show K 131 [some (.inr (.inr a0)), some (.inl x1), none, some (.inl x3), some (.inl x4), some (.inl x5), some (.inl x6), none, none] [] h
            refine ia_go hK ck_Dr_worthAtLeast_131 ?_
            show K 11 [some (.inr (.inr a0)), some (.inl x1), none, some (.inl x3), some (.inl x4), some (.inl (x5 + 1)), some (.inl x6), none, none] [] h
            refine ia_fg hK (lv' := [some (.inr (.inr a0)), some (.inl x1), none, some (.inl x3), some (.inl x4), some (.inl (x5 + 1)), none, none, none]) ⟨rfl, rfl, rfl, rfl, rfl, trivial⟩ ?_
            exact ih x3 x4 (x5 + 1) hm
          · replace hm := ia_ifn hm c
            show K 107 [some (.inr (.inr a0)), some (.inl x1), none, some (.inl x3), some (.inl x4), some (.inl x5), some (.inl x6), none, none] [] h
            obtain ⟨c4, hm⟩ := ia_gd_some hm
            refine ia_go hK ck_Dr_worthAtLeast_107 ⟨gk_9 hg p0, gk_3 hg (gm_9_0 hg p0), gr_3_15 hg (gm_9_0 hg p0), ga_i100 hg (ka_3_15 (gm_9_0 hg p0)) c4, ?_⟩
            show K 11 [some (.inr (.inr a0)), some (.inl x1), none, some (.inl (x3 - (ia_i h ((ia_r h a0 0) + 9) ((x6).toNatClampNeg)))), some (.inl (x4 &&& ((1 <<< (x6 &&& 31)) ^^^ (-1)))), some (.inl (x5 + 1)), some (.inl x6), none, none] [] h
            refine ia_fg hK (lv' := [some (.inr (.inr a0)), some (.inl x1), none, some (.inl (x3 - (ia_i h ((ia_r h a0 0) + 9) ((x6).toNatClampNeg)))), some (.inl (x4 &&& ((1 <<< (x6 &&& 31)) ^^^ (-1)))), some (.inl (x5 + 1)), none, none, none]) ⟨rfl, rfl, rfl, rfl, rfl, trivial⟩ ?_
            exact ih (x3 - (ia_i h ((ia_r h a0 0) + 9) ((x6).toNatClampNeg))) (x4 &&& ((1 <<< (x6 &&& 31)) ^^^ (-1))) (x5 + 1) hm
def f_Dr_worthAtLeast (a0 : Nat) (x1 : Int32) (x2 : Int32) (h : ia_H) : Option Int32 := (f_Sc_worthNotOff a0 h).bind fun v1 => (l_Dr_worthAtLeast_11 a0 x1 x2 h (fun x3 => some x3) fu_ v1 x2 0)
theorem t_Dr_worthAtLeast {w : ia_O0} (d : Nat) {a0 : Nat} {x1 : Int32} {x2 : Int32} {h : ia_H} (hg : gd_ w h) (p0 : (kd_D a0).1 = 9) {r : Int32} (hm : f_Dr_worthAtLeast a0 x1 x2 h = some r) : ia_Ev (d + 1) mm_Dr_worthAtLeast [.inr (.inr a0), .inl x1, .inl x2] h (some (.inl r)) h := by
  refine ia_Ev_intro ok_Dr_worthAtLeast (Nat.le_refl _) (Nat.le_refl _) (Nat.le_of_ble_eq_true rfl) (fun K hK hret => ?_)
  show K 0 [some (.inr (.inr a0)), some (.inl x1), some (.inl x2), none, none, none, none, none, none] [] h
  unfold f_Dr_worthAtLeast at hm
  refine ia_go hK ck_Dr_worthAtLeast_0 ?_
  show K 1 [some (.inr (.inr a0)), some (.inl x1), some (.inl x2), none, none, none, none, none, none] [.inr (.inr a0)] h
  obtain ⟨v1, hv1, hm⟩ := ia_bnd hm
  have ev1 := t_Sc_worthNotOff (d + 0) hg p0 hv1
  refine ia_cV hK mk_Sc_worthNotOff lk_2_52 dc_Dr_worthAtLeast_1 a0 [] [] rfl rfl (Nat.le_of_ble_eq_true rfl) (by decide) rfl (gk_9 hg p0) ev1 ⟨rfl, rfl⟩ ?_
  show K 4 [some (.inr (.inr a0)), some (.inl x1), some (.inl x2), none, none, none, none, none, none] [.inl v1] h
  refine ia_go hK ck_Dr_worthAtLeast_4 ?_
  show K 11 [some (.inr (.inr a0)), some (.inl x1), some (.inl x2), some (.inl v1), some (.inl x2), some (.inl 0), none, none, none] [] h
  refine ia_fg hK (lv' := [some (.inr (.inr a0)), some (.inl x1), none, some (.inl v1), some (.inl x2), some (.inl 0), none, none, none]) ⟨rfl, rfl, rfl, rfl, rfl, trivial⟩ ?_
  refine tl_Dr_worthAtLeast_11 hK hg p0 hret ?_ fu_ v1 x2 0 hm
  · intro x3 hm
    refine ia_go hK ck_Dr_worthAtLeast_137 ?_
    show K 138 [none, none, none, some (.inl x3), none, none, none, none, none] [.inl x3] h
    obtain rfl := Option.some.inj hm
    exact hret 138 _ dc_Dr_worthAtLeast_138
def mm_Dr_tryDay : ia_M := (⟨"IceStreet$Drawing", "tryDay", "(I)V"⟩, prog_3_method_3_code, 4, none, 2, false)
theorem ok_Dr_tryDay : ia_mok mm_Dr_tryDay := ⟨by decide +kernel, by decide +kernel, by decide +kernel, by decide +kernel⟩
theorem mk_Dr_tryDay : ia_mkn mm_Dr_tryDay 1 1 := ⟨ia_tb_in (List.mem_of_getElem? (i := 1345) (by decide +kernel)) rfl, ia_tb_in (List.mem_of_getElem? (i := 144) (by decide +kernel)) rfl, by decide +kernel, by decide +kernel, ⟨ia_tb_in (List.mem_of_getElem? (i := 1344) (by decide +kernel)) rfl, ia_tb_in (List.mem_of_getElem? (i := 39) (by decide +kernel)) rfl⟩⟩
def mm_Dr_tryShop : ia_M := (⟨"IceStreet$Drawing", "tryShop", "(II)V"⟩, prog_3_method_4_code, 4, none, 2, false)
theorem ok_Dr_tryShop : ia_mok mm_Dr_tryShop := ⟨by decide +kernel, by decide +kernel, by decide +kernel, by decide +kernel⟩
theorem mk_Dr_tryShop : ia_mkn mm_Dr_tryShop 1 2 := ⟨ia_tb_in (List.mem_of_getElem? (i := 1373) (by decide +kernel)) rfl, ia_tb_in (List.mem_of_getElem? (i := 144) (by decide +kernel)) rfl, by decide +kernel, by decide +kernel, ⟨ia_tb_in (List.mem_of_getElem? (i := 1372) (by decide +kernel)) rfl, ia_tb_in (List.mem_of_getElem? (i := 42) (by decide +kernel)) rfl⟩⟩
theorem ck_Dr_tryShop_0 : ia_cks 2 4 false prog_3_method_4_code 0 [(.aload_n 0, 0, 0, 0, 0), (.getfield 20, 2, 4, 3, 3), (.iload_n 1, 0, 0, 0, 0), (.iconst 1, 0, 0, 0, 0), (.iadd, 0, 0, 0, 0), (.aaload, 113, 8, 0, 0), (.astore_n 3, 0, 0, 0, 0), (.aload_n 3, 0, 0, 0, 0), (.aload_n 0, 0, 0, 0, 0), (.getfield 20, 2, 4, 3, 3), (.iload_n 1, 0, 0, 0, 0), (.aaload, 113, 8, 0, 0)] = true := by decide +kernel
theorem ck_Dr_tryShop_19 : ia_cks 2 4 false prog_3_method_4_code 19 [(.iload_n 2, 0, 0, 0, 0), (.iconst (-1), 0, 0, 0, 0), (.if_icmp .eq 8, 0, 0, 0, 0)] = true := by decide +kernel
theorem ck_Dr_tryShop_29 : ia_cks 2 4 false prog_3_method_4_code 29 [(.aload_n 3, 0, 0, 0, 0), (.aload_n 3, 0, 0, 0, 0)] = true := by decide +kernel
theorem ck_Dr_tryShop_37 : ia_cks 2 4 false prog_3_method_4_code 37 [(.aload_n 0, 0, 0, 0, 0), (.getfield 15, 2, 3, 3, 2), (.iload_n 1, 0, 0, 0, 0), (.iload_n 2, 0, 0, 0, 0), (.iastore, 0, 0, 0, 0), (.aload_n 0, 0, 0, 0, 0), (.iload_n 1, 0, 0, 0, 0), (.iconst 1, 0, 0, 0, 0), (.iadd, 0, 0, 0, 0)] = true := by decide +kernel
theorem ck_Dr_tryShop_24 : ia_cks 2 4 false prog_3_method_4_code 24 [(.aload_n 3, 0, 0, 0, 0), (.iload_n 2, 0, 0, 0, 0)] = true := by decide +kernel
theorem dc_Dr_tryShop_16 : decode prog_3_method_4_code 16 = .ok (.invokevirtual 45, 3) := by decide +kernel
theorem dc_Dr_tryShop_31 : decode prog_3_method_4_code 31 = .ok (.invokevirtual 94, 3) := by decide +kernel
theorem dc_Dr_tryShop_34 : decode prog_3_method_4_code 34 = .ok (.invokevirtual 97, 3) := by decide +kernel
theorem dc_Dr_tryShop_48 : decode prog_3_method_4_code 48 = .ok (.invokevirtual 100, 3) := by decide +kernel
theorem dc_Dr_tryShop_51 : decode prog_3_method_4_code 51 = .ok (.return_, 1) := by decide +kernel
theorem dc_Dr_tryShop_26 : decode prog_3_method_4_code 26 = .ok (.invokevirtual 91, 3) := by decide +kernel
def j_Dr_tryShop_29 (rc : Int32 → ia_H → Option ia_H) (x1 : Int32) (x2 : Int32) (a3 : Nat) (h : ia_H) : Option ia_H := (f_Sc_frost a3 h).bind fun v4 => ((f_Sc_passDay a3 v4 h).bind fun v5 => (ia_gd (ia_ib x1 6) ((rc (x1 + 1) (ia_wI v5 347 ((x1).toNatClampNeg) x2)).bind fun v7 => (some v7))))
theorem tj_Dr_tryShop_29 {w : ia_O0} {d N1 W1 : Nat} {n2 : Nat} {rc : Int32 → ia_H → Option ia_H} (hrc : ∀ (z0 : Int32)  (h : ia_H) (q : ia_H), gd_ w h → rc z0 h = some q → gd_ w q ∧ ∀ d, ia_Ev (d + n2 + 6) mm_Dr_tryDay [.inr (.inr 345), .inl z0] h none q) {K : ia_K} (hK : ia_isK (d + n2 + 7) mm_Dr_tryShop N1 W1 K) {x1 : Int32} {x2 : Int32} {h1 : ia_H} (hret : ∀ (pc : Nat) (lv : ia_L), ia_ret mm_Dr_tryShop pc none → K pc lv (none : Option ia_V).toList h1) : ∀ (a3 : Nat) (h : ia_H), gd_ w h → (kd_D a3).1 = 9 → j_Dr_tryShop_29 rc x1 x2 a3 h = some h1 → K 29 [some (.inr (.inr 345)), some (.inl x1), some (.inl x2), some (.inr (.inr a3))] [] h := by
  intro a3 h hg q_a3 hm
  unfold j_Dr_tryShop_29 at hm
  refine ia_go hK ck_Dr_tryShop_29 ?_
  show K 31 [some (.inr (.inr 345)), some (.inl x1), some (.inl x2), some (.inr (.inr a3))] [.inr (.inr a3), .inr (.inr a3)] h
  obtain ⟨v4, hv4, hm⟩ := ia_bnd hm
  have ev4 := t_Sc_frost (d + n2 + 6) hg q_a3 hv4
  refine ia_cV hK mk_Sc_frost lk_2_94 dc_Dr_tryShop_31 a3 [] [.inr (.inr a3)] rfl rfl (Nat.le_of_ble_eq_true rfl) (by decide) rfl (gk_9 hg q_a3) ev4 ⟨rfl, rfl⟩ ?_
  show K 34 [some (.inr (.inr 345)), some (.inl x1), some (.inl x2), some (.inr (.inr a3))] [.inl v4, .inr (.inr a3)] h
  obtain ⟨v5, hv5, hm⟩ := ia_bnd hm
  have ev5 := t_Sc_passDay (d + n2 + 3) hg q_a3 hv5
  have gv5 := g_Sc_passDay hg q_a3 hv5
  refine ia_cV hK mk_Sc_passDay lk_2_97 dc_Dr_tryShop_34 a3 [.inl v4] [] rfl rfl (Nat.le_of_ble_eq_true rfl) (by decide) rfl (gk_9 hg q_a3) ev5 (gd_nm hg gv5) ?_
  show K 37 [some (.inr (.inr 345)), some (.inl x1), some (.inl x2), some (.inr (.inr a3))] [] v5
  obtain ⟨c6, hm⟩ := ia_gd_some hm
  refine ia_go hK ck_Dr_tryShop_37 ⟨gk_2 gv5 pk_345, gr_2_3 gv5 pk_345, ga_s100 gv5 (ka_2_3 pk_345) c6, ?_⟩
  show K 48 [some (.inr (.inr 345)), some (.inl x1), some (.inl x2), some (.inr (.inr a3))] [.inl (x1 + 1), .inr (.inr 345)] (ia_wI v5 347 ((x1).toNatClampNeg) x2)
  obtain ⟨v7, hv7, hm⟩ := ia_bnd hm
  have ev7 := (hrc (x1 + 1) (ia_wI v5 347 ((x1).toNatClampNeg) x2) v7 (gd_wI gv5 (kx_100 (ka_2_3 pk_345))) hv7).2 d
  have gv7 := (hrc (x1 + 1) (ia_wI v5 347 ((x1).toNatClampNeg) x2) v7 (gd_wI gv5 (kx_100 (ka_2_3 pk_345))) hv7).1
  refine ia_cV hK mk_Dr_tryDay lk_2_100 dc_Dr_tryShop_48 345 [.inl (x1 + 1)] [] rfl rfl (Nat.le_of_ble_eq_true rfl) (by decide) rfl (gk_2 (gd_wI gv5 (kx_100 (ka_2_3 pk_345))) pk_345) ev7 (gd_nm (gd_wI gv5 (kx_100 (ka_2_3 pk_345))) gv7) ?_
  show K 51 [some (.inr (.inr 345)), some (.inl x1), some (.inl x2), some (.inr (.inr a3))] [] v7
  obtain rfl := Option.some.inj hm
  exact hret 51 _ dc_Dr_tryShop_51
theorem gj_Dr_tryShop_29 {w : ia_O0} {n2 : Nat} {rc : Int32 → ia_H → Option ia_H} (hrc : ∀ (z0 : Int32)  (h : ia_H) (q : ia_H), gd_ w h → rc z0 h = some q → gd_ w q ∧ ∀ d, ia_Ev (d + n2 + 6) mm_Dr_tryDay [.inr (.inr 345), .inl z0] h none q) {x1 : Int32} {x2 : Int32} {h1 : ia_H} : ∀ (a3 : Nat) (h : ia_H), gd_ w h → (kd_D a3).1 = 9 → j_Dr_tryShop_29 rc x1 x2 a3 h = some h1 → gd_ w h1 := by
  intro a3 h hg q_a3 hm
  unfold j_Dr_tryShop_29 at hm
  obtain ⟨v4, hv4, hm⟩ := ia_bnd hm
  obtain ⟨v5, hv5, hm⟩ := ia_bnd hm
  have gv5 := g_Sc_passDay hg q_a3 hv5
  obtain ⟨c6, hm⟩ := ia_gd_some hm
  obtain ⟨v7, hv7, hm⟩ := ia_bnd hm
  have gv7 := (hrc (x1 + 1) (ia_wI v5 347 ((x1).toNatClampNeg) x2) v7 (gd_wI gv5 (kx_100 (ka_2_3 pk_345))) hv7).1
  obtain rfl := Option.some.inj hm
  exact gv7
def f_Dr_tryShop (rc : Int32 → ia_H → Option ia_H) (x1 : Int32) (x2 : Int32) (h : ia_H) : Option ia_H := ia_gd (ia_ib (x1 + 1) 7) (ia_gd (ia_ib x1 7) ((f_Sc_become (348 + 1 + 8 * (x1 + 1).toNatClampNeg) (348 + 1 + 8 * (x1).toNatClampNeg) h).bind fun v3 => (if x2 = (-1) then (j_Dr_tryShop_29 rc x1 x2 (348 + 1 + 8 * (x1 + 1).toNatClampNeg) v3) else ((f_Sc_drawOff (348 + 1 + 8 * (x1 + 1).toNatClampNeg) x2 v3).bind fun v8 => (j_Dr_tryShop_29 rc x1 x2 (348 + 1 + 8 * (x1 + 1).toNatClampNeg) v8)))))
theorem g_Dr_tryShop {w : ia_O0} {n2 : Nat} {rc : Int32 → ia_H → Option ia_H} (hrc : ∀ (z0 : Int32)  (h : ia_H) (q : ia_H), gd_ w h → rc z0 h = some q → gd_ w q ∧ ∀ d, ia_Ev (d + n2 + 6) mm_Dr_tryDay [.inr (.inr 345), .inl z0] h none q) {x1 : Int32} {x2 : Int32} {h : ia_H} (hg : gd_ w h) {q : ia_H} (hm : f_Dr_tryShop rc x1 x2 h = some q) : gd_ w q := by
  obtain ⟨h1, e1⟩ : ∃ x, x = q := ⟨_, rfl⟩
  subst e1
  unfold f_Dr_tryShop at hm
  obtain ⟨c1, hm⟩ := ia_gd_some hm
  obtain ⟨c2, hm⟩ := ia_gd_some hm
  obtain ⟨v3, hv3, hm⟩ := ia_bnd hm
  have gv3 := g_Sc_become hg (ke_113 (ka_2_4 pk_345) c1) (ke_113 (ka_2_4 pk_345) c2) hv3
  by_cases c : x2 = (-1)
  · replace hm := ia_ifp hm c
    exact gj_Dr_tryShop_29 hrc (348 + 1 + 8 * (x1 + 1).toNatClampNeg) v3 gv3 (ke_113 (ka_2_4 pk_345) c1) hm
  · replace hm := ia_ifn hm c
    obtain ⟨v8, hv8, hm⟩ := ia_bnd hm
    have gv8 := g_Sc_drawOff gv3 (ke_113 (ka_2_4 pk_345) c1) hv8
    exact gj_Dr_tryShop_29 hrc (348 + 1 + 8 * (x1 + 1).toNatClampNeg) v8 gv8 (ke_113 (ka_2_4 pk_345) c1) hm
theorem t_Dr_tryShop {w : ia_O0} {n2 : Nat} {rc : Int32 → ia_H → Option ia_H} (hrc : ∀ (z0 : Int32)  (h : ia_H) (q : ia_H), gd_ w h → rc z0 h = some q → gd_ w q ∧ ∀ d, ia_Ev (d + n2 + 6) mm_Dr_tryDay [.inr (.inr 345), .inl z0] h none q) (d : Nat) {x1 : Int32} {x2 : Int32} {h : ia_H} (hg : gd_ w h) {q : ia_H} (hm : f_Dr_tryShop rc x1 x2 h = some q) : ia_Ev (d + n2 + 7) mm_Dr_tryShop [.inr (.inr 345), .inl x1, .inl x2] h none q := by
  have gq := g_Dr_tryShop hrc hg hm
  refine ia_Ev_intro ok_Dr_tryShop (gd_le hg gq).1 (gd_le hg gq).2 (Nat.le_of_ble_eq_true rfl) (fun K hK hret => ?_)
  obtain ⟨h1, e1⟩ : ∃ x, x = q := ⟨_, rfl⟩
  subst e1
  show K 0 [some (.inr (.inr 345)), some (.inl x1), some (.inl x2), none] [] h
  unfold f_Dr_tryShop at hm
  obtain ⟨c1, hm⟩ := ia_gd_some hm
  obtain ⟨c2, hm⟩ := ia_gd_some hm
  refine ia_go hK ck_Dr_tryShop_0 ⟨gk_2 hg pk_345, gr_2_4 hg pk_345, ga_r113 hg (ka_2_4 pk_345) c1, gk_2 hg pk_345, gr_2_4 hg pk_345, ga_r113 hg (ka_2_4 pk_345) c2, ?_⟩
  show K 16 [some (.inr (.inr 345)), some (.inl x1), some (.inl x2), some (.inr (.inr (348 + 1 + 8 * (x1 + 1).toNatClampNeg)))] [.inr (.inr (348 + 1 + 8 * (x1).toNatClampNeg)), .inr (.inr (348 + 1 + 8 * (x1 + 1).toNatClampNeg))] h
  obtain ⟨v3, hv3, hm⟩ := ia_bnd hm
  have ev3 := t_Sc_become (d + n2 + 6) hg (ke_113 (ka_2_4 pk_345) c1) (ke_113 (ka_2_4 pk_345) c2) hv3
  have gv3 := g_Sc_become hg (ke_113 (ka_2_4 pk_345) c1) (ke_113 (ka_2_4 pk_345) c2) hv3
  refine ia_cV hK mk_Sc_become lk_2_45 dc_Dr_tryShop_16 (348 + 1 + 8 * (x1 + 1).toNatClampNeg) [.inr (.inr (348 + 1 + 8 * (x1).toNatClampNeg))] [] rfl rfl (Nat.le_of_ble_eq_true rfl) (by decide) rfl (gk_9 hg (ke_113 (ka_2_4 pk_345) c1)) ev3 (gd_nm hg gv3) ?_
  show K 19 [some (.inr (.inr 345)), some (.inl x1), some (.inl x2), some (.inr (.inr (348 + 1 + 8 * (x1 + 1).toNatClampNeg)))] [] v3
  refine ia_go hK ck_Dr_tryShop_19 ⟨fun c => ?_, fun c => ?_⟩
  · replace hm := ia_ifp hm c
    show K 29 [some (.inr (.inr 345)), some (.inl x1), some (.inl x2), some (.inr (.inr (348 + 1 + 8 * (x1 + 1).toNatClampNeg)))] [] v3
    exact tj_Dr_tryShop_29 hrc hK hret (348 + 1 + 8 * (x1 + 1).toNatClampNeg) v3 gv3 (ke_113 (ka_2_4 pk_345) c1) hm
  · replace hm := ia_ifn hm c
    show K 24 [some (.inr (.inr 345)), some (.inl x1), some (.inl x2), some (.inr (.inr (348 + 1 + 8 * (x1 + 1).toNatClampNeg)))] [] v3
    refine ia_go hK ck_Dr_tryShop_24 ?_
    show K 26 [some (.inr (.inr 345)), some (.inl x1), some (.inl x2), some (.inr (.inr (348 + 1 + 8 * (x1 + 1).toNatClampNeg)))] [.inl x2, .inr (.inr (348 + 1 + 8 * (x1 + 1).toNatClampNeg))] v3
    obtain ⟨v8, hv8, hm⟩ := ia_bnd hm
    have ev8 := t_Sc_drawOff (d + n2 + 3) gv3 (ke_113 (ka_2_4 pk_345) c1) hv8
    have gv8 := g_Sc_drawOff gv3 (ke_113 (ka_2_4 pk_345) c1) hv8
    refine ia_cV hK mk_Sc_drawOff lk_2_91 dc_Dr_tryShop_26 (348 + 1 + 8 * (x1 + 1).toNatClampNeg) [.inl x2] [] rfl rfl (Nat.le_of_ble_eq_true rfl) (by decide) rfl (gk_9 gv3 (ke_113 (ka_2_4 pk_345) c1)) ev8 (gd_nm gv3 gv8) ?_
    show K 29 [some (.inr (.inr 345)), some (.inl x1), some (.inl x2), some (.inr (.inr (348 + 1 + 8 * (x1 + 1).toNatClampNeg)))] [] v8
    exact tj_Dr_tryShop_29 hrc hK hret (348 + 1 + 8 * (x1 + 1).toNatClampNeg) v8 gv8 (ke_113 (ka_2_4 pk_345) c1) hm
theorem ck_Dr_tryDay_0 : ia_cks 2 4 false prog_3_method_3_code 0 [(.aload_n 0, 0, 0, 0, 0), (.getfield 20, 2, 4, 3, 3), (.iload_n 1, 0, 0, 0, 0), (.aaload, 113, 8, 0, 0), (.astore_n 2, 0, 0, 0, 0), (.iload_n 1, 0, 0, 0, 0), (.aload_n 0, 0, 0, 0, 0), (.getfield 41, 2, 6, 0, 0), (.if_icmp .lt 12, 0, 0, 0, 0)] = true := by decide +kernel
theorem ck_Dr_tryDay_24 : ia_cks 2 4 false prog_3_method_3_code 24 [(.aload_n 2, 0, 0, 0, 0), (.aload_n 0, 0, 0, 0, 0), (.getfield 41, 2, 6, 0, 0), (.iload_n 1, 0, 0, 0, 0), (.isub, 0, 0, 0, 0), (.aload_n 0, 0, 0, 0, 0), (.aload_n 2, 0, 0, 0, 0), (.aload_n 0, 0, 0, 0, 0), (.getfield 41, 2, 6, 0, 0), (.iload_n 1, 0, 0, 0, 0), (.isub, 0, 0, 0, 0)] = true := by decide +kernel
theorem ck_Dr_tryDay_45 : ia_cks 2 4 false prog_3_method_3_code 45 [(.aload_n 0, 0, 0, 0, 0), (.getfield 49, 2, 0, 0, 0), (.if_icmp .lt 4, 0, 0, 0, 0)] = true := by decide +kernel
theorem ck_Dr_tryDay_53 : ia_cks 2 4 false prog_3_method_3_code 53 [(.iconst 0, 0, 0, 0, 0), (.istore_n 3, 0, 0, 0, 0)] = true := by decide +kernel
theorem ck_Dr_tryDay_55 : ia_cks 2 4 false prog_3_method_3_code 55 [(.iload_n 3, 0, 0, 0, 0), (.aload_n 2, 0, 0, 0, 0), (.getfield 68, 9, 0, 2, 0), (.getfield 72, 3, 11, 0, 0), (.if_icmp .ge 35, 0, 0, 0, 0)] = true := by decide +kernel
theorem ck_Dr_tryDay_66 : ia_cks 2 4 false prog_3_method_3_code 66 [(.aload_n 2, 0, 0, 0, 0), (.iload_n 3, 0, 0, 0, 0)] = true := by decide +kernel
theorem ck_Dr_tryDay_71 : ia_cks 2 4 false prog_3_method_3_code 71 [(.ifCond .eq 21, 0, 0, 0, 0)] = true := by decide +kernel
theorem ck_Dr_tryDay_92 : ia_cks 2 4 false prog_3_method_3_code 92 [(.iinc 3 1, 0, 0, 0, 0), (.goto (-40), 0, 0, 0, 0)] = true := by decide +kernel
theorem ck_Dr_tryDay_74 : ia_cks 2 4 false prog_3_method_3_code 74 [(.aload_n 0, 0, 0, 0, 0), (.getfield 24, 2, 2, 4, 311), (.aload_n 2, 0, 0, 0, 0), (.iload_n 3, 0, 0, 0, 0)] = true := by decide +kernel
theorem ck_Dr_tryDay_83 : ia_cks 2 4 false prog_3_method_3_code 83 [(.ifCond .eq 9, 0, 0, 0, 0)] = true := by decide +kernel
theorem ck_Dr_tryDay_86 : ia_cks 2 4 false prog_3_method_3_code 86 [(.aload_n 0, 0, 0, 0, 0), (.iload_n 1, 0, 0, 0, 0), (.iload_n 3, 0, 0, 0, 0)] = true := by decide +kernel
theorem ck_Dr_tryDay_98 : ia_cks 2 4 false prog_3_method_3_code 98 [(.aload_n 0, 0, 0, 0, 0), (.iload_n 1, 0, 0, 0, 0), (.iconst (-1), 0, 0, 0, 0)] = true := by decide +kernel
theorem ck_Dr_tryDay_15 : ia_cks 2 4 false prog_3_method_3_code 15 [(.aload_n 0, 0, 0, 0, 0), (.aload_n 2, 0, 0, 0, 0)] = true := by decide +kernel
theorem dc_Dr_tryDay_39 : decode prog_3_method_3_code 39 = .ok (.invokevirtual 60, 3) := by decide +kernel
theorem dc_Dr_tryDay_42 : decode prog_3_method_3_code 42 = .ok (.invokestatic 64, 3) := by decide +kernel
theorem dc_Dr_tryDay_68 : decode prog_3_method_3_code 68 = .ok (.invokevirtual 77, 3) := by decide +kernel
theorem dc_Dr_tryDay_80 : decode prog_3_method_3_code 80 = .ok (.invokevirtual 81, 3) := by decide +kernel
theorem dc_Dr_tryDay_89 : decode prog_3_method_3_code 89 = .ok (.invokevirtual 87, 3) := by decide +kernel
theorem dc_Dr_tryDay_101 : decode prog_3_method_3_code 101 = .ok (.invokevirtual 87, 3) := by decide +kernel
theorem dc_Dr_tryDay_104 : decode prog_3_method_3_code 104 = .ok (.return_, 1) := by decide +kernel
theorem dc_Dr_tryDay_52 : decode prog_3_method_3_code 52 = .ok (.return_, 1) := by decide +kernel
theorem dc_Dr_tryDay_17 : decode prog_3_method_3_code 17 = .ok (.invokevirtual 52, 3) := by decide +kernel
theorem dc_Dr_tryDay_20 : decode prog_3_method_3_code 20 = .ok (.invokevirtual 56, 3) := by decide +kernel
theorem dc_Dr_tryDay_23 : decode prog_3_method_3_code 23 = .ok (.return_, 1) := by decide +kernel
def l_Dr_tryDay_55 (rc : Int32 → ia_H → Option ia_H) (x1 : Int32) (k98 : ia_H → Option ia_H) (n : Nat) (a2 : Nat) (x3 : Int32) (h : ia_H) : Option ia_H := match n with
  | 0 => none
  | n + 1 => if (ia_i h (ia_r h a2 0) 11) ≤ x3 then (k98 h) else ((f_Sc_stands a2 x3 h).bind fun v4 => (if v4 = 0 then (l_Dr_tryDay_55 rc x1 k98 n a2 (x3 + 1) h) else ((f_Wa_canLeave a2 x3 h).bind fun v5 => (if v5.1 = 0 then (l_Dr_tryDay_55 rc x1 k98 n a2 (x3 + 1) v5.2) else ((f_Dr_tryShop rc x1 x3 v5.2).bind fun v6 => (l_Dr_tryDay_55 rc x1 k98 n a2 (x3 + 1) v6))))))
theorem tl_Dr_tryDay_55 {w : ia_O0} {d N1 W1 : Nat} {n2 : Nat} {rc : Int32 → ia_H → Option ia_H} (hrc : ∀ (z0 : Int32)  (h : ia_H) (q : ia_H), gd_ w h → rc z0 h = some q → gd_ w q ∧ ∀ d, ia_Ev (d + n2 + 6) mm_Dr_tryDay [.inr (.inr 345), .inl z0] h none q) {K : ia_K} (hK : ia_isK (d + n2 + 8) mm_Dr_tryDay N1 W1 K) {x1 : Int32} {h1 : ia_H} (hret : ∀ (pc : Nat) (lv : ia_L), ia_ret mm_Dr_tryDay pc none → K pc lv (none : Option ia_V).toList h1) {k98 : ia_H → Option ia_H} (hk98 : ∀ (h : ia_H), gd_ w h → k98 h = some h1 → K 98 [some (.inr (.inr 345)), some (.inl x1), none, none] [] h) : ∀ (n : Nat) (a2 : Nat) (x3 : Int32) (h : ia_H), gd_ w h → (kd_D a2).1 = 9 → l_Dr_tryDay_55 rc x1 k98 n a2 x3 h = some h1 → K 55 [some (.inr (.inr 345)), some (.inl x1), some (.inr (.inr a2)), some (.inl x3)] [] h := by
  intro n
  induction n with
  | zero =>
    intro a2 x3 h hg q_a2 hm
    cases (show (none : Option ia_H) = some _ from hm)
  | succ n ih =>
    intro a2 x3 h hg q_a2 hm
    rw [l_Dr_tryDay_55] at hm
    refine ia_go hK ck_Dr_tryDay_55 ⟨gk_9 hg q_a2, gk_3 hg (gm_9_0 hg q_a2), fun c => ?_, fun c => ?_⟩
    · replace hm := ia_ifp hm c
      show K 98 [some (.inr (.inr 345)), some (.inl x1), some (.inr (.inr a2)), some (.inl x3)] [] h
      refine ia_fg hK (lv' := [some (.inr (.inr 345)), some (.inl x1), none, none]) ⟨rfl, rfl, trivial⟩ ?_
      exact hk98 h hg hm
    · replace hm := ia_ifn hm c
      show K 66 [some (.inr (.inr 345)), some (.inl x1), some (.inr (.inr a2)), some (.inl x3)] [] h
      refine ia_go hK ck_Dr_tryDay_66 ?_
      show K 68 [some (.inr (.inr 345)), some (.inl x1), some (.inr (.inr a2)), some (.inl x3)] [.inl x3, .inr (.inr a2)] h
      obtain ⟨v4, hv4, hm⟩ := ia_bnd hm
      have ev4 := t_Sc_stands (d + n2 + 7) hg q_a2 hv4
      refine ia_cV hK mk_Sc_stands lk_2_77 dc_Dr_tryDay_68 a2 [.inl x3] [] rfl rfl (Nat.le_of_ble_eq_true rfl) (by decide) rfl (gk_9 hg q_a2) ev4 ⟨rfl, rfl⟩ ?_
      show K 71 [some (.inr (.inr 345)), some (.inl x1), some (.inr (.inr a2)), some (.inl x3)] [.inl v4] h
      refine ia_go hK ck_Dr_tryDay_71 ⟨fun c => ?_, fun c => ?_⟩
      · replace hm := ia_ifp hm c
        show K 92 [some (.inr (.inr 345)), some (.inl x1), some (.inr (.inr a2)), some (.inl x3)] [] h
        refine ia_go hK ck_Dr_tryDay_92 ?_
        show K 55 [some (.inr (.inr 345)), some (.inl x1), some (.inr (.inr a2)), some (.inl (x3 + 1))] [] h
        exact ih a2 (x3 + 1) h hg q_a2 hm
      · replace hm := ia_ifn hm c
        show K 74 [some (.inr (.inr 345)), some (.inl x1), some (.inr (.inr a2)), some (.inl x3)] [] h
        refine ia_go hK ck_Dr_tryDay_74 ⟨gk_2 hg pk_345, gr_2_2 hg pk_345, ?_⟩
        show K 80 [some (.inr (.inr 345)), some (.inl x1), some (.inr (.inr a2)), some (.inl x3)] [.inl x3, .inr (.inr a2), .inr (.inr 311)] h
        obtain ⟨v5, hv5, hm⟩ := ia_bnd hm
        have ev5 := t_Wa_canLeave (d + n2 + 4) hg q_a2 hv5
        have gv5 := g_Wa_canLeave hg q_a2 hv5
        refine ia_cV hK mk_Wa_canLeave lk_2_81 dc_Dr_tryDay_80 311 [.inr (.inr a2), .inl x3] [] rfl rfl (Nat.le_of_ble_eq_true rfl) (by decide) rfl (gk_11 hg pk_311) ev5 (gd_nm hg gv5) ?_
        show K 83 [some (.inr (.inr 345)), some (.inl x1), some (.inr (.inr a2)), some (.inl x3)] [.inl v5.1] v5.2
        refine ia_go hK ck_Dr_tryDay_83 ⟨fun c => ?_, fun c => ?_⟩
        · replace hm := ia_ifp hm c
          show K 92 [some (.inr (.inr 345)), some (.inl x1), some (.inr (.inr a2)), some (.inl x3)] [] v5.2
          refine ia_go hK ck_Dr_tryDay_92 ?_
          show K 55 [some (.inr (.inr 345)), some (.inl x1), some (.inr (.inr a2)), some (.inl (x3 + 1))] [] v5.2
          exact ih a2 (x3 + 1) v5.2 gv5 q_a2 hm
        · replace hm := ia_ifn hm c
          show K 86 [some (.inr (.inr 345)), some (.inl x1), some (.inr (.inr a2)), some (.inl x3)] [] v5.2
          refine ia_go hK ck_Dr_tryDay_86 ?_
          show K 89 [some (.inr (.inr 345)), some (.inl x1), some (.inr (.inr a2)), some (.inl x3)] [.inl x3, .inl x1, .inr (.inr 345)] v5.2
          obtain ⟨v6, hv6, hm⟩ := ia_bnd hm
          have ev6 := t_Dr_tryShop hrc d gv5 hv6
          have gv6 := g_Dr_tryShop hrc gv5 hv6
          refine ia_cV hK mk_Dr_tryShop lk_2_87 dc_Dr_tryDay_89 345 [.inl x1, .inl x3] [] rfl rfl (Nat.le_of_ble_eq_true rfl) (by decide) rfl (gk_2 gv5 pk_345) ev6 (gd_nm gv5 gv6) ?_
          show K 92 [some (.inr (.inr 345)), some (.inl x1), some (.inr (.inr a2)), some (.inl x3)] [] v6
          refine ia_go hK ck_Dr_tryDay_92 ?_
          show K 55 [some (.inr (.inr 345)), some (.inl x1), some (.inr (.inr a2)), some (.inl (x3 + 1))] [] v6
          exact ih a2 (x3 + 1) v6 gv6 q_a2 hm
theorem gl_Dr_tryDay_55 {w : ia_O0} {n2 : Nat} {rc : Int32 → ia_H → Option ia_H} (hrc : ∀ (z0 : Int32)  (h : ia_H) (q : ia_H), gd_ w h → rc z0 h = some q → gd_ w q ∧ ∀ d, ia_Ev (d + n2 + 6) mm_Dr_tryDay [.inr (.inr 345), .inl z0] h none q) {x1 : Int32} {h1 : ia_H} {k98 : ia_H → Option ia_H} (hk98 : ∀ (h : ia_H), gd_ w h → k98 h = some h1 → gd_ w h1) : ∀ (n : Nat) (a2 : Nat) (x3 : Int32) (h : ia_H), gd_ w h → (kd_D a2).1 = 9 → l_Dr_tryDay_55 rc x1 k98 n a2 x3 h = some h1 → gd_ w h1 := by
  intro n
  induction n with
  | zero =>
    intro a2 x3 h hg q_a2 hm
    cases (show (none : Option ia_H) = some _ from hm)
  | succ n ih =>
    intro a2 x3 h hg q_a2 hm
    rw [l_Dr_tryDay_55] at hm
    by_cases c : (ia_i h (ia_r h a2 0) 11) ≤ x3
    · replace hm := ia_ifp hm c
      exact hk98 h hg hm
    · replace hm := ia_ifn hm c
      obtain ⟨v4, hv4, hm⟩ := ia_bnd hm
      by_cases c : v4 = 0
      · replace hm := ia_ifp hm c
        exact ih a2 (x3 + 1) h hg q_a2 hm
      · replace hm := ia_ifn hm c
        obtain ⟨v5, hv5, hm⟩ := ia_bnd hm
        have gv5 := g_Wa_canLeave hg q_a2 hv5
        by_cases c : v5.1 = 0
        · replace hm := ia_ifp hm c
          exact ih a2 (x3 + 1) v5.2 gv5 q_a2 hm
        · replace hm := ia_ifn hm c
          obtain ⟨v6, hv6, hm⟩ := ia_bnd hm
          have gv6 := g_Dr_tryShop hrc gv5 hv6
          exact ih a2 (x3 + 1) v6 gv6 q_a2 hm
def f_Dr_tryDay (rc : Int32 → ia_H → Option ia_H) (x1 : Int32) (h : ia_H) : Option ia_H := ia_gd (ia_ib x1 7) (if x1 < (ia_i h 345 6) then ((f_Dr_shopsWithHope (348 + 1 + 8 * (x1).toNatClampNeg) ((ia_i h 345 6) - x1) h).bind fun v2 => ((f_Dr_worthAtLeast (348 + 1 + 8 * (x1).toNatClampNeg) ((ia_i h 345 6) - x1) v2.1 v2.2).bind fun v3 => (if v3 < (ia_i v2.2 345 0) then (l_Dr_tryDay_55 rc x1 (fun h => (f_Dr_tryShop rc x1 (-1) h).bind fun v7 => (some v7)) fu_ (348 + 1 + 8 * (x1).toNatClampNeg) 0 v2.2) else (some v2.2)))) else ((f_Sc_worthNotOff (348 + 1 + 8 * (x1).toNatClampNeg) h).bind fun v8 => ((f_Dr_keepBetter v8 h).bind fun v9 => (some v9))))
theorem g_Dr_tryDay {w : ia_O0} {n2 : Nat} {rc : Int32 → ia_H → Option ia_H} (hrc : ∀ (z0 : Int32)  (h : ia_H) (q : ia_H), gd_ w h → rc z0 h = some q → gd_ w q ∧ ∀ d, ia_Ev (d + n2 + 6) mm_Dr_tryDay [.inr (.inr 345), .inl z0] h none q) {x1 : Int32} {h : ia_H} (hg : gd_ w h) {q : ia_H} (hm : f_Dr_tryDay rc x1 h = some q) : gd_ w q := by
  obtain ⟨h1, e1⟩ : ∃ x, x = q := ⟨_, rfl⟩
  subst e1
  unfold f_Dr_tryDay at hm
  obtain ⟨c1, hm⟩ := ia_gd_some hm
  by_cases c : x1 < (ia_i h 345 6)
  · replace hm := ia_ifp hm c
    obtain ⟨v2, hv2, hm⟩ := ia_bnd hm
    have gv2 := g_Dr_shopsWithHope hg (ke_113 (ka_2_4 pk_345) c1) hv2
    obtain ⟨v3, hv3, hm⟩ := ia_bnd hm
    by_cases c : v3 < (ia_i v2.2 345 0)
    · replace hm := ia_ifp hm c
      refine gl_Dr_tryDay_55 hrc ?_ fu_ (348 + 1 + 8 * (x1).toNatClampNeg) 0 v2.2 gv2 (ke_113 (ka_2_4 pk_345) c1) hm
      · intro h hg hm
        obtain ⟨v7, hv7, hm⟩ := ia_bnd hm
        have gv7 := g_Dr_tryShop hrc hg hv7
        obtain rfl := Option.some.inj hm
        exact gv7
    · replace hm := ia_ifn hm c
      obtain rfl := Option.some.inj hm
      exact gv2
  · replace hm := ia_ifn hm c
    obtain ⟨v8, hv8, hm⟩ := ia_bnd hm
    obtain ⟨v9, hv9, hm⟩ := ia_bnd hm
    have gv9 := g_Dr_keepBetter hg hv9
    obtain rfl := Option.some.inj hm
    exact gv9
theorem t_Dr_tryDay {w : ia_O0} {n2 : Nat} {rc : Int32 → ia_H → Option ia_H} (hrc : ∀ (z0 : Int32)  (h : ia_H) (q : ia_H), gd_ w h → rc z0 h = some q → gd_ w q ∧ ∀ d, ia_Ev (d + n2 + 6) mm_Dr_tryDay [.inr (.inr 345), .inl z0] h none q) (d : Nat) {x1 : Int32} {h : ia_H} (hg : gd_ w h) {q : ia_H} (hm : f_Dr_tryDay rc x1 h = some q) : ia_Ev (d + n2 + 8) mm_Dr_tryDay [.inr (.inr 345), .inl x1] h none q := by
  have gq := g_Dr_tryDay hrc hg hm
  refine ia_Ev_intro ok_Dr_tryDay (gd_le hg gq).1 (gd_le hg gq).2 (Nat.le_of_ble_eq_true rfl) (fun K hK hret => ?_)
  obtain ⟨h1, e1⟩ : ∃ x, x = q := ⟨_, rfl⟩
  subst e1
  show K 0 [some (.inr (.inr 345)), some (.inl x1), none, none] [] h
  unfold f_Dr_tryDay at hm
  obtain ⟨c1, hm⟩ := ia_gd_some hm
  refine ia_go hK ck_Dr_tryDay_0 ⟨gk_2 hg pk_345, gr_2_4 hg pk_345, ga_r113 hg (ka_2_4 pk_345) c1, gk_2 hg pk_345, fun c => ?_, fun c => ?_⟩
  · replace hm := ia_ifp hm c
    show K 24 [some (.inr (.inr 345)), some (.inl x1), some (.inr (.inr (348 + 1 + 8 * (x1).toNatClampNeg))), none] [] h
    refine ia_go hK ck_Dr_tryDay_24 ⟨gk_2 hg pk_345, gk_2 hg pk_345, ?_⟩
    show K 39 [some (.inr (.inr 345)), some (.inl x1), some (.inr (.inr (348 + 1 + 8 * (x1).toNatClampNeg))), none] [.inl ((ia_i h 345 6) - x1), .inr (.inr (348 + 1 + 8 * (x1).toNatClampNeg)), .inr (.inr 345), .inl ((ia_i h 345 6) - x1), .inr (.inr (348 + 1 + 8 * (x1).toNatClampNeg))] h
    obtain ⟨v2, hv2, hm⟩ := ia_bnd hm
    have ev2 := t_Dr_shopsWithHope (d + n2 + 3) hg (ke_113 (ka_2_4 pk_345) c1) hv2
    have gv2 := g_Dr_shopsWithHope hg (ke_113 (ka_2_4 pk_345) c1) hv2
    refine ia_cV hK mk_Dr_shopsWithHope lk_2_60 dc_Dr_tryDay_39 345 [.inr (.inr (348 + 1 + 8 * (x1).toNatClampNeg)), .inl ((ia_i h 345 6) - x1)] [.inl ((ia_i h 345 6) - x1), .inr (.inr (348 + 1 + 8 * (x1).toNatClampNeg))] rfl rfl (Nat.le_of_ble_eq_true rfl) (by decide) rfl (gk_2 hg pk_345) ev2 (gd_nm hg gv2) ?_
    show K 42 [some (.inr (.inr 345)), some (.inl x1), some (.inr (.inr (348 + 1 + 8 * (x1).toNatClampNeg))), none] [.inl v2.1, .inl ((ia_i h 345 6) - x1), .inr (.inr (348 + 1 + 8 * (x1).toNatClampNeg))] v2.2
    obtain ⟨v3, hv3, hm⟩ := ia_bnd hm
    have ev3 := t_Dr_worthAtLeast (d + n2 + 6) gv2 (ke_113 (ka_2_4 pk_345) c1) hv3
    refine ia_cS hK mk_Dr_worthAtLeast lk_2_64 dc_Dr_tryDay_42 [.inr (.inr (348 + 1 + 8 * (x1).toNatClampNeg)), .inl ((ia_i h 345 6) - x1), .inl v2.1] [] rfl rfl (Nat.le_of_ble_eq_true rfl) ev3 ⟨rfl, rfl⟩ ?_
    show K 45 [some (.inr (.inr 345)), some (.inl x1), some (.inr (.inr (348 + 1 + 8 * (x1).toNatClampNeg))), none] [.inl v3] v2.2
    refine ia_go hK ck_Dr_tryDay_45 ⟨gk_2 gv2 pk_345, fun c => ?_, fun c => ?_⟩
    · replace hm := ia_ifp hm c
      show K 53 [some (.inr (.inr 345)), some (.inl x1), some (.inr (.inr (348 + 1 + 8 * (x1).toNatClampNeg))), none] [] v2.2
      refine ia_go hK ck_Dr_tryDay_53 ?_
      show K 55 [some (.inr (.inr 345)), some (.inl x1), some (.inr (.inr (348 + 1 + 8 * (x1).toNatClampNeg))), some (.inl 0)] [] v2.2
      refine tl_Dr_tryDay_55 hrc hK hret ?_ fu_ (348 + 1 + 8 * (x1).toNatClampNeg) 0 v2.2 gv2 (ke_113 (ka_2_4 pk_345) c1) hm
      · intro h hg hm
        refine ia_go hK ck_Dr_tryDay_98 ?_
        show K 101 [some (.inr (.inr 345)), some (.inl x1), none, none] [.inl (-1), .inl x1, .inr (.inr 345)] h
        obtain ⟨v7, hv7, hm⟩ := ia_bnd hm
        have ev7 := t_Dr_tryShop hrc d hg hv7
        have gv7 := g_Dr_tryShop hrc hg hv7
        refine ia_cV hK mk_Dr_tryShop lk_2_87 dc_Dr_tryDay_101 345 [.inl x1, .inl (-1)] [] rfl rfl (Nat.le_of_ble_eq_true rfl) (by decide) rfl (gk_2 hg pk_345) ev7 (gd_nm hg gv7) ?_
        show K 104 [some (.inr (.inr 345)), some (.inl x1), none, none] [] v7
        obtain rfl := Option.some.inj hm
        exact hret 104 _ dc_Dr_tryDay_104
    · replace hm := ia_ifn hm c
      show K 52 [some (.inr (.inr 345)), some (.inl x1), some (.inr (.inr (348 + 1 + 8 * (x1).toNatClampNeg))), none] [] v2.2
      obtain rfl := Option.some.inj hm
      exact hret 52 _ dc_Dr_tryDay_52
  · replace hm := ia_ifn hm c
    show K 15 [some (.inr (.inr 345)), some (.inl x1), some (.inr (.inr (348 + 1 + 8 * (x1).toNatClampNeg))), none] [] h
    refine ia_go hK ck_Dr_tryDay_15 ?_
    show K 17 [some (.inr (.inr 345)), some (.inl x1), some (.inr (.inr (348 + 1 + 8 * (x1).toNatClampNeg))), none] [.inr (.inr (348 + 1 + 8 * (x1).toNatClampNeg)), .inr (.inr 345)] h
    obtain ⟨v8, hv8, hm⟩ := ia_bnd hm
    have ev8 := t_Sc_worthNotOff (d + n2 + 7) hg (ke_113 (ka_2_4 pk_345) c1) hv8
    refine ia_cV hK mk_Sc_worthNotOff lk_2_52 dc_Dr_tryDay_17 (348 + 1 + 8 * (x1).toNatClampNeg) [] [.inr (.inr 345)] rfl rfl (Nat.le_of_ble_eq_true rfl) (by decide) rfl (gk_9 hg (ke_113 (ka_2_4 pk_345) c1)) ev8 ⟨rfl, rfl⟩ ?_
    show K 20 [some (.inr (.inr 345)), some (.inl x1), some (.inr (.inr (348 + 1 + 8 * (x1).toNatClampNeg))), none] [.inl v8, .inr (.inr 345)] h
    obtain ⟨v9, hv9, hm⟩ := ia_bnd hm
    have ev9 := t_Dr_keepBetter (d + n2 + 7) hg hv9
    have gv9 := g_Dr_keepBetter hg hv9
    refine ia_cV hK mk_Dr_keepBetter lk_2_56 dc_Dr_tryDay_20 345 [.inl v8] [] rfl rfl (Nat.le_of_ble_eq_true rfl) (by decide) rfl (gk_2 hg pk_345) ev9 (gd_nm hg gv9) ?_
    show K 23 [some (.inr (.inr 345)), some (.inl x1), some (.inr (.inr (348 + 1 + 8 * (x1).toNatClampNeg))), none] [] v9
    obtain rfl := Option.some.inj hm
    exact hret 23 _ dc_Dr_tryDay_23
def fr_Dr_tryDay (n : Nat) (z0 : Int32) (h : ia_H) : Option ia_H := match n with
  | 0 => none
  | n + 1 => f_Dr_tryDay (fr_Dr_tryDay n) z0 h
theorem tr_Dr_tryDay {w : ia_O0} : ∀ (n : Nat) (z0 : Int32) (h : ia_H) (q : ia_H), gd_ w h → fr_Dr_tryDay n z0 h = some q → gd_ w q ∧ ∀ d, ia_Ev (d + 2 * n + 6) mm_Dr_tryDay [.inr (.inr 345), .inl z0] h none q := by
  intro n
  induction n with
  | zero =>
    intro z0 h q hg hm
    cases (show (none : Option ia_H) = some _ from hm)
  | succ n ih =>
    intro z0 h q hg hm
    rw [fr_Dr_tryDay] at hm
    refine ⟨g_Dr_tryDay ih hg hm, fun d => ?_⟩
    rw [show d + 2 * (n + 1) + 6 = d + 2 * n + 8 by omega]
    exact t_Dr_tryDay ih d hg hm
def mm_I_drawn : ia_M := (⟨"IceStreet", "drawn", "(IIIIII)I"⟩, prog_1_method_23_code, 8, (some .int), 0, false)
theorem ok_I_drawn : ia_mok mm_I_drawn := ⟨by decide +kernel, by decide +kernel, by decide +kernel, by decide +kernel⟩
theorem mk_I_drawn : ia_mkn mm_I_drawn 1 6 := ⟨ia_tb_in (List.mem_of_getElem? (i := 1335) (by decide +kernel)) rfl, ia_tb_in (List.mem_of_getElem? (i := 133) (by decide +kernel)) rfl, by decide +kernel, by decide +kernel, ⟨ia_tb_in (List.mem_of_getElem? (i := 1333) (by decide +kernel)) rfl, ia_tb_in (List.mem_of_getElem? (i := 1334) (by decide +kernel)) rfl⟩⟩
theorem ck_I_drawn_0 : ia_cks 0 8 false prog_1_method_23_code 0 [(.iload 5, 0, 0, 0, 0), (.iconst 1, 0, 0, 0, 0), (.if_icmp .lt 22, 0, 0, 0, 0)] = true := by decide +kernel
theorem ck_I_drawn_25 : ia_cks 0 8 false prog_1_method_23_code 25 [(.bipush (-2), 0, 0, 0, 0)] = true := by decide +kernel
theorem ck_I_drawn_6 : ia_cks 0 8 false prog_1_method_23_code 6 [(.iload 5, 0, 0, 0, 0), (.bipush 6, 0, 0, 0, 0), (.if_icmp .gt 15, 0, 0, 0, 0)] = true := by decide +kernel
theorem ck_I_drawn_13 : ia_cks 0 8 false prog_1_method_23_code 13 [(.aload_n 0, 0, 0, 0, 0), (.iload_n 1, 0, 0, 0, 0), (.iload_n 2, 0, 0, 0, 0), (.iload_n 3, 0, 0, 0, 0), (.iload 4, 0, 0, 0, 0)] = true := by decide +kernel
theorem ck_I_drawn_22 : ia_cks 0 8 false prog_1_method_23_code 22 [(.ifCond .ne 6, 0, 0, 0, 0)] = true := by decide +kernel
theorem ck_I_drawn_28 : ia_cks 0 8 false prog_1_method_23_code 28 [(.iload 6, 0, 0, 0, 0), (.bipush 10, 0, 0, 0, 0), (.if_icmp .lt 17, 0, 0, 0, 0)] = true := by decide +kernel
theorem ck_I_drawn_49 : ia_cks 0 8 false prog_1_method_23_code 49 [(.iconst 0, 0, 0, 0, 0)] = true := by decide +kernel
theorem ck_I_drawn_50 : ia_cks 0 8 false prog_1_method_23_code 50 [(.istore 7, 0, 0, 0, 0), (.iload 6, 0, 0, 0, 0), (.ifCond .eq 11, 0, 0, 0, 0)] = true := by decide +kernel
theorem ck_I_drawn_65 : ia_cks 0 8 false prog_1_method_23_code 65 [(.aload_n 0, 0, 0, 0, 0), (.getfield 76, 0, 8, 3, 281), (.aload_n 0, 0, 0, 0, 0), (.getfield 44, 0, 4, 3, 239), (.iload 5, 0, 0, 0, 0)] = true := by decide +kernel
theorem ck_I_drawn_78 : ia_cks 0 8 false prog_1_method_23_code 78 [(.aload_n 0, 0, 0, 0, 0), (.getfield 76, 0, 8, 3, 281), (.iconst 0, 0, 0, 0, 0)] = true := by decide +kernel
theorem ck_I_drawn_86 : ia_cks 0 8 false prog_1_method_23_code 86 [(.iload 7, 0, 0, 0, 0), (.ifCond .eq 19, 0, 0, 0, 0)] = true := by decide +kernel
theorem ck_I_drawn_107 : ia_cks 0 8 false prog_1_method_23_code 107 [(.aload_n 0, 0, 0, 0, 0), (.getfield 76, 0, 8, 3, 281), (.getfield 367, 2, 0, 0, 0)] = true := by decide +kernel
theorem ck_I_drawn_91 : ia_cks 0 8 false prog_1_method_23_code 91 [(.aload_n 0, 0, 0, 0, 0), (.getfield 76, 0, 8, 3, 281), (.getfield 364, 2, 1, 3, 1), (.iload 6, 0, 0, 0, 0), (.bipush 10, 0, 0, 0, 0), (.isub, 0, 0, 0, 0), (.iaload, 0, 0, 0, 0), (.goto 10, 0, 0, 0, 0)] = true := by decide +kernel
theorem ck_I_drawn_57 : ia_cks 0 8 false prog_1_method_23_code 57 [(.iload 7, 0, 0, 0, 0), (.ifCond .ne 6, 0, 0, 0, 0)] = true := by decide +kernel
theorem ck_I_drawn_62 : ia_cks 0 8 false prog_1_method_23_code 62 [(.bipush (-2), 0, 0, 0, 0)] = true := by decide +kernel
theorem ck_I_drawn_35 : ia_cks 0 8 false prog_1_method_23_code 35 [(.iload 6, 0, 0, 0, 0), (.bipush 10, 0, 0, 0, 0), (.iload 5, 0, 0, 0, 0), (.iadd, 0, 0, 0, 0), (.if_icmp .ge 7, 0, 0, 0, 0)] = true := by decide +kernel
theorem ck_I_drawn_45 : ia_cks 0 8 false prog_1_method_23_code 45 [(.iconst 1, 0, 0, 0, 0), (.goto 4, 0, 0, 0, 0)] = true := by decide +kernel
theorem dc_I_drawn_27 : decode prog_1_method_23_code 27 = .ok (.ireturn, 1) := by decide +kernel
theorem dc_I_drawn_19 : decode prog_1_method_23_code 19 = .ok (.invokevirtual 266, 3) := by decide +kernel
theorem dc_I_drawn_75 : decode prog_1_method_23_code 75 = .ok (.invokevirtual 358, 3) := by decide +kernel
theorem dc_I_drawn_83 : decode prog_1_method_23_code 83 = .ok (.invokevirtual 361, 3) := by decide +kernel
theorem dc_I_drawn_114 : decode prog_1_method_23_code 114 = .ok (.ireturn, 1) := by decide +kernel
theorem dc_I_drawn_64 : decode prog_1_method_23_code 64 = .ok (.ireturn, 1) := by decide +kernel
def j_I_drawn_65 (x1 : Int32) (x2 : Int32) (x3 : Int32) (x4 : Int32) (x5 : Int32) (x6 : Int32) (x7 : Int32) (h : ia_H) : Option (Int32 × ia_H) := (f_Dr_ready 303 x5 h).bind fun v2 => ((fr_Dr_tryDay 10 0 v2).bind fun v3 => (if x7 = 0 then (some (ia_i v3 345 0, v3)) else (ia_gd (ia_ib (x6 - 10) 6) (some (ia_i v3 346 ((x6 - 10).toNatClampNeg), v3)))))
theorem tj_I_drawn_65 {w : ia_O0} {d N1 W1 : Nat} {K : ia_K} (hK : ia_isK (d + 27) mm_I_drawn N1 W1 K) {x1 : Int32} {x2 : Int32} {x3 : Int32} {x4 : Int32} {x5 : Int32} {x6 : Int32} {r : Int32} {h1 : ia_H} (hret : ∀ (pc : Nat) (lv : ia_L), ia_ret mm_I_drawn pc (some (.inl r)) → K pc lv ((some (.inl r)) : Option ia_V).toList h1) : ∀ (x7 : Int32) (h : ia_H), gd_ w h → j_I_drawn_65 x1 x2 x3 x4 x5 x6 x7 h = some (r, h1) → K 65 [some (.inr (.inr 64)), none, none, none, none, some (.inl x5), some (.inl x6), some (.inl x7)] [] h := by
  intro x7 h hg hm
  unfold j_I_drawn_65 at hm
  refine ia_go hK ck_I_drawn_65 ⟨gk_0 hg pk_64, gr_0_8 hg pk_64, gk_0 hg pk_64, gr_0_4 hg pk_64, ?_⟩
  show K 75 [some (.inr (.inr 64)), none, none, none, none, some (.inl x5), some (.inl x6), some (.inl x7)] [.inl x5, .inr (.inr 303), .inr (.inr 345)] h
  obtain ⟨v2, hv2, hm⟩ := ia_bnd hm
  have ev2 := t_Dr_ready (d + 25) hg (ka_0_4 pk_64) hv2
  have gv2 := g_Dr_ready hg (ka_0_4 pk_64) hv2
  refine ia_cV hK mk_Dr_ready lk_0_358 dc_I_drawn_75 345 [.inr (.inr 303), .inl x5] [] rfl rfl (Nat.le_of_ble_eq_true rfl) (by decide) rfl (gk_2 hg (ka_0_8 pk_64)) ev2 (gd_nm hg gv2) ?_
  show K 78 [some (.inr (.inr 64)), none, none, none, none, some (.inl x5), some (.inl x6), some (.inl x7)] [] v2
  refine ia_go hK ck_I_drawn_78 ⟨gk_0 gv2 pk_64, gr_0_8 gv2 pk_64, ?_⟩
  show K 83 [some (.inr (.inr 64)), none, none, none, none, some (.inl x5), some (.inl x6), some (.inl x7)] [.inl 0, .inr (.inr 345)] v2
  obtain ⟨v3, hv3, hm⟩ := ia_bnd hm
  have ev3 := (tr_Dr_tryDay 10 0 v2 _ gv2 hv3).2 (d + 0)
  have gv3 := (tr_Dr_tryDay 10 0 v2 _ gv2 hv3).1
  refine ia_cV hK mk_Dr_tryDay lk_0_361 dc_I_drawn_83 345 [.inl 0] [] rfl rfl (Nat.le_of_ble_eq_true rfl) (by decide) rfl (gk_2 gv2 (ka_0_8 pk_64)) ev3 (gd_nm gv2 gv3) ?_
  show K 86 [some (.inr (.inr 64)), none, none, none, none, some (.inl x5), some (.inl x6), some (.inl x7)] [] v3
  refine ia_go hK ck_I_drawn_86 ⟨fun c => ?_, fun c => ?_⟩
  · replace hm := ia_ifp hm c
    show K 107 [some (.inr (.inr 64)), none, none, none, none, some (.inl x5), some (.inl x6), some (.inl x7)] [] v3
    refine ia_go hK ck_I_drawn_107 ⟨gk_0 gv3 pk_64, gr_0_8 gv3 pk_64, gk_2 gv3 (ka_0_8 pk_64), ?_⟩
    show K 114 [some (.inr (.inr 64)), none, none, none, none, some (.inl x5), some (.inl x6), some (.inl x7)] [.inl (ia_i v3 345 0)] v3
    obtain ⟨rfl, rfl⟩ := Prod.mk.inj (Option.some.inj hm)
    exact hret 114 _ dc_I_drawn_114
  · replace hm := ia_ifn hm c
    show K 91 [some (.inr (.inr 64)), none, none, none, none, some (.inl x5), some (.inl x6), some (.inl x7)] [] v3
    obtain ⟨c4, hm⟩ := ia_gd_some hm
    refine ia_go hK ck_I_drawn_91 ⟨gk_0 gv3 pk_64, gr_0_8 gv3 pk_64, gk_2 gv3 (ka_0_8 pk_64), gr_2_1 gv3 (ka_0_8 pk_64), ga_i100 gv3 (ka_2_1 (ka_0_8 pk_64)) c4, ?_⟩
    show K 114 [some (.inr (.inr 64)), none, none, none, none, some (.inl x5), some (.inl x6), some (.inl x7)] [.inl (ia_i v3 346 ((x6 - 10).toNatClampNeg))] v3
    obtain ⟨rfl, rfl⟩ := Prod.mk.inj (Option.some.inj hm)
    exact hret 114 _ dc_I_drawn_114
theorem gj_I_drawn_65 {w : ia_O0} {x1 : Int32} {x2 : Int32} {x3 : Int32} {x4 : Int32} {x5 : Int32} {x6 : Int32} {r : Int32} {h1 : ia_H} : ∀ (x7 : Int32) (h : ia_H), gd_ w h → j_I_drawn_65 x1 x2 x3 x4 x5 x6 x7 h = some (r, h1) → gd_ w h1 := by
  intro x7 h hg hm
  unfold j_I_drawn_65 at hm
  obtain ⟨v2, hv2, hm⟩ := ia_bnd hm
  have gv2 := g_Dr_ready hg (ka_0_4 pk_64) hv2
  obtain ⟨v3, hv3, hm⟩ := ia_bnd hm
  have gv3 := (tr_Dr_tryDay 10 0 v2 _ gv2 hv3).1
  by_cases c : x7 = 0
  · replace hm := ia_ifp hm c
    obtain ⟨rfl, rfl⟩ := Prod.mk.inj (Option.some.inj hm)
    exact gv3
  · replace hm := ia_ifn hm c
    obtain ⟨c4, hm⟩ := ia_gd_some hm
    obtain ⟨rfl, rfl⟩ := Prod.mk.inj (Option.some.inj hm)
    exact gv3
def j_I_drawn_50 (x1 : Int32) (x2 : Int32) (x3 : Int32) (x4 : Int32) (x5 : Int32) (x6 : Int32) (s0 : Int32) (h : ia_H) : Option (Int32 × ia_H) := if x6 = 0 then (j_I_drawn_65 x1 x2 x3 x4 x5 x6 s0 h) else (if s0 = 0 then (some ((-2), h)) else (j_I_drawn_65 x1 x2 x3 x4 x5 x6 s0 h))
theorem tj_I_drawn_50 {w : ia_O0} {d N1 W1 : Nat} {K : ia_K} (hK : ia_isK (d + 27) mm_I_drawn N1 W1 K) {x1 : Int32} {x2 : Int32} {x3 : Int32} {x4 : Int32} {x5 : Int32} {x6 : Int32} {r : Int32} {h1 : ia_H} (hret : ∀ (pc : Nat) (lv : ia_L), ia_ret mm_I_drawn pc (some (.inl r)) → K pc lv ((some (.inl r)) : Option ia_V).toList h1) : ∀ (s0 : Int32) (h : ia_H), gd_ w h → j_I_drawn_50 x1 x2 x3 x4 x5 x6 s0 h = some (r, h1) → K 50 [some (.inr (.inr 64)), none, none, none, none, some (.inl x5), some (.inl x6), none] [.inl s0] h := by
  intro s0 h hg hm
  unfold j_I_drawn_50 at hm
  refine ia_go hK ck_I_drawn_50 ⟨fun c => ?_, fun c => ?_⟩
  · replace hm := ia_ifp hm c
    show K 65 [some (.inr (.inr 64)), none, none, none, none, some (.inl x5), some (.inl x6), some (.inl s0)] [] h
    exact tj_I_drawn_65 hK hret s0 h hg hm
  · replace hm := ia_ifn hm c
    show K 57 [some (.inr (.inr 64)), none, none, none, none, some (.inl x5), some (.inl x6), some (.inl s0)] [] h
    refine ia_go hK ck_I_drawn_57 ⟨fun c => ?_, fun c => ?_⟩
    · replace hm := ia_ifn hm c
      show K 65 [some (.inr (.inr 64)), none, none, none, none, some (.inl x5), some (.inl x6), some (.inl s0)] [] h
      exact tj_I_drawn_65 hK hret s0 h hg hm
    · replace hm := ia_ifp hm c
      show K 62 [some (.inr (.inr 64)), none, none, none, none, some (.inl x5), some (.inl x6), some (.inl s0)] [] h
      refine ia_go hK ck_I_drawn_62 ?_
      show K 64 [some (.inr (.inr 64)), none, none, none, none, some (.inl x5), some (.inl x6), some (.inl s0)] [.inl (-2)] h
      obtain ⟨rfl, rfl⟩ := Prod.mk.inj (Option.some.inj hm)
      exact hret 64 _ dc_I_drawn_64
theorem gj_I_drawn_50 {w : ia_O0} {x1 : Int32} {x2 : Int32} {x3 : Int32} {x4 : Int32} {x5 : Int32} {x6 : Int32} {r : Int32} {h1 : ia_H} : ∀ (s0 : Int32) (h : ia_H), gd_ w h → j_I_drawn_50 x1 x2 x3 x4 x5 x6 s0 h = some (r, h1) → gd_ w h1 := by
  intro s0 h hg hm
  unfold j_I_drawn_50 at hm
  by_cases c : x6 = 0
  · replace hm := ia_ifp hm c
    exact gj_I_drawn_65 s0 h hg hm
  · replace hm := ia_ifn hm c
    by_cases c : s0 = 0
    · replace hm := ia_ifp hm c
      obtain ⟨rfl, rfl⟩ := Prod.mk.inj (Option.some.inj hm)
      exact hg
    · replace hm := ia_ifn hm c
      exact gj_I_drawn_65 s0 h hg hm
def f_I_drawn (x1 : Int32) (x2 : Int32) (x3 : Int32) (x4 : Int32) (x5 : Int32) (x6 : Int32) (h : ia_H) : Option (Int32 × ia_H) := if x5 < 1 then (some ((-2), h)) else (if 6 < x5 then (some ((-2), h)) else ((f_I_stage x1 x2 x3 x4 h).bind fun v1 => (if v1.1 = 0 then (some ((-2), v1.2)) else (if x6 < 10 then (j_I_drawn_50 x1 x2 x3 x4 x5 x6 0 v1.2) else (if (10 + x5) ≤ x6 then (j_I_drawn_50 x1 x2 x3 x4 x5 x6 0 v1.2) else (j_I_drawn_50 x1 x2 x3 x4 x5 x6 1 v1.2))))))
theorem g_I_drawn {w : ia_O0} {x1 : Int32} {x2 : Int32} {x3 : Int32} {x4 : Int32} {x5 : Int32} {x6 : Int32} {h : ia_H} (hg : gd_ w h) {q : (Int32 × ia_H)} (hm : f_I_drawn x1 x2 x3 x4 x5 x6 h = some q) : gd_ w q.2 := by
  obtain ⟨r, h1⟩ := q
  unfold f_I_drawn at hm
  by_cases c : x5 < 1
  · replace hm := ia_ifp hm c
    obtain ⟨rfl, rfl⟩ := Prod.mk.inj (Option.some.inj hm)
    exact hg
  · replace hm := ia_ifn hm c
    by_cases c : 6 < x5
    · replace hm := ia_ifp hm c
      obtain ⟨rfl, rfl⟩ := Prod.mk.inj (Option.some.inj hm)
      exact hg
    · replace hm := ia_ifn hm c
      obtain ⟨v1, hv1, hm⟩ := ia_bnd hm
      have gv1 := g_I_stage hg hv1
      by_cases c : v1.1 = 0
      · replace hm := ia_ifp hm c
        obtain ⟨rfl, rfl⟩ := Prod.mk.inj (Option.some.inj hm)
        exact gv1
      · replace hm := ia_ifn hm c
        by_cases c : x6 < 10
        · replace hm := ia_ifp hm c
          exact gj_I_drawn_50 0 v1.2 gv1 hm
        · replace hm := ia_ifn hm c
          by_cases c : (10 + x5) ≤ x6
          · replace hm := ia_ifp hm c
            exact gj_I_drawn_50 0 v1.2 gv1 hm
          · replace hm := ia_ifn hm c
            exact gj_I_drawn_50 1 v1.2 gv1 hm
theorem t_I_drawn {w : ia_O0} (d : Nat) {x1 : Int32} {x2 : Int32} {x3 : Int32} {x4 : Int32} {x5 : Int32} {x6 : Int32} {h : ia_H} (hg : gd_ w h) {q : (Int32 × ia_H)} (hm : f_I_drawn x1 x2 x3 x4 x5 x6 h = some q) : ia_Ev (d + 27) mm_I_drawn [.inr (.inr 64), .inl x1, .inl x2, .inl x3, .inl x4, .inl x5, .inl x6] h (some (.inl q.1)) q.2 := by
  have gq := g_I_drawn hg hm
  refine ia_Ev_intro ok_I_drawn (gd_le hg gq).1 (gd_le hg gq).2 (Nat.le_of_ble_eq_true rfl) (fun K hK hret => ?_)
  obtain ⟨r, h1⟩ := q
  show K 0 [some (.inr (.inr 64)), some (.inl x1), some (.inl x2), some (.inl x3), some (.inl x4), some (.inl x5), some (.inl x6), none] [] h
  unfold f_I_drawn at hm
  refine ia_go hK ck_I_drawn_0 ⟨fun c => ?_, fun c => ?_⟩
  · replace hm := ia_ifp hm c
    show K 25 [some (.inr (.inr 64)), some (.inl x1), some (.inl x2), some (.inl x3), some (.inl x4), some (.inl x5), some (.inl x6), none] [] h
    refine ia_go hK ck_I_drawn_25 ?_
    show K 27 [some (.inr (.inr 64)), some (.inl x1), some (.inl x2), some (.inl x3), some (.inl x4), some (.inl x5), some (.inl x6), none] [.inl (-2)] h
    obtain ⟨rfl, rfl⟩ := Prod.mk.inj (Option.some.inj hm)
    exact hret 27 _ dc_I_drawn_27
  · replace hm := ia_ifn hm c
    show K 6 [some (.inr (.inr 64)), some (.inl x1), some (.inl x2), some (.inl x3), some (.inl x4), some (.inl x5), some (.inl x6), none] [] h
    refine ia_go hK ck_I_drawn_6 ⟨fun c => ?_, fun c => ?_⟩
    · replace hm := ia_ifp hm c
      show K 25 [some (.inr (.inr 64)), some (.inl x1), some (.inl x2), some (.inl x3), some (.inl x4), some (.inl x5), some (.inl x6), none] [] h
      refine ia_go hK ck_I_drawn_25 ?_
      show K 27 [some (.inr (.inr 64)), some (.inl x1), some (.inl x2), some (.inl x3), some (.inl x4), some (.inl x5), some (.inl x6), none] [.inl (-2)] h
      obtain ⟨rfl, rfl⟩ := Prod.mk.inj (Option.some.inj hm)
      exact hret 27 _ dc_I_drawn_27
    · replace hm := ia_ifn hm c
      show K 13 [some (.inr (.inr 64)), some (.inl x1), some (.inl x2), some (.inl x3), some (.inl x4), some (.inl x5), some (.inl x6), none] [] h
      refine ia_go hK ck_I_drawn_13 ?_
      show K 19 [some (.inr (.inr 64)), some (.inl x1), some (.inl x2), some (.inl x3), some (.inl x4), some (.inl x5), some (.inl x6), none] [.inl x4, .inl x3, .inl x2, .inl x1, .inr (.inr 64)] h
      obtain ⟨v1, hv1, hm⟩ := ia_bnd hm
      have ev1 := t_I_stage (d + 20) hg hv1
      have gv1 := g_I_stage hg hv1
      refine ia_cV hK mk_I_stage lk_0_266 dc_I_drawn_19 64 [.inl x1, .inl x2, .inl x3, .inl x4] [] rfl rfl (Nat.le_of_ble_eq_true rfl) (by decide) rfl (gk_0 hg pk_64) ev1 (gd_nm hg gv1) ?_
      show K 22 [some (.inr (.inr 64)), some (.inl x1), some (.inl x2), some (.inl x3), some (.inl x4), some (.inl x5), some (.inl x6), none] [.inl v1.1] v1.2
      refine ia_go hK ck_I_drawn_22 ⟨fun c => ?_, fun c => ?_⟩
      · replace hm := ia_ifn hm c
        show K 28 [some (.inr (.inr 64)), some (.inl x1), some (.inl x2), some (.inl x3), some (.inl x4), some (.inl x5), some (.inl x6), none] [] v1.2
        refine ia_go hK ck_I_drawn_28 ⟨fun c => ?_, fun c => ?_⟩
        · replace hm := ia_ifp hm c
          show K 49 [some (.inr (.inr 64)), some (.inl x1), some (.inl x2), some (.inl x3), some (.inl x4), some (.inl x5), some (.inl x6), none] [] v1.2
          refine ia_go hK ck_I_drawn_49 ?_
          show K 50 [some (.inr (.inr 64)), some (.inl x1), some (.inl x2), some (.inl x3), some (.inl x4), some (.inl x5), some (.inl x6), none] [.inl 0] v1.2
          refine ia_fg hK (lv' := [some (.inr (.inr 64)), none, none, none, none, some (.inl x5), some (.inl x6), none]) ⟨rfl, rfl, rfl, trivial⟩ ?_
          exact tj_I_drawn_50 hK hret 0 v1.2 gv1 hm
        · replace hm := ia_ifn hm c
          show K 35 [some (.inr (.inr 64)), some (.inl x1), some (.inl x2), some (.inl x3), some (.inl x4), some (.inl x5), some (.inl x6), none] [] v1.2
          refine ia_go hK ck_I_drawn_35 ⟨fun c => ?_, fun c => ?_⟩
          · replace hm := ia_ifp hm c
            show K 49 [some (.inr (.inr 64)), some (.inl x1), some (.inl x2), some (.inl x3), some (.inl x4), some (.inl x5), some (.inl x6), none] [] v1.2
            refine ia_go hK ck_I_drawn_49 ?_
            show K 50 [some (.inr (.inr 64)), some (.inl x1), some (.inl x2), some (.inl x3), some (.inl x4), some (.inl x5), some (.inl x6), none] [.inl 0] v1.2
            refine ia_fg hK (lv' := [some (.inr (.inr 64)), none, none, none, none, some (.inl x5), some (.inl x6), none]) ⟨rfl, rfl, rfl, trivial⟩ ?_
            exact tj_I_drawn_50 hK hret 0 v1.2 gv1 hm
          · replace hm := ia_ifn hm c
            show K 45 [some (.inr (.inr 64)), some (.inl x1), some (.inl x2), some (.inl x3), some (.inl x4), some (.inl x5), some (.inl x6), none] [] v1.2
            refine ia_go hK ck_I_drawn_45 ?_
            show K 50 [some (.inr (.inr 64)), some (.inl x1), some (.inl x2), some (.inl x3), some (.inl x4), some (.inl x5), some (.inl x6), none] [.inl 1] v1.2
            refine ia_fg hK (lv' := [some (.inr (.inr 64)), none, none, none, none, some (.inl x5), some (.inl x6), none]) ⟨rfl, rfl, rfl, trivial⟩ ?_
            exact tj_I_drawn_50 hK hret 1 v1.2 gv1 hm
      · replace hm := ia_ifp hm c
        show K 25 [some (.inr (.inr 64)), some (.inl x1), some (.inl x2), some (.inl x3), some (.inl x4), some (.inl x5), some (.inl x6), none] [] v1.2
        refine ia_go hK ck_I_drawn_25 ?_
        show K 27 [some (.inr (.inr 64)), some (.inl x1), some (.inl x2), some (.inl x3), some (.inl x4), some (.inl x5), some (.inl x6), none] [.inl (-2)] v1.2
        obtain ⟨rfl, rfl⟩ := Prod.mk.inj (Option.some.inj hm)
        exact hret 27 _ dc_I_drawn_27
def mm_Ou_safestCell : ia_M := (⟨"IceStreet$Outlook", "safestCell", "(LIceStreet$Scene;I)I"⟩, prog_6_method_4_code, 10, (some .int), 5, false)
theorem ok_Ou_safestCell : ia_mok mm_Ou_safestCell := ⟨by decide +kernel, by decide +kernel, by decide +kernel, by decide +kernel⟩
theorem mk_Ou_safestCell : ia_mkn mm_Ou_safestCell 1 2 := ⟨ia_tb_in (List.mem_of_getElem? (i := 1383) (by decide +kernel)) rfl, ia_tb_in (List.mem_of_getElem? (i := 143) (by decide +kernel)) rfl, by decide +kernel, by decide +kernel, ⟨ia_tb_in (List.mem_of_getElem? (i := 1381) (by decide +kernel)) rfl, ia_tb_in (List.mem_of_getElem? (i := 1382) (by decide +kernel)) rfl⟩⟩
theorem ck_Ou_safestCell_0 : ia_cks 5 10 false prog_6_method_4_code 0 [(.aload_n 1, 0, 0, 0, 0), (.getfield 56, 9, 6, 3, 5), (.iload_n 2, 0, 0, 0, 0), (.iaload, 0, 0, 0, 0), (.istore_n 3, 0, 0, 0, 0), (.aload_n 0, 0, 0, 0, 0), (.getfield 18, 5, 0, 4, 311), (.aload_n 1, 0, 0, 0, 0), (.iload_n 2, 0, 0, 0, 0)] = true := by decide +kernel
theorem ck_Ou_safestCell_16 : ia_cks 5 10 false prog_6_method_4_code 16 [(.iload_n 3, 0, 0, 0, 0)] = true := by decide +kernel
theorem ck_Ou_safestCell_20 : ia_cks 5 10 false prog_6_method_4_code 20 [(.lor, 0, 0, 0, 0), (.lstore 4, 0, 0, 0, 0), (.iload_n 3, 0, 0, 0, 0), (.istore 6, 0, 0, 0, 0), (.iconst (-1), 0, 0, 0, 0), (.istore 7, 0, 0, 0, 0), (.iconst 0, 0, 0, 0, 0), (.istore 8, 0, 0, 0, 0)] = true := by decide +kernel
theorem ck_Ou_safestCell_32 : ia_cks 5 10 false prog_6_method_4_code 32 [(.iload 8, 0, 0, 0, 0), (.aload_n 1, 0, 0, 0, 0), (.getfield 69, 9, 0, 2, 0)] = true := by decide +kernel
theorem ck_Ou_safestCell_41 : ia_cks 5 10 false prog_6_method_4_code 41 [(.if_icmp .ge 69, 0, 0, 0, 0)] = true := by decide +kernel
theorem ck_Ou_safestCell_44 : ia_cks 5 10 false prog_6_method_4_code 44 [(.lload 4, 0, 0, 0, 0), (.iload 8, 0, 0, 0, 0)] = true := by decide +kernel
theorem ck_Ou_safestCell_51 : ia_cks 5 10 false prog_6_method_4_code 51 [(.ifCond .eq 53, 0, 0, 0, 0)] = true := by decide +kernel
theorem ck_Ou_safestCell_104 : ia_cks 5 10 false prog_6_method_4_code 104 [(.iinc 8 1, 0, 0, 0, 0), (.goto (-75), 0, 0, 0, 0)] = true := by decide +kernel
theorem ck_Ou_safestCell_54 : ia_cks 5 10 false prog_6_method_4_code 54 [(.aload_n 0, 0, 0, 0, 0), (.getfield 31, 5, 2, 3, 11), (.aload_n 1, 0, 0, 0, 0)] = true := by decide +kernel
theorem ck_Ou_safestCell_62 : ia_cks 5 10 false prog_6_method_4_code 62 [(.iload 8, 0, 0, 0, 0), (.iload_n 3, 0, 0, 0, 0), (.if_icmp .eq 13, 0, 0, 0, 0)] = true := by decide +kernel
theorem ck_Ou_safestCell_78 : ia_cks 5 10 false prog_6_method_4_code 78 [(.aload_n 0, 0, 0, 0, 0), (.aload_n 0, 0, 0, 0, 0), (.getfield 31, 5, 2, 3, 11), (.iload_n 2, 0, 0, 0, 0)] = true := by decide +kernel
theorem ck_Ou_safestCell_87 : ia_cks 5 10 false prog_6_method_4_code 87 [(.istore 9, 0, 0, 0, 0), (.iload 9, 0, 0, 0, 0), (.iload 7, 0, 0, 0, 0), (.if_icmp .le 11, 0, 0, 0, 0)] = true := by decide +kernel
theorem ck_Ou_safestCell_96 : ia_cks 5 10 false prog_6_method_4_code 96 [(.iload 9, 0, 0, 0, 0), (.istore 7, 0, 0, 0, 0), (.iload 8, 0, 0, 0, 0), (.istore 6, 0, 0, 0, 0), (.iinc 8 1, 0, 0, 0, 0), (.goto (-75), 0, 0, 0, 0)] = true := by decide +kernel
theorem ck_Ou_safestCell_68 : ia_cks 5 10 false prog_6_method_4_code 68 [(.aload_n 0, 0, 0, 0, 0), (.getfield 31, 5, 2, 3, 11), (.iload_n 2, 0, 0, 0, 0), (.iload 8, 0, 0, 0, 0)] = true := by decide +kernel
theorem ck_Ou_safestCell_110 : ia_cks 5 10 false prog_6_method_4_code 110 [(.iload 6, 0, 0, 0, 0)] = true := by decide +kernel
theorem dc_Ou_safestCell_13 : decode prog_6_method_4_code 13 = .ok (.invokevirtual 59, 3) := by decide +kernel
theorem dc_Ou_safestCell_17 : decode prog_6_method_4_code 17 = .ok (.invokestatic 65, 3) := by decide +kernel
theorem dc_Ou_safestCell_38 : decode prog_6_method_4_code 38 = .ok (.invokevirtual 73, 3) := by decide +kernel
theorem dc_Ou_safestCell_48 : decode prog_6_method_4_code 48 = .ok (.invokestatic 78, 3) := by decide +kernel
theorem dc_Ou_safestCell_59 : decode prog_6_method_4_code 59 = .ok (.invokevirtual 34, 3) := by decide +kernel
theorem dc_Ou_safestCell_84 : decode prog_6_method_4_code 84 = .ok (.invokevirtual 86, 3) := by decide +kernel
theorem dc_Ou_safestCell_75 : decode prog_6_method_4_code 75 = .ok (.invokevirtual 82, 3) := by decide +kernel
theorem dc_Ou_safestCell_112 : decode prog_6_method_4_code 112 = .ok (.ireturn, 1) := by decide +kernel
def j_Ou_safestCell_78 (a1 : Nat) (x2 : Int32) (kr : Int32 → Int64 → Int32 → Int32 → Int32 → ia_H → Option (Int32 × ia_H)) (k110 : Int32 → ia_H → Option (Int32 × ia_H)) (x3 : Int32) (y4 : Int64) (x6 : Int32) (x7 : Int32) (x8 : Int32) (h : ia_H) : Option (Int32 × ia_H) := (f_Ou_daysHeld 337 x2 h).bind fun v7 => (if v7.1 ≤ x7 then (kr x3 y4 x6 x7 (x8 + 1) v7.2) else (kr x3 y4 x8 v7.1 (x8 + 1) v7.2))
theorem tj_Ou_safestCell_78 {w : ia_O0} {d N1 W1 : Nat} {K : ia_K} (hK : ia_isK (d + 5) mm_Ou_safestCell N1 W1 K) {a1 : Nat} {x2 : Int32} (p1 : (kd_D a1).1 = 9) {r : Int32} {h1 : ia_H} (hret : ∀ (pc : Nat) (lv : ia_L), ia_ret mm_Ou_safestCell pc (some (.inl r)) → K pc lv ((some (.inl r)) : Option ia_V).toList h1) {kr : Int32 → Int64 → Int32 → Int32 → Int32 → ia_H → Option (Int32 × ia_H)} {k110 : Int32 → ia_H → Option (Int32 × ia_H)} (hkr : ∀ (x3 : Int32) (y4 : Int64) (x6 : Int32) (x7 : Int32) (x8 : Int32) (h : ia_H), gd_ w h → kr x3 y4 x6 x7 x8 h = some (r, h1) → K 32 [some (.inr (.inr 326)), some (.inr (.inr a1)), some (.inl x2), some (.inl x3), some (.inr (.inl y4)), none, some (.inl x6), some (.inl x7), some (.inl x8), none] [] h) (hk110 : ∀ (x6 : Int32) (h : ia_H), gd_ w h → k110 x6 h = some (r, h1) → K 110 [none, none, none, none, none, none, some (.inl x6), none, none, none] [] h) : ∀ (x3 : Int32) (y4 : Int64) (x6 : Int32) (x7 : Int32) (x8 : Int32) (h : ia_H), gd_ w h → j_Ou_safestCell_78 a1 x2 kr k110 x3 y4 x6 x7 x8 h = some (r, h1) → K 78 [some (.inr (.inr 326)), some (.inr (.inr a1)), some (.inl x2), some (.inl x3), some (.inr (.inl y4)), none, some (.inl x6), some (.inl x7), some (.inl x8), none] [] h := by
  intro x3 y4 x6 x7 x8 h hg hm
  unfold j_Ou_safestCell_78 at hm
  refine ia_go hK ck_Ou_safestCell_78 ⟨gk_5 hg pk_326, gr_5_2 hg pk_326, ?_⟩
  show K 84 [some (.inr (.inr 326)), some (.inr (.inr a1)), some (.inl x2), some (.inl x3), some (.inr (.inl y4)), none, some (.inl x6), some (.inl x7), some (.inl x8), none] [.inl x2, .inr (.inr 337), .inr (.inr 326)] h
  obtain ⟨v7, hv7, hm⟩ := ia_bnd hm
  have ev7 := t_Ou_daysHeld (d + 0) hg (ka_5_2 pk_326) hv7
  have gv7 := g_Ou_daysHeld hg (ka_5_2 pk_326) hv7
  refine ia_cV hK mk_Ou_daysHeld lk_5_86 dc_Ou_safestCell_84 326 [.inr (.inr 337), .inl x2] [] rfl rfl (Nat.le_of_ble_eq_true rfl) (by decide) rfl (gk_5 hg pk_326) ev7 (gd_nm hg gv7) ?_
  show K 87 [some (.inr (.inr 326)), some (.inr (.inr a1)), some (.inl x2), some (.inl x3), some (.inr (.inl y4)), none, some (.inl x6), some (.inl x7), some (.inl x8), none] [.inl v7.1] v7.2
  refine ia_go hK ck_Ou_safestCell_87 ⟨fun c => ?_, fun c => ?_⟩
  · replace hm := ia_ifp hm c
    show K 104 [some (.inr (.inr 326)), some (.inr (.inr a1)), some (.inl x2), some (.inl x3), some (.inr (.inl y4)), none, some (.inl x6), some (.inl x7), some (.inl x8), some (.inl v7.1)] [] v7.2
    refine ia_go hK ck_Ou_safestCell_104 ?_
    show K 32 [some (.inr (.inr 326)), some (.inr (.inr a1)), some (.inl x2), some (.inl x3), some (.inr (.inl y4)), none, some (.inl x6), some (.inl x7), some (.inl (x8 + 1)), some (.inl v7.1)] [] v7.2
    refine ia_fg hK (lv' := [some (.inr (.inr 326)), some (.inr (.inr a1)), some (.inl x2), some (.inl x3), some (.inr (.inl y4)), none, some (.inl x6), some (.inl x7), some (.inl (x8 + 1)), none]) ⟨rfl, rfl, rfl, rfl, rfl, rfl, rfl, rfl, trivial⟩ ?_
    exact hkr x3 y4 x6 x7 (x8 + 1) v7.2 gv7 hm
  · replace hm := ia_ifn hm c
    show K 96 [some (.inr (.inr 326)), some (.inr (.inr a1)), some (.inl x2), some (.inl x3), some (.inr (.inl y4)), none, some (.inl x6), some (.inl x7), some (.inl x8), some (.inl v7.1)] [] v7.2
    refine ia_go hK ck_Ou_safestCell_96 ?_
    show K 32 [some (.inr (.inr 326)), some (.inr (.inr a1)), some (.inl x2), some (.inl x3), some (.inr (.inl y4)), none, some (.inl x8), some (.inl v7.1), some (.inl (x8 + 1)), some (.inl v7.1)] [] v7.2
    refine ia_fg hK (lv' := [some (.inr (.inr 326)), some (.inr (.inr a1)), some (.inl x2), some (.inl x3), some (.inr (.inl y4)), none, some (.inl x8), some (.inl v7.1), some (.inl (x8 + 1)), none]) ⟨rfl, rfl, rfl, rfl, rfl, rfl, rfl, rfl, trivial⟩ ?_
    exact hkr x3 y4 x8 v7.1 (x8 + 1) v7.2 gv7 hm
theorem gj_Ou_safestCell_78 {w : ia_O0} {a1 : Nat} {x2 : Int32} (p1 : (kd_D a1).1 = 9) {r : Int32} {h1 : ia_H} {kr : Int32 → Int64 → Int32 → Int32 → Int32 → ia_H → Option (Int32 × ia_H)} {k110 : Int32 → ia_H → Option (Int32 × ia_H)} (hkr : ∀ (x3 : Int32) (y4 : Int64) (x6 : Int32) (x7 : Int32) (x8 : Int32) (h : ia_H), gd_ w h → kr x3 y4 x6 x7 x8 h = some (r, h1) → gd_ w h1) (hk110 : ∀ (x6 : Int32) (h : ia_H), gd_ w h → k110 x6 h = some (r, h1) → gd_ w h1) : ∀ (x3 : Int32) (y4 : Int64) (x6 : Int32) (x7 : Int32) (x8 : Int32) (h : ia_H), gd_ w h → j_Ou_safestCell_78 a1 x2 kr k110 x3 y4 x6 x7 x8 h = some (r, h1) → gd_ w h1 := by
  intro x3 y4 x6 x7 x8 h hg hm
  unfold j_Ou_safestCell_78 at hm
  obtain ⟨v7, hv7, hm⟩ := ia_bnd hm
  have gv7 := g_Ou_daysHeld hg (ka_5_2 pk_326) hv7
  by_cases c : v7.1 ≤ x7
  · replace hm := ia_ifp hm c
    exact hkr x3 y4 x6 x7 (x8 + 1) v7.2 gv7 hm
  · replace hm := ia_ifn hm c
    exact hkr x3 y4 x8 v7.1 (x8 + 1) v7.2 gv7 hm
def l_Ou_safestCell_32 (a1 : Nat) (x2 : Int32) (k110 : Int32 → ia_H → Option (Int32 × ia_H)) (n : Nat) (x3 : Int32) (y4 : Int64) (x6 : Int32) (x7 : Int32) (x8 : Int32) (h : ia_H) : Option (Int32 × ia_H) := match n with
  | 0 => none
  | n + 1 => (f_La_cells (ia_r h a1 0) h).bind fun v4 => (if v4 ≤ x8 then (k110 x6 h) else ((f_I_hasBit y4 x8 h).bind fun v5 => (if v5 = 0 then (l_Ou_safestCell_32 a1 x2 k110 n x3 y4 x6 x7 (x8 + 1) h) else ((f_Sc_become 337 a1 h).bind fun v6 => (if x8 = x3 then (j_Ou_safestCell_78 a1 x2 (l_Ou_safestCell_32 a1 x2 k110 n) k110 x3 y4 x6 x7 x8 v6) else ((f_Sc_shift 337 x2 x8 v6).bind fun v8 => (j_Ou_safestCell_78 a1 x2 (l_Ou_safestCell_32 a1 x2 k110 n) k110 x3 y4 x6 x7 x8 v8)))))))
theorem tl_Ou_safestCell_32 {w : ia_O0} {d N1 W1 : Nat} {K : ia_K} (hK : ia_isK (d + 5) mm_Ou_safestCell N1 W1 K) {a1 : Nat} {x2 : Int32} (p1 : (kd_D a1).1 = 9) {r : Int32} {h1 : ia_H} (hret : ∀ (pc : Nat) (lv : ia_L), ia_ret mm_Ou_safestCell pc (some (.inl r)) → K pc lv ((some (.inl r)) : Option ia_V).toList h1) {k110 : Int32 → ia_H → Option (Int32 × ia_H)} (hk110 : ∀ (x6 : Int32) (h : ia_H), gd_ w h → k110 x6 h = some (r, h1) → K 110 [none, none, none, none, none, none, some (.inl x6), none, none, none] [] h) : ∀ (n : Nat) (x3 : Int32) (y4 : Int64) (x6 : Int32) (x7 : Int32) (x8 : Int32) (h : ia_H), gd_ w h → l_Ou_safestCell_32 a1 x2 k110 n x3 y4 x6 x7 x8 h = some (r, h1) → K 32 [some (.inr (.inr 326)), some (.inr (.inr a1)), some (.inl x2), some (.inl x3), some (.inr (.inl y4)), none, some (.inl x6), some (.inl x7), some (.inl x8), none] [] h := by
  intro n
  induction n with
  | zero =>
    intro x3 y4 x6 x7 x8 h hg hm
    cases (show (none : Option (Int32 × ia_H)) = some _ from hm)
  | succ n ih =>
    intro x3 y4 x6 x7 x8 h hg hm
    rw [l_Ou_safestCell_32] at hm
    refine ia_go hK ck_Ou_safestCell_32 ⟨gk_9 hg p1, ?_⟩
    show K 38 [some (.inr (.inr 326)), some (.inr (.inr a1)), some (.inl x2), some (.inl x3), some (.inr (.inl y4)), none, some (.inl x6), some (.inl x7), some (.inl x8), none] [.inr (.inr (ia_r h a1 0)), .inl x8] h
    obtain ⟨v4, hv4, hm⟩ := ia_bnd hm
    have ev4 := t_La_cells (d + 4) hg (gm_9_0 hg p1) hv4
    refine ia_cV hK mk_La_cells lk_5_73 dc_Ou_safestCell_38 (ia_r h a1 0) [] [.inl x8] rfl rfl (Nat.le_of_ble_eq_true rfl) (by decide) rfl (gk_3 hg (gm_9_0 hg p1)) ev4 ⟨rfl, rfl⟩ ?_
    show K 41 [some (.inr (.inr 326)), some (.inr (.inr a1)), some (.inl x2), some (.inl x3), some (.inr (.inl y4)), none, some (.inl x6), some (.inl x7), some (.inl x8), none] [.inl v4, .inl x8] h
    refine ia_go hK ck_Ou_safestCell_41 ⟨fun c => ?_, fun c => ?_⟩
    · replace hm := ia_ifp hm c
      show K 110 [some (.inr (.inr 326)), some (.inr (.inr a1)), some (.inl x2), some (.inl x3), some (.inr (.inl y4)), none, some (.inl x6), some (.inl x7), some (.inl x8), none] [] h
      refine ia_fg hK (lv' := [none, none, none, none, none, none, some (.inl x6), none, none, none]) ⟨rfl, trivial⟩ ?_
      exact hk110 x6 h hg hm
    · replace hm := ia_ifn hm c
      show K 44 [some (.inr (.inr 326)), some (.inr (.inr a1)), some (.inl x2), some (.inl x3), some (.inr (.inl y4)), none, some (.inl x6), some (.inl x7), some (.inl x8), none] [] h
      refine ia_go hK ck_Ou_safestCell_44 ?_
      show K 48 [some (.inr (.inr 326)), some (.inr (.inr a1)), some (.inl x2), some (.inl x3), some (.inr (.inl y4)), none, some (.inl x6), some (.inl x7), some (.inl x8), none] [.inl x8, .inr (.inl y4)] h
      obtain ⟨v5, hv5, hm⟩ := ia_bnd hm
      have ev5 := t_I_hasBit (d + 4) hg hv5
      refine ia_cS hK mk_I_hasBit lk_5_78 dc_Ou_safestCell_48 [.inr (.inl y4), .inl x8] [] rfl rfl (Nat.le_of_ble_eq_true rfl) ev5 ⟨rfl, rfl⟩ ?_
      show K 51 [some (.inr (.inr 326)), some (.inr (.inr a1)), some (.inl x2), some (.inl x3), some (.inr (.inl y4)), none, some (.inl x6), some (.inl x7), some (.inl x8), none] [.inl v5] h
      refine ia_go hK ck_Ou_safestCell_51 ⟨fun c => ?_, fun c => ?_⟩
      · replace hm := ia_ifp hm c
        show K 104 [some (.inr (.inr 326)), some (.inr (.inr a1)), some (.inl x2), some (.inl x3), some (.inr (.inl y4)), none, some (.inl x6), some (.inl x7), some (.inl x8), none] [] h
        refine ia_go hK ck_Ou_safestCell_104 ?_
        show K 32 [some (.inr (.inr 326)), some (.inr (.inr a1)), some (.inl x2), some (.inl x3), some (.inr (.inl y4)), none, some (.inl x6), some (.inl x7), some (.inl (x8 + 1)), none] [] h
        exact ih x3 y4 x6 x7 (x8 + 1) h hg hm
      · replace hm := ia_ifn hm c
        show K 54 [some (.inr (.inr 326)), some (.inr (.inr a1)), some (.inl x2), some (.inl x3), some (.inr (.inl y4)), none, some (.inl x6), some (.inl x7), some (.inl x8), none] [] h
        refine ia_go hK ck_Ou_safestCell_54 ⟨gk_5 hg pk_326, gr_5_2 hg pk_326, ?_⟩
        show K 59 [some (.inr (.inr 326)), some (.inr (.inr a1)), some (.inl x2), some (.inl x3), some (.inr (.inl y4)), none, some (.inl x6), some (.inl x7), some (.inl x8), none] [.inr (.inr a1), .inr (.inr 337)] h
        obtain ⟨v6, hv6, hm⟩ := ia_bnd hm
        have ev6 := t_Sc_become (d + 4) hg (ka_5_2 pk_326) p1 hv6
        have gv6 := g_Sc_become hg (ka_5_2 pk_326) p1 hv6
        refine ia_cV hK mk_Sc_become lk_5_34 dc_Ou_safestCell_59 337 [.inr (.inr a1)] [] rfl rfl (Nat.le_of_ble_eq_true rfl) (by decide) rfl (gk_9 hg (ka_5_2 pk_326)) ev6 (gd_nm hg gv6) ?_
        show K 62 [some (.inr (.inr 326)), some (.inr (.inr a1)), some (.inl x2), some (.inl x3), some (.inr (.inl y4)), none, some (.inl x6), some (.inl x7), some (.inl x8), none] [] v6
        refine ia_go hK ck_Ou_safestCell_62 ⟨fun c => ?_, fun c => ?_⟩
        · replace hm := ia_ifp hm c
          show K 78 [some (.inr (.inr 326)), some (.inr (.inr a1)), some (.inl x2), some (.inl x3), some (.inr (.inl y4)), none, some (.inl x6), some (.inl x7), some (.inl x8), none] [] v6
          exact tj_Ou_safestCell_78 hK p1 hret ih hk110 x3 y4 x6 x7 x8 v6 gv6 hm
        · replace hm := ia_ifn hm c
          show K 68 [some (.inr (.inr 326)), some (.inr (.inr a1)), some (.inl x2), some (.inl x3), some (.inr (.inl y4)), none, some (.inl x6), some (.inl x7), some (.inl x8), none] [] v6
          refine ia_go hK ck_Ou_safestCell_68 ⟨gk_5 gv6 pk_326, gr_5_2 gv6 pk_326, ?_⟩
          show K 75 [some (.inr (.inr 326)), some (.inr (.inr a1)), some (.inl x2), some (.inl x3), some (.inr (.inl y4)), none, some (.inl x6), some (.inl x7), some (.inl x8), none] [.inl x8, .inl x2, .inr (.inr 337)] v6
          obtain ⟨v8, hv8, hm⟩ := ia_bnd hm
          have ev8 := t_Sc_shift (d + 1) gv6 (ka_5_2 pk_326) hv8
          have gv8 := g_Sc_shift gv6 (ka_5_2 pk_326) hv8
          refine ia_cV hK mk_Sc_shift lk_5_82 dc_Ou_safestCell_75 337 [.inl x2, .inl x8] [] rfl rfl (Nat.le_of_ble_eq_true rfl) (by decide) rfl (gk_9 gv6 (ka_5_2 pk_326)) ev8 (gd_nm gv6 gv8) ?_
          show K 78 [some (.inr (.inr 326)), some (.inr (.inr a1)), some (.inl x2), some (.inl x3), some (.inr (.inl y4)), none, some (.inl x6), some (.inl x7), some (.inl x8), none] [] v8
          exact tj_Ou_safestCell_78 hK p1 hret ih hk110 x3 y4 x6 x7 x8 v8 gv8 hm
theorem gl_Ou_safestCell_32 {w : ia_O0} {a1 : Nat} {x2 : Int32} (p1 : (kd_D a1).1 = 9) {r : Int32} {h1 : ia_H} {k110 : Int32 → ia_H → Option (Int32 × ia_H)} (hk110 : ∀ (x6 : Int32) (h : ia_H), gd_ w h → k110 x6 h = some (r, h1) → gd_ w h1) : ∀ (n : Nat) (x3 : Int32) (y4 : Int64) (x6 : Int32) (x7 : Int32) (x8 : Int32) (h : ia_H), gd_ w h → l_Ou_safestCell_32 a1 x2 k110 n x3 y4 x6 x7 x8 h = some (r, h1) → gd_ w h1 := by
  intro n
  induction n with
  | zero =>
    intro x3 y4 x6 x7 x8 h hg hm
    cases (show (none : Option (Int32 × ia_H)) = some _ from hm)
  | succ n ih =>
    intro x3 y4 x6 x7 x8 h hg hm
    rw [l_Ou_safestCell_32] at hm
    obtain ⟨v4, hv4, hm⟩ := ia_bnd hm
    by_cases c : v4 ≤ x8
    · replace hm := ia_ifp hm c
      exact hk110 x6 h hg hm
    · replace hm := ia_ifn hm c
      obtain ⟨v5, hv5, hm⟩ := ia_bnd hm
      by_cases c : v5 = 0
      · replace hm := ia_ifp hm c
        exact ih x3 y4 x6 x7 (x8 + 1) h hg hm
      · replace hm := ia_ifn hm c
        obtain ⟨v6, hv6, hm⟩ := ia_bnd hm
        have gv6 := g_Sc_become hg (ka_5_2 pk_326) p1 hv6
        by_cases c : x8 = x3
        · replace hm := ia_ifp hm c
          exact gj_Ou_safestCell_78 p1 ih hk110 x3 y4 x6 x7 x8 v6 gv6 hm
        · replace hm := ia_ifn hm c
          obtain ⟨v8, hv8, hm⟩ := ia_bnd hm
          have gv8 := g_Sc_shift gv6 (ka_5_2 pk_326) hv8
          exact gj_Ou_safestCell_78 p1 ih hk110 x3 y4 x6 x7 x8 v8 gv8 hm
def f_Ou_safestCell (a1 : Nat) (x2 : Int32) (h : ia_H) : Option (Int32 × ia_H) := ia_gd (ia_ib x2 6) ((f_Wa_movesOf a1 x2 h).bind fun v2 => ((f_I_bit (ia_i h (a1 + 5) ((x2).toNatClampNeg)) v2.2).bind fun v3 => (l_Ou_safestCell_32 a1 x2 (fun x6 h => some (x6, h)) fu_ (ia_i h (a1 + 5) ((x2).toNatClampNeg)) (v2.1 ||| v3) (ia_i h (a1 + 5) ((x2).toNatClampNeg)) (-1) 0 v2.2)))
theorem g_Ou_safestCell {w : ia_O0} {a1 : Nat} {x2 : Int32} {h : ia_H} (hg : gd_ w h) (p1 : (kd_D a1).1 = 9) {q : (Int32 × ia_H)} (hm : f_Ou_safestCell a1 x2 h = some q) : gd_ w q.2 := by
  obtain ⟨r, h1⟩ := q
  unfold f_Ou_safestCell at hm
  obtain ⟨c1, hm⟩ := ia_gd_some hm
  obtain ⟨v2, hv2, hm⟩ := ia_bnd hm
  have gv2 := g_Wa_movesOf hg p1 hv2
  obtain ⟨v3, hv3, hm⟩ := ia_bnd hm
  refine gl_Ou_safestCell_32 p1 ?_ fu_ (ia_i h (a1 + 5) ((x2).toNatClampNeg)) (v2.1 ||| v3) (ia_i h (a1 + 5) ((x2).toNatClampNeg)) (-1) 0 v2.2 gv2 hm
  · intro x6 h hg hm
    obtain ⟨rfl, rfl⟩ := Prod.mk.inj (Option.some.inj hm)
    exact hg
theorem t_Ou_safestCell {w : ia_O0} (d : Nat) {a1 : Nat} {x2 : Int32} {h : ia_H} (hg : gd_ w h) (p1 : (kd_D a1).1 = 9) {q : (Int32 × ia_H)} (hm : f_Ou_safestCell a1 x2 h = some q) : ia_Ev (d + 5) mm_Ou_safestCell [.inr (.inr 326), .inr (.inr a1), .inl x2] h (some (.inl q.1)) q.2 := by
  have gq := g_Ou_safestCell hg p1 hm
  refine ia_Ev_intro ok_Ou_safestCell (gd_le hg gq).1 (gd_le hg gq).2 (Nat.le_of_ble_eq_true rfl) (fun K hK hret => ?_)
  obtain ⟨r, h1⟩ := q
  show K 0 [some (.inr (.inr 326)), some (.inr (.inr a1)), some (.inl x2), none, none, none, none, none, none, none] [] h
  unfold f_Ou_safestCell at hm
  obtain ⟨c1, hm⟩ := ia_gd_some hm
  refine ia_go hK ck_Ou_safestCell_0 ⟨gk_9 hg p1, gr_9_6 hg p1, ga_i100 hg (ka_9_6 p1) c1, gk_5 hg pk_326, gr_5_0 hg pk_326, ?_⟩
  show K 13 [some (.inr (.inr 326)), some (.inr (.inr a1)), some (.inl x2), some (.inl (ia_i h (a1 + 5) ((x2).toNatClampNeg))), none, none, none, none, none, none] [.inl x2, .inr (.inr a1), .inr (.inr 311)] h
  obtain ⟨v2, hv2, hm⟩ := ia_bnd hm
  have ev2 := t_Wa_movesOf (d + 1) hg p1 hv2
  have gv2 := g_Wa_movesOf hg p1 hv2
  refine ia_cV hK mk_Wa_movesOf lk_5_59 dc_Ou_safestCell_13 311 [.inr (.inr a1), .inl x2] [] rfl rfl (Nat.le_of_ble_eq_true rfl) (by decide) rfl (gk_11 hg pk_311) ev2 (gd_nm hg gv2) ?_
  show K 16 [some (.inr (.inr 326)), some (.inr (.inr a1)), some (.inl x2), some (.inl (ia_i h (a1 + 5) ((x2).toNatClampNeg))), none, none, none, none, none, none] [.inr (.inl v2.1)] v2.2
  refine ia_go hK ck_Ou_safestCell_16 ?_
  show K 17 [some (.inr (.inr 326)), some (.inr (.inr a1)), some (.inl x2), some (.inl (ia_i h (a1 + 5) ((x2).toNatClampNeg))), none, none, none, none, none, none] [.inl (ia_i h (a1 + 5) ((x2).toNatClampNeg)), .inr (.inl v2.1)] v2.2
  obtain ⟨v3, hv3, hm⟩ := ia_bnd hm
  have ev3 := t_I_bit (d + 4) gv2 hv3
  refine ia_cS hK mk_I_bit lk_5_65 dc_Ou_safestCell_17 [.inl (ia_i h (a1 + 5) ((x2).toNatClampNeg))] [.inr (.inl v2.1)] rfl rfl (Nat.le_of_ble_eq_true rfl) ev3 ⟨rfl, rfl⟩ ?_
  show K 20 [some (.inr (.inr 326)), some (.inr (.inr a1)), some (.inl x2), some (.inl (ia_i h (a1 + 5) ((x2).toNatClampNeg))), none, none, none, none, none, none] [.inr (.inl v3), .inr (.inl v2.1)] v2.2
  refine ia_go hK ck_Ou_safestCell_20 ?_
  show K 32 [some (.inr (.inr 326)), some (.inr (.inr a1)), some (.inl x2), some (.inl (ia_i h (a1 + 5) ((x2).toNatClampNeg))), some (.inr (.inl (v2.1 ||| v3))), none, some (.inl (ia_i h (a1 + 5) ((x2).toNatClampNeg))), some (.inl (-1)), some (.inl 0), none] [] v2.2
  refine tl_Ou_safestCell_32 hK p1 hret ?_ fu_ (ia_i h (a1 + 5) ((x2).toNatClampNeg)) (v2.1 ||| v3) (ia_i h (a1 + 5) ((x2).toNatClampNeg)) (-1) 0 v2.2 gv2 hm
  · intro x6 h hg hm
    refine ia_go hK ck_Ou_safestCell_110 ?_
    show K 112 [none, none, none, none, none, none, some (.inl x6), none, none, none] [.inl x6] h
    obtain ⟨rfl, rfl⟩ := Prod.mk.inj (Option.some.inj hm)
    exact hret 112 _ dc_Ou_safestCell_112
