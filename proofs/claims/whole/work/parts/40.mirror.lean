def mm_M_fair : ia_M := (⟨"IceStreetModel", "fair", "(IIIIIIIZ)I"⟩, prog_14_method_95_code, 11, (some .int), 12, false)
theorem ok_M_fair : ia_mok mm_M_fair := ⟨by decide +kernel, by decide +kernel, by decide +kernel, by decide +kernel⟩
theorem mk_M_fair : ia_mkn mm_M_fair 1 8 := ⟨ia_tb_in (List.mem_of_getElem? (i := 2084) (by decide +kernel)) rfl, ia_tb_in (List.mem_of_getElem? (i := 146) (by decide +kernel)) rfl, by decide +kernel, by decide +kernel, ⟨ia_tb_in (List.mem_of_getElem? (i := 2082) (by decide +kernel)) rfl, ia_tb_in (List.mem_of_getElem? (i := 2083) (by decide +kernel)) rfl⟩⟩
theorem ck_M_fair_0 : ia_cks 12 11 false prog_14_method_95_code 0 [(.iload 5, 0, 0, 0, 0)] = true := by decide +kernel
theorem ck_M_fair_5 : ia_cks 12 11 false prog_14_method_95_code 5 [(.ifCond .eq 37, 0, 0, 0, 0)] = true := by decide +kernel
theorem ck_M_fair_42 : ia_cks 12 11 false prog_14_method_95_code 42 [(.iconst (-1), 0, 0, 0, 0)] = true := by decide +kernel
theorem ck_M_fair_8 : ia_cks 12 11 false prog_14_method_95_code 8 [(.iload 6, 0, 0, 0, 0), (.iconst 1, 0, 0, 0, 0), (.bipush 6, 0, 0, 0, 0)] = true := by decide +kernel
theorem ck_M_fair_16 : ia_cks 12 11 false prog_14_method_95_code 16 [(.ifCond .eq 26, 0, 0, 0, 0)] = true := by decide +kernel
theorem ck_M_fair_19 : ia_cks 12 11 false prog_14_method_95_code 19 [(.iload 7, 0, 0, 0, 0), (.iconst 1, 0, 0, 0, 0), (.bipush 6, 0, 0, 0, 0)] = true := by decide +kernel
theorem ck_M_fair_27 : ia_cks 12 11 false prog_14_method_95_code 27 [(.ifCond .eq 15, 0, 0, 0, 0)] = true := by decide +kernel
theorem ck_M_fair_30 : ia_cks 12 11 false prog_14_method_95_code 30 [(.aload_n 0, 0, 0, 0, 0), (.iload_n 1, 0, 0, 0, 0), (.iload_n 2, 0, 0, 0, 0), (.iload_n 3, 0, 0, 0, 0), (.iload 4, 0, 0, 0, 0)] = true := by decide +kernel
theorem ck_M_fair_39 : ia_cks 12 11 false prog_14_method_95_code 39 [(.ifCond .ne 5, 0, 0, 0, 0)] = true := by decide +kernel
theorem ck_M_fair_44 : ia_cks 12 11 false prog_14_method_95_code 44 [(.iconst 0, 0, 0, 0, 0), (.istore 9, 0, 0, 0, 0)] = true := by decide +kernel
theorem ck_M_fair_47 : ia_cks 12 11 false prog_14_method_95_code 47 [(.iload 9, 0, 0, 0, 0), (.aload_n 0, 0, 0, 0, 0)] = true := by decide +kernel
theorem ck_M_fair_53 : ia_cks 12 11 false prog_14_method_95_code 53 [(.if_icmp .ge 36, 0, 0, 0, 0)] = true := by decide +kernel
theorem ck_M_fair_56 : ia_cks 12 11 false prog_14_method_95_code 56 [(.aload_n 0, 0, 0, 0, 0), (.getfield 54, 12, 31, 3, 13), (.iload 9, 0, 0, 0, 0), (.aload_n 0, 0, 0, 0, 0), (.iload 9, 0, 0, 0, 0), (.iload 6, 0, 0, 0, 0), (.iload 7, 0, 0, 0, 0), (.iload 5, 0, 0, 0, 0)] = true := by decide +kernel
theorem ck_M_fair_74 : ia_cks 12 11 false prog_14_method_95_code 74 [(.ifCond .eq 7, 0, 0, 0, 0)] = true := by decide +kernel
theorem ck_M_fair_81 : ia_cks 12 11 false prog_14_method_95_code 81 [(.iconst (-1), 0, 0, 0, 0), (.iastore, 0, 0, 0, 0), (.iinc 9 1, 0, 0, 0, 0), (.goto (-39), 0, 0, 0, 0)] = true := by decide +kernel
theorem ck_M_fair_77 : ia_cks 12 11 false prog_14_method_95_code 77 [(.iconst 0, 0, 0, 0, 0), (.goto 4, 0, 0, 0, 0)] = true := by decide +kernel
theorem ck_M_fair_82 : ia_cks 12 11 false prog_14_method_95_code 82 [(.iastore, 0, 0, 0, 0), (.iinc 9 1, 0, 0, 0, 0), (.goto (-39), 0, 0, 0, 0)] = true := by decide +kernel
theorem ck_M_fair_89 : ia_cks 12 11 false prog_14_method_95_code 89 [(.iconst 1, 0, 0, 0, 0), (.istore 9, 0, 0, 0, 0)] = true := by decide +kernel
theorem ck_M_fair_92 : ia_cks 12 11 false prog_14_method_95_code 92 [(.iload 9, 0, 0, 0, 0), (.bipush 60, 0, 0, 0, 0), (.if_icmp .gt 69, 0, 0, 0, 0)] = true := by decide +kernel
theorem ck_M_fair_99 : ia_cks 12 11 false prog_14_method_95_code 99 [(.aload_n 0, 0, 0, 0, 0)] = true := by decide +kernel
theorem ck_M_fair_103 : ia_cks 12 11 false prog_14_method_95_code 103 [(.iconst 0, 0, 0, 0, 0), (.istore 10, 0, 0, 0, 0)] = true := by decide +kernel
theorem ck_M_fair_106 : ia_cks 12 11 false prog_14_method_95_code 106 [(.iload 10, 0, 0, 0, 0), (.aload_n 0, 0, 0, 0, 0)] = true := by decide +kernel
theorem ck_M_fair_112 : ia_cks 12 11 false prog_14_method_95_code 112 [(.if_icmp .ge 47, 0, 0, 0, 0)] = true := by decide +kernel
theorem ck_M_fair_115 : ia_cks 12 11 false prog_14_method_95_code 115 [(.aload_n 0, 0, 0, 0, 0), (.getfield 54, 12, 31, 3, 13), (.iload 10, 0, 0, 0, 0), (.iaload, 0, 0, 0, 0), (.iload 9, 0, 0, 0, 0), (.iconst 1, 0, 0, 0, 0), (.isub, 0, 0, 0, 0), (.if_icmp .ne 27, 0, 0, 0, 0)] = true := by decide +kernel
theorem ck_M_fair_153 : ia_cks 12 11 false prog_14_method_95_code 153 [(.iinc 10 1, 0, 0, 0, 0), (.goto (-50), 0, 0, 0, 0)] = true := by decide +kernel
theorem ck_M_fair_129 : ia_cks 12 11 false prog_14_method_95_code 129 [(.aload_n 0, 0, 0, 0, 0), (.iload 10, 0, 0, 0, 0), (.iload 6, 0, 0, 0, 0), (.iload 7, 0, 0, 0, 0), (.iload 5, 0, 0, 0, 0)] = true := by decide +kernel
theorem ck_M_fair_141 : ia_cks 12 11 false prog_14_method_95_code 141 [(.ifCond .eq 12, 0, 0, 0, 0)] = true := by decide +kernel
theorem ck_M_fair_144 : ia_cks 12 11 false prog_14_method_95_code 144 [(.aload_n 0, 0, 0, 0, 0), (.getfield 54, 12, 31, 3, 13), (.iload 10, 0, 0, 0, 0), (.iload 9, 0, 0, 0, 0), (.iastore, 0, 0, 0, 0), (.iinc 10 1, 0, 0, 0, 0), (.goto (-50), 0, 0, 0, 0)] = true := by decide +kernel
theorem ck_M_fair_159 : ia_cks 12 11 false prog_14_method_95_code 159 [(.iinc 9 1, 0, 0, 0, 0), (.goto (-70), 0, 0, 0, 0)] = true := by decide +kernel
theorem ck_M_fair_165 : ia_cks 12 11 false prog_14_method_95_code 165 [(.iconst 0, 0, 0, 0, 0), (.istore 9, 0, 0, 0, 0), (.iconst 1, 0, 0, 0, 0), (.istore 10, 0, 0, 0, 0)] = true := by decide +kernel
theorem ck_M_fair_171 : ia_cks 12 11 false prog_14_method_95_code 171 [(.iload 10, 0, 0, 0, 0), (.aload_n 0, 0, 0, 0, 0)] = true := by decide +kernel
theorem ck_M_fair_177 : ia_cks 12 11 false prog_14_method_95_code 177 [(.if_icmp .ge 35, 0, 0, 0, 0)] = true := by decide +kernel
theorem ck_M_fair_180 : ia_cks 12 11 false prog_14_method_95_code 180 [(.aload_n 0, 0, 0, 0, 0), (.getfield 54, 12, 31, 3, 13), (.iload 10, 0, 0, 0, 0), (.iaload, 0, 0, 0, 0), (.aload_n 0, 0, 0, 0, 0), (.getfield 54, 12, 31, 3, 13), (.iload 9, 0, 0, 0, 0), (.iaload, 0, 0, 0, 0), (.if_icmp .le 8, 0, 0, 0, 0)] = true := by decide +kernel
theorem ck_M_fair_202 : ia_cks 12 11 false prog_14_method_95_code 202 [(.iload 9, 0, 0, 0, 0), (.istore 9, 0, 0, 0, 0), (.iinc 10 1, 0, 0, 0, 0), (.goto (-38), 0, 0, 0, 0)] = true := by decide +kernel
theorem ck_M_fair_197 : ia_cks 12 11 false prog_14_method_95_code 197 [(.iload 10, 0, 0, 0, 0), (.goto 5, 0, 0, 0, 0)] = true := by decide +kernel
theorem ck_M_fair_204 : ia_cks 12 11 false prog_14_method_95_code 204 [(.istore 9, 0, 0, 0, 0), (.iinc 10 1, 0, 0, 0, 0), (.goto (-38), 0, 0, 0, 0)] = true := by decide +kernel
theorem ck_M_fair_212 : ia_cks 12 11 false prog_14_method_95_code 212 [(.aload_n 0, 0, 0, 0, 0), (.getfield 54, 12, 31, 3, 13), (.iload 9, 0, 0, 0, 0), (.iaload, 0, 0, 0, 0), (.ifCond .ge 7, 0, 0, 0, 0)] = true := by decide +kernel
theorem ck_M_fair_226 : ia_cks 12 11 false prog_14_method_95_code 226 [(.iload 8, 0, 0, 0, 0), (.ifCond .eq 13, 0, 0, 0, 0)] = true := by decide +kernel
theorem ck_M_fair_241 : ia_cks 12 11 false prog_14_method_95_code 241 [(.iload 9, 0, 0, 0, 0)] = true := by decide +kernel
theorem ck_M_fair_231 : ia_cks 12 11 false prog_14_method_95_code 231 [(.aload_n 0, 0, 0, 0, 0), (.getfield 54, 12, 31, 3, 13), (.iload 9, 0, 0, 0, 0), (.iaload, 0, 0, 0, 0), (.goto 5, 0, 0, 0, 0)] = true := by decide +kernel
theorem ck_M_fair_222 : ia_cks 12 11 false prog_14_method_95_code 222 [(.iconst (-1), 0, 0, 0, 0), (.goto 20, 0, 0, 0, 0)] = true := by decide +kernel
theorem dc_M_fair_2 : decode prog_14_method_95_code 2 = .ok (.invokestatic 349, 3) := by decide +kernel
theorem dc_M_fair_43 : decode prog_14_method_95_code 43 = .ok (.ireturn, 1) := by decide +kernel
theorem dc_M_fair_13 : decode prog_14_method_95_code 13 = .ok (.invokestatic 116, 3) := by decide +kernel
theorem dc_M_fair_24 : decode prog_14_method_95_code 24 = .ok (.invokestatic 116, 3) := by decide +kernel
theorem dc_M_fair_36 : decode prog_14_method_95_code 36 = .ok (.invokevirtual 309, 3) := by decide +kernel
theorem dc_M_fair_50 : decode prog_14_method_95_code 50 = .ok (.invokevirtual 234, 3) := by decide +kernel
theorem dc_M_fair_71 : decode prog_14_method_95_code 71 = .ok (.invokevirtual 362, 3) := by decide +kernel
theorem dc_M_fair_100 : decode prog_14_method_95_code 100 = .ok (.invokevirtual 290, 3) := by decide +kernel
theorem dc_M_fair_109 : decode prog_14_method_95_code 109 = .ok (.invokevirtual 234, 3) := by decide +kernel
theorem dc_M_fair_138 : decode prog_14_method_95_code 138 = .ok (.invokevirtual 362, 3) := by decide +kernel
theorem dc_M_fair_174 : decode prog_14_method_95_code 174 = .ok (.invokevirtual 234, 3) := by decide +kernel
theorem dc_M_fair_243 : decode prog_14_method_95_code 243 = .ok (.ireturn, 1) := by decide +kernel
def l_M_fair_47 (x1 : Int32) (x2 : Int32) (x3 : Int32) (x4 : Int32) (x5 : Int32) (x6 : Int32) (x7 : Int32) (x8 : Int32) (k89 : ia_H → Option (Int32 × ia_H)) (n : Nat) (x9 : Int32) (h : ia_H) : Option (Int32 × ia_H) := match n with
  | 0 => none
  | n + 1 => (f_M_cells h).bind fun v5 => (if v5 ≤ x9 then (k89 h) else ((f_M_isFair x9 x6 x7 x5 h).bind fun v6 => (if v6 = 0 then (ia_gd (ia_ib x9 36) (l_M_fair_47 x1 x2 x3 x4 x5 x6 x7 x8 k89 n (x9 + 1) (ia_wI h 430 ((x9).toNatClampNeg) (-1)))) else (ia_gd (ia_ib x9 36) (l_M_fair_47 x1 x2 x3 x4 x5 x6 x7 x8 k89 n (x9 + 1) (ia_wI h 430 ((x9).toNatClampNeg) 0))))))
theorem tl_M_fair_47 {w : ia_O0} {d N1 W1 : Nat} {K : ia_K} (hK : ia_isK (d + 11) mm_M_fair N1 W1 K) {x1 : Int32} {x2 : Int32} {x3 : Int32} {x4 : Int32} {x5 : Int32} {x6 : Int32} {x7 : Int32} {x8 : Int32} {r : Int32} {h1 : ia_H} (hret : ∀ (pc : Nat) (lv : ia_L), ia_ret mm_M_fair pc (some (.inl r)) → K pc lv ((some (.inl r)) : Option ia_V).toList h1) {k89 : ia_H → Option (Int32 × ia_H)} (hk89 : ∀ (h : ia_H), gd_ w h → k89 h = some (r, h1) → K 89 [some (.inr (.inr 417)), none, none, none, none, some (.inl x5), some (.inl x6), some (.inl x7), some (.inl x8), none, none] [] h) : ∀ (n : Nat) (x9 : Int32) (h : ia_H), gd_ w h → l_M_fair_47 x1 x2 x3 x4 x5 x6 x7 x8 k89 n x9 h = some (r, h1) → K 47 [some (.inr (.inr 417)), none, none, none, none, some (.inl x5), some (.inl x6), some (.inl x7), some (.inl x8), some (.inl x9), none] [] h := by
  intro n
  induction n with
  | zero =>
    intro x9 h hg hm
    cases (show (none : Option (Int32 × ia_H)) = some _ from hm)
  | succ n ih =>
    intro x9 h hg hm
    rw [l_M_fair_47] at hm
    refine ia_go hK ck_M_fair_47 ?_
    show K 50 [some (.inr (.inr 417)), none, none, none, none, some (.inl x5), some (.inl x6), some (.inl x7), some (.inl x8), some (.inl x9), none] [.inr (.inr 417), .inl x9] h
    obtain ⟨v5, hv5, hm⟩ := ia_bnd hm
    have ev5 := t_M_cells (d + 10) hg hv5
    refine ia_cV hK mk_M_cells lk_12_234 dc_M_fair_50 417 [] [.inl x9] rfl rfl (Nat.le_of_ble_eq_true rfl) (by decide) rfl (gk_12 hg pk_417) ev5 ⟨rfl, rfl⟩ ?_
    show K 53 [some (.inr (.inr 417)), none, none, none, none, some (.inl x5), some (.inl x6), some (.inl x7), some (.inl x8), some (.inl x9), none] [.inl v5, .inl x9] h
    refine ia_go hK ck_M_fair_53 ⟨fun c => ?_, fun c => ?_⟩
    · replace hm := ia_ifp hm c
      show K 89 [some (.inr (.inr 417)), none, none, none, none, some (.inl x5), some (.inl x6), some (.inl x7), some (.inl x8), some (.inl x9), none] [] h
      refine ia_fg hK (lv' := [some (.inr (.inr 417)), none, none, none, none, some (.inl x5), some (.inl x6), some (.inl x7), some (.inl x8), none, none]) ⟨rfl, rfl, rfl, rfl, rfl, trivial⟩ ?_
      exact hk89 h hg hm
    · replace hm := ia_ifn hm c
      show K 56 [some (.inr (.inr 417)), none, none, none, none, some (.inl x5), some (.inl x6), some (.inl x7), some (.inl x8), some (.inl x9), none] [] h
      refine ia_go hK ck_M_fair_56 ⟨gk_12 hg pk_417, gr_12_31 hg pk_417, ?_⟩
      show K 71 [some (.inr (.inr 417)), none, none, none, none, some (.inl x5), some (.inl x6), some (.inl x7), some (.inl x8), some (.inl x9), none] [.inl x5, .inl x7, .inl x6, .inl x9, .inr (.inr 417), .inl x9, .inr (.inr 430)] h
      obtain ⟨v6, hv6, hm⟩ := ia_bnd hm
      have ev6 := t_M_isFair (d + 6) hg hv6
      refine ia_cV hK mk_M_isFair lk_12_362 dc_M_fair_71 417 [.inl x9, .inl x6, .inl x7, .inl x5] [.inl x9, .inr (.inr 430)] rfl rfl (Nat.le_of_ble_eq_true rfl) (by decide) rfl (gk_12 hg pk_417) ev6 ⟨rfl, rfl⟩ ?_
      show K 74 [some (.inr (.inr 417)), none, none, none, none, some (.inl x5), some (.inl x6), some (.inl x7), some (.inl x8), some (.inl x9), none] [.inl v6, .inl x9, .inr (.inr 430)] h
      refine ia_go hK ck_M_fair_74 ⟨fun c => ?_, fun c => ?_⟩
      · replace hm := ia_ifp hm c
        show K 81 [some (.inr (.inr 417)), none, none, none, none, some (.inl x5), some (.inl x6), some (.inl x7), some (.inl x8), some (.inl x9), none] [.inl x9, .inr (.inr 430)] h
        obtain ⟨c7, hm⟩ := ia_gd_some hm
        refine ia_go hK ck_M_fair_81 ⟨ga_s100 hg (ka_12_31 pk_417) c7, ?_⟩
        show K 47 [some (.inr (.inr 417)), none, none, none, none, some (.inl x5), some (.inl x6), some (.inl x7), some (.inl x8), some (.inl (x9 + 1)), none] [] (ia_wI h 430 ((x9).toNatClampNeg) (-1))
        exact ih (x9 + 1) (ia_wI h 430 ((x9).toNatClampNeg) (-1)) (gd_wI hg (kx_100 (ka_12_31 pk_417))) hm
      · replace hm := ia_ifn hm c
        show K 77 [some (.inr (.inr 417)), none, none, none, none, some (.inl x5), some (.inl x6), some (.inl x7), some (.inl x8), some (.inl x9), none] [.inl x9, .inr (.inr 430)] h
        refine ia_go hK ck_M_fair_77 ?_
        show K 82 [some (.inr (.inr 417)), none, none, none, none, some (.inl x5), some (.inl x6), some (.inl x7), some (.inl x8), some (.inl x9), none] [.inl 0, .inl x9, .inr (.inr 430)] h
        obtain ⟨c8, hm⟩ := ia_gd_some hm
        refine ia_go hK ck_M_fair_82 ⟨ga_s100 hg (ka_12_31 pk_417) c8, ?_⟩
        show K 47 [some (.inr (.inr 417)), none, none, none, none, some (.inl x5), some (.inl x6), some (.inl x7), some (.inl x8), some (.inl (x9 + 1)), none] [] (ia_wI h 430 ((x9).toNatClampNeg) 0)
        exact ih (x9 + 1) (ia_wI h 430 ((x9).toNatClampNeg) 0) (gd_wI hg (kx_100 (ka_12_31 pk_417))) hm
theorem gl_M_fair_47 {w : ia_O0} {x1 : Int32} {x2 : Int32} {x3 : Int32} {x4 : Int32} {x5 : Int32} {x6 : Int32} {x7 : Int32} {x8 : Int32} {r : Int32} {h1 : ia_H} {k89 : ia_H → Option (Int32 × ia_H)} (hk89 : ∀ (h : ia_H), gd_ w h → k89 h = some (r, h1) → gd_ w h1) : ∀ (n : Nat) (x9 : Int32) (h : ia_H), gd_ w h → l_M_fair_47 x1 x2 x3 x4 x5 x6 x7 x8 k89 n x9 h = some (r, h1) → gd_ w h1 := by
  intro n
  induction n with
  | zero =>
    intro x9 h hg hm
    cases (show (none : Option (Int32 × ia_H)) = some _ from hm)
  | succ n ih =>
    intro x9 h hg hm
    rw [l_M_fair_47] at hm
    obtain ⟨v5, hv5, hm⟩ := ia_bnd hm
    by_cases c : v5 ≤ x9
    · replace hm := ia_ifp hm c
      exact hk89 h hg hm
    · replace hm := ia_ifn hm c
      obtain ⟨v6, hv6, hm⟩ := ia_bnd hm
      by_cases c : v6 = 0
      · replace hm := ia_ifp hm c
        obtain ⟨c7, hm⟩ := ia_gd_some hm
        exact ih (x9 + 1) (ia_wI h 430 ((x9).toNatClampNeg) (-1)) (gd_wI hg (kx_100 (ka_12_31 pk_417))) hm
      · replace hm := ia_ifn hm c
        obtain ⟨c8, hm⟩ := ia_gd_some hm
        exact ih (x9 + 1) (ia_wI h 430 ((x9).toNatClampNeg) 0) (gd_wI hg (kx_100 (ka_12_31 pk_417))) hm
def l_M_fair_106 (x1 : Int32) (x2 : Int32) (x3 : Int32) (x4 : Int32) (x5 : Int32) (x6 : Int32) (x7 : Int32) (x8 : Int32) (k159 : Int32 → ia_H → Option (Int32 × ia_H)) (n : Nat) (x9 : Int32) (x10 : Int32) (h : ia_H) : Option (Int32 × ia_H) := match n with
  | 0 => none
  | n + 1 => (f_M_cells h).bind fun v10 => (if v10 ≤ x10 then (k159 x9 h) else (ia_gd (ia_ib x10 36) (if (ia_i h 430 ((x10).toNatClampNeg)) = (x9 - 1) then ((f_M_isFair x10 x6 x7 x5 h).bind fun v12 => (if v12 = 0 then (l_M_fair_106 x1 x2 x3 x4 x5 x6 x7 x8 k159 n x9 (x10 + 1) h) else (ia_gd (ia_ib x10 36) (l_M_fair_106 x1 x2 x3 x4 x5 x6 x7 x8 k159 n x9 (x10 + 1) (ia_wI h 430 ((x10).toNatClampNeg) x9))))) else (l_M_fair_106 x1 x2 x3 x4 x5 x6 x7 x8 k159 n x9 (x10 + 1) h))))
theorem tl_M_fair_106 {w : ia_O0} {d N1 W1 : Nat} {K : ia_K} (hK : ia_isK (d + 11) mm_M_fair N1 W1 K) {x1 : Int32} {x2 : Int32} {x3 : Int32} {x4 : Int32} {x5 : Int32} {x6 : Int32} {x7 : Int32} {x8 : Int32} {r : Int32} {h1 : ia_H} (hret : ∀ (pc : Nat) (lv : ia_L), ia_ret mm_M_fair pc (some (.inl r)) → K pc lv ((some (.inl r)) : Option ia_V).toList h1) {k159 : Int32 → ia_H → Option (Int32 × ia_H)} (hk159 : ∀ (x9 : Int32) (h : ia_H), gd_ w h → k159 x9 h = some (r, h1) → K 159 [some (.inr (.inr 417)), none, none, none, none, some (.inl x5), some (.inl x6), some (.inl x7), some (.inl x8), some (.inl x9), none] [] h) : ∀ (n : Nat) (x9 : Int32) (x10 : Int32) (h : ia_H), gd_ w h → l_M_fair_106 x1 x2 x3 x4 x5 x6 x7 x8 k159 n x9 x10 h = some (r, h1) → K 106 [some (.inr (.inr 417)), none, none, none, none, some (.inl x5), some (.inl x6), some (.inl x7), some (.inl x8), some (.inl x9), some (.inl x10)] [] h := by
  intro n
  induction n with
  | zero =>
    intro x9 x10 h hg hm
    cases (show (none : Option (Int32 × ia_H)) = some _ from hm)
  | succ n ih =>
    intro x9 x10 h hg hm
    rw [l_M_fair_106] at hm
    refine ia_go hK ck_M_fair_106 ?_
    show K 109 [some (.inr (.inr 417)), none, none, none, none, some (.inl x5), some (.inl x6), some (.inl x7), some (.inl x8), some (.inl x9), some (.inl x10)] [.inr (.inr 417), .inl x10] h
    obtain ⟨v10, hv10, hm⟩ := ia_bnd hm
    have ev10 := t_M_cells (d + 10) hg hv10
    refine ia_cV hK mk_M_cells lk_12_234 dc_M_fair_109 417 [] [.inl x10] rfl rfl (Nat.le_of_ble_eq_true rfl) (by decide) rfl (gk_12 hg pk_417) ev10 ⟨rfl, rfl⟩ ?_
    show K 112 [some (.inr (.inr 417)), none, none, none, none, some (.inl x5), some (.inl x6), some (.inl x7), some (.inl x8), some (.inl x9), some (.inl x10)] [.inl v10, .inl x10] h
    refine ia_go hK ck_M_fair_112 ⟨fun c => ?_, fun c => ?_⟩
    · replace hm := ia_ifp hm c
      show K 159 [some (.inr (.inr 417)), none, none, none, none, some (.inl x5), some (.inl x6), some (.inl x7), some (.inl x8), some (.inl x9), some (.inl x10)] [] h
      refine ia_fg hK (lv' := [some (.inr (.inr 417)), none, none, none, none, some (.inl x5), some (.inl x6), some (.inl x7), some (.inl x8), some (.inl x9), none]) ⟨rfl, rfl, rfl, rfl, rfl, rfl, trivial⟩ ?_
      exact hk159 x9 h hg hm
    · replace hm := ia_ifn hm c
      show K 115 [some (.inr (.inr 417)), none, none, none, none, some (.inl x5), some (.inl x6), some (.inl x7), some (.inl x8), some (.inl x9), some (.inl x10)] [] h
      obtain ⟨c11, hm⟩ := ia_gd_some hm
      refine ia_go hK ck_M_fair_115 ⟨gk_12 hg pk_417, gr_12_31 hg pk_417, ga_i100 hg (ka_12_31 pk_417) c11, fun c => ?_, fun c => ?_⟩
      · replace hm := ia_ifn hm c
        show K 153 [some (.inr (.inr 417)), none, none, none, none, some (.inl x5), some (.inl x6), some (.inl x7), some (.inl x8), some (.inl x9), some (.inl x10)] [] h
        refine ia_go hK ck_M_fair_153 ?_
        show K 106 [some (.inr (.inr 417)), none, none, none, none, some (.inl x5), some (.inl x6), some (.inl x7), some (.inl x8), some (.inl x9), some (.inl (x10 + 1))] [] h
        exact ih x9 (x10 + 1) h hg hm
      · replace hm := ia_ifp hm c
        show K 129 [some (.inr (.inr 417)), none, none, none, none, some (.inl x5), some (.inl x6), some (.inl x7), some (.inl x8), some (.inl x9), some (.inl x10)] [] h
        refine ia_go hK ck_M_fair_129 ?_
        show K 138 [some (.inr (.inr 417)), none, none, none, none, some (.inl x5), some (.inl x6), some (.inl x7), some (.inl x8), some (.inl x9), some (.inl x10)] [.inl x5, .inl x7, .inl x6, .inl x10, .inr (.inr 417)] h
        obtain ⟨v12, hv12, hm⟩ := ia_bnd hm
        have ev12 := t_M_isFair (d + 6) hg hv12
        refine ia_cV hK mk_M_isFair lk_12_362 dc_M_fair_138 417 [.inl x10, .inl x6, .inl x7, .inl x5] [] rfl rfl (Nat.le_of_ble_eq_true rfl) (by decide) rfl (gk_12 hg pk_417) ev12 ⟨rfl, rfl⟩ ?_
        show K 141 [some (.inr (.inr 417)), none, none, none, none, some (.inl x5), some (.inl x6), some (.inl x7), some (.inl x8), some (.inl x9), some (.inl x10)] [.inl v12] h
        refine ia_go hK ck_M_fair_141 ⟨fun c => ?_, fun c => ?_⟩
        · replace hm := ia_ifp hm c
          show K 153 [some (.inr (.inr 417)), none, none, none, none, some (.inl x5), some (.inl x6), some (.inl x7), some (.inl x8), some (.inl x9), some (.inl x10)] [] h
          refine ia_go hK ck_M_fair_153 ?_
          show K 106 [some (.inr (.inr 417)), none, none, none, none, some (.inl x5), some (.inl x6), some (.inl x7), some (.inl x8), some (.inl x9), some (.inl (x10 + 1))] [] h
          exact ih x9 (x10 + 1) h hg hm
        · replace hm := ia_ifn hm c
          show K 144 [some (.inr (.inr 417)), none, none, none, none, some (.inl x5), some (.inl x6), some (.inl x7), some (.inl x8), some (.inl x9), some (.inl x10)] [] h
          obtain ⟨c13, hm⟩ := ia_gd_some hm
          refine ia_go hK ck_M_fair_144 ⟨gk_12 hg pk_417, gr_12_31 hg pk_417, ga_s100 hg (ka_12_31 pk_417) c13, ?_⟩
          show K 106 [some (.inr (.inr 417)), none, none, none, none, some (.inl x5), some (.inl x6), some (.inl x7), some (.inl x8), some (.inl x9), some (.inl (x10 + 1))] [] (ia_wI h 430 ((x10).toNatClampNeg) x9)
          exact ih x9 (x10 + 1) (ia_wI h 430 ((x10).toNatClampNeg) x9) (gd_wI hg (kx_100 (ka_12_31 pk_417))) hm
theorem gl_M_fair_106 {w : ia_O0} {x1 : Int32} {x2 : Int32} {x3 : Int32} {x4 : Int32} {x5 : Int32} {x6 : Int32} {x7 : Int32} {x8 : Int32} {r : Int32} {h1 : ia_H} {k159 : Int32 → ia_H → Option (Int32 × ia_H)} (hk159 : ∀ (x9 : Int32) (h : ia_H), gd_ w h → k159 x9 h = some (r, h1) → gd_ w h1) : ∀ (n : Nat) (x9 : Int32) (x10 : Int32) (h : ia_H), gd_ w h → l_M_fair_106 x1 x2 x3 x4 x5 x6 x7 x8 k159 n x9 x10 h = some (r, h1) → gd_ w h1 := by
  intro n
  induction n with
  | zero =>
    intro x9 x10 h hg hm
    cases (show (none : Option (Int32 × ia_H)) = some _ from hm)
  | succ n ih =>
    intro x9 x10 h hg hm
    rw [l_M_fair_106] at hm
    obtain ⟨v10, hv10, hm⟩ := ia_bnd hm
    by_cases c : v10 ≤ x10
    · replace hm := ia_ifp hm c
      exact hk159 x9 h hg hm
    · replace hm := ia_ifn hm c
      obtain ⟨c11, hm⟩ := ia_gd_some hm
      by_cases c : (ia_i h 430 ((x10).toNatClampNeg)) = (x9 - 1)
      · replace hm := ia_ifp hm c
        obtain ⟨v12, hv12, hm⟩ := ia_bnd hm
        by_cases c : v12 = 0
        · replace hm := ia_ifp hm c
          exact ih x9 (x10 + 1) h hg hm
        · replace hm := ia_ifn hm c
          obtain ⟨c13, hm⟩ := ia_gd_some hm
          exact ih x9 (x10 + 1) (ia_wI h 430 ((x10).toNatClampNeg) x9) (gd_wI hg (kx_100 (ka_12_31 pk_417))) hm
      · replace hm := ia_ifn hm c
        exact ih x9 (x10 + 1) h hg hm
def l_M_fair_92 (x1 : Int32) (x2 : Int32) (x3 : Int32) (x4 : Int32) (x5 : Int32) (x6 : Int32) (x7 : Int32) (x8 : Int32) (k165 : ia_H → Option (Int32 × ia_H)) (n : Nat) (x9 : Int32) (h : ia_H) : Option (Int32 × ia_H) := match n with
  | 0 => none
  | n + 1 => if 60 < x9 then (k165 h) else ((f_M_aDay h).bind fun v9 => (l_M_fair_106 x1 x2 x3 x4 x5 x6 x7 x8 (fun x9 h => l_M_fair_92 x1 x2 x3 x4 x5 x6 x7 x8 k165 n (x9 + 1) h) fu_ x9 0 v9))
theorem tl_M_fair_92 {w : ia_O0} {d N1 W1 : Nat} {K : ia_K} (hK : ia_isK (d + 11) mm_M_fair N1 W1 K) {x1 : Int32} {x2 : Int32} {x3 : Int32} {x4 : Int32} {x5 : Int32} {x6 : Int32} {x7 : Int32} {x8 : Int32} {r : Int32} {h1 : ia_H} (hret : ∀ (pc : Nat) (lv : ia_L), ia_ret mm_M_fair pc (some (.inl r)) → K pc lv ((some (.inl r)) : Option ia_V).toList h1) {k165 : ia_H → Option (Int32 × ia_H)} (hk165 : ∀ (h : ia_H), gd_ w h → k165 h = some (r, h1) → K 165 [some (.inr (.inr 417)), none, none, none, none, none, none, none, some (.inl x8), none, none] [] h) : ∀ (n : Nat) (x9 : Int32) (h : ia_H), gd_ w h → l_M_fair_92 x1 x2 x3 x4 x5 x6 x7 x8 k165 n x9 h = some (r, h1) → K 92 [some (.inr (.inr 417)), none, none, none, none, some (.inl x5), some (.inl x6), some (.inl x7), some (.inl x8), some (.inl x9), none] [] h := by
  intro n
  induction n with
  | zero =>
    intro x9 h hg hm
    cases (show (none : Option (Int32 × ia_H)) = some _ from hm)
  | succ n ih =>
    intro x9 h hg hm
    rw [l_M_fair_92] at hm
    refine ia_go hK ck_M_fair_92 ⟨fun c => ?_, fun c => ?_⟩
    · replace hm := ia_ifp hm c
      show K 165 [some (.inr (.inr 417)), none, none, none, none, some (.inl x5), some (.inl x6), some (.inl x7), some (.inl x8), some (.inl x9), none] [] h
      refine ia_fg hK (lv' := [some (.inr (.inr 417)), none, none, none, none, none, none, none, some (.inl x8), none, none]) ⟨rfl, rfl, trivial⟩ ?_
      exact hk165 h hg hm
    · replace hm := ia_ifn hm c
      show K 99 [some (.inr (.inr 417)), none, none, none, none, some (.inl x5), some (.inl x6), some (.inl x7), some (.inl x8), some (.inl x9), none] [] h
      refine ia_go hK ck_M_fair_99 ?_
      show K 100 [some (.inr (.inr 417)), none, none, none, none, some (.inl x5), some (.inl x6), some (.inl x7), some (.inl x8), some (.inl x9), none] [.inr (.inr 417)] h
      obtain ⟨v9, hv9, hm⟩ := ia_bnd hm
      have ev9 := t_M_aDay (d + 3) hg hv9
      have gv9 := g_M_aDay hg hv9
      refine ia_cV hK mk_M_aDay lk_12_290 dc_M_fair_100 417 [] [] rfl rfl (Nat.le_of_ble_eq_true rfl) (by decide) rfl (gk_12 hg pk_417) ev9 (gd_nm hg gv9) ?_
      show K 103 [some (.inr (.inr 417)), none, none, none, none, some (.inl x5), some (.inl x6), some (.inl x7), some (.inl x8), some (.inl x9), none] [] v9
      refine ia_go hK ck_M_fair_103 ?_
      show K 106 [some (.inr (.inr 417)), none, none, none, none, some (.inl x5), some (.inl x6), some (.inl x7), some (.inl x8), some (.inl x9), some (.inl 0)] [] v9
      refine tl_M_fair_106 hK hret ?_ fu_ x9 0 v9 gv9 hm
      · intro x9 h hg hm
        refine ia_go hK ck_M_fair_159 ?_
        show K 92 [some (.inr (.inr 417)), none, none, none, none, some (.inl x5), some (.inl x6), some (.inl x7), some (.inl x8), some (.inl (x9 + 1)), none] [] h
        exact ih (x9 + 1) h hg hm
theorem gl_M_fair_92 {w : ia_O0} {x1 : Int32} {x2 : Int32} {x3 : Int32} {x4 : Int32} {x5 : Int32} {x6 : Int32} {x7 : Int32} {x8 : Int32} {r : Int32} {h1 : ia_H} {k165 : ia_H → Option (Int32 × ia_H)} (hk165 : ∀ (h : ia_H), gd_ w h → k165 h = some (r, h1) → gd_ w h1) : ∀ (n : Nat) (x9 : Int32) (h : ia_H), gd_ w h → l_M_fair_92 x1 x2 x3 x4 x5 x6 x7 x8 k165 n x9 h = some (r, h1) → gd_ w h1 := by
  intro n
  induction n with
  | zero =>
    intro x9 h hg hm
    cases (show (none : Option (Int32 × ia_H)) = some _ from hm)
  | succ n ih =>
    intro x9 h hg hm
    rw [l_M_fair_92] at hm
    by_cases c : 60 < x9
    · replace hm := ia_ifp hm c
      exact hk165 h hg hm
    · replace hm := ia_ifn hm c
      obtain ⟨v9, hv9, hm⟩ := ia_bnd hm
      have gv9 := g_M_aDay hg hv9
      refine gl_M_fair_106 ?_ fu_ x9 0 v9 gv9 hm
      · intro x9 h hg hm
        exact ih (x9 + 1) h hg hm
def l_M_fair_171 (x1 : Int32) (x2 : Int32) (x3 : Int32) (x4 : Int32) (x5 : Int32) (x6 : Int32) (x7 : Int32) (x8 : Int32) (k212 : Int32 → ia_H → Option (Int32 × ia_H)) (n : Nat) (x9 : Int32) (x10 : Int32) (h : ia_H) : Option (Int32 × ia_H) := match n with
  | 0 => none
  | n + 1 => (f_M_cells h).bind fun v14 => (if v14 ≤ x10 then (k212 x9 h) else (ia_gd (ia_ib x10 36) (ia_gd (ia_ib x9 36) (if (ia_i h 430 ((x10).toNatClampNeg)) ≤ (ia_i h 430 ((x9).toNatClampNeg)) then (l_M_fair_171 x1 x2 x3 x4 x5 x6 x7 x8 k212 n x9 (x10 + 1) h) else (l_M_fair_171 x1 x2 x3 x4 x5 x6 x7 x8 k212 n x10 (x10 + 1) h)))))
theorem tl_M_fair_171 {w : ia_O0} {d N1 W1 : Nat} {K : ia_K} (hK : ia_isK (d + 11) mm_M_fair N1 W1 K) {x1 : Int32} {x2 : Int32} {x3 : Int32} {x4 : Int32} {x5 : Int32} {x6 : Int32} {x7 : Int32} {x8 : Int32} {r : Int32} {h1 : ia_H} (hret : ∀ (pc : Nat) (lv : ia_L), ia_ret mm_M_fair pc (some (.inl r)) → K pc lv ((some (.inl r)) : Option ia_V).toList h1) {k212 : Int32 → ia_H → Option (Int32 × ia_H)} (hk212 : ∀ (x9 : Int32) (h : ia_H), gd_ w h → k212 x9 h = some (r, h1) → K 212 [some (.inr (.inr 417)), none, none, none, none, none, none, none, some (.inl x8), some (.inl x9), none] [] h) : ∀ (n : Nat) (x9 : Int32) (x10 : Int32) (h : ia_H), gd_ w h → l_M_fair_171 x1 x2 x3 x4 x5 x6 x7 x8 k212 n x9 x10 h = some (r, h1) → K 171 [some (.inr (.inr 417)), none, none, none, none, none, none, none, some (.inl x8), some (.inl x9), some (.inl x10)] [] h := by
  intro n
  induction n with
  | zero =>
    intro x9 x10 h hg hm
    cases (show (none : Option (Int32 × ia_H)) = some _ from hm)
  | succ n ih =>
    intro x9 x10 h hg hm
    rw [l_M_fair_171] at hm
    refine ia_go hK ck_M_fair_171 ?_
    show K 174 [some (.inr (.inr 417)), none, none, none, none, none, none, none, some (.inl x8), some (.inl x9), some (.inl x10)] [.inr (.inr 417), .inl x10] h
    obtain ⟨v14, hv14, hm⟩ := ia_bnd hm
    have ev14 := t_M_cells (d + 10) hg hv14
    refine ia_cV hK mk_M_cells lk_12_234 dc_M_fair_174 417 [] [.inl x10] rfl rfl (Nat.le_of_ble_eq_true rfl) (by decide) rfl (gk_12 hg pk_417) ev14 ⟨rfl, rfl⟩ ?_
    show K 177 [some (.inr (.inr 417)), none, none, none, none, none, none, none, some (.inl x8), some (.inl x9), some (.inl x10)] [.inl v14, .inl x10] h
    refine ia_go hK ck_M_fair_177 ⟨fun c => ?_, fun c => ?_⟩
    · replace hm := ia_ifp hm c
      show K 212 [some (.inr (.inr 417)), none, none, none, none, none, none, none, some (.inl x8), some (.inl x9), some (.inl x10)] [] h
      refine ia_fg hK (lv' := [some (.inr (.inr 417)), none, none, none, none, none, none, none, some (.inl x8), some (.inl x9), none]) ⟨rfl, rfl, rfl, trivial⟩ ?_
      exact hk212 x9 h hg hm
    · replace hm := ia_ifn hm c
      show K 180 [some (.inr (.inr 417)), none, none, none, none, none, none, none, some (.inl x8), some (.inl x9), some (.inl x10)] [] h
      obtain ⟨c15, hm⟩ := ia_gd_some hm
      obtain ⟨c16, hm⟩ := ia_gd_some hm
      refine ia_go hK ck_M_fair_180 ⟨gk_12 hg pk_417, gr_12_31 hg pk_417, ga_i100 hg (ka_12_31 pk_417) c15, gk_12 hg pk_417, gr_12_31 hg pk_417, ga_i100 hg (ka_12_31 pk_417) c16, fun c => ?_, fun c => ?_⟩
      · replace hm := ia_ifp hm c
        show K 202 [some (.inr (.inr 417)), none, none, none, none, none, none, none, some (.inl x8), some (.inl x9), some (.inl x10)] [] h
        refine ia_go hK ck_M_fair_202 ?_
        show K 171 [some (.inr (.inr 417)), none, none, none, none, none, none, none, some (.inl x8), some (.inl x9), some (.inl (x10 + 1))] [] h
        exact ih x9 (x10 + 1) h hg hm
      · replace hm := ia_ifn hm c
        show K 197 [some (.inr (.inr 417)), none, none, none, none, none, none, none, some (.inl x8), some (.inl x9), some (.inl x10)] [] h
        refine ia_go hK ck_M_fair_197 ?_
        show K 204 [some (.inr (.inr 417)), none, none, none, none, none, none, none, some (.inl x8), some (.inl x9), some (.inl x10)] [.inl x10] h
        refine ia_go hK ck_M_fair_204 ?_
        show K 171 [some (.inr (.inr 417)), none, none, none, none, none, none, none, some (.inl x8), some (.inl x10), some (.inl (x10 + 1))] [] h
        exact ih x10 (x10 + 1) h hg hm
theorem gl_M_fair_171 {w : ia_O0} {x1 : Int32} {x2 : Int32} {x3 : Int32} {x4 : Int32} {x5 : Int32} {x6 : Int32} {x7 : Int32} {x8 : Int32} {r : Int32} {h1 : ia_H} {k212 : Int32 → ia_H → Option (Int32 × ia_H)} (hk212 : ∀ (x9 : Int32) (h : ia_H), gd_ w h → k212 x9 h = some (r, h1) → gd_ w h1) : ∀ (n : Nat) (x9 : Int32) (x10 : Int32) (h : ia_H), gd_ w h → l_M_fair_171 x1 x2 x3 x4 x5 x6 x7 x8 k212 n x9 x10 h = some (r, h1) → gd_ w h1 := by
  intro n
  induction n with
  | zero =>
    intro x9 x10 h hg hm
    cases (show (none : Option (Int32 × ia_H)) = some _ from hm)
  | succ n ih =>
    intro x9 x10 h hg hm
    rw [l_M_fair_171] at hm
    obtain ⟨v14, hv14, hm⟩ := ia_bnd hm
    by_cases c : v14 ≤ x10
    · replace hm := ia_ifp hm c
      exact hk212 x9 h hg hm
    · replace hm := ia_ifn hm c
      obtain ⟨c15, hm⟩ := ia_gd_some hm
      obtain ⟨c16, hm⟩ := ia_gd_some hm
      by_cases c : (ia_i h 430 ((x10).toNatClampNeg)) ≤ (ia_i h 430 ((x9).toNatClampNeg))
      · replace hm := ia_ifp hm c
        exact ih x9 (x10 + 1) h hg hm
      · replace hm := ia_ifn hm c
        exact ih x10 (x10 + 1) h hg hm
def f_M_fair (x1 : Int32) (x2 : Int32) (x3 : Int32) (x4 : Int32) (x5 : Int32) (x6 : Int32) (x7 : Int32) (x8 : Int32) (h : ia_H) : Option (Int32 × ia_H) := (f_M_isLoad x5 h).bind fun v1 => (if v1 = 0 then (some ((-1), h)) else ((f_M_isIn x6 1 6 h).bind fun v2 => (if v2 = 0 then (some ((-1), h)) else ((f_M_isIn x7 1 6 h).bind fun v3 => (if v3 = 0 then (some ((-1), h)) else ((f_M_isState x1 x2 x3 x4 h).bind fun v4 => (if v4.1 = 0 then (some ((-1), v4.2)) else (l_M_fair_47 x1 x2 x3 x4 x5 x6 x7 x8 (fun h => l_M_fair_92 x1 x2 x3 x4 x5 x6 x7 x8 (fun h => l_M_fair_171 x1 x2 x3 x4 x5 x6 x7 x8 (fun x9 h => ia_gd (ia_ib x9 36) (if 0 ≤ (ia_i h 430 ((x9).toNatClampNeg)) then (if x8 = 0 then (some (x9, h)) else (ia_gd (ia_ib x9 36) (some (ia_i h 430 ((x9).toNatClampNeg), h)))) else (some ((-1), h)))) fu_ 0 1 h) fu_ 1 h) fu_ 0 v4.2))))))))
theorem g_M_fair {w : ia_O0} {x1 : Int32} {x2 : Int32} {x3 : Int32} {x4 : Int32} {x5 : Int32} {x6 : Int32} {x7 : Int32} {x8 : Int32} {h : ia_H} (hg : gd_ w h) {q : (Int32 × ia_H)} (hm : f_M_fair x1 x2 x3 x4 x5 x6 x7 x8 h = some q) : gd_ w q.2 := by
  obtain ⟨r, h1⟩ := q
  unfold f_M_fair at hm
  obtain ⟨v1, hv1, hm⟩ := ia_bnd hm
  by_cases c : v1 = 0
  · replace hm := ia_ifp hm c
    obtain ⟨rfl, rfl⟩ := Prod.mk.inj (Option.some.inj hm)
    exact hg
  · replace hm := ia_ifn hm c
    obtain ⟨v2, hv2, hm⟩ := ia_bnd hm
    by_cases c : v2 = 0
    · replace hm := ia_ifp hm c
      obtain ⟨rfl, rfl⟩ := Prod.mk.inj (Option.some.inj hm)
      exact hg
    · replace hm := ia_ifn hm c
      obtain ⟨v3, hv3, hm⟩ := ia_bnd hm
      by_cases c : v3 = 0
      · replace hm := ia_ifp hm c
        obtain ⟨rfl, rfl⟩ := Prod.mk.inj (Option.some.inj hm)
        exact hg
      · replace hm := ia_ifn hm c
        obtain ⟨v4, hv4, hm⟩ := ia_bnd hm
        have gv4 := g_M_isState hg hv4
        by_cases c : v4.1 = 0
        · replace hm := ia_ifp hm c
          obtain ⟨rfl, rfl⟩ := Prod.mk.inj (Option.some.inj hm)
          exact gv4
        · replace hm := ia_ifn hm c
          refine gl_M_fair_47 ?_ fu_ 0 v4.2 gv4 hm
          · intro h hg hm
            refine gl_M_fair_92 ?_ fu_ 1 h hg hm
            · intro h hg hm
              refine gl_M_fair_171 ?_ fu_ 0 1 h hg hm
              · intro x9 h hg hm
                obtain ⟨c17, hm⟩ := ia_gd_some hm
                by_cases c : 0 ≤ (ia_i h 430 ((x9).toNatClampNeg))
                · replace hm := ia_ifp hm c
                  by_cases c : x8 = 0
                  · replace hm := ia_ifp hm c
                    obtain ⟨rfl, rfl⟩ := Prod.mk.inj (Option.some.inj hm)
                    exact hg
                  · replace hm := ia_ifn hm c
                    obtain ⟨c18, hm⟩ := ia_gd_some hm
                    obtain ⟨rfl, rfl⟩ := Prod.mk.inj (Option.some.inj hm)
                    exact hg
                · replace hm := ia_ifn hm c
                  obtain ⟨rfl, rfl⟩ := Prod.mk.inj (Option.some.inj hm)
                  exact hg
theorem t_M_fair {w : ia_O0} (d : Nat) {x1 : Int32} {x2 : Int32} {x3 : Int32} {x4 : Int32} {x5 : Int32} {x6 : Int32} {x7 : Int32} {x8 : Int32} {h : ia_H} (hg : gd_ w h) {q : (Int32 × ia_H)} (hm : f_M_fair x1 x2 x3 x4 x5 x6 x7 x8 h = some q) : ia_Ev (d + 11) mm_M_fair [.inr (.inr 417), .inl x1, .inl x2, .inl x3, .inl x4, .inl x5, .inl x6, .inl x7, .inl x8] h (some (.inl q.1)) q.2 := by
  have gq := g_M_fair hg hm
  refine ia_Ev_intro ok_M_fair (gd_le hg gq).1 (gd_le hg gq).2 (Nat.le_of_ble_eq_true rfl) (fun K hK hret => ?_)
  obtain ⟨r, h1⟩ := q
  show K 0 [some (.inr (.inr 417)), some (.inl x1), some (.inl x2), some (.inl x3), some (.inl x4), some (.inl x5), some (.inl x6), some (.inl x7), some (.inl x8), none, none] [] h
  unfold f_M_fair at hm
  refine ia_go hK ck_M_fair_0 ?_
  show K 2 [some (.inr (.inr 417)), some (.inl x1), some (.inl x2), some (.inl x3), some (.inl x4), some (.inl x5), some (.inl x6), some (.inl x7), some (.inl x8), none, none] [.inl x5] h
  obtain ⟨v1, hv1, hm⟩ := ia_bnd hm
  have ev1 := t_M_isLoad (d + 9) hg hv1
  refine ia_cS hK mk_M_isLoad lk_12_349 dc_M_fair_2 [.inl x5] [] rfl rfl (Nat.le_of_ble_eq_true rfl) ev1 ⟨rfl, rfl⟩ ?_
  show K 5 [some (.inr (.inr 417)), some (.inl x1), some (.inl x2), some (.inl x3), some (.inl x4), some (.inl x5), some (.inl x6), some (.inl x7), some (.inl x8), none, none] [.inl v1] h
  refine ia_go hK ck_M_fair_5 ⟨fun c => ?_, fun c => ?_⟩
  · replace hm := ia_ifp hm c
    show K 42 [some (.inr (.inr 417)), some (.inl x1), some (.inl x2), some (.inl x3), some (.inl x4), some (.inl x5), some (.inl x6), some (.inl x7), some (.inl x8), none, none] [] h
    refine ia_go hK ck_M_fair_42 ?_
    show K 43 [some (.inr (.inr 417)), some (.inl x1), some (.inl x2), some (.inl x3), some (.inl x4), some (.inl x5), some (.inl x6), some (.inl x7), some (.inl x8), none, none] [.inl (-1)] h
    obtain ⟨rfl, rfl⟩ := Prod.mk.inj (Option.some.inj hm)
    exact hret 43 _ dc_M_fair_43
  · replace hm := ia_ifn hm c
    show K 8 [some (.inr (.inr 417)), some (.inl x1), some (.inl x2), some (.inl x3), some (.inl x4), some (.inl x5), some (.inl x6), some (.inl x7), some (.inl x8), none, none] [] h
    refine ia_go hK ck_M_fair_8 ?_
    show K 13 [some (.inr (.inr 417)), some (.inl x1), some (.inl x2), some (.inl x3), some (.inl x4), some (.inl x5), some (.inl x6), some (.inl x7), some (.inl x8), none, none] [.inl 6, .inl 1, .inl x6] h
    obtain ⟨v2, hv2, hm⟩ := ia_bnd hm
    have ev2 := t_M_isIn (d + 10) hg hv2
    refine ia_cS hK mk_M_isIn lk_12_116 dc_M_fair_13 [.inl x6, .inl 1, .inl 6] [] rfl rfl (Nat.le_of_ble_eq_true rfl) ev2 ⟨rfl, rfl⟩ ?_
    show K 16 [some (.inr (.inr 417)), some (.inl x1), some (.inl x2), some (.inl x3), some (.inl x4), some (.inl x5), some (.inl x6), some (.inl x7), some (.inl x8), none, none] [.inl v2] h
    refine ia_go hK ck_M_fair_16 ⟨fun c => ?_, fun c => ?_⟩
    · replace hm := ia_ifp hm c
      show K 42 [some (.inr (.inr 417)), some (.inl x1), some (.inl x2), some (.inl x3), some (.inl x4), some (.inl x5), some (.inl x6), some (.inl x7), some (.inl x8), none, none] [] h
      refine ia_go hK ck_M_fair_42 ?_
      show K 43 [some (.inr (.inr 417)), some (.inl x1), some (.inl x2), some (.inl x3), some (.inl x4), some (.inl x5), some (.inl x6), some (.inl x7), some (.inl x8), none, none] [.inl (-1)] h
      obtain ⟨rfl, rfl⟩ := Prod.mk.inj (Option.some.inj hm)
      exact hret 43 _ dc_M_fair_43
    · replace hm := ia_ifn hm c
      show K 19 [some (.inr (.inr 417)), some (.inl x1), some (.inl x2), some (.inl x3), some (.inl x4), some (.inl x5), some (.inl x6), some (.inl x7), some (.inl x8), none, none] [] h
      refine ia_go hK ck_M_fair_19 ?_
      show K 24 [some (.inr (.inr 417)), some (.inl x1), some (.inl x2), some (.inl x3), some (.inl x4), some (.inl x5), some (.inl x6), some (.inl x7), some (.inl x8), none, none] [.inl 6, .inl 1, .inl x7] h
      obtain ⟨v3, hv3, hm⟩ := ia_bnd hm
      have ev3 := t_M_isIn (d + 10) hg hv3
      refine ia_cS hK mk_M_isIn lk_12_116 dc_M_fair_24 [.inl x7, .inl 1, .inl 6] [] rfl rfl (Nat.le_of_ble_eq_true rfl) ev3 ⟨rfl, rfl⟩ ?_
      show K 27 [some (.inr (.inr 417)), some (.inl x1), some (.inl x2), some (.inl x3), some (.inl x4), some (.inl x5), some (.inl x6), some (.inl x7), some (.inl x8), none, none] [.inl v3] h
      refine ia_go hK ck_M_fair_27 ⟨fun c => ?_, fun c => ?_⟩
      · replace hm := ia_ifp hm c
        show K 42 [some (.inr (.inr 417)), some (.inl x1), some (.inl x2), some (.inl x3), some (.inl x4), some (.inl x5), some (.inl x6), some (.inl x7), some (.inl x8), none, none] [] h
        refine ia_go hK ck_M_fair_42 ?_
        show K 43 [some (.inr (.inr 417)), some (.inl x1), some (.inl x2), some (.inl x3), some (.inl x4), some (.inl x5), some (.inl x6), some (.inl x7), some (.inl x8), none, none] [.inl (-1)] h
        obtain ⟨rfl, rfl⟩ := Prod.mk.inj (Option.some.inj hm)
        exact hret 43 _ dc_M_fair_43
      · replace hm := ia_ifn hm c
        show K 30 [some (.inr (.inr 417)), some (.inl x1), some (.inl x2), some (.inl x3), some (.inl x4), some (.inl x5), some (.inl x6), some (.inl x7), some (.inl x8), none, none] [] h
        refine ia_go hK ck_M_fair_30 ?_
        show K 36 [some (.inr (.inr 417)), some (.inl x1), some (.inl x2), some (.inl x3), some (.inl x4), some (.inl x5), some (.inl x6), some (.inl x7), some (.inl x8), none, none] [.inl x4, .inl x3, .inl x2, .inl x1, .inr (.inr 417)] h
        obtain ⟨v4, hv4, hm⟩ := ia_bnd hm
        have ev4 := t_M_isState (d + 0) hg hv4
        have gv4 := g_M_isState hg hv4
        refine ia_cV hK mk_M_isState lk_12_309 dc_M_fair_36 417 [.inl x1, .inl x2, .inl x3, .inl x4] [] rfl rfl (Nat.le_of_ble_eq_true rfl) (by decide) rfl (gk_12 hg pk_417) ev4 (gd_nm hg gv4) ?_
        show K 39 [some (.inr (.inr 417)), some (.inl x1), some (.inl x2), some (.inl x3), some (.inl x4), some (.inl x5), some (.inl x6), some (.inl x7), some (.inl x8), none, none] [.inl v4.1] v4.2
        refine ia_go hK ck_M_fair_39 ⟨fun c => ?_, fun c => ?_⟩
        · replace hm := ia_ifn hm c
          show K 44 [some (.inr (.inr 417)), some (.inl x1), some (.inl x2), some (.inl x3), some (.inl x4), some (.inl x5), some (.inl x6), some (.inl x7), some (.inl x8), none, none] [] v4.2
          refine ia_go hK ck_M_fair_44 ?_
          show K 47 [some (.inr (.inr 417)), some (.inl x1), some (.inl x2), some (.inl x3), some (.inl x4), some (.inl x5), some (.inl x6), some (.inl x7), some (.inl x8), some (.inl 0), none] [] v4.2
          refine ia_fg hK (lv' := [some (.inr (.inr 417)), none, none, none, none, some (.inl x5), some (.inl x6), some (.inl x7), some (.inl x8), some (.inl 0), none]) ⟨rfl, rfl, rfl, rfl, rfl, rfl, trivial⟩ ?_
          refine tl_M_fair_47 hK hret ?_ fu_ 0 v4.2 gv4 hm
          · intro h hg hm
            refine ia_go hK ck_M_fair_89 ?_
            show K 92 [some (.inr (.inr 417)), none, none, none, none, some (.inl x5), some (.inl x6), some (.inl x7), some (.inl x8), some (.inl 1), none] [] h
            refine tl_M_fair_92 hK hret ?_ fu_ 1 h hg hm
            · intro h hg hm
              refine ia_go hK ck_M_fair_165 ?_
              show K 171 [some (.inr (.inr 417)), none, none, none, none, none, none, none, some (.inl x8), some (.inl 0), some (.inl 1)] [] h
              refine tl_M_fair_171 hK hret ?_ fu_ 0 1 h hg hm
              · intro x9 h hg hm
                obtain ⟨c17, hm⟩ := ia_gd_some hm
                refine ia_go hK ck_M_fair_212 ⟨gk_12 hg pk_417, gr_12_31 hg pk_417, ga_i100 hg (ka_12_31 pk_417) c17, fun c => ?_, fun c => ?_⟩
                · replace hm := ia_ifp hm c
                  show K 226 [some (.inr (.inr 417)), none, none, none, none, none, none, none, some (.inl x8), some (.inl x9), none] [] h
                  refine ia_go hK ck_M_fair_226 ⟨fun c => ?_, fun c => ?_⟩
                  · replace hm := ia_ifp hm c
                    show K 241 [some (.inr (.inr 417)), none, none, none, none, none, none, none, some (.inl x8), some (.inl x9), none] [] h
                    refine ia_go hK ck_M_fair_241 ?_
                    show K 243 [some (.inr (.inr 417)), none, none, none, none, none, none, none, some (.inl x8), some (.inl x9), none] [.inl x9] h
                    obtain ⟨rfl, rfl⟩ := Prod.mk.inj (Option.some.inj hm)
                    exact hret 243 _ dc_M_fair_243
                  · replace hm := ia_ifn hm c
                    show K 231 [some (.inr (.inr 417)), none, none, none, none, none, none, none, some (.inl x8), some (.inl x9), none] [] h
                    obtain ⟨c18, hm⟩ := ia_gd_some hm
                    refine ia_go hK ck_M_fair_231 ⟨gk_12 hg pk_417, gr_12_31 hg pk_417, ga_i100 hg (ka_12_31 pk_417) c18, ?_⟩
                    show K 243 [some (.inr (.inr 417)), none, none, none, none, none, none, none, some (.inl x8), some (.inl x9), none] [.inl (ia_i h 430 ((x9).toNatClampNeg))] h
                    obtain ⟨rfl, rfl⟩ := Prod.mk.inj (Option.some.inj hm)
                    exact hret 243 _ dc_M_fair_243
                · replace hm := ia_ifn hm c
                  show K 222 [some (.inr (.inr 417)), none, none, none, none, none, none, none, some (.inl x8), some (.inl x9), none] [] h
                  refine ia_go hK ck_M_fair_222 ?_
                  show K 243 [some (.inr (.inr 417)), none, none, none, none, none, none, none, some (.inl x8), some (.inl x9), none] [.inl (-1)] h
                  obtain ⟨rfl, rfl⟩ := Prod.mk.inj (Option.some.inj hm)
                  exact hret 243 _ dc_M_fair_243
        · replace hm := ia_ifp hm c
          show K 42 [some (.inr (.inr 417)), some (.inl x1), some (.inl x2), some (.inl x3), some (.inl x4), some (.inl x5), some (.inl x6), some (.inl x7), some (.inl x8), none, none] [] v4.2
          refine ia_go hK ck_M_fair_42 ?_
          show K 43 [some (.inr (.inr 417)), some (.inl x1), some (.inl x2), some (.inl x3), some (.inl x4), some (.inl x5), some (.inl x6), some (.inl x7), some (.inl x8), none, none] [.inl (-1)] v4.2
          obtain ⟨rfl, rfl⟩ := Prod.mk.inj (Option.some.inj hm)
          exact hret 43 _ dc_M_fair_43
def mm_M_copies : ia_M := (⟨"IceStreetModel", "copies", "(II)V"⟩, prog_14_method_43_code, 4, none, 12, false)
theorem ok_M_copies : ia_mok mm_M_copies := ⟨by decide +kernel, by decide +kernel, by decide +kernel, by decide +kernel⟩
theorem mk_M_copies : ia_mkn mm_M_copies 1 2 := ⟨ia_tb_in (List.mem_of_getElem? (i := 2100) (by decide +kernel)) rfl, ia_tb_in (List.mem_of_getElem? (i := 146) (by decide +kernel)) rfl, by decide +kernel, by decide +kernel, ⟨ia_tb_in (List.mem_of_getElem? (i := 2099) (by decide +kernel)) rfl, ia_tb_in (List.mem_of_getElem? (i := 117) (by decide +kernel)) rfl⟩⟩
theorem ck_M_copies_0 : ia_cks 12 4 false prog_14_method_43_code 0 [(.iconst 0, 0, 0, 0, 0), (.istore_n 3, 0, 0, 0, 0)] = true := by decide +kernel
theorem ck_M_copies_2 : ia_cks 12 4 false prog_14_method_43_code 2 [(.iload_n 3, 0, 0, 0, 0), (.bipush 80, 0, 0, 0, 0), (.if_icmp .ge 31, 0, 0, 0, 0)] = true := by decide +kernel
theorem ck_M_copies_8 : ia_cks 12 4 false prog_14_method_43_code 8 [(.aload_n 0, 0, 0, 0, 0), (.getfield 23, 12, 13, 3, 5), (.bipush 80, 0, 0, 0, 0), (.iload_n 2, 0, 0, 0, 0), (.imul, 0, 0, 0, 0), (.iload_n 3, 0, 0, 0, 0), (.iadd, 0, 0, 0, 0), (.aload_n 0, 0, 0, 0, 0), (.getfield 23, 12, 13, 3, 5), (.bipush 80, 0, 0, 0, 0), (.iload_n 1, 0, 0, 0, 0), (.imul, 0, 0, 0, 0), (.iload_n 3, 0, 0, 0, 0), (.iadd, 0, 0, 0, 0), (.iaload, 0, 0, 0, 0), (.iastore, 0, 0, 0, 0), (.iinc 3 1, 0, 0, 0, 0), (.goto (-31), 0, 0, 0, 0)] = true := by decide +kernel
theorem dc_M_copies_36 : decode prog_14_method_43_code 36 = .ok (.return_, 1) := by decide +kernel
def l_M_copies_2 (x1 : Int32) (x2 : Int32) (k36 : ia_H → Option ia_H) (n : Nat) (x3 : Int32) (h : ia_H) : Option ia_H := match n with
  | 0 => none
  | n + 1 => if 80 ≤ x3 then (k36 h) else (ia_gd (ia_ib ((80 * x1) + x3) 1120) (ia_gd (ia_ib ((80 * x2) + x3) 1120) (l_M_copies_2 x1 x2 k36 n (x3 + 1) (ia_wI h 422 (((80 * x2) + x3).toNatClampNeg) (ia_i h 422 (((80 * x1) + x3).toNatClampNeg))))))
theorem tl_M_copies_2 {w : ia_O0} {d N1 W1 : Nat} {K : ia_K} (hK : ia_isK (d + 0) mm_M_copies N1 W1 K) {x1 : Int32} {x2 : Int32} {h1 : ia_H} (hret : ∀ (pc : Nat) (lv : ia_L), ia_ret mm_M_copies pc none → K pc lv (none : Option ia_V).toList h1) {k36 : ia_H → Option ia_H} (hk36 : ∀ (h : ia_H), gd_ w h → k36 h = some h1 → K 36 [none, none, none, none] [] h) : ∀ (n : Nat) (x3 : Int32) (h : ia_H), gd_ w h → l_M_copies_2 x1 x2 k36 n x3 h = some h1 → K 2 [some (.inr (.inr 417)), some (.inl x1), some (.inl x2), some (.inl x3)] [] h := by
  intro n
  induction n with
  | zero =>
    intro x3 h hg hm
    cases (show (none : Option ia_H) = some _ from hm)
  | succ n ih =>
    intro x3 h hg hm
    rw [l_M_copies_2] at hm
    refine ia_go hK ck_M_copies_2 ⟨fun c => ?_, fun c => ?_⟩
    · replace hm := ia_ifp hm c
      show K 36 [some (.inr (.inr 417)), some (.inl x1), some (.inl x2), some (.inl x3)] [] h
      refine ia_fg hK (lv' := [none, none, none, none]) trivial ?_
      exact hk36 h hg hm
    · replace hm := ia_ifn hm c
      show K 8 [some (.inr (.inr 417)), some (.inl x1), some (.inl x2), some (.inl x3)] [] h
      obtain ⟨c1, hm⟩ := ia_gd_some hm
      obtain ⟨c2, hm⟩ := ia_gd_some hm
      refine ia_go hK ck_M_copies_8 ⟨gk_12 hg pk_417, gr_12_13 hg pk_417, gk_12 hg pk_417, gr_12_13 hg pk_417, ga_i100 hg (ka_12_13 pk_417) c1, ga_s100 hg (ka_12_13 pk_417) c2, ?_⟩
      show K 2 [some (.inr (.inr 417)), some (.inl x1), some (.inl x2), some (.inl (x3 + 1))] [] (ia_wI h 422 (((80 * x2) + x3).toNatClampNeg) (ia_i h 422 (((80 * x1) + x3).toNatClampNeg)))
      exact ih (x3 + 1) (ia_wI h 422 (((80 * x2) + x3).toNatClampNeg) (ia_i h 422 (((80 * x1) + x3).toNatClampNeg))) (gd_wI hg (kx_100 (ka_12_13 pk_417))) hm
theorem gl_M_copies_2 {w : ia_O0} {x1 : Int32} {x2 : Int32} {h1 : ia_H} {k36 : ia_H → Option ia_H} (hk36 : ∀ (h : ia_H), gd_ w h → k36 h = some h1 → gd_ w h1) : ∀ (n : Nat) (x3 : Int32) (h : ia_H), gd_ w h → l_M_copies_2 x1 x2 k36 n x3 h = some h1 → gd_ w h1 := by
  intro n
  induction n with
  | zero =>
    intro x3 h hg hm
    cases (show (none : Option ia_H) = some _ from hm)
  | succ n ih =>
    intro x3 h hg hm
    rw [l_M_copies_2] at hm
    by_cases c : 80 ≤ x3
    · replace hm := ia_ifp hm c
      exact hk36 h hg hm
    · replace hm := ia_ifn hm c
      obtain ⟨c1, hm⟩ := ia_gd_some hm
      obtain ⟨c2, hm⟩ := ia_gd_some hm
      exact ih (x3 + 1) (ia_wI h 422 (((80 * x2) + x3).toNatClampNeg) (ia_i h 422 (((80 * x1) + x3).toNatClampNeg))) (gd_wI hg (kx_100 (ka_12_13 pk_417))) hm
def f_M_copies (x1 : Int32) (x2 : Int32) (h : ia_H) : Option ia_H := l_M_copies_2 x1 x2 (fun h => some h) fu_ 0 h
theorem g_M_copies {w : ia_O0} {x1 : Int32} {x2 : Int32} {h : ia_H} (hg : gd_ w h) {q : ia_H} (hm : f_M_copies x1 x2 h = some q) : gd_ w q := by
  obtain ⟨h1, e1⟩ : ∃ x, x = q := ⟨_, rfl⟩
  subst e1
  unfold f_M_copies at hm
  refine gl_M_copies_2 ?_ fu_ 0 h hg hm
  · intro h hg hm
    obtain rfl := Option.some.inj hm
    exact hg
theorem t_M_copies {w : ia_O0} (d : Nat) {x1 : Int32} {x2 : Int32} {h : ia_H} (hg : gd_ w h) {q : ia_H} (hm : f_M_copies x1 x2 h = some q) : ia_Ev (d + 0) mm_M_copies [.inr (.inr 417), .inl x1, .inl x2] h none q := by
  have gq := g_M_copies hg hm
  refine ia_Ev_intro ok_M_copies (gd_le hg gq).1 (gd_le hg gq).2 (Nat.le_of_ble_eq_true rfl) (fun K hK hret => ?_)
  obtain ⟨h1, e1⟩ : ∃ x, x = q := ⟨_, rfl⟩
  subst e1
  show K 0 [some (.inr (.inr 417)), some (.inl x1), some (.inl x2), none] [] h
  unfold f_M_copies at hm
  refine ia_go hK ck_M_copies_0 ?_
  show K 2 [some (.inr (.inr 417)), some (.inl x1), some (.inl x2), some (.inl 0)] [] h
  refine tl_M_copies_2 hK hret ?_ fu_ 0 h hg hm
  · intro h hg hm
    obtain rfl := Option.some.inj hm
    exact hret 36 _ dc_M_copies_36
def mm_M_draws : ia_M := (⟨"IceStreetModel", "draws", "(I)Z"⟩, prog_14_method_97_code, 3, (some .boolean), 12, false)
theorem ok_M_draws : ia_mok mm_M_draws := ⟨by decide +kernel, by decide +kernel, by decide +kernel, by decide +kernel⟩
theorem mk_M_draws : ia_mkn mm_M_draws 1 1 := ⟨ia_tb_in (List.mem_of_getElem? (i := 2104) (by decide +kernel)) rfl, ia_tb_in (List.mem_of_getElem? (i := 146) (by decide +kernel)) rfl, by decide +kernel, by decide +kernel, ⟨ia_tb_in (List.mem_of_getElem? (i := 2103) (by decide +kernel)) rfl, ia_tb_in (List.mem_of_getElem? (i := 118) (by decide +kernel)) rfl⟩⟩
theorem ck_M_draws_0 : ia_cks 12 3 false prog_14_method_97_code 0 [(.aload_n 0, 0, 0, 0, 0), (.iconst 1, 0, 0, 0, 0), (.iload_n 1, 0, 0, 0, 0), (.iadd, 0, 0, 0, 0), (.iconst 0, 0, 0, 0, 0)] = true := by decide +kernel
theorem ck_M_draws_8 : ia_cks 12 3 false prog_14_method_97_code 8 [(.aload_n 0, 0, 0, 0, 0), (.getfield 57, 12, 32, 3, 14), (.iload_n 1, 0, 0, 0, 0), (.iaload, 0, 0, 0, 0), (.istore_n 2, 0, 0, 0, 0), (.iload_n 2, 0, 0, 0, 0), (.bipush 6, 0, 0, 0, 0), (.if_icmp .ge 13, 0, 0, 0, 0)] = true := by decide +kernel
theorem ck_M_draws_31 : ia_cks 12 3 false prog_14_method_97_code 31 [(.iload_n 2, 0, 0, 0, 0), (.bipush 6, 0, 0, 0, 0), (.if_icmp .ge 17, 0, 0, 0, 0)] = true := by decide +kernel
theorem ck_M_draws_51 : ia_cks 12 3 false prog_14_method_97_code 51 [(.aload_n 0, 0, 0, 0, 0)] = true := by decide +kernel
theorem ck_M_draws_55 : ia_cks 12 3 false prog_14_method_97_code 55 [(.iconst 1, 0, 0, 0, 0)] = true := by decide +kernel
theorem ck_M_draws_37 : ia_cks 12 3 false prog_14_method_97_code 37 [(.aload_n 0, 0, 0, 0, 0), (.getfield 23, 12, 13, 3, 5), (.bipush 72, 0, 0, 0, 0), (.iload_n 2, 0, 0, 0, 0), (.iadd, 0, 0, 0, 0), (.iconst (-1), 0, 0, 0, 0), (.iastore, 0, 0, 0, 0), (.aload_n 0, 0, 0, 0, 0)] = true := by decide +kernel
theorem ck_M_draws_21 : ia_cks 12 3 false prog_14_method_97_code 21 [(.aload_n 0, 0, 0, 0, 0), (.iload_n 2, 0, 0, 0, 0)] = true := by decide +kernel
theorem ck_M_draws_26 : ia_cks 12 3 false prog_14_method_97_code 26 [(.ifCond .ne 5, 0, 0, 0, 0)] = true := by decide +kernel
theorem ck_M_draws_29 : ia_cks 12 3 false prog_14_method_97_code 29 [(.iconst 0, 0, 0, 0, 0)] = true := by decide +kernel
theorem dc_M_draws_5 : decode prog_14_method_97_code 5 = .ok (.invokevirtual 365, 3) := by decide +kernel
theorem dc_M_draws_52 : decode prog_14_method_97_code 52 = .ok (.invokevirtual 290, 3) := by decide +kernel
theorem dc_M_draws_56 : decode prog_14_method_97_code 56 = .ok (.ireturn, 1) := by decide +kernel
theorem dc_M_draws_48 : decode prog_14_method_97_code 48 = .ok (.invokevirtual 240, 3) := by decide +kernel
theorem dc_M_draws_23 : decode prog_14_method_97_code 23 = .ok (.invokevirtual 284, 3) := by decide +kernel
theorem dc_M_draws_30 : decode prog_14_method_97_code 30 = .ok (.ireturn, 1) := by decide +kernel
def j_M_draws_51 (x1 : Int32) (h : ia_H) : Option (Int32 × ia_H) := (f_M_aDay h).bind fun v3 => (some (1, v3))
theorem tj_M_draws_51 {w : ia_O0} {d N1 W1 : Nat} {K : ia_K} (hK : ia_isK (d + 8) mm_M_draws N1 W1 K) {x1 : Int32} {r : Int32} {h1 : ia_H} (hret : ∀ (pc : Nat) (lv : ia_L), ia_ret mm_M_draws pc (some (.inl r)) → K pc lv ((some (.inl r)) : Option ia_V).toList h1) : ∀ (h : ia_H), gd_ w h → j_M_draws_51 x1 h = some (r, h1) → K 51 [some (.inr (.inr 417)), none, none] [] h := by
  intro h hg hm
  unfold j_M_draws_51 at hm
  refine ia_go hK ck_M_draws_51 ?_
  show K 52 [some (.inr (.inr 417)), none, none] [.inr (.inr 417)] h
  obtain ⟨v3, hv3, hm⟩ := ia_bnd hm
  have ev3 := t_M_aDay (d + 0) hg hv3
  have gv3 := g_M_aDay hg hv3
  refine ia_cV hK mk_M_aDay lk_12_290 dc_M_draws_52 417 [] [] rfl rfl (Nat.le_of_ble_eq_true rfl) (by decide) rfl (gk_12 hg pk_417) ev3 (gd_nm hg gv3) ?_
  show K 55 [some (.inr (.inr 417)), none, none] [] v3
  refine ia_go hK ck_M_draws_55 ?_
  show K 56 [some (.inr (.inr 417)), none, none] [.inl 1] v3
  obtain ⟨rfl, rfl⟩ := Prod.mk.inj (Option.some.inj hm)
  exact hret 56 _ ⟨Or.inr rfl, dc_M_draws_56⟩
theorem gj_M_draws_51 {w : ia_O0} {x1 : Int32} {r : Int32} {h1 : ia_H} : ∀ (h : ia_H), gd_ w h → j_M_draws_51 x1 h = some (r, h1) → gd_ w h1 := by
  intro h hg hm
  unfold j_M_draws_51 at hm
  obtain ⟨v3, hv3, hm⟩ := ia_bnd hm
  have gv3 := g_M_aDay hg hv3
  obtain ⟨rfl, rfl⟩ := Prod.mk.inj (Option.some.inj hm)
  exact gv3
def j_M_draws_31 (x1 : Int32) (x2 : Int32) (h : ia_H) : Option (Int32 × ia_H) := if 6 ≤ x2 then (j_M_draws_51 x1 h) else (ia_gd (ia_ib (72 + x2) 1120) ((f_M_falls (ia_wI h 422 ((72 + x2).toNatClampNeg) (-1))).bind fun v5 => (j_M_draws_51 x1 v5)))
theorem tj_M_draws_31 {w : ia_O0} {d N1 W1 : Nat} {K : ia_K} (hK : ia_isK (d + 8) mm_M_draws N1 W1 K) {x1 : Int32} {r : Int32} {h1 : ia_H} (hret : ∀ (pc : Nat) (lv : ia_L), ia_ret mm_M_draws pc (some (.inl r)) → K pc lv ((some (.inl r)) : Option ia_V).toList h1) : ∀ (x2 : Int32) (h : ia_H), gd_ w h → j_M_draws_31 x1 x2 h = some (r, h1) → K 31 [some (.inr (.inr 417)), none, some (.inl x2)] [] h := by
  intro x2 h hg hm
  unfold j_M_draws_31 at hm
  refine ia_go hK ck_M_draws_31 ⟨fun c => ?_, fun c => ?_⟩
  · replace hm := ia_ifp hm c
    show K 51 [some (.inr (.inr 417)), none, some (.inl x2)] [] h
    refine ia_fg hK (lv' := [some (.inr (.inr 417)), none, none]) ⟨rfl, trivial⟩ ?_
    exact tj_M_draws_51 hK hret h hg hm
  · replace hm := ia_ifn hm c
    show K 37 [some (.inr (.inr 417)), none, some (.inl x2)] [] h
    obtain ⟨c4, hm⟩ := ia_gd_some hm
    refine ia_go hK ck_M_draws_37 ⟨gk_12 hg pk_417, gr_12_13 hg pk_417, ga_s100 hg (ka_12_13 pk_417) c4, ?_⟩
    show K 48 [some (.inr (.inr 417)), none, some (.inl x2)] [.inr (.inr 417)] (ia_wI h 422 ((72 + x2).toNatClampNeg) (-1))
    obtain ⟨v5, hv5, hm⟩ := ia_bnd hm
    have ev5 := t_M_falls (d + 2) (gd_wI hg (kx_100 (ka_12_13 pk_417))) hv5
    have gv5 := g_M_falls (gd_wI hg (kx_100 (ka_12_13 pk_417))) hv5
    refine ia_cV hK mk_M_falls lk_12_240 dc_M_draws_48 417 [] [] rfl rfl (Nat.le_of_ble_eq_true rfl) (by decide) rfl (gk_12 (gd_wI hg (kx_100 (ka_12_13 pk_417))) pk_417) ev5 (gd_nm (gd_wI hg (kx_100 (ka_12_13 pk_417))) gv5) ?_
    show K 51 [some (.inr (.inr 417)), none, some (.inl x2)] [] v5
    refine ia_fg hK (lv' := [some (.inr (.inr 417)), none, none]) ⟨rfl, trivial⟩ ?_
    exact tj_M_draws_51 hK hret v5 gv5 hm
theorem gj_M_draws_31 {w : ia_O0} {x1 : Int32} {r : Int32} {h1 : ia_H} : ∀ (x2 : Int32) (h : ia_H), gd_ w h → j_M_draws_31 x1 x2 h = some (r, h1) → gd_ w h1 := by
  intro x2 h hg hm
  unfold j_M_draws_31 at hm
  by_cases c : 6 ≤ x2
  · replace hm := ia_ifp hm c
    exact gj_M_draws_51 h hg hm
  · replace hm := ia_ifn hm c
    obtain ⟨c4, hm⟩ := ia_gd_some hm
    obtain ⟨v5, hv5, hm⟩ := ia_bnd hm
    have gv5 := g_M_falls (gd_wI hg (kx_100 (ka_12_13 pk_417))) hv5
    exact gj_M_draws_51 v5 gv5 hm
def f_M_draws (x1 : Int32) (h : ia_H) : Option (Int32 × ia_H) := (f_M_copies (1 + x1) 0 h).bind fun v1 => (ia_gd (ia_ib x1 6) (if 6 ≤ (ia_i v1 431 ((x1).toNatClampNeg)) then (j_M_draws_31 x1 (ia_i v1 431 ((x1).toNatClampNeg)) v1) else ((f_M_canGoOff (ia_i v1 431 ((x1).toNatClampNeg)) v1).bind fun v6 => (if v6.1 = 0 then (some (0, v6.2)) else (j_M_draws_31 x1 (ia_i v1 431 ((x1).toNatClampNeg)) v6.2)))))
theorem g_M_draws {w : ia_O0} {x1 : Int32} {h : ia_H} (hg : gd_ w h) {q : (Int32 × ia_H)} (hm : f_M_draws x1 h = some q) : gd_ w q.2 := by
  obtain ⟨r, h1⟩ := q
  unfold f_M_draws at hm
  obtain ⟨v1, hv1, hm⟩ := ia_bnd hm
  have gv1 := g_M_copies hg hv1
  obtain ⟨c2, hm⟩ := ia_gd_some hm
  by_cases c : 6 ≤ (ia_i v1 431 ((x1).toNatClampNeg))
  · replace hm := ia_ifp hm c
    exact gj_M_draws_31 (ia_i v1 431 ((x1).toNatClampNeg)) v1 gv1 hm
  · replace hm := ia_ifn hm c
    obtain ⟨v6, hv6, hm⟩ := ia_bnd hm
    have gv6 := g_M_canGoOff gv1 hv6
    by_cases c : v6.1 = 0
    · replace hm := ia_ifp hm c
      obtain ⟨rfl, rfl⟩ := Prod.mk.inj (Option.some.inj hm)
      exact gv6
    · replace hm := ia_ifn hm c
      exact gj_M_draws_31 (ia_i v1 431 ((x1).toNatClampNeg)) v6.2 gv6 hm
theorem t_M_draws {w : ia_O0} (d : Nat) {x1 : Int32} {h : ia_H} (hg : gd_ w h) {q : (Int32 × ia_H)} (hm : f_M_draws x1 h = some q) : ia_Ev (d + 8) mm_M_draws [.inr (.inr 417), .inl x1] h (some (.inl q.1)) q.2 := by
  have gq := g_M_draws hg hm
  refine ia_Ev_intro ok_M_draws (gd_le hg gq).1 (gd_le hg gq).2 (Nat.le_of_ble_eq_true rfl) (fun K hK hret => ?_)
  obtain ⟨r, h1⟩ := q
  show K 0 [some (.inr (.inr 417)), some (.inl x1), none] [] h
  unfold f_M_draws at hm
  refine ia_go hK ck_M_draws_0 ?_
  show K 5 [some (.inr (.inr 417)), some (.inl x1), none] [.inl 0, .inl (1 + x1), .inr (.inr 417)] h
  obtain ⟨v1, hv1, hm⟩ := ia_bnd hm
  have ev1 := t_M_copies (d + 7) hg hv1
  have gv1 := g_M_copies hg hv1
  refine ia_cV hK mk_M_copies lk_12_365 dc_M_draws_5 417 [.inl (1 + x1), .inl 0] [] rfl rfl (Nat.le_of_ble_eq_true rfl) (by decide) rfl (gk_12 hg pk_417) ev1 (gd_nm hg gv1) ?_
  show K 8 [some (.inr (.inr 417)), some (.inl x1), none] [] v1
  obtain ⟨c2, hm⟩ := ia_gd_some hm
  refine ia_go hK ck_M_draws_8 ⟨gk_12 gv1 pk_417, gr_12_32 gv1 pk_417, ga_i100 gv1 (ka_12_32 pk_417) c2, fun c => ?_, fun c => ?_⟩
  · replace hm := ia_ifp hm c
    show K 31 [some (.inr (.inr 417)), some (.inl x1), some (.inl (ia_i v1 431 ((x1).toNatClampNeg)))] [] v1
    refine ia_fg hK (lv' := [some (.inr (.inr 417)), none, some (.inl (ia_i v1 431 ((x1).toNatClampNeg)))]) ⟨rfl, rfl, trivial⟩ ?_
    exact tj_M_draws_31 hK hret (ia_i v1 431 ((x1).toNatClampNeg)) v1 gv1 hm
  · replace hm := ia_ifn hm c
    show K 21 [some (.inr (.inr 417)), some (.inl x1), some (.inl (ia_i v1 431 ((x1).toNatClampNeg)))] [] v1
    refine ia_go hK ck_M_draws_21 ?_
    show K 23 [some (.inr (.inr 417)), some (.inl x1), some (.inl (ia_i v1 431 ((x1).toNatClampNeg)))] [.inl (ia_i v1 431 ((x1).toNatClampNeg)), .inr (.inr 417)] v1
    obtain ⟨v6, hv6, hm⟩ := ia_bnd hm
    have ev6 := t_M_canGoOff (d + 0) gv1 hv6
    have gv6 := g_M_canGoOff gv1 hv6
    refine ia_cV hK mk_M_canGoOff lk_12_284 dc_M_draws_23 417 [.inl (ia_i v1 431 ((x1).toNatClampNeg))] [] rfl rfl (Nat.le_of_ble_eq_true rfl) (by decide) rfl (gk_12 gv1 pk_417) ev6 (gd_nm gv1 gv6) ?_
    show K 26 [some (.inr (.inr 417)), some (.inl x1), some (.inl (ia_i v1 431 ((x1).toNatClampNeg)))] [.inl v6.1] v6.2
    refine ia_go hK ck_M_draws_26 ⟨fun c => ?_, fun c => ?_⟩
    · replace hm := ia_ifn hm c
      show K 31 [some (.inr (.inr 417)), some (.inl x1), some (.inl (ia_i v1 431 ((x1).toNatClampNeg)))] [] v6.2
      refine ia_fg hK (lv' := [some (.inr (.inr 417)), none, some (.inl (ia_i v1 431 ((x1).toNatClampNeg)))]) ⟨rfl, rfl, trivial⟩ ?_
      exact tj_M_draws_31 hK hret (ia_i v1 431 ((x1).toNatClampNeg)) v6.2 gv6 hm
    · replace hm := ia_ifp hm c
      show K 29 [some (.inr (.inr 417)), some (.inl x1), some (.inl (ia_i v1 431 ((x1).toNatClampNeg)))] [] v6.2
      refine ia_go hK ck_M_draws_29 ?_
      show K 30 [some (.inr (.inr 417)), some (.inl x1), some (.inl (ia_i v1 431 ((x1).toNatClampNeg)))] [.inl 0] v6.2
      obtain ⟨rfl, rfl⟩ := Prod.mk.inj (Option.some.inj hm)
      exact hret 30 _ ⟨Or.inl rfl, dc_M_draws_30⟩
def mm_M_leftWorth : ia_M := (⟨"IceStreetModel", "leftWorth", "()I"⟩, prog_14_method_96_code, 3, (some .int), 12, false)
theorem ok_M_leftWorth : ia_mok mm_M_leftWorth := ⟨by decide +kernel, by decide +kernel, by decide +kernel, by decide +kernel⟩
theorem mk_M_leftWorth : ia_mkn mm_M_leftWorth 1 0 := ⟨ia_tb_in (List.mem_of_getElem? (i := 2108) (by decide +kernel)) rfl, ia_tb_in (List.mem_of_getElem? (i := 146) (by decide +kernel)) rfl, by decide +kernel, by decide +kernel, ⟨ia_tb_in (List.mem_of_getElem? (i := 2107) (by decide +kernel)) rfl, ia_tb_in (List.mem_of_getElem? (i := 119) (by decide +kernel)) rfl⟩⟩
theorem ck_M_leftWorth_0 : ia_cks 12 3 false prog_14_method_96_code 0 [(.iconst 0, 0, 0, 0, 0), (.istore_n 1, 0, 0, 0, 0), (.iconst 0, 0, 0, 0, 0), (.istore_n 2, 0, 0, 0, 0)] = true := by decide +kernel
theorem ck_M_leftWorth_4 : ia_cks 12 3 false prog_14_method_96_code 4 [(.iload_n 2, 0, 0, 0, 0), (.aload_n 0, 0, 0, 0, 0), (.getfield 7, 12, 0, 3, 1), (.aload_n 0, 0, 0, 0, 0), (.getfield 201, 12, 14, 0, 0), (.iconst 4, 0, 0, 0, 0), (.iadd, 0, 0, 0, 0), (.iaload, 0, 0, 0, 0), (.if_icmp .ge 39, 0, 0, 0, 0)] = true := by decide +kernel
theorem ck_M_leftWorth_19 : ia_cks 12 3 false prog_14_method_96_code 19 [(.iload_n 1, 0, 0, 0, 0), (.aload_n 0, 0, 0, 0, 0), (.getfield 23, 12, 13, 3, 5), (.bipush 72, 0, 0, 0, 0), (.iload_n 2, 0, 0, 0, 0), (.iadd, 0, 0, 0, 0), (.iaload, 0, 0, 0, 0), (.iconst (-1), 0, 0, 0, 0), (.if_icmp .ne 7, 0, 0, 0, 0)] = true := by decide +kernel
theorem ck_M_leftWorth_37 : ia_cks 12 3 false prog_14_method_96_code 37 [(.aload_n 0, 0, 0, 0, 0), (.aload_n 0, 0, 0, 0, 0), (.getfield 201, 12, 14, 0, 0), (.iload_n 2, 0, 0, 0, 0), (.iconst 3, 0, 0, 0, 0)] = true := by decide +kernel
theorem ck_M_leftWorth_47 : ia_cks 12 3 false prog_14_method_96_code 47 [(.iadd, 0, 0, 0, 0), (.istore_n 1, 0, 0, 0, 0), (.iinc 2 1, 0, 0, 0, 0), (.goto (-48), 0, 0, 0, 0)] = true := by decide +kernel
theorem ck_M_leftWorth_33 : ia_cks 12 3 false prog_14_method_96_code 33 [(.iconst 0, 0, 0, 0, 0), (.goto 13, 0, 0, 0, 0)] = true := by decide +kernel
theorem ck_M_leftWorth_55 : ia_cks 12 3 false prog_14_method_96_code 55 [(.iload_n 1, 0, 0, 0, 0)] = true := by decide +kernel
theorem dc_M_leftWorth_44 : decode prog_14_method_96_code 44 = .ok (.invokevirtual 198, 3) := by decide +kernel
theorem dc_M_leftWorth_56 : decode prog_14_method_96_code 56 = .ok (.ireturn, 1) := by decide +kernel
def j_M_leftWorth_47 (h : ia_H) (kr : Int32 → Int32 → Option Int32) (k55 : Int32 → Option Int32) (x2 : Int32) (s0 : Int32) (s1 : Int32) : Option Int32 := kr (s0 + s1) (x2 + 1)
theorem tj_M_leftWorth_47 {w : ia_O0} {d N1 W1 : Nat} {K : ia_K} (hK : ia_isK (d + 1) mm_M_leftWorth N1 W1 K) {h : ia_H} (hg : gd_ w h) {r : Int32} (hret : ∀ (pc : Nat) (lv : ia_L), ia_ret mm_M_leftWorth pc (some (.inl r)) → K pc lv ((some (.inl r)) : Option ia_V).toList h) {kr : Int32 → Int32 → Option Int32} {k55 : Int32 → Option Int32} (hkr : ∀ (x1 : Int32) (x2 : Int32), kr x1 x2 = some r → K 4 [some (.inr (.inr 417)), some (.inl x1), some (.inl x2)] [] h) (hk55 : ∀ (x1 : Int32), k55 x1 = some r → K 55 [none, some (.inl x1), none] [] h) : ∀ (x2 : Int32) (s0 : Int32) (s1 : Int32), j_M_leftWorth_47 h kr k55 x2 s0 s1 = some r → K 47 [some (.inr (.inr 417)), none, some (.inl x2)] [.inl s1, .inl s0] h := by
  intro x2 s0 s1 hm
  unfold j_M_leftWorth_47 at hm
  refine ia_go hK ck_M_leftWorth_47 ?_
  show K 4 [some (.inr (.inr 417)), some (.inl (s0 + s1)), some (.inl (x2 + 1))] [] h
  exact hkr (s0 + s1) (x2 + 1) hm
def l_M_leftWorth_4 (h : ia_H) (k55 : Int32 → Option Int32) (n : Nat) (x1 : Int32) (x2 : Int32) : Option Int32 := match n with
  | 0 => none
  | n + 1 => ia_gd (ia_ib ((ia_i h 417 14) + 4) 6528) (if (ia_i h 418 (((ia_i h 417 14) + 4).toNatClampNeg)) ≤ x2 then (k55 x1) else (ia_gd (ia_ib (72 + x2) 1120) (if (ia_i h 422 ((72 + x2).toNatClampNeg)) = (-1) then (j_M_leftWorth_47 h (l_M_leftWorth_4 h k55 n) k55 x2 x1 0) else ((f_M_shopOf (ia_i h 417 14) x2 3 h).bind fun v3 => (j_M_leftWorth_47 h (l_M_leftWorth_4 h k55 n) k55 x2 x1 v3)))))
theorem tl_M_leftWorth_4 {w : ia_O0} {d N1 W1 : Nat} {K : ia_K} (hK : ia_isK (d + 1) mm_M_leftWorth N1 W1 K) {h : ia_H} (hg : gd_ w h) {r : Int32} (hret : ∀ (pc : Nat) (lv : ia_L), ia_ret mm_M_leftWorth pc (some (.inl r)) → K pc lv ((some (.inl r)) : Option ia_V).toList h) {k55 : Int32 → Option Int32} (hk55 : ∀ (x1 : Int32), k55 x1 = some r → K 55 [none, some (.inl x1), none] [] h) : ∀ (n : Nat) (x1 : Int32) (x2 : Int32), l_M_leftWorth_4 h k55 n x1 x2 = some r → K 4 [some (.inr (.inr 417)), some (.inl x1), some (.inl x2)] [] h := by
  intro n
  induction n with
  | zero =>
    intro x1 x2 hm
    cases (show (none : Option Int32) = some _ from hm)
  | succ n ih =>
    intro x1 x2 hm
    rw [l_M_leftWorth_4] at hm
    obtain ⟨c1, hm⟩ := ia_gd_some hm
    refine ia_go hK ck_M_leftWorth_4 ⟨gk_12 hg pk_417, gr_12_0 hg pk_417, gk_12 hg pk_417, ga_i100 hg (ka_12_0 pk_417) c1, fun c => ?_, fun c => ?_⟩
    · replace hm := ia_ifp hm c
      show K 55 [some (.inr (.inr 417)), some (.inl x1), some (.inl x2)] [] h
      refine ia_fg hK (lv' := [none, some (.inl x1), none]) ⟨rfl, trivial⟩ ?_
      exact hk55 x1 hm
    · replace hm := ia_ifn hm c
      show K 19 [some (.inr (.inr 417)), some (.inl x1), some (.inl x2)] [] h
      obtain ⟨c2, hm⟩ := ia_gd_some hm
      refine ia_go hK ck_M_leftWorth_19 ⟨gk_12 hg pk_417, gr_12_13 hg pk_417, ga_i100 hg (ka_12_13 pk_417) c2, fun c => ?_, fun c => ?_⟩
      · replace hm := ia_ifn hm c
        show K 37 [some (.inr (.inr 417)), some (.inl x1), some (.inl x2)] [.inl x1] h
        refine ia_go hK ck_M_leftWorth_37 ⟨gk_12 hg pk_417, ?_⟩
        show K 44 [some (.inr (.inr 417)), some (.inl x1), some (.inl x2)] [.inl 3, .inl x2, .inl (ia_i h 417 14), .inr (.inr 417), .inl x1] h
        obtain ⟨v3, hv3, hm⟩ := ia_bnd hm
        have ev3 := t_M_shopOf (d + 0) hg hv3
        refine ia_cV hK mk_M_shopOf lk_12_198 dc_M_leftWorth_44 417 [.inl (ia_i h 417 14), .inl x2, .inl 3] [.inl x1] rfl rfl (Nat.le_of_ble_eq_true rfl) (by decide) rfl (gk_12 hg pk_417) ev3 ⟨rfl, rfl⟩ ?_
        show K 47 [some (.inr (.inr 417)), some (.inl x1), some (.inl x2)] [.inl v3, .inl x1] h
        refine ia_fg hK (lv' := [some (.inr (.inr 417)), none, some (.inl x2)]) ⟨rfl, rfl, trivial⟩ ?_
        exact tj_M_leftWorth_47 hK hg hret ih hk55 x2 x1 v3 hm
      · replace hm := ia_ifp hm c
        show K 33 [some (.inr (.inr 417)), some (.inl x1), some (.inl x2)] [.inl x1] h
        refine ia_go hK ck_M_leftWorth_33 ?_
        show K 47 [some (.inr (.inr 417)), some (.inl x1), some (.inl x2)] [.inl 0, .inl x1] h
        refine ia_fg hK (lv' := [some (.inr (.inr 417)), none, some (.inl x2)]) ⟨rfl, rfl, trivial⟩ ?_
        exact tj_M_leftWorth_47 hK hg hret ih hk55 x2 x1 0 hm
def f_M_leftWorth (h : ia_H) : Option Int32 := l_M_leftWorth_4 h (fun x1 => some x1) fu_ 0 0
theorem t_M_leftWorth {w : ia_O0} (d : Nat) {h : ia_H} (hg : gd_ w h) {r : Int32} (hm : f_M_leftWorth h = some r) : ia_Ev (d + 1) mm_M_leftWorth [.inr (.inr 417)] h (some (.inl r)) h := by
  refine ia_Ev_intro ok_M_leftWorth (Nat.le_refl _) (Nat.le_refl _) (Nat.le_of_ble_eq_true rfl) (fun K hK hret => ?_)
  show K 0 [some (.inr (.inr 417)), none, none] [] h
  unfold f_M_leftWorth at hm
  refine ia_go hK ck_M_leftWorth_0 ?_
  show K 4 [some (.inr (.inr 417)), some (.inl 0), some (.inl 0)] [] h
  refine tl_M_leftWorth_4 hK hg hret ?_ fu_ 0 0 hm
  · intro x1 hm
    refine ia_go hK ck_M_leftWorth_55 ?_
    show K 56 [none, some (.inl x1), none] [.inl x1] h
    obtain rfl := Option.some.inj hm
    exact hret 56 _ dc_M_leftWorth_56
def mm_M_drawsBest : ia_M := (⟨"IceStreetModel", "drawsBest", "(I)I"⟩, prog_14_method_98_code, 5, (some .int), 12, false)
theorem ok_M_drawsBest : ia_mok mm_M_drawsBest := ⟨by decide +kernel, by decide +kernel, by decide +kernel, by decide +kernel⟩
theorem mk_M_drawsBest : ia_mkn mm_M_drawsBest 1 1 := ⟨ia_tb_in (List.mem_of_getElem? (i := 2096) (by decide +kernel)) rfl, ia_tb_in (List.mem_of_getElem? (i := 146) (by decide +kernel)) rfl, by decide +kernel, by decide +kernel, ⟨ia_tb_in (List.mem_of_getElem? (i := 2095) (by decide +kernel)) rfl, ia_tb_in (List.mem_of_getElem? (i := 116) (by decide +kernel)) rfl⟩⟩
theorem ck_M_drawsBest_2 : ia_cks 12 5 false prog_14_method_98_code 2 [(.istore_n 2, 0, 0, 0, 0), (.aload_n 0, 0, 0, 0, 0), (.iconst 0, 0, 0, 0, 0), (.iconst 1, 0, 0, 0, 0)] = true := by decide +kernel
theorem ck_M_drawsBest_9 : ia_cks 12 5 false prog_14_method_98_code 9 [(.iconst 0, 0, 0, 0, 0), (.istore_n 3, 0, 0, 0, 0), (.aload_n 0, 0, 0, 0, 0), (.getfield 57, 12, 32, 3, 14), (.iconst 0, 0, 0, 0, 0), (.iconst (-1), 0, 0, 0, 0), (.iastore, 0, 0, 0, 0)] = true := by decide +kernel
theorem ck_M_drawsBest_18 : ia_cks 12 5 false prog_14_method_98_code 18 [(.iload_n 3, 0, 0, 0, 0), (.ifCond .lt 117, 0, 0, 0, 0)] = true := by decide +kernel
theorem ck_M_drawsBest_22 : ia_cks 12 5 false prog_14_method_98_code 22 [(.aload_n 0, 0, 0, 0, 0), (.getfield 57, 12, 32, 3, 14), (.iload_n 3, 0, 0, 0, 0), (.dup2, 0, 0, 0, 0), (.iaload, 0, 0, 0, 0), (.iconst 1, 0, 0, 0, 0), (.iadd, 0, 0, 0, 0), (.iastore, 0, 0, 0, 0), (.aload_n 0, 0, 0, 0, 0), (.getfield 57, 12, 32, 3, 14), (.iload_n 3, 0, 0, 0, 0), (.iaload, 0, 0, 0, 0), (.bipush 6, 0, 0, 0, 0), (.if_icmp .le 9, 0, 0, 0, 0)] = true := by decide +kernel
theorem ck_M_drawsBest_49 : ia_cks 12 5 false prog_14_method_98_code 49 [(.aload_n 0, 0, 0, 0, 0), (.iload_n 3, 0, 0, 0, 0)] = true := by decide +kernel
theorem ck_M_drawsBest_54 : ia_cks 12 5 false prog_14_method_98_code 54 [(.ifCond .ne 6, 0, 0, 0, 0)] = true := by decide +kernel
theorem ck_M_drawsBest_60 : ia_cks 12 5 false prog_14_method_98_code 60 [(.iload_n 3, 0, 0, 0, 0), (.iconst 1, 0, 0, 0, 0), (.iadd, 0, 0, 0, 0), (.iload_n 1, 0, 0, 0, 0), (.if_icmp .ge 24, 0, 0, 0, 0)] = true := by decide +kernel
theorem ck_M_drawsBest_88 : ia_cks 12 5 false prog_14_method_98_code 88 [(.aload_n 0, 0, 0, 0, 0)] = true := by decide +kernel
theorem ck_M_drawsBest_92 : ia_cks 12 5 false prog_14_method_98_code 92 [(.iload_n 2, 0, 0, 0, 0), (.if_icmp .lt 6, 0, 0, 0, 0)] = true := by decide +kernel
theorem ck_M_drawsBest_99 : ia_cks 12 5 false prog_14_method_98_code 99 [(.aload_n 0, 0, 0, 0, 0)] = true := by decide +kernel
theorem ck_M_drawsBest_103 : ia_cks 12 5 false prog_14_method_98_code 103 [(.istore_n 2, 0, 0, 0, 0), (.iconst 0, 0, 0, 0, 0), (.istore 4, 0, 0, 0, 0)] = true := by decide +kernel
theorem ck_M_drawsBest_107 : ia_cks 12 5 false prog_14_method_98_code 107 [(.iload 4, 0, 0, 0, 0), (.iload_n 1, 0, 0, 0, 0), (.if_icmp .ge 23, 0, 0, 0, 0)] = true := by decide +kernel
theorem ck_M_drawsBest_113 : ia_cks 12 5 false prog_14_method_98_code 113 [(.aload_n 0, 0, 0, 0, 0), (.getfield 60, 12, 33, 3, 15), (.iload 4, 0, 0, 0, 0), (.aload_n 0, 0, 0, 0, 0), (.getfield 57, 12, 32, 3, 14), (.iload 4, 0, 0, 0, 0), (.iaload, 0, 0, 0, 0), (.iastore, 0, 0, 0, 0), (.iinc 4 1, 0, 0, 0, 0), (.goto (-23), 0, 0, 0, 0)] = true := by decide +kernel
theorem ck_M_drawsBest_133 : ia_cks 12 5 false prog_14_method_98_code 133 [(.goto (-115), 0, 0, 0, 0)] = true := by decide +kernel
theorem ck_M_drawsBest_96 : ia_cks 12 5 false prog_14_method_98_code 96 [(.goto (-78), 0, 0, 0, 0)] = true := by decide +kernel
theorem ck_M_drawsBest_67 : ia_cks 12 5 false prog_14_method_98_code 67 [(.aload_n 0, 0, 0, 0, 0), (.iconst 0, 0, 0, 0, 0), (.iconst 2, 0, 0, 0, 0), (.iload_n 3, 0, 0, 0, 0), (.iadd, 0, 0, 0, 0)] = true := by decide +kernel
theorem ck_M_drawsBest_75 : ia_cks 12 5 false prog_14_method_98_code 75 [(.iinc 3 1, 0, 0, 0, 0), (.aload_n 0, 0, 0, 0, 0), (.getfield 57, 12, 32, 3, 14), (.iload_n 3, 0, 0, 0, 0), (.iconst (-1), 0, 0, 0, 0), (.iastore, 0, 0, 0, 0), (.goto (-67), 0, 0, 0, 0)] = true := by decide +kernel
theorem ck_M_drawsBest_57 : ia_cks 12 5 false prog_14_method_98_code 57 [(.goto (-39), 0, 0, 0, 0)] = true := by decide +kernel
theorem ck_M_drawsBest_43 : ia_cks 12 5 false prog_14_method_98_code 43 [(.iinc 3 (-1), 0, 0, 0, 0), (.goto (-28), 0, 0, 0, 0)] = true := by decide +kernel
theorem ck_M_drawsBest_136 : ia_cks 12 5 false prog_14_method_98_code 136 [(.iload_n 2, 0, 0, 0, 0)] = true := by decide +kernel
theorem dc_M_drawsBest_0 : decode prog_14_method_98_code 0 = .ok (.ldc 255, 2) := by decide +kernel
theorem dc_M_drawsBest_6 : decode prog_14_method_98_code 6 = .ok (.invokevirtual 365, 3) := by decide +kernel
theorem dc_M_drawsBest_51 : decode prog_14_method_98_code 51 = .ok (.invokevirtual 368, 3) := by decide +kernel
theorem dc_M_drawsBest_89 : decode prog_14_method_98_code 89 = .ok (.invokevirtual 371, 3) := by decide +kernel
theorem dc_M_drawsBest_100 : decode prog_14_method_98_code 100 = .ok (.invokevirtual 371, 3) := by decide +kernel
theorem dc_M_drawsBest_72 : decode prog_14_method_98_code 72 = .ok (.invokevirtual 365, 3) := by decide +kernel
theorem dc_M_drawsBest_137 : decode prog_14_method_98_code 137 = .ok (.ireturn, 1) := by decide +kernel
def l_M_drawsBest_107 (x1 : Int32) (k133 : Int32 → Int32 → ia_H → Option (Int32 × ia_H)) (n : Nat) (x2 : Int32) (x3 : Int32) (x4 : Int32) (h : ia_H) : Option (Int32 × ia_H) := match n with
  | 0 => none
  | n + 1 => if x1 ≤ x4 then (k133 x2 x3 h) else (ia_gd (ia_ib x4 6) (ia_gd (ia_ib x4 6) (l_M_drawsBest_107 x1 k133 n x2 x3 (x4 + 1) (ia_wI h 432 ((x4).toNatClampNeg) (ia_i h 431 ((x4).toNatClampNeg))))))
theorem tl_M_drawsBest_107 {w : ia_O0} {d N1 W1 : Nat} {K : ia_K} (hK : ia_isK (d + 9) mm_M_drawsBest N1 W1 K) {x1 : Int32} {r : Int32} {h1 : ia_H} (hret : ∀ (pc : Nat) (lv : ia_L), ia_ret mm_M_drawsBest pc (some (.inl r)) → K pc lv ((some (.inl r)) : Option ia_V).toList h1) {k133 : Int32 → Int32 → ia_H → Option (Int32 × ia_H)} (hk133 : ∀ (x2 : Int32) (x3 : Int32) (h : ia_H), gd_ w h → k133 x2 x3 h = some (r, h1) → K 133 [some (.inr (.inr 417)), some (.inl x1), some (.inl x2), some (.inl x3), none] [] h) : ∀ (n : Nat) (x2 : Int32) (x3 : Int32) (x4 : Int32) (h : ia_H), gd_ w h → l_M_drawsBest_107 x1 k133 n x2 x3 x4 h = some (r, h1) → K 107 [some (.inr (.inr 417)), some (.inl x1), some (.inl x2), some (.inl x3), some (.inl x4)] [] h := by
  intro n
  induction n with
  | zero =>
    intro x2 x3 x4 h hg hm
    cases (show (none : Option (Int32 × ia_H)) = some _ from hm)
  | succ n ih =>
    intro x2 x3 x4 h hg hm
    rw [l_M_drawsBest_107] at hm
    refine ia_go hK ck_M_drawsBest_107 ⟨fun c => ?_, fun c => ?_⟩
    · replace hm := ia_ifp hm c
      show K 133 [some (.inr (.inr 417)), some (.inl x1), some (.inl x2), some (.inl x3), some (.inl x4)] [] h
      refine ia_fg hK (lv' := [some (.inr (.inr 417)), some (.inl x1), some (.inl x2), some (.inl x3), none]) ⟨rfl, rfl, rfl, rfl, trivial⟩ ?_
      exact hk133 x2 x3 h hg hm
    · replace hm := ia_ifn hm c
      show K 113 [some (.inr (.inr 417)), some (.inl x1), some (.inl x2), some (.inl x3), some (.inl x4)] [] h
      obtain ⟨c8, hm⟩ := ia_gd_some hm
      obtain ⟨c9, hm⟩ := ia_gd_some hm
      refine ia_go hK ck_M_drawsBest_113 ⟨gk_12 hg pk_417, gr_12_33 hg pk_417, gk_12 hg pk_417, gr_12_32 hg pk_417, ga_i100 hg (ka_12_32 pk_417) c8, ga_s100 hg (ka_12_33 pk_417) c9, ?_⟩
      show K 107 [some (.inr (.inr 417)), some (.inl x1), some (.inl x2), some (.inl x3), some (.inl (x4 + 1))] [] (ia_wI h 432 ((x4).toNatClampNeg) (ia_i h 431 ((x4).toNatClampNeg)))
      exact ih x2 x3 (x4 + 1) (ia_wI h 432 ((x4).toNatClampNeg) (ia_i h 431 ((x4).toNatClampNeg))) (gd_wI hg (kx_100 (ka_12_33 pk_417))) hm
theorem gl_M_drawsBest_107 {w : ia_O0} {x1 : Int32} {r : Int32} {h1 : ia_H} {k133 : Int32 → Int32 → ia_H → Option (Int32 × ia_H)} (hk133 : ∀ (x2 : Int32) (x3 : Int32) (h : ia_H), gd_ w h → k133 x2 x3 h = some (r, h1) → gd_ w h1) : ∀ (n : Nat) (x2 : Int32) (x3 : Int32) (x4 : Int32) (h : ia_H), gd_ w h → l_M_drawsBest_107 x1 k133 n x2 x3 x4 h = some (r, h1) → gd_ w h1 := by
  intro n
  induction n with
  | zero =>
    intro x2 x3 x4 h hg hm
    cases (show (none : Option (Int32 × ia_H)) = some _ from hm)
  | succ n ih =>
    intro x2 x3 x4 h hg hm
    rw [l_M_drawsBest_107] at hm
    by_cases c : x1 ≤ x4
    · replace hm := ia_ifp hm c
      exact hk133 x2 x3 h hg hm
    · replace hm := ia_ifn hm c
      obtain ⟨c8, hm⟩ := ia_gd_some hm
      obtain ⟨c9, hm⟩ := ia_gd_some hm
      exact ih x2 x3 (x4 + 1) (ia_wI h 432 ((x4).toNatClampNeg) (ia_i h 431 ((x4).toNatClampNeg))) (gd_wI hg (kx_100 (ka_12_33 pk_417))) hm
def l_M_drawsBest_18 (x1 : Int32) (k136 : Int32 → ia_H → Option (Int32 × ia_H)) (n : Nat) (x2 : Int32) (x3 : Int32) (h : ia_H) : Option (Int32 × ia_H) := match n with
  | 0 => none
  | n + 1 => if x3 < 0 then (k136 x2 h) else (ia_gd (ia_ib x3 6) (ia_gd (ia_ib x3 6) (ia_gd (ia_ib x3 6) (if (ia_i (ia_wI h 431 ((x3).toNatClampNeg) ((ia_i h 431 ((x3).toNatClampNeg)) + 1)) 431 ((x3).toNatClampNeg)) ≤ 6 then ((f_M_draws x3 (ia_wI h 431 ((x3).toNatClampNeg) ((ia_i h 431 ((x3).toNatClampNeg)) + 1))).bind fun v5 => (if v5.1 = 0 then (l_M_drawsBest_18 x1 k136 n x2 x3 v5.2) else (if x1 ≤ (x3 + 1) then ((f_M_leftWorth v5.2).bind fun v6 => (if v6 < x2 then ((f_M_leftWorth v5.2).bind fun v7 => (l_M_drawsBest_107 x1 (fun x2 x3 h => l_M_drawsBest_18 x1 k136 n x2 x3 h) fu_ v7 x3 0 v5.2)) else (l_M_drawsBest_18 x1 k136 n x2 x3 v5.2))) else ((f_M_copies 0 (2 + x3) v5.2).bind fun v10 => (ia_gd (ia_ib (x3 + 1) 6) (l_M_drawsBest_18 x1 k136 n x2 (x3 + 1) (ia_wI v10 431 ((x3 + 1).toNatClampNeg) (-1)))))))) else (l_M_drawsBest_18 x1 k136 n x2 (x3 + (-1)) (ia_wI h 431 ((x3).toNatClampNeg) ((ia_i h 431 ((x3).toNatClampNeg)) + 1)))))))
theorem tl_M_drawsBest_18 {w : ia_O0} {d N1 W1 : Nat} {K : ia_K} (hK : ia_isK (d + 9) mm_M_drawsBest N1 W1 K) {x1 : Int32} {r : Int32} {h1 : ia_H} (hret : ∀ (pc : Nat) (lv : ia_L), ia_ret mm_M_drawsBest pc (some (.inl r)) → K pc lv ((some (.inl r)) : Option ia_V).toList h1) {k136 : Int32 → ia_H → Option (Int32 × ia_H)} (hk136 : ∀ (x2 : Int32) (h : ia_H), gd_ w h → k136 x2 h = some (r, h1) → K 136 [none, none, some (.inl x2), none, none] [] h) : ∀ (n : Nat) (x2 : Int32) (x3 : Int32) (h : ia_H), gd_ w h → l_M_drawsBest_18 x1 k136 n x2 x3 h = some (r, h1) → K 18 [some (.inr (.inr 417)), some (.inl x1), some (.inl x2), some (.inl x3), none] [] h := by
  intro n
  induction n with
  | zero =>
    intro x2 x3 h hg hm
    cases (show (none : Option (Int32 × ia_H)) = some _ from hm)
  | succ n ih =>
    intro x2 x3 h hg hm
    rw [l_M_drawsBest_18] at hm
    refine ia_go hK ck_M_drawsBest_18 ⟨fun c => ?_, fun c => ?_⟩
    · replace hm := ia_ifp hm c
      show K 136 [some (.inr (.inr 417)), some (.inl x1), some (.inl x2), some (.inl x3), none] [] h
      refine ia_fg hK (lv' := [none, none, some (.inl x2), none, none]) ⟨rfl, trivial⟩ ?_
      exact hk136 x2 h hg hm
    · replace hm := ia_ifn hm c
      show K 22 [some (.inr (.inr 417)), some (.inl x1), some (.inl x2), some (.inl x3), none] [] h
      obtain ⟨c2, hm⟩ := ia_gd_some hm
      obtain ⟨c3, hm⟩ := ia_gd_some hm
      obtain ⟨c4, hm⟩ := ia_gd_some hm
      refine ia_go hK ck_M_drawsBest_22 ⟨gk_12 hg pk_417, gr_12_32 hg pk_417, ga_i100 hg (ka_12_32 pk_417) c2, ga_s100 hg (ka_12_32 pk_417) c3, gk_12 (gd_wI hg (kx_100 (ka_12_32 pk_417))) pk_417, gr_12_32 (gd_wI hg (kx_100 (ka_12_32 pk_417))) pk_417, ga_i100 (gd_wI hg (kx_100 (ka_12_32 pk_417))) (ka_12_32 pk_417) c4, fun c => ?_, fun c => ?_⟩
      · replace hm := ia_ifp hm c
        show K 49 [some (.inr (.inr 417)), some (.inl x1), some (.inl x2), some (.inl x3), none] [] (ia_wI h 431 ((x3).toNatClampNeg) ((ia_i h 431 ((x3).toNatClampNeg)) + 1))
        refine ia_go hK ck_M_drawsBest_49 ?_
        show K 51 [some (.inr (.inr 417)), some (.inl x1), some (.inl x2), some (.inl x3), none] [.inl x3, .inr (.inr 417)] (ia_wI h 431 ((x3).toNatClampNeg) ((ia_i h 431 ((x3).toNatClampNeg)) + 1))
        obtain ⟨v5, hv5, hm⟩ := ia_bnd hm
        have ev5 := t_M_draws (d + 0) (gd_wI hg (kx_100 (ka_12_32 pk_417))) hv5
        have gv5 := g_M_draws (gd_wI hg (kx_100 (ka_12_32 pk_417))) hv5
        refine ia_cV hK mk_M_draws lk_12_368 dc_M_drawsBest_51 417 [.inl x3] [] rfl rfl (Nat.le_of_ble_eq_true rfl) (by decide) rfl (gk_12 (gd_wI hg (kx_100 (ka_12_32 pk_417))) pk_417) ev5 (gd_nm (gd_wI hg (kx_100 (ka_12_32 pk_417))) gv5) ?_
        show K 54 [some (.inr (.inr 417)), some (.inl x1), some (.inl x2), some (.inl x3), none] [.inl v5.1] v5.2
        refine ia_go hK ck_M_drawsBest_54 ⟨fun c => ?_, fun c => ?_⟩
        · replace hm := ia_ifn hm c
          show K 60 [some (.inr (.inr 417)), some (.inl x1), some (.inl x2), some (.inl x3), none] [] v5.2
          refine ia_go hK ck_M_drawsBest_60 ⟨fun c => ?_, fun c => ?_⟩
          · replace hm := ia_ifp hm c
            show K 88 [some (.inr (.inr 417)), some (.inl x1), some (.inl x2), some (.inl x3), none] [] v5.2
            refine ia_go hK ck_M_drawsBest_88 ?_
            show K 89 [some (.inr (.inr 417)), some (.inl x1), some (.inl x2), some (.inl x3), none] [.inr (.inr 417)] v5.2
            obtain ⟨v6, hv6, hm⟩ := ia_bnd hm
            have ev6 := t_M_leftWorth (d + 7) gv5 hv6
            refine ia_cV hK mk_M_leftWorth lk_12_371 dc_M_drawsBest_89 417 [] [] rfl rfl (Nat.le_of_ble_eq_true rfl) (by decide) rfl (gk_12 gv5 pk_417) ev6 ⟨rfl, rfl⟩ ?_
            show K 92 [some (.inr (.inr 417)), some (.inl x1), some (.inl x2), some (.inl x3), none] [.inl v6] v5.2
            refine ia_go hK ck_M_drawsBest_92 ⟨fun c => ?_, fun c => ?_⟩
            · replace hm := ia_ifp hm c
              show K 99 [some (.inr (.inr 417)), some (.inl x1), some (.inl x2), some (.inl x3), none] [] v5.2
              refine ia_go hK ck_M_drawsBest_99 ?_
              show K 100 [some (.inr (.inr 417)), some (.inl x1), some (.inl x2), some (.inl x3), none] [.inr (.inr 417)] v5.2
              obtain ⟨v7, hv7, hm⟩ := ia_bnd hm
              have ev7 := t_M_leftWorth (d + 7) gv5 hv7
              refine ia_cV hK mk_M_leftWorth lk_12_371 dc_M_drawsBest_100 417 [] [] rfl rfl (Nat.le_of_ble_eq_true rfl) (by decide) rfl (gk_12 gv5 pk_417) ev7 ⟨rfl, rfl⟩ ?_
              show K 103 [some (.inr (.inr 417)), some (.inl x1), some (.inl x2), some (.inl x3), none] [.inl v7] v5.2
              refine ia_go hK ck_M_drawsBest_103 ?_
              show K 107 [some (.inr (.inr 417)), some (.inl x1), some (.inl v7), some (.inl x3), some (.inl 0)] [] v5.2
              refine tl_M_drawsBest_107 hK hret ?_ fu_ v7 x3 0 v5.2 gv5 hm
              · intro x2 x3 h hg hm
                refine ia_go hK ck_M_drawsBest_133 ?_
                show K 18 [some (.inr (.inr 417)), some (.inl x1), some (.inl x2), some (.inl x3), none] [] h
                exact ih x2 x3 h hg hm
            · replace hm := ia_ifn hm c
              show K 96 [some (.inr (.inr 417)), some (.inl x1), some (.inl x2), some (.inl x3), none] [] v5.2
              refine ia_go hK ck_M_drawsBest_96 ?_
              show K 18 [some (.inr (.inr 417)), some (.inl x1), some (.inl x2), some (.inl x3), none] [] v5.2
              exact ih x2 x3 v5.2 gv5 hm
          · replace hm := ia_ifn hm c
            show K 67 [some (.inr (.inr 417)), some (.inl x1), some (.inl x2), some (.inl x3), none] [] v5.2
            refine ia_go hK ck_M_drawsBest_67 ?_
            show K 72 [some (.inr (.inr 417)), some (.inl x1), some (.inl x2), some (.inl x3), none] [.inl (2 + x3), .inl 0, .inr (.inr 417)] v5.2
            obtain ⟨v10, hv10, hm⟩ := ia_bnd hm
            have ev10 := t_M_copies (d + 8) gv5 hv10
            have gv10 := g_M_copies gv5 hv10
            refine ia_cV hK mk_M_copies lk_12_365 dc_M_drawsBest_72 417 [.inl 0, .inl (2 + x3)] [] rfl rfl (Nat.le_of_ble_eq_true rfl) (by decide) rfl (gk_12 gv5 pk_417) ev10 (gd_nm gv5 gv10) ?_
            show K 75 [some (.inr (.inr 417)), some (.inl x1), some (.inl x2), some (.inl x3), none] [] v10
            obtain ⟨c11, hm⟩ := ia_gd_some hm
            refine ia_go hK ck_M_drawsBest_75 ⟨gk_12 gv10 pk_417, gr_12_32 gv10 pk_417, ga_s100 gv10 (ka_12_32 pk_417) c11, ?_⟩
            show K 18 [some (.inr (.inr 417)), some (.inl x1), some (.inl x2), some (.inl (x3 + 1)), none] [] (ia_wI v10 431 ((x3 + 1).toNatClampNeg) (-1))
            exact ih x2 (x3 + 1) (ia_wI v10 431 ((x3 + 1).toNatClampNeg) (-1)) (gd_wI gv10 (kx_100 (ka_12_32 pk_417))) hm
        · replace hm := ia_ifp hm c
          show K 57 [some (.inr (.inr 417)), some (.inl x1), some (.inl x2), some (.inl x3), none] [] v5.2
          refine ia_go hK ck_M_drawsBest_57 ?_
          show K 18 [some (.inr (.inr 417)), some (.inl x1), some (.inl x2), some (.inl x3), none] [] v5.2
          exact ih x2 x3 v5.2 gv5 hm
      · replace hm := ia_ifn hm c
        show K 43 [some (.inr (.inr 417)), some (.inl x1), some (.inl x2), some (.inl x3), none] [] (ia_wI h 431 ((x3).toNatClampNeg) ((ia_i h 431 ((x3).toNatClampNeg)) + 1))
        refine ia_go hK ck_M_drawsBest_43 ?_
        show K 18 [some (.inr (.inr 417)), some (.inl x1), some (.inl x2), some (.inl (x3 + (-1))), none] [] (ia_wI h 431 ((x3).toNatClampNeg) ((ia_i h 431 ((x3).toNatClampNeg)) + 1))
        exact ih x2 (x3 + (-1)) (ia_wI h 431 ((x3).toNatClampNeg) ((ia_i h 431 ((x3).toNatClampNeg)) + 1)) (gd_wI hg (kx_100 (ka_12_32 pk_417))) hm
theorem gl_M_drawsBest_18 {w : ia_O0} {x1 : Int32} {r : Int32} {h1 : ia_H} {k136 : Int32 → ia_H → Option (Int32 × ia_H)} (hk136 : ∀ (x2 : Int32) (h : ia_H), gd_ w h → k136 x2 h = some (r, h1) → gd_ w h1) : ∀ (n : Nat) (x2 : Int32) (x3 : Int32) (h : ia_H), gd_ w h → l_M_drawsBest_18 x1 k136 n x2 x3 h = some (r, h1) → gd_ w h1 := by
  intro n
  induction n with
  | zero =>
    intro x2 x3 h hg hm
    cases (show (none : Option (Int32 × ia_H)) = some _ from hm)
  | succ n ih =>
    intro x2 x3 h hg hm
    rw [l_M_drawsBest_18] at hm
    by_cases c : x3 < 0
    · replace hm := ia_ifp hm c
      exact hk136 x2 h hg hm
    · replace hm := ia_ifn hm c
      obtain ⟨c2, hm⟩ := ia_gd_some hm
      obtain ⟨c3, hm⟩ := ia_gd_some hm
      obtain ⟨c4, hm⟩ := ia_gd_some hm
      by_cases c : (ia_i (ia_wI h 431 ((x3).toNatClampNeg) ((ia_i h 431 ((x3).toNatClampNeg)) + 1)) 431 ((x3).toNatClampNeg)) ≤ 6
      · replace hm := ia_ifp hm c
        obtain ⟨v5, hv5, hm⟩ := ia_bnd hm
        have gv5 := g_M_draws (gd_wI hg (kx_100 (ka_12_32 pk_417))) hv5
        by_cases c : v5.1 = 0
        · replace hm := ia_ifp hm c
          exact ih x2 x3 v5.2 gv5 hm
        · replace hm := ia_ifn hm c
          by_cases c : x1 ≤ (x3 + 1)
          · replace hm := ia_ifp hm c
            obtain ⟨v6, hv6, hm⟩ := ia_bnd hm
            by_cases c : v6 < x2
            · replace hm := ia_ifp hm c
              obtain ⟨v7, hv7, hm⟩ := ia_bnd hm
              refine gl_M_drawsBest_107 ?_ fu_ v7 x3 0 v5.2 gv5 hm
              · intro x2 x3 h hg hm
                exact ih x2 x3 h hg hm
            · replace hm := ia_ifn hm c
              exact ih x2 x3 v5.2 gv5 hm
          · replace hm := ia_ifn hm c
            obtain ⟨v10, hv10, hm⟩ := ia_bnd hm
            have gv10 := g_M_copies gv5 hv10
            obtain ⟨c11, hm⟩ := ia_gd_some hm
            exact ih x2 (x3 + 1) (ia_wI v10 431 ((x3 + 1).toNatClampNeg) (-1)) (gd_wI gv10 (kx_100 (ka_12_32 pk_417))) hm
      · replace hm := ia_ifn hm c
        exact ih x2 (x3 + (-1)) (ia_wI h 431 ((x3).toNatClampNeg) ((ia_i h 431 ((x3).toNatClampNeg)) + 1)) (gd_wI hg (kx_100 (ka_12_32 pk_417))) hm
def f_M_drawsBest (x1 : Int32) (h : ia_H) : Option (Int32 × ia_H) := (f_M_copies 0 1 h).bind fun v1 => (l_M_drawsBest_18 x1 (fun x2 h => some (x2, h)) fu_ 1000000 0 (ia_wI v1 431 0 (-1)))
theorem g_M_drawsBest {w : ia_O0} {x1 : Int32} {h : ia_H} (hg : gd_ w h) {q : (Int32 × ia_H)} (hm : f_M_drawsBest x1 h = some q) : gd_ w q.2 := by
  obtain ⟨r, h1⟩ := q
  unfold f_M_drawsBest at hm
  obtain ⟨v1, hv1, hm⟩ := ia_bnd hm
  have gv1 := g_M_copies hg hv1
  refine gl_M_drawsBest_18 ?_ fu_ 1000000 0 (ia_wI v1 431 0 (-1)) (gd_wI gv1 (kx_100 (ka_12_32 pk_417))) hm
  · intro x2 h hg hm
    obtain ⟨rfl, rfl⟩ := Prod.mk.inj (Option.some.inj hm)
    exact hg
theorem t_M_drawsBest {w : ia_O0} (d : Nat) {x1 : Int32} {h : ia_H} (hg : gd_ w h) {q : (Int32 × ia_H)} (hm : f_M_drawsBest x1 h = some q) : ia_Ev (d + 9) mm_M_drawsBest [.inr (.inr 417), .inl x1] h (some (.inl q.1)) q.2 := by
  have gq := g_M_drawsBest hg hm
  refine ia_Ev_intro ok_M_drawsBest (gd_le hg gq).1 (gd_le hg gq).2 (Nat.le_of_ble_eq_true rfl) (fun K hK hret => ?_)
  obtain ⟨r, h1⟩ := q
  show K 0 [some (.inr (.inr 417)), some (.inl x1), none, none, none] [] h
  unfold f_M_drawsBest at hm
  refine ia_ldc hK (v := 1000000) (ia_tb_in (List.mem_of_getElem? (i := 1959) (by decide +kernel)) rfl) dc_M_drawsBest_0 ?_
  show K 2 [some (.inr (.inr 417)), some (.inl x1), none, none, none] [.inl 1000000] h
  refine ia_go hK ck_M_drawsBest_2 ?_
  show K 6 [some (.inr (.inr 417)), some (.inl x1), some (.inl 1000000), none, none] [.inl 1, .inl 0, .inr (.inr 417)] h
  obtain ⟨v1, hv1, hm⟩ := ia_bnd hm
  have ev1 := t_M_copies (d + 8) hg hv1
  have gv1 := g_M_copies hg hv1
  refine ia_cV hK mk_M_copies lk_12_365 dc_M_drawsBest_6 417 [.inl 0, .inl 1] [] rfl rfl (Nat.le_of_ble_eq_true rfl) (by decide) rfl (gk_12 hg pk_417) ev1 (gd_nm hg gv1) ?_
  show K 9 [some (.inr (.inr 417)), some (.inl x1), some (.inl 1000000), none, none] [] v1
  refine ia_go hK ck_M_drawsBest_9 ⟨gk_12 gv1 pk_417, gr_12_32 gv1 pk_417, ga_s100 gv1 (ka_12_32 pk_417) (by decide), ?_⟩
  show K 18 [some (.inr (.inr 417)), some (.inl x1), some (.inl 1000000), some (.inl 0), none] [] (ia_wI v1 431 0 (-1))
  refine tl_M_drawsBest_18 hK hret ?_ fu_ 1000000 0 (ia_wI v1 431 0 (-1)) (gd_wI gv1 (kx_100 (ka_12_32 pk_417))) hm
  · intro x2 h hg hm
    refine ia_go hK ck_M_drawsBest_136 ?_
    show K 137 [none, none, some (.inl x2), none, none] [.inl x2] h
    obtain ⟨rfl, rfl⟩ := Prod.mk.inj (Option.some.inj hm)
    exact hret 137 _ dc_M_drawsBest_137
def mm_M_drawn : ia_M := (⟨"IceStreetModel", "drawn", "(IIIIII)I"⟩, prog_14_method_99_code, 8, (some .int), 12, false)
theorem ok_M_drawn : ia_mok mm_M_drawn := ⟨by decide +kernel, by decide +kernel, by decide +kernel, by decide +kernel⟩
theorem mk_M_drawn : ia_mkn mm_M_drawn 1 6 := ⟨ia_tb_in (List.mem_of_getElem? (i := 2092) (by decide +kernel)) rfl, ia_tb_in (List.mem_of_getElem? (i := 146) (by decide +kernel)) rfl, by decide +kernel, by decide +kernel, ⟨ia_tb_in (List.mem_of_getElem? (i := 2090) (by decide +kernel)) rfl, ia_tb_in (List.mem_of_getElem? (i := 2091) (by decide +kernel)) rfl⟩⟩
theorem ck_M_drawn_0 : ia_cks 12 8 false prog_14_method_99_code 0 [(.iload 5, 0, 0, 0, 0), (.iconst 1, 0, 0, 0, 0), (.bipush 6, 0, 0, 0, 0)] = true := by decide +kernel
theorem ck_M_drawn_8 : ia_cks 12 8 false prog_14_method_99_code 8 [(.ifCond .eq 35, 0, 0, 0, 0)] = true := by decide +kernel
theorem ck_M_drawn_43 : ia_cks 12 8 false prog_14_method_99_code 43 [(.bipush (-2), 0, 0, 0, 0)] = true := by decide +kernel
theorem ck_M_drawn_11 : ia_cks 12 8 false prog_14_method_99_code 11 [(.iload 6, 0, 0, 0, 0), (.ifCond .eq 18, 0, 0, 0, 0)] = true := by decide +kernel
theorem ck_M_drawn_31 : ia_cks 12 8 false prog_14_method_99_code 31 [(.aload_n 0, 0, 0, 0, 0), (.iload_n 1, 0, 0, 0, 0), (.iload_n 2, 0, 0, 0, 0), (.iload_n 3, 0, 0, 0, 0), (.iload 4, 0, 0, 0, 0)] = true := by decide +kernel
theorem ck_M_drawn_40 : ia_cks 12 8 false prog_14_method_99_code 40 [(.ifCond .ne 6, 0, 0, 0, 0)] = true := by decide +kernel
theorem ck_M_drawn_46 : ia_cks 12 8 false prog_14_method_99_code 46 [(.aload_n 0, 0, 0, 0, 0), (.iload 5, 0, 0, 0, 0)] = true := by decide +kernel
theorem ck_M_drawn_52 : ia_cks 12 8 false prog_14_method_99_code 52 [(.istore 7, 0, 0, 0, 0), (.iload 6, 0, 0, 0, 0), (.ifCond .ne 8, 0, 0, 0, 0)] = true := by decide +kernel
theorem ck_M_drawn_64 : ia_cks 12 8 false prog_14_method_99_code 64 [(.aload_n 0, 0, 0, 0, 0), (.getfield 60, 12, 33, 3, 15), (.iload 6, 0, 0, 0, 0), (.bipush 10, 0, 0, 0, 0), (.isub, 0, 0, 0, 0), (.iaload, 0, 0, 0, 0), (.bipush 6, 0, 0, 0, 0), (.if_icmp .ne 7, 0, 0, 0, 0)] = true := by decide +kernel
theorem ck_M_drawn_83 : ia_cks 12 8 false prog_14_method_99_code 83 [(.aload_n 0, 0, 0, 0, 0), (.getfield 60, 12, 33, 3, 15), (.iload 6, 0, 0, 0, 0), (.bipush 10, 0, 0, 0, 0), (.isub, 0, 0, 0, 0), (.iaload, 0, 0, 0, 0)] = true := by decide +kernel
theorem ck_M_drawn_79 : ia_cks 12 8 false prog_14_method_99_code 79 [(.iconst (-1), 0, 0, 0, 0), (.goto 13, 0, 0, 0, 0)] = true := by decide +kernel
theorem ck_M_drawn_59 : ia_cks 12 8 false prog_14_method_99_code 59 [(.iload 7, 0, 0, 0, 0), (.goto 32, 0, 0, 0, 0)] = true := by decide +kernel
theorem ck_M_drawn_16 : ia_cks 12 8 false prog_14_method_99_code 16 [(.iload 6, 0, 0, 0, 0), (.bipush 10, 0, 0, 0, 0), (.bipush 9, 0, 0, 0, 0), (.iload 5, 0, 0, 0, 0), (.iadd, 0, 0, 0, 0)] = true := by decide +kernel
theorem ck_M_drawn_28 : ia_cks 12 8 false prog_14_method_99_code 28 [(.ifCond .eq 15, 0, 0, 0, 0)] = true := by decide +kernel
theorem dc_M_drawn_5 : decode prog_14_method_99_code 5 = .ok (.invokestatic 116, 3) := by decide +kernel
theorem dc_M_drawn_45 : decode prog_14_method_99_code 45 = .ok (.ireturn, 1) := by decide +kernel
theorem dc_M_drawn_37 : decode prog_14_method_99_code 37 = .ok (.invokevirtual 309, 3) := by decide +kernel
theorem dc_M_drawn_49 : decode prog_14_method_99_code 49 = .ok (.invokevirtual 374, 3) := by decide +kernel
theorem dc_M_drawn_93 : decode prog_14_method_99_code 93 = .ok (.ireturn, 1) := by decide +kernel
theorem dc_M_drawn_25 : decode prog_14_method_99_code 25 = .ok (.invokestatic 116, 3) := by decide +kernel
def j_M_drawn_31 (x1 : Int32) (x2 : Int32) (x3 : Int32) (x4 : Int32) (x5 : Int32) (x6 : Int32) (h : ia_H) : Option (Int32 × ia_H) := (f_M_isState x1 x2 x3 x4 h).bind fun v2 => (if v2.1 = 0 then (some ((-2), v2.2)) else ((f_M_drawsBest x5 v2.2).bind fun v3 => (if x6 = 0 then (some (v3.1, v3.2)) else (ia_gd (ia_ib (x6 - 10) 6) (if (ia_i v3.2 432 ((x6 - 10).toNatClampNeg)) = 6 then (some ((-1), v3.2)) else (ia_gd (ia_ib (x6 - 10) 6) (some (ia_i v3.2 432 ((x6 - 10).toNatClampNeg), v3.2))))))))
theorem tj_M_drawn_31 {w : ia_O0} {d N1 W1 : Nat} {K : ia_K} (hK : ia_isK (d + 11) mm_M_drawn N1 W1 K) {x1 : Int32} {x2 : Int32} {x3 : Int32} {x4 : Int32} {x5 : Int32} {x6 : Int32} {r : Int32} {h1 : ia_H} (hret : ∀ (pc : Nat) (lv : ia_L), ia_ret mm_M_drawn pc (some (.inl r)) → K pc lv ((some (.inl r)) : Option ia_V).toList h1) : ∀ (h : ia_H), gd_ w h → j_M_drawn_31 x1 x2 x3 x4 x5 x6 h = some (r, h1) → K 31 [some (.inr (.inr 417)), some (.inl x1), some (.inl x2), some (.inl x3), some (.inl x4), some (.inl x5), some (.inl x6), none] [] h := by
  intro h hg hm
  unfold j_M_drawn_31 at hm
  refine ia_go hK ck_M_drawn_31 ?_
  show K 37 [some (.inr (.inr 417)), some (.inl x1), some (.inl x2), some (.inl x3), some (.inl x4), some (.inl x5), some (.inl x6), none] [.inl x4, .inl x3, .inl x2, .inl x1, .inr (.inr 417)] h
  obtain ⟨v2, hv2, hm⟩ := ia_bnd hm
  have ev2 := t_M_isState (d + 0) hg hv2
  have gv2 := g_M_isState hg hv2
  refine ia_cV hK mk_M_isState lk_12_309 dc_M_drawn_37 417 [.inl x1, .inl x2, .inl x3, .inl x4] [] rfl rfl (Nat.le_of_ble_eq_true rfl) (by decide) rfl (gk_12 hg pk_417) ev2 (gd_nm hg gv2) ?_
  show K 40 [some (.inr (.inr 417)), some (.inl x1), some (.inl x2), some (.inl x3), some (.inl x4), some (.inl x5), some (.inl x6), none] [.inl v2.1] v2.2
  refine ia_go hK ck_M_drawn_40 ⟨fun c => ?_, fun c => ?_⟩
  · replace hm := ia_ifn hm c
    show K 46 [some (.inr (.inr 417)), some (.inl x1), some (.inl x2), some (.inl x3), some (.inl x4), some (.inl x5), some (.inl x6), none] [] v2.2
    refine ia_go hK ck_M_drawn_46 ?_
    show K 49 [some (.inr (.inr 417)), some (.inl x1), some (.inl x2), some (.inl x3), some (.inl x4), some (.inl x5), some (.inl x6), none] [.inl x5, .inr (.inr 417)] v2.2
    obtain ⟨v3, hv3, hm⟩ := ia_bnd hm
    have ev3 := t_M_drawsBest (d + 1) gv2 hv3
    have gv3 := g_M_drawsBest gv2 hv3
    refine ia_cV hK mk_M_drawsBest lk_12_374 dc_M_drawn_49 417 [.inl x5] [] rfl rfl (Nat.le_of_ble_eq_true rfl) (by decide) rfl (gk_12 gv2 pk_417) ev3 (gd_nm gv2 gv3) ?_
    show K 52 [some (.inr (.inr 417)), some (.inl x1), some (.inl x2), some (.inl x3), some (.inl x4), some (.inl x5), some (.inl x6), none] [.inl v3.1] v3.2
    refine ia_go hK ck_M_drawn_52 ⟨fun c => ?_, fun c => ?_⟩
    · replace hm := ia_ifn hm c
      show K 64 [some (.inr (.inr 417)), some (.inl x1), some (.inl x2), some (.inl x3), some (.inl x4), some (.inl x5), some (.inl x6), some (.inl v3.1)] [] v3.2
      obtain ⟨c4, hm⟩ := ia_gd_some hm
      refine ia_go hK ck_M_drawn_64 ⟨gk_12 gv3 pk_417, gr_12_33 gv3 pk_417, ga_i100 gv3 (ka_12_33 pk_417) c4, fun c => ?_, fun c => ?_⟩
      · replace hm := ia_ifn hm c
        show K 83 [some (.inr (.inr 417)), some (.inl x1), some (.inl x2), some (.inl x3), some (.inl x4), some (.inl x5), some (.inl x6), some (.inl v3.1)] [] v3.2
        obtain ⟨c5, hm⟩ := ia_gd_some hm
        refine ia_go hK ck_M_drawn_83 ⟨gk_12 gv3 pk_417, gr_12_33 gv3 pk_417, ga_i100 gv3 (ka_12_33 pk_417) c5, ?_⟩
        show K 93 [some (.inr (.inr 417)), some (.inl x1), some (.inl x2), some (.inl x3), some (.inl x4), some (.inl x5), some (.inl x6), some (.inl v3.1)] [.inl (ia_i v3.2 432 ((x6 - 10).toNatClampNeg))] v3.2
        obtain ⟨rfl, rfl⟩ := Prod.mk.inj (Option.some.inj hm)
        exact hret 93 _ dc_M_drawn_93
      · replace hm := ia_ifp hm c
        show K 79 [some (.inr (.inr 417)), some (.inl x1), some (.inl x2), some (.inl x3), some (.inl x4), some (.inl x5), some (.inl x6), some (.inl v3.1)] [] v3.2
        refine ia_go hK ck_M_drawn_79 ?_
        show K 93 [some (.inr (.inr 417)), some (.inl x1), some (.inl x2), some (.inl x3), some (.inl x4), some (.inl x5), some (.inl x6), some (.inl v3.1)] [.inl (-1)] v3.2
        obtain ⟨rfl, rfl⟩ := Prod.mk.inj (Option.some.inj hm)
        exact hret 93 _ dc_M_drawn_93
    · replace hm := ia_ifp hm c
      show K 59 [some (.inr (.inr 417)), some (.inl x1), some (.inl x2), some (.inl x3), some (.inl x4), some (.inl x5), some (.inl x6), some (.inl v3.1)] [] v3.2
      refine ia_go hK ck_M_drawn_59 ?_
      show K 93 [some (.inr (.inr 417)), some (.inl x1), some (.inl x2), some (.inl x3), some (.inl x4), some (.inl x5), some (.inl x6), some (.inl v3.1)] [.inl v3.1] v3.2
      obtain ⟨rfl, rfl⟩ := Prod.mk.inj (Option.some.inj hm)
      exact hret 93 _ dc_M_drawn_93
  · replace hm := ia_ifp hm c
    show K 43 [some (.inr (.inr 417)), some (.inl x1), some (.inl x2), some (.inl x3), some (.inl x4), some (.inl x5), some (.inl x6), none] [] v2.2
    refine ia_go hK ck_M_drawn_43 ?_
    show K 45 [some (.inr (.inr 417)), some (.inl x1), some (.inl x2), some (.inl x3), some (.inl x4), some (.inl x5), some (.inl x6), none] [.inl (-2)] v2.2
    obtain ⟨rfl, rfl⟩ := Prod.mk.inj (Option.some.inj hm)
    exact hret 45 _ dc_M_drawn_45
theorem gj_M_drawn_31 {w : ia_O0} {x1 : Int32} {x2 : Int32} {x3 : Int32} {x4 : Int32} {x5 : Int32} {x6 : Int32} {r : Int32} {h1 : ia_H} : ∀ (h : ia_H), gd_ w h → j_M_drawn_31 x1 x2 x3 x4 x5 x6 h = some (r, h1) → gd_ w h1 := by
  intro h hg hm
  unfold j_M_drawn_31 at hm
  obtain ⟨v2, hv2, hm⟩ := ia_bnd hm
  have gv2 := g_M_isState hg hv2
  by_cases c : v2.1 = 0
  · replace hm := ia_ifp hm c
    obtain ⟨rfl, rfl⟩ := Prod.mk.inj (Option.some.inj hm)
    exact gv2
  · replace hm := ia_ifn hm c
    obtain ⟨v3, hv3, hm⟩ := ia_bnd hm
    have gv3 := g_M_drawsBest gv2 hv3
    by_cases c : x6 = 0
    · replace hm := ia_ifp hm c
      obtain ⟨rfl, rfl⟩ := Prod.mk.inj (Option.some.inj hm)
      exact gv3
    · replace hm := ia_ifn hm c
      obtain ⟨c4, hm⟩ := ia_gd_some hm
      by_cases c : (ia_i v3.2 432 ((x6 - 10).toNatClampNeg)) = 6
      · replace hm := ia_ifp hm c
        obtain ⟨rfl, rfl⟩ := Prod.mk.inj (Option.some.inj hm)
        exact gv3
      · replace hm := ia_ifn hm c
        obtain ⟨c5, hm⟩ := ia_gd_some hm
        obtain ⟨rfl, rfl⟩ := Prod.mk.inj (Option.some.inj hm)
        exact gv3
def f_M_drawn (x1 : Int32) (x2 : Int32) (x3 : Int32) (x4 : Int32) (x5 : Int32) (x6 : Int32) (h : ia_H) : Option (Int32 × ia_H) := (f_M_isIn x5 1 6 h).bind fun v1 => (if v1 = 0 then (some ((-2), h)) else (if x6 = 0 then (j_M_drawn_31 x1 x2 x3 x4 x5 x6 h) else ((f_M_isIn x6 10 (9 + x5) h).bind fun v6 => (if v6 = 0 then (some ((-2), h)) else (j_M_drawn_31 x1 x2 x3 x4 x5 x6 h)))))
theorem g_M_drawn {w : ia_O0} {x1 : Int32} {x2 : Int32} {x3 : Int32} {x4 : Int32} {x5 : Int32} {x6 : Int32} {h : ia_H} (hg : gd_ w h) {q : (Int32 × ia_H)} (hm : f_M_drawn x1 x2 x3 x4 x5 x6 h = some q) : gd_ w q.2 := by
  obtain ⟨r, h1⟩ := q
  unfold f_M_drawn at hm
  obtain ⟨v1, hv1, hm⟩ := ia_bnd hm
  by_cases c : v1 = 0
  · replace hm := ia_ifp hm c
    obtain ⟨rfl, rfl⟩ := Prod.mk.inj (Option.some.inj hm)
    exact hg
  · replace hm := ia_ifn hm c
    by_cases c : x6 = 0
    · replace hm := ia_ifp hm c
      exact gj_M_drawn_31 h hg hm
    · replace hm := ia_ifn hm c
      obtain ⟨v6, hv6, hm⟩ := ia_bnd hm
      by_cases c : v6 = 0
      · replace hm := ia_ifp hm c
        obtain ⟨rfl, rfl⟩ := Prod.mk.inj (Option.some.inj hm)
        exact hg
      · replace hm := ia_ifn hm c
        exact gj_M_drawn_31 h hg hm
theorem t_M_drawn {w : ia_O0} (d : Nat) {x1 : Int32} {x2 : Int32} {x3 : Int32} {x4 : Int32} {x5 : Int32} {x6 : Int32} {h : ia_H} (hg : gd_ w h) {q : (Int32 × ia_H)} (hm : f_M_drawn x1 x2 x3 x4 x5 x6 h = some q) : ia_Ev (d + 11) mm_M_drawn [.inr (.inr 417), .inl x1, .inl x2, .inl x3, .inl x4, .inl x5, .inl x6] h (some (.inl q.1)) q.2 := by
  have gq := g_M_drawn hg hm
  refine ia_Ev_intro ok_M_drawn (gd_le hg gq).1 (gd_le hg gq).2 (Nat.le_of_ble_eq_true rfl) (fun K hK hret => ?_)
  obtain ⟨r, h1⟩ := q
  show K 0 [some (.inr (.inr 417)), some (.inl x1), some (.inl x2), some (.inl x3), some (.inl x4), some (.inl x5), some (.inl x6), none] [] h
  unfold f_M_drawn at hm
  refine ia_go hK ck_M_drawn_0 ?_
  show K 5 [some (.inr (.inr 417)), some (.inl x1), some (.inl x2), some (.inl x3), some (.inl x4), some (.inl x5), some (.inl x6), none] [.inl 6, .inl 1, .inl x5] h
  obtain ⟨v1, hv1, hm⟩ := ia_bnd hm
  have ev1 := t_M_isIn (d + 10) hg hv1
  refine ia_cS hK mk_M_isIn lk_12_116 dc_M_drawn_5 [.inl x5, .inl 1, .inl 6] [] rfl rfl (Nat.le_of_ble_eq_true rfl) ev1 ⟨rfl, rfl⟩ ?_
  show K 8 [some (.inr (.inr 417)), some (.inl x1), some (.inl x2), some (.inl x3), some (.inl x4), some (.inl x5), some (.inl x6), none] [.inl v1] h
  refine ia_go hK ck_M_drawn_8 ⟨fun c => ?_, fun c => ?_⟩
  · replace hm := ia_ifp hm c
    show K 43 [some (.inr (.inr 417)), some (.inl x1), some (.inl x2), some (.inl x3), some (.inl x4), some (.inl x5), some (.inl x6), none] [] h
    refine ia_go hK ck_M_drawn_43 ?_
    show K 45 [some (.inr (.inr 417)), some (.inl x1), some (.inl x2), some (.inl x3), some (.inl x4), some (.inl x5), some (.inl x6), none] [.inl (-2)] h
    obtain ⟨rfl, rfl⟩ := Prod.mk.inj (Option.some.inj hm)
    exact hret 45 _ dc_M_drawn_45
  · replace hm := ia_ifn hm c
    show K 11 [some (.inr (.inr 417)), some (.inl x1), some (.inl x2), some (.inl x3), some (.inl x4), some (.inl x5), some (.inl x6), none] [] h
    refine ia_go hK ck_M_drawn_11 ⟨fun c => ?_, fun c => ?_⟩
    · replace hm := ia_ifp hm c
      show K 31 [some (.inr (.inr 417)), some (.inl x1), some (.inl x2), some (.inl x3), some (.inl x4), some (.inl x5), some (.inl x6), none] [] h
      exact tj_M_drawn_31 hK hret h hg hm
    · replace hm := ia_ifn hm c
      show K 16 [some (.inr (.inr 417)), some (.inl x1), some (.inl x2), some (.inl x3), some (.inl x4), some (.inl x5), some (.inl x6), none] [] h
      refine ia_go hK ck_M_drawn_16 ?_
      show K 25 [some (.inr (.inr 417)), some (.inl x1), some (.inl x2), some (.inl x3), some (.inl x4), some (.inl x5), some (.inl x6), none] [.inl (9 + x5), .inl 10, .inl x6] h
      obtain ⟨v6, hv6, hm⟩ := ia_bnd hm
      have ev6 := t_M_isIn (d + 10) hg hv6
      refine ia_cS hK mk_M_isIn lk_12_116 dc_M_drawn_25 [.inl x6, .inl 10, .inl (9 + x5)] [] rfl rfl (Nat.le_of_ble_eq_true rfl) ev6 ⟨rfl, rfl⟩ ?_
      show K 28 [some (.inr (.inr 417)), some (.inl x1), some (.inl x2), some (.inl x3), some (.inl x4), some (.inl x5), some (.inl x6), none] [.inl v6] h
      refine ia_go hK ck_M_drawn_28 ⟨fun c => ?_, fun c => ?_⟩
      · replace hm := ia_ifp hm c
        show K 43 [some (.inr (.inr 417)), some (.inl x1), some (.inl x2), some (.inl x3), some (.inl x4), some (.inl x5), some (.inl x6), none] [] h
        refine ia_go hK ck_M_drawn_43 ?_
        show K 45 [some (.inr (.inr 417)), some (.inl x1), some (.inl x2), some (.inl x3), some (.inl x4), some (.inl x5), some (.inl x6), none] [.inl (-2)] h
        obtain ⟨rfl, rfl⟩ := Prod.mk.inj (Option.some.inj hm)
        exact hret 45 _ dc_M_drawn_45
      · replace hm := ia_ifn hm c
        show K 31 [some (.inr (.inr 417)), some (.inl x1), some (.inl x2), some (.inl x3), some (.inl x4), some (.inl x5), some (.inl x6), none] [] h
        exact tj_M_drawn_31 hK hret h hg hm
def mm_M_set : ia_M := (⟨"IceStreetModel", "set", "(IIIII)I"⟩, prog_14_method_100_code, 10, (some .int), 12, false)
theorem ok_M_set : ia_mok mm_M_set := ⟨by decide +kernel, by decide +kernel, by decide +kernel, by decide +kernel⟩
theorem mk_M_set : ia_mkn mm_M_set 1 5 := ⟨ia_tb_in (List.mem_of_getElem? (i := 2112) (by decide +kernel)) rfl, ia_tb_in (List.mem_of_getElem? (i := 146) (by decide +kernel)) rfl, by decide +kernel, by decide +kernel, ⟨ia_tb_in (List.mem_of_getElem? (i := 2110) (by decide +kernel)) rfl, ia_tb_in (List.mem_of_getElem? (i := 2111) (by decide +kernel)) rfl⟩⟩
theorem ck_M_set_0 : ia_cks 12 10 false prog_14_method_100_code 0 [(.aload_n 0, 0, 0, 0, 0), (.iload_n 1, 0, 0, 0, 0), (.iload_n 2, 0, 0, 0, 0), (.iload_n 3, 0, 0, 0, 0), (.iload 4, 0, 0, 0, 0), (.iload 5, 0, 0, 0, 0)] = true := by decide +kernel
theorem ck_M_set_11 : ia_cks 12 10 false prog_14_method_100_code 11 [(.ifCond .ne 5, 0, 0, 0, 0)] = true := by decide +kernel
theorem ck_M_set_16 : ia_cks 12 10 false prog_14_method_100_code 16 [(.aload_n 0, 0, 0, 0, 0), (.iconst 0, 0, 0, 0, 0), (.iconst 1, 0, 0, 0, 0)] = true := by decide +kernel
theorem ck_M_set_22 : ia_cks 12 10 false prog_14_method_100_code 22 [(.iconst (-1), 0, 0, 0, 0), (.istore 6, 0, 0, 0, 0), (.iconst (-1), 0, 0, 0, 0), (.istore 7, 0, 0, 0, 0), (.iconst 0, 0, 0, 0, 0), (.istore 8, 0, 0, 0, 0)] = true := by decide +kernel
theorem ck_M_set_31 : ia_cks 12 10 false prog_14_method_100_code 31 [(.iload 8, 0, 0, 0, 0), (.aload_n 0, 0, 0, 0, 0)] = true := by decide +kernel
theorem ck_M_set_37 : ia_cks 12 10 false prog_14_method_100_code 37 [(.if_icmp .ge 86, 0, 0, 0, 0)] = true := by decide +kernel
theorem ck_M_set_40 : ia_cks 12 10 false prog_14_method_100_code 40 [(.aload_n 0, 0, 0, 0, 0), (.iconst 1, 0, 0, 0, 0), (.iconst 0, 0, 0, 0, 0)] = true := by decide +kernel
theorem ck_M_set_46 : ia_cks 12 10 false prog_14_method_100_code 46 [(.iload 8, 0, 0, 0, 0), (.aload_n 0, 0, 0, 0, 0), (.getfield 23, 12, 13, 3, 5), (.bipush 72, 0, 0, 0, 0), (.iload 5, 0, 0, 0, 0), (.iadd, 0, 0, 0, 0), (.iaload, 0, 0, 0, 0), (.if_icmp .eq 17, 0, 0, 0, 0)] = true := by decide +kernel
theorem ck_M_set_75 : ia_cks 12 10 false prog_14_method_100_code 75 [(.aload_n 0, 0, 0, 0, 0), (.getfield 23, 12, 13, 3, 5), (.bipush 72, 0, 0, 0, 0), (.iload 5, 0, 0, 0, 0), (.iadd, 0, 0, 0, 0), (.iload 8, 0, 0, 0, 0), (.iastore, 0, 0, 0, 0), (.aload_n 0, 0, 0, 0, 0)] = true := by decide +kernel
theorem ck_M_set_91 : ia_cks 12 10 false prog_14_method_100_code 91 [(.aload_n 0, 0, 0, 0, 0), (.iload 5, 0, 0, 0, 0)] = true := by decide +kernel
theorem ck_M_set_97 : ia_cks 12 10 false prog_14_method_100_code 97 [(.istore 9, 0, 0, 0, 0), (.iload 9, 0, 0, 0, 0), (.iload 7, 0, 0, 0, 0), (.if_icmp .gt 6, 0, 0, 0, 0)] = true := by decide +kernel
theorem ck_M_set_109 : ia_cks 12 10 false prog_14_method_100_code 109 [(.iload 8, 0, 0, 0, 0), (.istore 6, 0, 0, 0, 0), (.iload 9, 0, 0, 0, 0), (.istore 7, 0, 0, 0, 0), (.iinc 8 1, 0, 0, 0, 0), (.goto (-89), 0, 0, 0, 0)] = true := by decide +kernel
theorem ck_M_set_106 : ia_cks 12 10 false prog_14_method_100_code 106 [(.goto 11, 0, 0, 0, 0)] = true := by decide +kernel
theorem ck_M_set_117 : ia_cks 12 10 false prog_14_method_100_code 117 [(.iinc 8 1, 0, 0, 0, 0), (.goto (-89), 0, 0, 0, 0)] = true := by decide +kernel
theorem ck_M_set_61 : ia_cks 12 10 false prog_14_method_100_code 61 [(.aload_n 0, 0, 0, 0, 0), (.iload 5, 0, 0, 0, 0), (.iload 8, 0, 0, 0, 0)] = true := by decide +kernel
theorem ck_M_set_69 : ia_cks 12 10 false prog_14_method_100_code 69 [(.ifCond .ne 6, 0, 0, 0, 0)] = true := by decide +kernel
theorem ck_M_set_72 : ia_cks 12 10 false prog_14_method_100_code 72 [(.goto 45, 0, 0, 0, 0)] = true := by decide +kernel
theorem ck_M_set_123 : ia_cks 12 10 false prog_14_method_100_code 123 [(.iload 6, 0, 0, 0, 0)] = true := by decide +kernel
theorem ck_M_set_14 : ia_cks 12 10 false prog_14_method_100_code 14 [(.iconst (-1), 0, 0, 0, 0)] = true := by decide +kernel
theorem dc_M_set_8 : decode prog_14_method_100_code 8 = .ok (.invokevirtual 356, 3) := by decide +kernel
theorem dc_M_set_19 : decode prog_14_method_100_code 19 = .ok (.invokevirtual 365, 3) := by decide +kernel
theorem dc_M_set_34 : decode prog_14_method_100_code 34 = .ok (.invokevirtual 234, 3) := by decide +kernel
theorem dc_M_set_43 : decode prog_14_method_100_code 43 = .ok (.invokevirtual 365, 3) := by decide +kernel
theorem dc_M_set_88 : decode prog_14_method_100_code 88 = .ok (.invokevirtual 240, 3) := by decide +kernel
theorem dc_M_set_94 : decode prog_14_method_100_code 94 = .ok (.invokevirtual 359, 3) := by decide +kernel
theorem dc_M_set_66 : decode prog_14_method_100_code 66 = .ok (.invokevirtual 281, 3) := by decide +kernel
theorem dc_M_set_125 : decode prog_14_method_100_code 125 = .ok (.ireturn, 1) := by decide +kernel
theorem dc_M_set_15 : decode prog_14_method_100_code 15 = .ok (.ireturn, 1) := by decide +kernel
def j_M_set_75 (x1 : Int32) (x2 : Int32) (x3 : Int32) (x4 : Int32) (x5 : Int32) (kr : Int32 → Int32 → Int32 → ia_H → Option (Int32 × ia_H)) (k123 : Int32 → ia_H → Option (Int32 × ia_H)) (x6 : Int32) (x7 : Int32) (x8 : Int32) (h : ia_H) : Option (Int32 × ia_H) := ia_gd (ia_ib (72 + x5) 1120) ((f_M_falls (ia_wI h 422 ((72 + x5).toNatClampNeg) x8)).bind fun v7 => ((f_M_holdsFor x5 v7).bind fun v8 => (if x7 < v8.1 then (kr x8 v8.1 (x8 + 1) v8.2) else (kr x6 x7 (x8 + 1) v8.2))))
theorem tj_M_set_75 {w : ia_O0} {d N1 W1 : Nat} {K : ia_K} (hK : ia_isK (d + 12) mm_M_set N1 W1 K) {x1 : Int32} {x2 : Int32} {x3 : Int32} {x4 : Int32} {x5 : Int32} {r : Int32} {h1 : ia_H} (hret : ∀ (pc : Nat) (lv : ia_L), ia_ret mm_M_set pc (some (.inl r)) → K pc lv ((some (.inl r)) : Option ia_V).toList h1) {kr : Int32 → Int32 → Int32 → ia_H → Option (Int32 × ia_H)} {k123 : Int32 → ia_H → Option (Int32 × ia_H)} (hkr : ∀ (x6 : Int32) (x7 : Int32) (x8 : Int32) (h : ia_H), gd_ w h → kr x6 x7 x8 h = some (r, h1) → K 31 [some (.inr (.inr 417)), none, none, none, none, some (.inl x5), some (.inl x6), some (.inl x7), some (.inl x8), none] [] h) (hk123 : ∀ (x6 : Int32) (h : ia_H), gd_ w h → k123 x6 h = some (r, h1) → K 123 [none, none, none, none, none, none, some (.inl x6), none, none, none] [] h) : ∀ (x6 : Int32) (x7 : Int32) (x8 : Int32) (h : ia_H), gd_ w h → j_M_set_75 x1 x2 x3 x4 x5 kr k123 x6 x7 x8 h = some (r, h1) → K 75 [some (.inr (.inr 417)), none, none, none, none, some (.inl x5), some (.inl x6), some (.inl x7), some (.inl x8), none] [] h := by
  intro x6 x7 x8 h hg hm
  unfold j_M_set_75 at hm
  obtain ⟨c6, hm⟩ := ia_gd_some hm
  refine ia_go hK ck_M_set_75 ⟨gk_12 hg pk_417, gr_12_13 hg pk_417, ga_s100 hg (ka_12_13 pk_417) c6, ?_⟩
  show K 88 [some (.inr (.inr 417)), none, none, none, none, some (.inl x5), some (.inl x6), some (.inl x7), some (.inl x8), none] [.inr (.inr 417)] (ia_wI h 422 ((72 + x5).toNatClampNeg) x8)
  obtain ⟨v7, hv7, hm⟩ := ia_bnd hm
  have ev7 := t_M_falls (d + 6) (gd_wI hg (kx_100 (ka_12_13 pk_417))) hv7
  have gv7 := g_M_falls (gd_wI hg (kx_100 (ka_12_13 pk_417))) hv7
  refine ia_cV hK mk_M_falls lk_12_240 dc_M_set_88 417 [] [] rfl rfl (Nat.le_of_ble_eq_true rfl) (by decide) rfl (gk_12 (gd_wI hg (kx_100 (ka_12_13 pk_417))) pk_417) ev7 (gd_nm (gd_wI hg (kx_100 (ka_12_13 pk_417))) gv7) ?_
  show K 91 [some (.inr (.inr 417)), none, none, none, none, some (.inl x5), some (.inl x6), some (.inl x7), some (.inl x8), none] [] v7
  refine ia_go hK ck_M_set_91 ?_
  show K 94 [some (.inr (.inr 417)), none, none, none, none, some (.inl x5), some (.inl x6), some (.inl x7), some (.inl x8), none] [.inl x5, .inr (.inr 417)] v7
  obtain ⟨v8, hv8, hm⟩ := ia_bnd hm
  have ev8 := t_M_holdsFor (d + 3) gv7 hv8
  have gv8 := g_M_holdsFor gv7 hv8
  refine ia_cV hK mk_M_holdsFor lk_12_359 dc_M_set_94 417 [.inl x5] [] rfl rfl (Nat.le_of_ble_eq_true rfl) (by decide) rfl (gk_12 gv7 pk_417) ev8 (gd_nm gv7 gv8) ?_
  show K 97 [some (.inr (.inr 417)), none, none, none, none, some (.inl x5), some (.inl x6), some (.inl x7), some (.inl x8), none] [.inl v8.1] v8.2
  refine ia_go hK ck_M_set_97 ⟨fun c => ?_, fun c => ?_⟩
  · replace hm := ia_ifp hm c
    show K 109 [some (.inr (.inr 417)), none, none, none, none, some (.inl x5), some (.inl x6), some (.inl x7), some (.inl x8), some (.inl v8.1)] [] v8.2
    refine ia_go hK ck_M_set_109 ?_
    show K 31 [some (.inr (.inr 417)), none, none, none, none, some (.inl x5), some (.inl x8), some (.inl v8.1), some (.inl (x8 + 1)), some (.inl v8.1)] [] v8.2
    refine ia_fg hK (lv' := [some (.inr (.inr 417)), none, none, none, none, some (.inl x5), some (.inl x8), some (.inl v8.1), some (.inl (x8 + 1)), none]) ⟨rfl, rfl, rfl, rfl, rfl, trivial⟩ ?_
    exact hkr x8 v8.1 (x8 + 1) v8.2 gv8 hm
  · replace hm := ia_ifn hm c
    show K 106 [some (.inr (.inr 417)), none, none, none, none, some (.inl x5), some (.inl x6), some (.inl x7), some (.inl x8), some (.inl v8.1)] [] v8.2
    refine ia_go hK ck_M_set_106 ?_
    show K 117 [some (.inr (.inr 417)), none, none, none, none, some (.inl x5), some (.inl x6), some (.inl x7), some (.inl x8), some (.inl v8.1)] [] v8.2
    refine ia_go hK ck_M_set_117 ?_
    show K 31 [some (.inr (.inr 417)), none, none, none, none, some (.inl x5), some (.inl x6), some (.inl x7), some (.inl (x8 + 1)), some (.inl v8.1)] [] v8.2
    refine ia_fg hK (lv' := [some (.inr (.inr 417)), none, none, none, none, some (.inl x5), some (.inl x6), some (.inl x7), some (.inl (x8 + 1)), none]) ⟨rfl, rfl, rfl, rfl, rfl, trivial⟩ ?_
    exact hkr x6 x7 (x8 + 1) v8.2 gv8 hm
theorem gj_M_set_75 {w : ia_O0} {x1 : Int32} {x2 : Int32} {x3 : Int32} {x4 : Int32} {x5 : Int32} {r : Int32} {h1 : ia_H} {kr : Int32 → Int32 → Int32 → ia_H → Option (Int32 × ia_H)} {k123 : Int32 → ia_H → Option (Int32 × ia_H)} (hkr : ∀ (x6 : Int32) (x7 : Int32) (x8 : Int32) (h : ia_H), gd_ w h → kr x6 x7 x8 h = some (r, h1) → gd_ w h1) (hk123 : ∀ (x6 : Int32) (h : ia_H), gd_ w h → k123 x6 h = some (r, h1) → gd_ w h1) : ∀ (x6 : Int32) (x7 : Int32) (x8 : Int32) (h : ia_H), gd_ w h → j_M_set_75 x1 x2 x3 x4 x5 kr k123 x6 x7 x8 h = some (r, h1) → gd_ w h1 := by
  intro x6 x7 x8 h hg hm
  unfold j_M_set_75 at hm
  obtain ⟨c6, hm⟩ := ia_gd_some hm
  obtain ⟨v7, hv7, hm⟩ := ia_bnd hm
  have gv7 := g_M_falls (gd_wI hg (kx_100 (ka_12_13 pk_417))) hv7
  obtain ⟨v8, hv8, hm⟩ := ia_bnd hm
  have gv8 := g_M_holdsFor gv7 hv8
  by_cases c : x7 < v8.1
  · replace hm := ia_ifp hm c
    exact hkr x8 v8.1 (x8 + 1) v8.2 gv8 hm
  · replace hm := ia_ifn hm c
    exact hkr x6 x7 (x8 + 1) v8.2 gv8 hm
def l_M_set_31 (x1 : Int32) (x2 : Int32) (x3 : Int32) (x4 : Int32) (x5 : Int32) (k123 : Int32 → ia_H → Option (Int32 × ia_H)) (n : Nat) (x6 : Int32) (x7 : Int32) (x8 : Int32) (h : ia_H) : Option (Int32 × ia_H) := match n with
  | 0 => none
  | n + 1 => (f_M_cells h).bind fun v3 => (if v3 ≤ x8 then (k123 x6 h) else ((f_M_copies 1 0 h).bind fun v4 => (ia_gd (ia_ib (72 + x5) 1120) (if x8 = (ia_i v4 422 ((72 + x5).toNatClampNeg)) then (j_M_set_75 x1 x2 x3 x4 x5 (l_M_set_31 x1 x2 x3 x4 x5 k123 n) k123 x6 x7 x8 v4) else ((f_M_canMove x5 x8 v4).bind fun v9 => (if v9.1 = 0 then (l_M_set_31 x1 x2 x3 x4 x5 k123 n x6 x7 (x8 + 1) v9.2) else (j_M_set_75 x1 x2 x3 x4 x5 (l_M_set_31 x1 x2 x3 x4 x5 k123 n) k123 x6 x7 x8 v9.2)))))))
theorem tl_M_set_31 {w : ia_O0} {d N1 W1 : Nat} {K : ia_K} (hK : ia_isK (d + 12) mm_M_set N1 W1 K) {x1 : Int32} {x2 : Int32} {x3 : Int32} {x4 : Int32} {x5 : Int32} {r : Int32} {h1 : ia_H} (hret : ∀ (pc : Nat) (lv : ia_L), ia_ret mm_M_set pc (some (.inl r)) → K pc lv ((some (.inl r)) : Option ia_V).toList h1) {k123 : Int32 → ia_H → Option (Int32 × ia_H)} (hk123 : ∀ (x6 : Int32) (h : ia_H), gd_ w h → k123 x6 h = some (r, h1) → K 123 [none, none, none, none, none, none, some (.inl x6), none, none, none] [] h) : ∀ (n : Nat) (x6 : Int32) (x7 : Int32) (x8 : Int32) (h : ia_H), gd_ w h → l_M_set_31 x1 x2 x3 x4 x5 k123 n x6 x7 x8 h = some (r, h1) → K 31 [some (.inr (.inr 417)), none, none, none, none, some (.inl x5), some (.inl x6), some (.inl x7), some (.inl x8), none] [] h := by
  intro n
  induction n with
  | zero =>
    intro x6 x7 x8 h hg hm
    cases (show (none : Option (Int32 × ia_H)) = some _ from hm)
  | succ n ih =>
    intro x6 x7 x8 h hg hm
    rw [l_M_set_31] at hm
    refine ia_go hK ck_M_set_31 ?_
    show K 34 [some (.inr (.inr 417)), none, none, none, none, some (.inl x5), some (.inl x6), some (.inl x7), some (.inl x8), none] [.inr (.inr 417), .inl x8] h
    obtain ⟨v3, hv3, hm⟩ := ia_bnd hm
    have ev3 := t_M_cells (d + 11) hg hv3
    refine ia_cV hK mk_M_cells lk_12_234 dc_M_set_34 417 [] [.inl x8] rfl rfl (Nat.le_of_ble_eq_true rfl) (by decide) rfl (gk_12 hg pk_417) ev3 ⟨rfl, rfl⟩ ?_
    show K 37 [some (.inr (.inr 417)), none, none, none, none, some (.inl x5), some (.inl x6), some (.inl x7), some (.inl x8), none] [.inl v3, .inl x8] h
    refine ia_go hK ck_M_set_37 ⟨fun c => ?_, fun c => ?_⟩
    · replace hm := ia_ifp hm c
      show K 123 [some (.inr (.inr 417)), none, none, none, none, some (.inl x5), some (.inl x6), some (.inl x7), some (.inl x8), none] [] h
      refine ia_fg hK (lv' := [none, none, none, none, none, none, some (.inl x6), none, none, none]) ⟨rfl, trivial⟩ ?_
      exact hk123 x6 h hg hm
    · replace hm := ia_ifn hm c
      show K 40 [some (.inr (.inr 417)), none, none, none, none, some (.inl x5), some (.inl x6), some (.inl x7), some (.inl x8), none] [] h
      refine ia_go hK ck_M_set_40 ?_
      show K 43 [some (.inr (.inr 417)), none, none, none, none, some (.inl x5), some (.inl x6), some (.inl x7), some (.inl x8), none] [.inl 0, .inl 1, .inr (.inr 417)] h
      obtain ⟨v4, hv4, hm⟩ := ia_bnd hm
      have ev4 := t_M_copies (d + 11) hg hv4
      have gv4 := g_M_copies hg hv4
      refine ia_cV hK mk_M_copies lk_12_365 dc_M_set_43 417 [.inl 1, .inl 0] [] rfl rfl (Nat.le_of_ble_eq_true rfl) (by decide) rfl (gk_12 hg pk_417) ev4 (gd_nm hg gv4) ?_
      show K 46 [some (.inr (.inr 417)), none, none, none, none, some (.inl x5), some (.inl x6), some (.inl x7), some (.inl x8), none] [] v4
      obtain ⟨c5, hm⟩ := ia_gd_some hm
      refine ia_go hK ck_M_set_46 ⟨gk_12 gv4 pk_417, gr_12_13 gv4 pk_417, ga_i100 gv4 (ka_12_13 pk_417) c5, fun c => ?_, fun c => ?_⟩
      · replace hm := ia_ifp hm c
        show K 75 [some (.inr (.inr 417)), none, none, none, none, some (.inl x5), some (.inl x6), some (.inl x7), some (.inl x8), none] [] v4
        exact tj_M_set_75 hK hret ih hk123 x6 x7 x8 v4 gv4 hm
      · replace hm := ia_ifn hm c
        show K 61 [some (.inr (.inr 417)), none, none, none, none, some (.inl x5), some (.inl x6), some (.inl x7), some (.inl x8), none] [] v4
        refine ia_go hK ck_M_set_61 ?_
        show K 66 [some (.inr (.inr 417)), none, none, none, none, some (.inl x5), some (.inl x6), some (.inl x7), some (.inl x8), none] [.inl x8, .inl x5, .inr (.inr 417)] v4
        obtain ⟨v9, hv9, hm⟩ := ia_bnd hm
        have ev9 := t_M_canMove (d + 4) gv4 hv9
        have gv9 := g_M_canMove gv4 hv9
        refine ia_cV hK mk_M_canMove lk_12_281 dc_M_set_66 417 [.inl x5, .inl x8] [] rfl rfl (Nat.le_of_ble_eq_true rfl) (by decide) rfl (gk_12 gv4 pk_417) ev9 (gd_nm gv4 gv9) ?_
        show K 69 [some (.inr (.inr 417)), none, none, none, none, some (.inl x5), some (.inl x6), some (.inl x7), some (.inl x8), none] [.inl v9.1] v9.2
        refine ia_go hK ck_M_set_69 ⟨fun c => ?_, fun c => ?_⟩
        · replace hm := ia_ifn hm c
          show K 75 [some (.inr (.inr 417)), none, none, none, none, some (.inl x5), some (.inl x6), some (.inl x7), some (.inl x8), none] [] v9.2
          exact tj_M_set_75 hK hret ih hk123 x6 x7 x8 v9.2 gv9 hm
        · replace hm := ia_ifp hm c
          show K 72 [some (.inr (.inr 417)), none, none, none, none, some (.inl x5), some (.inl x6), some (.inl x7), some (.inl x8), none] [] v9.2
          refine ia_go hK ck_M_set_72 ?_
          show K 117 [some (.inr (.inr 417)), none, none, none, none, some (.inl x5), some (.inl x6), some (.inl x7), some (.inl x8), none] [] v9.2
          refine ia_go hK ck_M_set_117 ?_
          show K 31 [some (.inr (.inr 417)), none, none, none, none, some (.inl x5), some (.inl x6), some (.inl x7), some (.inl (x8 + 1)), none] [] v9.2
          exact ih x6 x7 (x8 + 1) v9.2 gv9 hm
theorem gl_M_set_31 {w : ia_O0} {x1 : Int32} {x2 : Int32} {x3 : Int32} {x4 : Int32} {x5 : Int32} {r : Int32} {h1 : ia_H} {k123 : Int32 → ia_H → Option (Int32 × ia_H)} (hk123 : ∀ (x6 : Int32) (h : ia_H), gd_ w h → k123 x6 h = some (r, h1) → gd_ w h1) : ∀ (n : Nat) (x6 : Int32) (x7 : Int32) (x8 : Int32) (h : ia_H), gd_ w h → l_M_set_31 x1 x2 x3 x4 x5 k123 n x6 x7 x8 h = some (r, h1) → gd_ w h1 := by
  intro n
  induction n with
  | zero =>
    intro x6 x7 x8 h hg hm
    cases (show (none : Option (Int32 × ia_H)) = some _ from hm)
  | succ n ih =>
    intro x6 x7 x8 h hg hm
    rw [l_M_set_31] at hm
    obtain ⟨v3, hv3, hm⟩ := ia_bnd hm
    by_cases c : v3 ≤ x8
    · replace hm := ia_ifp hm c
      exact hk123 x6 h hg hm
    · replace hm := ia_ifn hm c
      obtain ⟨v4, hv4, hm⟩ := ia_bnd hm
      have gv4 := g_M_copies hg hv4
      obtain ⟨c5, hm⟩ := ia_gd_some hm
      by_cases c : x8 = (ia_i v4 422 ((72 + x5).toNatClampNeg))
      · replace hm := ia_ifp hm c
        exact gj_M_set_75 ih hk123 x6 x7 x8 v4 gv4 hm
      · replace hm := ia_ifn hm c
        obtain ⟨v9, hv9, hm⟩ := ia_bnd hm
        have gv9 := g_M_canMove gv4 hv9
        by_cases c : v9.1 = 0
        · replace hm := ia_ifp hm c
          exact ih x6 x7 (x8 + 1) v9.2 gv9 hm
        · replace hm := ia_ifn hm c
          exact gj_M_set_75 ih hk123 x6 x7 x8 v9.2 gv9 hm
def f_M_set (x1 : Int32) (x2 : Int32) (x3 : Int32) (x4 : Int32) (x5 : Int32) (h : ia_H) : Option (Int32 × ia_H) := (f_M_isStanding x1 x2 x3 x4 x5 h).bind fun v1 => (if v1.1 = 0 then (some ((-1), v1.2)) else ((f_M_copies 0 1 v1.2).bind fun v2 => (l_M_set_31 x1 x2 x3 x4 x5 (fun x6 h => some (x6, h)) fu_ (-1) (-1) 0 v2)))
theorem g_M_set {w : ia_O0} {x1 : Int32} {x2 : Int32} {x3 : Int32} {x4 : Int32} {x5 : Int32} {h : ia_H} (hg : gd_ w h) {q : (Int32 × ia_H)} (hm : f_M_set x1 x2 x3 x4 x5 h = some q) : gd_ w q.2 := by
  obtain ⟨r, h1⟩ := q
  unfold f_M_set at hm
  obtain ⟨v1, hv1, hm⟩ := ia_bnd hm
  have gv1 := g_M_isStanding hg hv1
  by_cases c : v1.1 = 0
  · replace hm := ia_ifp hm c
    obtain ⟨rfl, rfl⟩ := Prod.mk.inj (Option.some.inj hm)
    exact gv1
  · replace hm := ia_ifn hm c
    obtain ⟨v2, hv2, hm⟩ := ia_bnd hm
    have gv2 := g_M_copies gv1 hv2
    refine gl_M_set_31 ?_ fu_ (-1) (-1) 0 v2 gv2 hm
    · intro x6 h hg hm
      obtain ⟨rfl, rfl⟩ := Prod.mk.inj (Option.some.inj hm)
      exact hg
theorem t_M_set {w : ia_O0} (d : Nat) {x1 : Int32} {x2 : Int32} {x3 : Int32} {x4 : Int32} {x5 : Int32} {h : ia_H} (hg : gd_ w h) {q : (Int32 × ia_H)} (hm : f_M_set x1 x2 x3 x4 x5 h = some q) : ia_Ev (d + 12) mm_M_set [.inr (.inr 417), .inl x1, .inl x2, .inl x3, .inl x4, .inl x5] h (some (.inl q.1)) q.2 := by
  have gq := g_M_set hg hm
  refine ia_Ev_intro ok_M_set (gd_le hg gq).1 (gd_le hg gq).2 (Nat.le_of_ble_eq_true rfl) (fun K hK hret => ?_)
  obtain ⟨r, h1⟩ := q
  show K 0 [some (.inr (.inr 417)), some (.inl x1), some (.inl x2), some (.inl x3), some (.inl x4), some (.inl x5), none, none, none, none] [] h
  unfold f_M_set at hm
  refine ia_go hK ck_M_set_0 ?_
  show K 8 [some (.inr (.inr 417)), some (.inl x1), some (.inl x2), some (.inl x3), some (.inl x4), some (.inl x5), none, none, none, none] [.inl x5, .inl x4, .inl x3, .inl x2, .inl x1, .inr (.inr 417)] h
  obtain ⟨v1, hv1, hm⟩ := ia_bnd hm
  have ev1 := t_M_isStanding (d + 0) hg hv1
  have gv1 := g_M_isStanding hg hv1
  refine ia_cV hK mk_M_isStanding lk_12_356 dc_M_set_8 417 [.inl x1, .inl x2, .inl x3, .inl x4, .inl x5] [] rfl rfl (Nat.le_of_ble_eq_true rfl) (by decide) rfl (gk_12 hg pk_417) ev1 (gd_nm hg gv1) ?_
  show K 11 [some (.inr (.inr 417)), some (.inl x1), some (.inl x2), some (.inl x3), some (.inl x4), some (.inl x5), none, none, none, none] [.inl v1.1] v1.2
  refine ia_go hK ck_M_set_11 ⟨fun c => ?_, fun c => ?_⟩
  · replace hm := ia_ifn hm c
    show K 16 [some (.inr (.inr 417)), some (.inl x1), some (.inl x2), some (.inl x3), some (.inl x4), some (.inl x5), none, none, none, none] [] v1.2
    refine ia_go hK ck_M_set_16 ?_
    show K 19 [some (.inr (.inr 417)), some (.inl x1), some (.inl x2), some (.inl x3), some (.inl x4), some (.inl x5), none, none, none, none] [.inl 1, .inl 0, .inr (.inr 417)] v1.2
    obtain ⟨v2, hv2, hm⟩ := ia_bnd hm
    have ev2 := t_M_copies (d + 11) gv1 hv2
    have gv2 := g_M_copies gv1 hv2
    refine ia_cV hK mk_M_copies lk_12_365 dc_M_set_19 417 [.inl 0, .inl 1] [] rfl rfl (Nat.le_of_ble_eq_true rfl) (by decide) rfl (gk_12 gv1 pk_417) ev2 (gd_nm gv1 gv2) ?_
    show K 22 [some (.inr (.inr 417)), some (.inl x1), some (.inl x2), some (.inl x3), some (.inl x4), some (.inl x5), none, none, none, none] [] v2
    refine ia_go hK ck_M_set_22 ?_
    show K 31 [some (.inr (.inr 417)), some (.inl x1), some (.inl x2), some (.inl x3), some (.inl x4), some (.inl x5), some (.inl (-1)), some (.inl (-1)), some (.inl 0), none] [] v2
    refine ia_fg hK (lv' := [some (.inr (.inr 417)), none, none, none, none, some (.inl x5), some (.inl (-1)), some (.inl (-1)), some (.inl 0), none]) ⟨rfl, rfl, rfl, rfl, rfl, trivial⟩ ?_
    refine tl_M_set_31 hK hret ?_ fu_ (-1) (-1) 0 v2 gv2 hm
    · intro x6 h hg hm
      refine ia_go hK ck_M_set_123 ?_
      show K 125 [none, none, none, none, none, none, some (.inl x6), none, none, none] [.inl x6] h
      obtain ⟨rfl, rfl⟩ := Prod.mk.inj (Option.some.inj hm)
      exact hret 125 _ dc_M_set_125
  · replace hm := ia_ifp hm c
    show K 14 [some (.inr (.inr 417)), some (.inl x1), some (.inl x2), some (.inl x3), some (.inl x4), some (.inl x5), none, none, none, none] [] v1.2
    refine ia_go hK ck_M_set_14 ?_
    show K 15 [some (.inr (.inr 417)), some (.inl x1), some (.inl x2), some (.inl x3), some (.inl x4), some (.inl x5), none, none, none, none] [.inl (-1)] v1.2
    obtain ⟨rfl, rfl⟩ := Prod.mk.inj (Option.some.inj hm)
    exact hret 15 _ dc_M_set_15
def mm_M_longer : ia_M := (⟨"IceStreetModel", "longer", "(Z)I"⟩, prog_14_method_101_code, 5, (some .int), 12, false)
theorem ok_M_longer : ia_mok mm_M_longer := ⟨by decide +kernel, by decide +kernel, by decide +kernel, by decide +kernel⟩
theorem mk_M_longer : ia_mkn mm_M_longer 1 1 := ⟨ia_tb_in (List.mem_of_getElem? (i := 2120) (by decide +kernel)) rfl, ia_tb_in (List.mem_of_getElem? (i := 146) (by decide +kernel)) rfl, by decide +kernel, by decide +kernel, ⟨ia_tb_in (List.mem_of_getElem? (i := 2119) (by decide +kernel)) rfl, ia_tb_in (List.mem_of_getElem? (i := 120) (by decide +kernel)) rfl⟩⟩
theorem ck_M_longer_0 : ia_cks 12 5 false prog_14_method_101_code 0 [(.iconst 0, 0, 0, 0, 0), (.istore_n 2, 0, 0, 0, 0), (.iconst 0, 0, 0, 0, 0), (.istore_n 3, 0, 0, 0, 0)] = true := by decide +kernel
theorem ck_M_longer_4 : ia_cks 12 5 false prog_14_method_101_code 4 [(.iload_n 3, 0, 0, 0, 0), (.aload_n 0, 0, 0, 0, 0), (.getfield 7, 12, 0, 3, 1), (.aload_n 0, 0, 0, 0, 0), (.getfield 201, 12, 14, 0, 0), (.iconst 4, 0, 0, 0, 0), (.iadd, 0, 0, 0, 0), (.iaload, 0, 0, 0, 0), (.if_icmp .ge 72, 0, 0, 0, 0)] = true := by decide +kernel
theorem ck_M_longer_19 : ia_cks 12 5 false prog_14_method_101_code 19 [(.aload_n 0, 0, 0, 0, 0), (.iconst 1, 0, 0, 0, 0), (.iconst 0, 0, 0, 0, 0)] = true := by decide +kernel
theorem ck_M_longer_25 : ia_cks 12 5 false prog_14_method_101_code 25 [(.aload_n 0, 0, 0, 0, 0), (.iload_n 3, 0, 0, 0, 0)] = true := by decide +kernel
theorem ck_M_longer_30 : ia_cks 12 5 false prog_14_method_101_code 30 [(.ifCond .eq 52, 0, 0, 0, 0)] = true := by decide +kernel
theorem ck_M_longer_82 : ia_cks 12 5 false prog_14_method_101_code 82 [(.iinc 3 1, 0, 0, 0, 0), (.goto (-81), 0, 0, 0, 0)] = true := by decide +kernel
theorem ck_M_longer_33 : ia_cks 12 5 false prog_14_method_101_code 33 [(.iload_n 3, 0, 0, 0, 0), (.aload_n 0, 0, 0, 0, 0), (.getfield 26, 12, 16, 0, 0), (.if_icmp .ne 6, 0, 0, 0, 0)] = true := by decide +kernel
theorem ck_M_longer_44 : ia_cks 12 5 false prog_14_method_101_code 44 [(.aload_n 0, 0, 0, 0, 0), (.iload_n 3, 0, 0, 0, 0)] = true := by decide +kernel
theorem ck_M_longer_49 : ia_cks 12 5 false prog_14_method_101_code 49 [(.istore 4, 0, 0, 0, 0), (.iload_n 2, 0, 0, 0, 0), (.iload 4, 0, 0, 0, 0), (.aload_n 0, 0, 0, 0, 0), (.getfield 63, 12, 34, 3, 16), (.iload_n 3, 0, 0, 0, 0), (.iaload, 0, 0, 0, 0), (.if_icmp .le 7, 0, 0, 0, 0)] = true := by decide +kernel
theorem ck_M_longer_67 : ia_cks 12 5 false prog_14_method_101_code 67 [(.iconst 0, 0, 0, 0, 0)] = true := by decide +kernel
theorem ck_M_longer_68 : ia_cks 12 5 false prog_14_method_101_code 68 [(.iadd, 0, 0, 0, 0), (.istore_n 2, 0, 0, 0, 0), (.iload_n 1, 0, 0, 0, 0), (.ifCond .eq 11, 0, 0, 0, 0)] = true := by decide +kernel
theorem ck_M_longer_74 : ia_cks 12 5 false prog_14_method_101_code 74 [(.aload_n 0, 0, 0, 0, 0), (.getfield 63, 12, 34, 3, 16), (.iload_n 3, 0, 0, 0, 0), (.iload 4, 0, 0, 0, 0), (.iastore, 0, 0, 0, 0), (.iinc 3 1, 0, 0, 0, 0), (.goto (-81), 0, 0, 0, 0)] = true := by decide +kernel
theorem ck_M_longer_63 : ia_cks 12 5 false prog_14_method_101_code 63 [(.iconst 1, 0, 0, 0, 0), (.goto 4, 0, 0, 0, 0)] = true := by decide +kernel
theorem ck_M_longer_41 : ia_cks 12 5 false prog_14_method_101_code 41 [(.goto 41, 0, 0, 0, 0)] = true := by decide +kernel
theorem ck_M_longer_88 : ia_cks 12 5 false prog_14_method_101_code 88 [(.iload_n 2, 0, 0, 0, 0)] = true := by decide +kernel
theorem dc_M_longer_22 : decode prog_14_method_101_code 22 = .ok (.invokevirtual 365, 3) := by decide +kernel
theorem dc_M_longer_27 : decode prog_14_method_101_code 27 = .ok (.invokevirtual 222, 3) := by decide +kernel
theorem dc_M_longer_46 : decode prog_14_method_101_code 46 = .ok (.invokevirtual 359, 3) := by decide +kernel
theorem dc_M_longer_89 : decode prog_14_method_101_code 89 = .ok (.ireturn, 1) := by decide +kernel
def j_M_longer_68 (x1 : Int32) (kr : Int32 → Int32 → ia_H → Option (Int32 × ia_H)) (k88 : Int32 → ia_H → Option (Int32 × ia_H)) (x3 : Int32) (x4 : Int32) (s0 : Int32) (s1 : Int32) (h : ia_H) : Option (Int32 × ia_H) := if x1 = 0 then (kr (s0 + s1) (x3 + 1) h) else (ia_gd (ia_ib x3 6) (kr (s0 + s1) (x3 + 1) (ia_wI h 433 ((x3).toNatClampNeg) x4)))
theorem tj_M_longer_68 {w : ia_O0} {d N1 W1 : Nat} {K : ia_K} (hK : ia_isK (d + 9) mm_M_longer N1 W1 K) {x1 : Int32} {r : Int32} {h1 : ia_H} (hret : ∀ (pc : Nat) (lv : ia_L), ia_ret mm_M_longer pc (some (.inl r)) → K pc lv ((some (.inl r)) : Option ia_V).toList h1) {kr : Int32 → Int32 → ia_H → Option (Int32 × ia_H)} {k88 : Int32 → ia_H → Option (Int32 × ia_H)} (hkr : ∀ (x2 : Int32) (x3 : Int32) (h : ia_H), gd_ w h → kr x2 x3 h = some (r, h1) → K 4 [some (.inr (.inr 417)), some (.inl x1), some (.inl x2), some (.inl x3), none] [] h) (hk88 : ∀ (x2 : Int32) (h : ia_H), gd_ w h → k88 x2 h = some (r, h1) → K 88 [none, none, some (.inl x2), none, none] [] h) : ∀ (x3 : Int32) (x4 : Int32) (s0 : Int32) (s1 : Int32) (h : ia_H), gd_ w h → j_M_longer_68 x1 kr k88 x3 x4 s0 s1 h = some (r, h1) → K 68 [some (.inr (.inr 417)), some (.inl x1), none, some (.inl x3), some (.inl x4)] [.inl s1, .inl s0] h := by
  intro x3 x4 s0 s1 h hg hm
  unfold j_M_longer_68 at hm
  refine ia_go hK ck_M_longer_68 ⟨fun c => ?_, fun c => ?_⟩
  · replace hm := ia_ifp hm c
    show K 82 [some (.inr (.inr 417)), some (.inl x1), some (.inl (s0 + s1)), some (.inl x3), some (.inl x4)] [] h
    refine ia_go hK ck_M_longer_82 ?_
    show K 4 [some (.inr (.inr 417)), some (.inl x1), some (.inl (s0 + s1)), some (.inl (x3 + 1)), some (.inl x4)] [] h
    refine ia_fg hK (lv' := [some (.inr (.inr 417)), some (.inl x1), some (.inl (s0 + s1)), some (.inl (x3 + 1)), none]) ⟨rfl, rfl, rfl, rfl, trivial⟩ ?_
    exact hkr (s0 + s1) (x3 + 1) h hg hm
  · replace hm := ia_ifn hm c
    show K 74 [some (.inr (.inr 417)), some (.inl x1), some (.inl (s0 + s1)), some (.inl x3), some (.inl x4)] [] h
    obtain ⟨c6, hm⟩ := ia_gd_some hm
    refine ia_go hK ck_M_longer_74 ⟨gk_12 hg pk_417, gr_12_34 hg pk_417, ga_s100 hg (ka_12_34 pk_417) c6, ?_⟩
    show K 4 [some (.inr (.inr 417)), some (.inl x1), some (.inl (s0 + s1)), some (.inl (x3 + 1)), some (.inl x4)] [] (ia_wI h 433 ((x3).toNatClampNeg) x4)
    refine ia_fg hK (lv' := [some (.inr (.inr 417)), some (.inl x1), some (.inl (s0 + s1)), some (.inl (x3 + 1)), none]) ⟨rfl, rfl, rfl, rfl, trivial⟩ ?_
    exact hkr (s0 + s1) (x3 + 1) (ia_wI h 433 ((x3).toNatClampNeg) x4) (gd_wI hg (kx_100 (ka_12_34 pk_417))) hm
theorem gj_M_longer_68 {w : ia_O0} {x1 : Int32} {r : Int32} {h1 : ia_H} {kr : Int32 → Int32 → ia_H → Option (Int32 × ia_H)} {k88 : Int32 → ia_H → Option (Int32 × ia_H)} (hkr : ∀ (x2 : Int32) (x3 : Int32) (h : ia_H), gd_ w h → kr x2 x3 h = some (r, h1) → gd_ w h1) (hk88 : ∀ (x2 : Int32) (h : ia_H), gd_ w h → k88 x2 h = some (r, h1) → gd_ w h1) : ∀ (x3 : Int32) (x4 : Int32) (s0 : Int32) (s1 : Int32) (h : ia_H), gd_ w h → j_M_longer_68 x1 kr k88 x3 x4 s0 s1 h = some (r, h1) → gd_ w h1 := by
  intro x3 x4 s0 s1 h hg hm
  unfold j_M_longer_68 at hm
  by_cases c : x1 = 0
  · replace hm := ia_ifp hm c
    exact hkr (s0 + s1) (x3 + 1) h hg hm
  · replace hm := ia_ifn hm c
    obtain ⟨c6, hm⟩ := ia_gd_some hm
    exact hkr (s0 + s1) (x3 + 1) (ia_wI h 433 ((x3).toNatClampNeg) x4) (gd_wI hg (kx_100 (ka_12_34 pk_417))) hm
def l_M_longer_4 (x1 : Int32) (k88 : Int32 → ia_H → Option (Int32 × ia_H)) (n : Nat) (x2 : Int32) (x3 : Int32) (h : ia_H) : Option (Int32 × ia_H) := match n with
  | 0 => none
  | n + 1 => ia_gd (ia_ib ((ia_i h 417 14) + 4) 6528) (if (ia_i h 418 (((ia_i h 417 14) + 4).toNatClampNeg)) ≤ x3 then (k88 x2 h) else ((f_M_copies 1 0 h).bind fun v2 => ((f_M_stands x3 v2).bind fun v3 => (if v3 = 0 then (l_M_longer_4 x1 k88 n x2 (x3 + 1) v2) else (if x3 = (ia_i v2 417 16) then (l_M_longer_4 x1 k88 n x2 (x3 + 1) v2) else ((f_M_holdsFor x3 v2).bind fun v4 => (ia_gd (ia_ib x3 6) (if v4.1 ≤ (ia_i v4.2 433 ((x3).toNatClampNeg)) then (j_M_longer_68 x1 (l_M_longer_4 x1 k88 n) k88 x3 v4.1 x2 0 v4.2) else (j_M_longer_68 x1 (l_M_longer_4 x1 k88 n) k88 x3 v4.1 x2 1 v4.2)))))))))
theorem tl_M_longer_4 {w : ia_O0} {d N1 W1 : Nat} {K : ia_K} (hK : ia_isK (d + 9) mm_M_longer N1 W1 K) {x1 : Int32} {r : Int32} {h1 : ia_H} (hret : ∀ (pc : Nat) (lv : ia_L), ia_ret mm_M_longer pc (some (.inl r)) → K pc lv ((some (.inl r)) : Option ia_V).toList h1) {k88 : Int32 → ia_H → Option (Int32 × ia_H)} (hk88 : ∀ (x2 : Int32) (h : ia_H), gd_ w h → k88 x2 h = some (r, h1) → K 88 [none, none, some (.inl x2), none, none] [] h) : ∀ (n : Nat) (x2 : Int32) (x3 : Int32) (h : ia_H), gd_ w h → l_M_longer_4 x1 k88 n x2 x3 h = some (r, h1) → K 4 [some (.inr (.inr 417)), some (.inl x1), some (.inl x2), some (.inl x3), none] [] h := by
  intro n
  induction n with
  | zero =>
    intro x2 x3 h hg hm
    cases (show (none : Option (Int32 × ia_H)) = some _ from hm)
  | succ n ih =>
    intro x2 x3 h hg hm
    rw [l_M_longer_4] at hm
    obtain ⟨c1, hm⟩ := ia_gd_some hm
    refine ia_go hK ck_M_longer_4 ⟨gk_12 hg pk_417, gr_12_0 hg pk_417, gk_12 hg pk_417, ga_i100 hg (ka_12_0 pk_417) c1, fun c => ?_, fun c => ?_⟩
    · replace hm := ia_ifp hm c
      show K 88 [some (.inr (.inr 417)), some (.inl x1), some (.inl x2), some (.inl x3), none] [] h
      refine ia_fg hK (lv' := [none, none, some (.inl x2), none, none]) ⟨rfl, trivial⟩ ?_
      exact hk88 x2 h hg hm
    · replace hm := ia_ifn hm c
      show K 19 [some (.inr (.inr 417)), some (.inl x1), some (.inl x2), some (.inl x3), none] [] h
      refine ia_go hK ck_M_longer_19 ?_
      show K 22 [some (.inr (.inr 417)), some (.inl x1), some (.inl x2), some (.inl x3), none] [.inl 0, .inl 1, .inr (.inr 417)] h
      obtain ⟨v2, hv2, hm⟩ := ia_bnd hm
      have ev2 := t_M_copies (d + 8) hg hv2
      have gv2 := g_M_copies hg hv2
      refine ia_cV hK mk_M_copies lk_12_365 dc_M_longer_22 417 [.inl 1, .inl 0] [] rfl rfl (Nat.le_of_ble_eq_true rfl) (by decide) rfl (gk_12 hg pk_417) ev2 (gd_nm hg gv2) ?_
      show K 25 [some (.inr (.inr 417)), some (.inl x1), some (.inl x2), some (.inl x3), none] [] v2
      refine ia_go hK ck_M_longer_25 ?_
      show K 27 [some (.inr (.inr 417)), some (.inl x1), some (.inl x2), some (.inl x3), none] [.inl x3, .inr (.inr 417)] v2
      obtain ⟨v3, hv3, hm⟩ := ia_bnd hm
      have ev3 := t_M_stands (d + 6) gv2 hv3
      refine ia_cV hK mk_M_stands lk_12_222 dc_M_longer_27 417 [.inl x3] [] rfl rfl (Nat.le_of_ble_eq_true rfl) (by decide) rfl (gk_12 gv2 pk_417) ev3 ⟨rfl, rfl⟩ ?_
      show K 30 [some (.inr (.inr 417)), some (.inl x1), some (.inl x2), some (.inl x3), none] [.inl v3] v2
      refine ia_go hK ck_M_longer_30 ⟨fun c => ?_, fun c => ?_⟩
      · replace hm := ia_ifp hm c
        show K 82 [some (.inr (.inr 417)), some (.inl x1), some (.inl x2), some (.inl x3), none] [] v2
        refine ia_go hK ck_M_longer_82 ?_
        show K 4 [some (.inr (.inr 417)), some (.inl x1), some (.inl x2), some (.inl (x3 + 1)), none] [] v2
        exact ih x2 (x3 + 1) v2 gv2 hm
      · replace hm := ia_ifn hm c
        show K 33 [some (.inr (.inr 417)), some (.inl x1), some (.inl x2), some (.inl x3), none] [] v2
        refine ia_go hK ck_M_longer_33 ⟨gk_12 gv2 pk_417, fun c => ?_, fun c => ?_⟩
        · replace hm := ia_ifn hm c
          show K 44 [some (.inr (.inr 417)), some (.inl x1), some (.inl x2), some (.inl x3), none] [] v2
          refine ia_go hK ck_M_longer_44 ?_
          show K 46 [some (.inr (.inr 417)), some (.inl x1), some (.inl x2), some (.inl x3), none] [.inl x3, .inr (.inr 417)] v2
          obtain ⟨v4, hv4, hm⟩ := ia_bnd hm
          have ev4 := t_M_holdsFor (d + 0) gv2 hv4
          have gv4 := g_M_holdsFor gv2 hv4
          refine ia_cV hK mk_M_holdsFor lk_12_359 dc_M_longer_46 417 [.inl x3] [] rfl rfl (Nat.le_of_ble_eq_true rfl) (by decide) rfl (gk_12 gv2 pk_417) ev4 (gd_nm gv2 gv4) ?_
          show K 49 [some (.inr (.inr 417)), some (.inl x1), some (.inl x2), some (.inl x3), none] [.inl v4.1] v4.2
          obtain ⟨c5, hm⟩ := ia_gd_some hm
          refine ia_go hK ck_M_longer_49 ⟨gk_12 gv4 pk_417, gr_12_34 gv4 pk_417, ga_i100 gv4 (ka_12_34 pk_417) c5, fun c => ?_, fun c => ?_⟩
          · replace hm := ia_ifp hm c
            show K 67 [some (.inr (.inr 417)), some (.inl x1), some (.inl x2), some (.inl x3), some (.inl v4.1)] [.inl x2] v4.2
            refine ia_go hK ck_M_longer_67 ?_
            show K 68 [some (.inr (.inr 417)), some (.inl x1), some (.inl x2), some (.inl x3), some (.inl v4.1)] [.inl 0, .inl x2] v4.2
            refine ia_fg hK (lv' := [some (.inr (.inr 417)), some (.inl x1), none, some (.inl x3), some (.inl v4.1)]) ⟨rfl, rfl, rfl, rfl, trivial⟩ ?_
            exact tj_M_longer_68 hK hret ih hk88 x3 v4.1 x2 0 v4.2 gv4 hm
          · replace hm := ia_ifn hm c
            show K 63 [some (.inr (.inr 417)), some (.inl x1), some (.inl x2), some (.inl x3), some (.inl v4.1)] [.inl x2] v4.2
            refine ia_go hK ck_M_longer_63 ?_
            show K 68 [some (.inr (.inr 417)), some (.inl x1), some (.inl x2), some (.inl x3), some (.inl v4.1)] [.inl 1, .inl x2] v4.2
            refine ia_fg hK (lv' := [some (.inr (.inr 417)), some (.inl x1), none, some (.inl x3), some (.inl v4.1)]) ⟨rfl, rfl, rfl, rfl, trivial⟩ ?_
            exact tj_M_longer_68 hK hret ih hk88 x3 v4.1 x2 1 v4.2 gv4 hm
        · replace hm := ia_ifp hm c
          show K 41 [some (.inr (.inr 417)), some (.inl x1), some (.inl x2), some (.inl x3), none] [] v2
          refine ia_go hK ck_M_longer_41 ?_
          show K 82 [some (.inr (.inr 417)), some (.inl x1), some (.inl x2), some (.inl x3), none] [] v2
          refine ia_go hK ck_M_longer_82 ?_
          show K 4 [some (.inr (.inr 417)), some (.inl x1), some (.inl x2), some (.inl (x3 + 1)), none] [] v2
          exact ih x2 (x3 + 1) v2 gv2 hm
theorem gl_M_longer_4 {w : ia_O0} {x1 : Int32} {r : Int32} {h1 : ia_H} {k88 : Int32 → ia_H → Option (Int32 × ia_H)} (hk88 : ∀ (x2 : Int32) (h : ia_H), gd_ w h → k88 x2 h = some (r, h1) → gd_ w h1) : ∀ (n : Nat) (x2 : Int32) (x3 : Int32) (h : ia_H), gd_ w h → l_M_longer_4 x1 k88 n x2 x3 h = some (r, h1) → gd_ w h1 := by
  intro n
  induction n with
  | zero =>
    intro x2 x3 h hg hm
    cases (show (none : Option (Int32 × ia_H)) = some _ from hm)
  | succ n ih =>
    intro x2 x3 h hg hm
    rw [l_M_longer_4] at hm
    obtain ⟨c1, hm⟩ := ia_gd_some hm
    by_cases c : (ia_i h 418 (((ia_i h 417 14) + 4).toNatClampNeg)) ≤ x3
    · replace hm := ia_ifp hm c
      exact hk88 x2 h hg hm
    · replace hm := ia_ifn hm c
      obtain ⟨v2, hv2, hm⟩ := ia_bnd hm
      have gv2 := g_M_copies hg hv2
      obtain ⟨v3, hv3, hm⟩ := ia_bnd hm
      by_cases c : v3 = 0
      · replace hm := ia_ifp hm c
        exact ih x2 (x3 + 1) v2 gv2 hm
      · replace hm := ia_ifn hm c
        by_cases c : x3 = (ia_i v2 417 16)
        · replace hm := ia_ifp hm c
          exact ih x2 (x3 + 1) v2 gv2 hm
        · replace hm := ia_ifn hm c
          obtain ⟨v4, hv4, hm⟩ := ia_bnd hm
          have gv4 := g_M_holdsFor gv2 hv4
          obtain ⟨c5, hm⟩ := ia_gd_some hm
          by_cases c : v4.1 ≤ (ia_i v4.2 433 ((x3).toNatClampNeg))
          · replace hm := ia_ifp hm c
            exact gj_M_longer_68 ih hk88 x3 v4.1 x2 0 v4.2 gv4 hm
          · replace hm := ia_ifn hm c
            exact gj_M_longer_68 ih hk88 x3 v4.1 x2 1 v4.2 gv4 hm
def f_M_longer (x1 : Int32) (h : ia_H) : Option (Int32 × ia_H) := l_M_longer_4 x1 (fun x2 h => some (x2, h)) fu_ 0 0 h
theorem g_M_longer {w : ia_O0} {x1 : Int32} {h : ia_H} (hg : gd_ w h) {q : (Int32 × ia_H)} (hm : f_M_longer x1 h = some q) : gd_ w q.2 := by
  obtain ⟨r, h1⟩ := q
  unfold f_M_longer at hm
  refine gl_M_longer_4 ?_ fu_ 0 0 h hg hm
  · intro x2 h hg hm
    obtain ⟨rfl, rfl⟩ := Prod.mk.inj (Option.some.inj hm)
    exact hg
theorem t_M_longer {w : ia_O0} (d : Nat) {x1 : Int32} {h : ia_H} (hg : gd_ w h) {q : (Int32 × ia_H)} (hm : f_M_longer x1 h = some q) : ia_Ev (d + 9) mm_M_longer [.inr (.inr 417), .inl x1] h (some (.inl q.1)) q.2 := by
  have gq := g_M_longer hg hm
  refine ia_Ev_intro ok_M_longer (gd_le hg gq).1 (gd_le hg gq).2 (Nat.le_of_ble_eq_true rfl) (fun K hK hret => ?_)
  obtain ⟨r, h1⟩ := q
  show K 0 [some (.inr (.inr 417)), some (.inl x1), none, none, none] [] h
  unfold f_M_longer at hm
  refine ia_go hK ck_M_longer_0 ?_
  show K 4 [some (.inr (.inr 417)), some (.inl x1), some (.inl 0), some (.inl 0), none] [] h
  refine tl_M_longer_4 hK hret ?_ fu_ 0 0 h hg hm
  · intro x2 h hg hm
    refine ia_go hK ck_M_longer_88 ?_
    show K 89 [none, none, some (.inl x2), none, none] [.inl x2] h
    obtain ⟨rfl, rfl⟩ := Prod.mk.inj (Option.some.inj hm)
    exact hret 89 _ dc_M_longer_89
def mm_M_hearth : ia_M := (⟨"IceStreetModel", "hearth", "(IIII)I"⟩, prog_14_method_102_code, 10, (some .int), 12, false)
theorem ok_M_hearth : ia_mok mm_M_hearth := ⟨by decide +kernel, by decide +kernel, by decide +kernel, by decide +kernel⟩
theorem mk_M_hearth : ia_mkn mm_M_hearth 1 4 := ⟨ia_tb_in (List.mem_of_getElem? (i := 2116) (by decide +kernel)) rfl, ia_tb_in (List.mem_of_getElem? (i := 146) (by decide +kernel)) rfl, by decide +kernel, by decide +kernel, ⟨ia_tb_in (List.mem_of_getElem? (i := 2114) (by decide +kernel)) rfl, ia_tb_in (List.mem_of_getElem? (i := 2115) (by decide +kernel)) rfl⟩⟩
theorem ck_M_hearth_0 : ia_cks 12 10 false prog_14_method_102_code 0 [(.aload_n 0, 0, 0, 0, 0), (.iload_n 1, 0, 0, 0, 0), (.iload_n 2, 0, 0, 0, 0), (.iload_n 3, 0, 0, 0, 0), (.iload 4, 0, 0, 0, 0)] = true := by decide +kernel
theorem ck_M_hearth_9 : ia_cks 12 10 false prog_14_method_102_code 9 [(.ifCond .ne 5, 0, 0, 0, 0)] = true := by decide +kernel
theorem ck_M_hearth_14 : ia_cks 12 10 false prog_14_method_102_code 14 [(.aload_n 0, 0, 0, 0, 0), (.iconst 0, 0, 0, 0, 0), (.iconst 1, 0, 0, 0, 0)] = true := by decide +kernel
theorem ck_M_hearth_20 : ia_cks 12 10 false prog_14_method_102_code 20 [(.aload_n 0, 0, 0, 0, 0), (.iconst 1, 0, 0, 0, 0)] = true := by decide +kernel
theorem ck_M_hearth_25 : ia_cks 12 10 false prog_14_method_102_code 25 [(.istore 5, 0, 0, 0, 0), (.iconst (-1), 0, 0, 0, 0), (.istore 6, 0, 0, 0, 0), (.iconst 0, 0, 0, 0, 0), (.istore 7, 0, 0, 0, 0), (.iconst 0, 0, 0, 0, 0), (.istore 8, 0, 0, 0, 0)] = true := by decide +kernel
theorem ck_M_hearth_36 : ia_cks 12 10 false prog_14_method_102_code 36 [(.iload 8, 0, 0, 0, 0), (.aload_n 0, 0, 0, 0, 0), (.getfield 7, 12, 0, 3, 1), (.aload_n 0, 0, 0, 0, 0), (.getfield 201, 12, 14, 0, 0), (.iconst 4, 0, 0, 0, 0), (.iadd, 0, 0, 0, 0), (.iaload, 0, 0, 0, 0), (.if_icmp .ge 63, 0, 0, 0, 0)] = true := by decide +kernel
theorem ck_M_hearth_52 : ia_cks 12 10 false prog_14_method_102_code 52 [(.aload_n 0, 0, 0, 0, 0), (.iconst 1, 0, 0, 0, 0), (.iconst 0, 0, 0, 0, 0)] = true := by decide +kernel
theorem ck_M_hearth_58 : ia_cks 12 10 false prog_14_method_102_code 58 [(.aload_n 0, 0, 0, 0, 0), (.iload 8, 0, 0, 0, 0)] = true := by decide +kernel
theorem ck_M_hearth_64 : ia_cks 12 10 false prog_14_method_102_code 64 [(.ifCond .ne 6, 0, 0, 0, 0)] = true := by decide +kernel
theorem ck_M_hearth_70 : ia_cks 12 10 false prog_14_method_102_code 70 [(.aload_n 0, 0, 0, 0, 0), (.iload 8, 0, 0, 0, 0), (.putfield 26, 12, 16, 0, 0), (.aload_n 0, 0, 0, 0, 0), (.iconst 0, 0, 0, 0, 0)] = true := by decide +kernel
theorem ck_M_hearth_81 : ia_cks 12 10 false prog_14_method_102_code 81 [(.istore 9, 0, 0, 0, 0), (.aload_n 0, 0, 0, 0, 0), (.iconst (-1), 0, 0, 0, 0), (.putfield 26, 12, 16, 0, 0), (.iload 9, 0, 0, 0, 0), (.iload 7, 0, 0, 0, 0), (.if_icmp .gt 6, 0, 0, 0, 0)] = true := by decide +kernel
theorem ck_M_hearth_98 : ia_cks 12 10 false prog_14_method_102_code 98 [(.iload 8, 0, 0, 0, 0), (.istore 6, 0, 0, 0, 0), (.iload 9, 0, 0, 0, 0), (.istore 7, 0, 0, 0, 0), (.iinc 8 1, 0, 0, 0, 0), (.goto (-73), 0, 0, 0, 0)] = true := by decide +kernel
theorem ck_M_hearth_95 : ia_cks 12 10 false prog_14_method_102_code 95 [(.goto 11, 0, 0, 0, 0)] = true := by decide +kernel
theorem ck_M_hearth_106 : ia_cks 12 10 false prog_14_method_102_code 106 [(.iinc 8 1, 0, 0, 0, 0), (.goto (-73), 0, 0, 0, 0)] = true := by decide +kernel
theorem ck_M_hearth_67 : ia_cks 12 10 false prog_14_method_102_code 67 [(.goto 39, 0, 0, 0, 0)] = true := by decide +kernel
theorem ck_M_hearth_112 : ia_cks 12 10 false prog_14_method_102_code 112 [(.iload 6, 0, 0, 0, 0)] = true := by decide +kernel
theorem ck_M_hearth_12 : ia_cks 12 10 false prog_14_method_102_code 12 [(.iconst (-1), 0, 0, 0, 0)] = true := by decide +kernel
theorem dc_M_hearth_6 : decode prog_14_method_102_code 6 = .ok (.invokevirtual 309, 3) := by decide +kernel
theorem dc_M_hearth_17 : decode prog_14_method_102_code 17 = .ok (.invokevirtual 365, 3) := by decide +kernel
theorem dc_M_hearth_22 : decode prog_14_method_102_code 22 = .ok (.invokevirtual 377, 3) := by decide +kernel
theorem dc_M_hearth_55 : decode prog_14_method_102_code 55 = .ok (.invokevirtual 365, 3) := by decide +kernel
theorem dc_M_hearth_61 : decode prog_14_method_102_code 61 = .ok (.invokevirtual 222, 3) := by decide +kernel
theorem dc_M_hearth_78 : decode prog_14_method_102_code 78 = .ok (.invokevirtual 377, 3) := by decide +kernel
theorem dc_M_hearth_114 : decode prog_14_method_102_code 114 = .ok (.ireturn, 1) := by decide +kernel
theorem dc_M_hearth_13 : decode prog_14_method_102_code 13 = .ok (.ireturn, 1) := by decide +kernel
def l_M_hearth_36 (x1 : Int32) (x2 : Int32) (x3 : Int32) (x4 : Int32) (k112 : Int32 → ia_H → Option (Int32 × ia_H)) (n : Nat) (x6 : Int32) (x7 : Int32) (x8 : Int32) (h : ia_H) : Option (Int32 × ia_H) := match n with
  | 0 => none
  | n + 1 => ia_gd (ia_ib ((ia_i h 417 14) + 4) 6528) (if (ia_i h 418 (((ia_i h 417 14) + 4).toNatClampNeg)) ≤ x8 then (k112 x6 h) else ((f_M_copies 1 0 h).bind fun v5 => ((f_M_stands x8 v5).bind fun v6 => (if v6 = 0 then (l_M_hearth_36 x1 x2 x3 x4 k112 n x6 x7 (x8 + 1) v5) else ((f_M_longer 0 (ia_wI v5 417 16 x8)).bind fun v7 => (if x7 < v7.1 then (l_M_hearth_36 x1 x2 x3 x4 k112 n x8 v7.1 (x8 + 1) (ia_wI v7.2 417 16 (-1))) else (l_M_hearth_36 x1 x2 x3 x4 k112 n x6 x7 (x8 + 1) (ia_wI v7.2 417 16 (-1)))))))))
theorem tl_M_hearth_36 {w : ia_O0} {d N1 W1 : Nat} {K : ia_K} (hK : ia_isK (d + 11) mm_M_hearth N1 W1 K) {x1 : Int32} {x2 : Int32} {x3 : Int32} {x4 : Int32} {r : Int32} {h1 : ia_H} (hret : ∀ (pc : Nat) (lv : ia_L), ia_ret mm_M_hearth pc (some (.inl r)) → K pc lv ((some (.inl r)) : Option ia_V).toList h1) {k112 : Int32 → ia_H → Option (Int32 × ia_H)} (hk112 : ∀ (x6 : Int32) (h : ia_H), gd_ w h → k112 x6 h = some (r, h1) → K 112 [none, none, none, none, none, none, some (.inl x6), none, none, none] [] h) : ∀ (n : Nat) (x6 : Int32) (x7 : Int32) (x8 : Int32) (h : ia_H), gd_ w h → l_M_hearth_36 x1 x2 x3 x4 k112 n x6 x7 x8 h = some (r, h1) → K 36 [some (.inr (.inr 417)), none, none, none, none, none, some (.inl x6), some (.inl x7), some (.inl x8), none] [] h := by
  intro n
  induction n with
  | zero =>
    intro x6 x7 x8 h hg hm
    cases (show (none : Option (Int32 × ia_H)) = some _ from hm)
  | succ n ih =>
    intro x6 x7 x8 h hg hm
    rw [l_M_hearth_36] at hm
    obtain ⟨c4, hm⟩ := ia_gd_some hm
    refine ia_go hK ck_M_hearth_36 ⟨gk_12 hg pk_417, gr_12_0 hg pk_417, gk_12 hg pk_417, ga_i100 hg (ka_12_0 pk_417) c4, fun c => ?_, fun c => ?_⟩
    · replace hm := ia_ifp hm c
      show K 112 [some (.inr (.inr 417)), none, none, none, none, none, some (.inl x6), some (.inl x7), some (.inl x8), none] [] h
      refine ia_fg hK (lv' := [none, none, none, none, none, none, some (.inl x6), none, none, none]) ⟨rfl, trivial⟩ ?_
      exact hk112 x6 h hg hm
    · replace hm := ia_ifn hm c
      show K 52 [some (.inr (.inr 417)), none, none, none, none, none, some (.inl x6), some (.inl x7), some (.inl x8), none] [] h
      refine ia_go hK ck_M_hearth_52 ?_
      show K 55 [some (.inr (.inr 417)), none, none, none, none, none, some (.inl x6), some (.inl x7), some (.inl x8), none] [.inl 0, .inl 1, .inr (.inr 417)] h
      obtain ⟨v5, hv5, hm⟩ := ia_bnd hm
      have ev5 := t_M_copies (d + 10) hg hv5
      have gv5 := g_M_copies hg hv5
      refine ia_cV hK mk_M_copies lk_12_365 dc_M_hearth_55 417 [.inl 1, .inl 0] [] rfl rfl (Nat.le_of_ble_eq_true rfl) (by decide) rfl (gk_12 hg pk_417) ev5 (gd_nm hg gv5) ?_
      show K 58 [some (.inr (.inr 417)), none, none, none, none, none, some (.inl x6), some (.inl x7), some (.inl x8), none] [] v5
      refine ia_go hK ck_M_hearth_58 ?_
      show K 61 [some (.inr (.inr 417)), none, none, none, none, none, some (.inl x6), some (.inl x7), some (.inl x8), none] [.inl x8, .inr (.inr 417)] v5
      obtain ⟨v6, hv6, hm⟩ := ia_bnd hm
      have ev6 := t_M_stands (d + 8) gv5 hv6
      refine ia_cV hK mk_M_stands lk_12_222 dc_M_hearth_61 417 [.inl x8] [] rfl rfl (Nat.le_of_ble_eq_true rfl) (by decide) rfl (gk_12 gv5 pk_417) ev6 ⟨rfl, rfl⟩ ?_
      show K 64 [some (.inr (.inr 417)), none, none, none, none, none, some (.inl x6), some (.inl x7), some (.inl x8), none] [.inl v6] v5
      refine ia_go hK ck_M_hearth_64 ⟨fun c => ?_, fun c => ?_⟩
      · replace hm := ia_ifn hm c
        show K 70 [some (.inr (.inr 417)), none, none, none, none, none, some (.inl x6), some (.inl x7), some (.inl x8), none] [] v5
        refine ia_go hK ck_M_hearth_70 ⟨gk_12 gv5 pk_417, ?_⟩
        show K 78 [some (.inr (.inr 417)), none, none, none, none, none, some (.inl x6), some (.inl x7), some (.inl x8), none] [.inl 0, .inr (.inr 417)] (ia_wI v5 417 16 x8)
        obtain ⟨v7, hv7, hm⟩ := ia_bnd hm
        have ev7 := t_M_longer (d + 1) (gd_wI gv5 (ko_12 pk_417)) hv7
        have gv7 := g_M_longer (gd_wI gv5 (ko_12 pk_417)) hv7
        refine ia_cV hK mk_M_longer lk_12_377 dc_M_hearth_78 417 [.inl 0] [] rfl rfl (Nat.le_of_ble_eq_true rfl) (by decide) rfl (gk_12 (gd_wI gv5 (ko_12 pk_417)) pk_417) ev7 (gd_nm (gd_wI gv5 (ko_12 pk_417)) gv7) ?_
        show K 81 [some (.inr (.inr 417)), none, none, none, none, none, some (.inl x6), some (.inl x7), some (.inl x8), none] [.inl v7.1] v7.2
        refine ia_go hK ck_M_hearth_81 ⟨gk_12 gv7 pk_417, fun c => ?_, fun c => ?_⟩
        · replace hm := ia_ifp hm c
          show K 98 [some (.inr (.inr 417)), none, none, none, none, none, some (.inl x6), some (.inl x7), some (.inl x8), some (.inl v7.1)] [] (ia_wI v7.2 417 16 (-1))
          refine ia_go hK ck_M_hearth_98 ?_
          show K 36 [some (.inr (.inr 417)), none, none, none, none, none, some (.inl x8), some (.inl v7.1), some (.inl (x8 + 1)), some (.inl v7.1)] [] (ia_wI v7.2 417 16 (-1))
          refine ia_fg hK (lv' := [some (.inr (.inr 417)), none, none, none, none, none, some (.inl x8), some (.inl v7.1), some (.inl (x8 + 1)), none]) ⟨rfl, rfl, rfl, rfl, trivial⟩ ?_
          exact ih x8 v7.1 (x8 + 1) (ia_wI v7.2 417 16 (-1)) (gd_wI gv7 (ko_12 pk_417)) hm
        · replace hm := ia_ifn hm c
          show K 95 [some (.inr (.inr 417)), none, none, none, none, none, some (.inl x6), some (.inl x7), some (.inl x8), some (.inl v7.1)] [] (ia_wI v7.2 417 16 (-1))
          refine ia_go hK ck_M_hearth_95 ?_
          show K 106 [some (.inr (.inr 417)), none, none, none, none, none, some (.inl x6), some (.inl x7), some (.inl x8), some (.inl v7.1)] [] (ia_wI v7.2 417 16 (-1))
          refine ia_go hK ck_M_hearth_106 ?_
          show K 36 [some (.inr (.inr 417)), none, none, none, none, none, some (.inl x6), some (.inl x7), some (.inl (x8 + 1)), some (.inl v7.1)] [] (ia_wI v7.2 417 16 (-1))
          refine ia_fg hK (lv' := [some (.inr (.inr 417)), none, none, none, none, none, some (.inl x6), some (.inl x7), some (.inl (x8 + 1)), none]) ⟨rfl, rfl, rfl, rfl, trivial⟩ ?_
          exact ih x6 x7 (x8 + 1) (ia_wI v7.2 417 16 (-1)) (gd_wI gv7 (ko_12 pk_417)) hm
      · replace hm := ia_ifp hm c
        show K 67 [some (.inr (.inr 417)), none, none, none, none, none, some (.inl x6), some (.inl x7), some (.inl x8), none] [] v5
        refine ia_go hK ck_M_hearth_67 ?_
        show K 106 [some (.inr (.inr 417)), none, none, none, none, none, some (.inl x6), some (.inl x7), some (.inl x8), none] [] v5
        refine ia_go hK ck_M_hearth_106 ?_
        show K 36 [some (.inr (.inr 417)), none, none, none, none, none, some (.inl x6), some (.inl x7), some (.inl (x8 + 1)), none] [] v5
        exact ih x6 x7 (x8 + 1) v5 gv5 hm
theorem gl_M_hearth_36 {w : ia_O0} {x1 : Int32} {x2 : Int32} {x3 : Int32} {x4 : Int32} {r : Int32} {h1 : ia_H} {k112 : Int32 → ia_H → Option (Int32 × ia_H)} (hk112 : ∀ (x6 : Int32) (h : ia_H), gd_ w h → k112 x6 h = some (r, h1) → gd_ w h1) : ∀ (n : Nat) (x6 : Int32) (x7 : Int32) (x8 : Int32) (h : ia_H), gd_ w h → l_M_hearth_36 x1 x2 x3 x4 k112 n x6 x7 x8 h = some (r, h1) → gd_ w h1 := by
  intro n
  induction n with
  | zero =>
    intro x6 x7 x8 h hg hm
    cases (show (none : Option (Int32 × ia_H)) = some _ from hm)
  | succ n ih =>
    intro x6 x7 x8 h hg hm
    rw [l_M_hearth_36] at hm
    obtain ⟨c4, hm⟩ := ia_gd_some hm
    by_cases c : (ia_i h 418 (((ia_i h 417 14) + 4).toNatClampNeg)) ≤ x8
    · replace hm := ia_ifp hm c
      exact hk112 x6 h hg hm
    · replace hm := ia_ifn hm c
      obtain ⟨v5, hv5, hm⟩ := ia_bnd hm
      have gv5 := g_M_copies hg hv5
      obtain ⟨v6, hv6, hm⟩ := ia_bnd hm
      by_cases c : v6 = 0
      · replace hm := ia_ifp hm c
        exact ih x6 x7 (x8 + 1) v5 gv5 hm
      · replace hm := ia_ifn hm c
        obtain ⟨v7, hv7, hm⟩ := ia_bnd hm
        have gv7 := g_M_longer (gd_wI gv5 (ko_12 pk_417)) hv7
        by_cases c : x7 < v7.1
        · replace hm := ia_ifp hm c
          exact ih x8 v7.1 (x8 + 1) (ia_wI v7.2 417 16 (-1)) (gd_wI gv7 (ko_12 pk_417)) hm
        · replace hm := ia_ifn hm c
          exact ih x6 x7 (x8 + 1) (ia_wI v7.2 417 16 (-1)) (gd_wI gv7 (ko_12 pk_417)) hm
def f_M_hearth (x1 : Int32) (x2 : Int32) (x3 : Int32) (x4 : Int32) (h : ia_H) : Option (Int32 × ia_H) := (f_M_isState x1 x2 x3 x4 h).bind fun v1 => (if v1.1 = 0 then (some ((-1), v1.2)) else ((f_M_copies 0 1 v1.2).bind fun v2 => ((f_M_longer 1 v2).bind fun v3 => (l_M_hearth_36 x1 x2 x3 x4 (fun x6 h => some (x6, h)) fu_ (-1) 0 0 v3.2))))
theorem g_M_hearth {w : ia_O0} {x1 : Int32} {x2 : Int32} {x3 : Int32} {x4 : Int32} {h : ia_H} (hg : gd_ w h) {q : (Int32 × ia_H)} (hm : f_M_hearth x1 x2 x3 x4 h = some q) : gd_ w q.2 := by
  obtain ⟨r, h1⟩ := q
  unfold f_M_hearth at hm
  obtain ⟨v1, hv1, hm⟩ := ia_bnd hm
  have gv1 := g_M_isState hg hv1
  by_cases c : v1.1 = 0
  · replace hm := ia_ifp hm c
    obtain ⟨rfl, rfl⟩ := Prod.mk.inj (Option.some.inj hm)
    exact gv1
  · replace hm := ia_ifn hm c
    obtain ⟨v2, hv2, hm⟩ := ia_bnd hm
    have gv2 := g_M_copies gv1 hv2
    obtain ⟨v3, hv3, hm⟩ := ia_bnd hm
    have gv3 := g_M_longer gv2 hv3
    refine gl_M_hearth_36 ?_ fu_ (-1) 0 0 v3.2 gv3 hm
    · intro x6 h hg hm
      obtain ⟨rfl, rfl⟩ := Prod.mk.inj (Option.some.inj hm)
      exact hg
theorem t_M_hearth {w : ia_O0} (d : Nat) {x1 : Int32} {x2 : Int32} {x3 : Int32} {x4 : Int32} {h : ia_H} (hg : gd_ w h) {q : (Int32 × ia_H)} (hm : f_M_hearth x1 x2 x3 x4 h = some q) : ia_Ev (d + 11) mm_M_hearth [.inr (.inr 417), .inl x1, .inl x2, .inl x3, .inl x4] h (some (.inl q.1)) q.2 := by
  have gq := g_M_hearth hg hm
  refine ia_Ev_intro ok_M_hearth (gd_le hg gq).1 (gd_le hg gq).2 (Nat.le_of_ble_eq_true rfl) (fun K hK hret => ?_)
  obtain ⟨r, h1⟩ := q
  show K 0 [some (.inr (.inr 417)), some (.inl x1), some (.inl x2), some (.inl x3), some (.inl x4), none, none, none, none, none] [] h
  unfold f_M_hearth at hm
  refine ia_go hK ck_M_hearth_0 ?_
  show K 6 [some (.inr (.inr 417)), some (.inl x1), some (.inl x2), some (.inl x3), some (.inl x4), none, none, none, none, none] [.inl x4, .inl x3, .inl x2, .inl x1, .inr (.inr 417)] h
  obtain ⟨v1, hv1, hm⟩ := ia_bnd hm
  have ev1 := t_M_isState (d + 0) hg hv1
  have gv1 := g_M_isState hg hv1
  refine ia_cV hK mk_M_isState lk_12_309 dc_M_hearth_6 417 [.inl x1, .inl x2, .inl x3, .inl x4] [] rfl rfl (Nat.le_of_ble_eq_true rfl) (by decide) rfl (gk_12 hg pk_417) ev1 (gd_nm hg gv1) ?_
  show K 9 [some (.inr (.inr 417)), some (.inl x1), some (.inl x2), some (.inl x3), some (.inl x4), none, none, none, none, none] [.inl v1.1] v1.2
  refine ia_go hK ck_M_hearth_9 ⟨fun c => ?_, fun c => ?_⟩
  · replace hm := ia_ifn hm c
    show K 14 [some (.inr (.inr 417)), some (.inl x1), some (.inl x2), some (.inl x3), some (.inl x4), none, none, none, none, none] [] v1.2
    refine ia_go hK ck_M_hearth_14 ?_
    show K 17 [some (.inr (.inr 417)), some (.inl x1), some (.inl x2), some (.inl x3), some (.inl x4), none, none, none, none, none] [.inl 1, .inl 0, .inr (.inr 417)] v1.2
    obtain ⟨v2, hv2, hm⟩ := ia_bnd hm
    have ev2 := t_M_copies (d + 10) gv1 hv2
    have gv2 := g_M_copies gv1 hv2
    refine ia_cV hK mk_M_copies lk_12_365 dc_M_hearth_17 417 [.inl 0, .inl 1] [] rfl rfl (Nat.le_of_ble_eq_true rfl) (by decide) rfl (gk_12 gv1 pk_417) ev2 (gd_nm gv1 gv2) ?_
    show K 20 [some (.inr (.inr 417)), some (.inl x1), some (.inl x2), some (.inl x3), some (.inl x4), none, none, none, none, none] [] v2
    refine ia_go hK ck_M_hearth_20 ?_
    show K 22 [some (.inr (.inr 417)), some (.inl x1), some (.inl x2), some (.inl x3), some (.inl x4), none, none, none, none, none] [.inl 1, .inr (.inr 417)] v2
    obtain ⟨v3, hv3, hm⟩ := ia_bnd hm
    have ev3 := t_M_longer (d + 1) gv2 hv3
    have gv3 := g_M_longer gv2 hv3
    refine ia_cV hK mk_M_longer lk_12_377 dc_M_hearth_22 417 [.inl 1] [] rfl rfl (Nat.le_of_ble_eq_true rfl) (by decide) rfl (gk_12 gv2 pk_417) ev3 (gd_nm gv2 gv3) ?_
    show K 25 [some (.inr (.inr 417)), some (.inl x1), some (.inl x2), some (.inl x3), some (.inl x4), none, none, none, none, none] [.inl v3.1] v3.2
    refine ia_go hK ck_M_hearth_25 ?_
    show K 36 [some (.inr (.inr 417)), some (.inl x1), some (.inl x2), some (.inl x3), some (.inl x4), some (.inl v3.1), some (.inl (-1)), some (.inl 0), some (.inl 0), none] [] v3.2
    refine ia_fg hK (lv' := [some (.inr (.inr 417)), none, none, none, none, none, some (.inl (-1)), some (.inl 0), some (.inl 0), none]) ⟨rfl, rfl, rfl, rfl, trivial⟩ ?_
    refine tl_M_hearth_36 hK hret ?_ fu_ (-1) 0 0 v3.2 gv3 hm
    · intro x6 h hg hm
      refine ia_go hK ck_M_hearth_112 ?_
      show K 114 [none, none, none, none, none, none, some (.inl x6), none, none, none] [.inl x6] h
      obtain ⟨rfl, rfl⟩ := Prod.mk.inj (Option.some.inj hm)
      exact hret 114 _ dc_M_hearth_114
  · replace hm := ia_ifp hm c
    show K 12 [some (.inr (.inr 417)), some (.inl x1), some (.inl x2), some (.inl x3), some (.inl x4), none, none, none, none, none] [] v1.2
    refine ia_go hK ck_M_hearth_12 ?_
    show K 13 [some (.inr (.inr 417)), some (.inl x1), some (.inl x2), some (.inl x3), some (.inl x4), none, none, none, none, none] [.inl (-1)] v1.2
    obtain ⟨rfl, rfl⟩ := Prod.mk.inj (Option.some.inj hm)
    exact hret 13 _ dc_M_hearth_13
