def mm_M_placeOf : ia_M := (⟨"IceStreetModel", "placeOf", "(II)I"⟩, prog_14_method_27_code, 2, (some .int), 12, false)
theorem ok_M_placeOf : ia_mok mm_M_placeOf := ⟨by decide +kernel, by decide +kernel, by decide +kernel, by decide +kernel⟩
theorem mk_M_placeOf : ia_mkn mm_M_placeOf 0 2 := ⟨ia_tb_in (List.mem_of_getElem? (i := 1831) (by decide +kernel)) rfl, ia_tb_in (List.mem_of_getElem? (i := 146) (by decide +kernel)) rfl, by decide +kernel, by decide +kernel, ia_tb_in (List.mem_of_getElem? (i := 1830) (by decide +kernel)) rfl⟩
theorem ck_M_placeOf_0 : ia_cks 12 2 false prog_14_method_27_code 0 [(.iload_n 0, 0, 0, 0, 0), (.ifCond .ne 15, 0, 0, 0, 0)] = true := by decide +kernel
theorem ck_M_placeOf_16 : ia_cks 12 2 false prog_14_method_27_code 16 [(.iload_n 0, 0, 0, 0, 0), (.iconst 1, 0, 0, 0, 0), (.if_icmp .ne 14, 0, 0, 0, 0)] = true := by decide +kernel
theorem ck_M_placeOf_32 : ia_cks 12 2 false prog_14_method_27_code 32 [(.sipush 1266, 0, 0, 0, 0), (.bipush 122, 0, 0, 0, 0), (.iload_n 1, 0, 0, 0, 0), (.imul, 0, 0, 0, 0), (.iadd, 0, 0, 0, 0)] = true := by decide +kernel
theorem ck_M_placeOf_21 : ia_cks 12 2 false prog_14_method_27_code 21 [(.sipush 1130, 0, 0, 0, 0), (.bipush 68, 0, 0, 0, 0), (.iload_n 1, 0, 0, 0, 0), (.imul, 0, 0, 0, 0), (.iadd, 0, 0, 0, 0), (.goto 11, 0, 0, 0, 0)] = true := by decide +kernel
theorem ck_M_placeOf_4 : ia_cks 12 2 false prog_14_method_27_code 4 [(.sipush 610, 0, 0, 0, 0), (.sipush 260, 0, 0, 0, 0), (.iload_n 1, 0, 0, 0, 0), (.imul, 0, 0, 0, 0), (.iadd, 0, 0, 0, 0), (.goto 27, 0, 0, 0, 0)] = true := by decide +kernel
theorem dc_M_placeOf_40 : decode prog_14_method_27_code 40 = .ok (.ireturn, 1) := by decide +kernel
def f_M_placeOf (x0 : Int32) (x1 : Int32) (h : ia_H) : Option Int32 := if x0 = 0 then (some (610 + (260 * x1))) else (if x0 = 1 then (some (1130 + (68 * x1))) else (some (1266 + (122 * x1))))
theorem t_M_placeOf {w : ia_O0} (d : Nat) {x0 : Int32} {x1 : Int32} {h : ia_H} (hg : gd_ w h) {r : Int32} (hm : f_M_placeOf x0 x1 h = some r) : ia_Ev (d + 0) mm_M_placeOf [.inl x0, .inl x1] h (some (.inl r)) h := by
  refine ia_Ev_intro ok_M_placeOf (Nat.le_refl _) (Nat.le_refl _) (Nat.le_of_ble_eq_true rfl) (fun K hK hret => ?_)
  show K 0 [some (.inl x0), some (.inl x1)] [] h
  unfold f_M_placeOf at hm
  refine ia_go hK ck_M_placeOf_0 ⟨fun c => ?_, fun c => ?_⟩
  · replace hm := ia_ifn hm c
    show K 16 [some (.inl x0), some (.inl x1)] [] h
    refine ia_go hK ck_M_placeOf_16 ⟨fun c => ?_, fun c => ?_⟩
    · replace hm := ia_ifn hm c
      show K 32 [some (.inl x0), some (.inl x1)] [] h
      refine ia_go hK ck_M_placeOf_32 ?_
      show K 40 [some (.inl x0), some (.inl x1)] [.inl (1266 + (122 * x1))] h
      obtain rfl := Option.some.inj hm
      exact hret 40 _ dc_M_placeOf_40
    · replace hm := ia_ifp hm c
      show K 21 [some (.inl x0), some (.inl x1)] [] h
      refine ia_go hK ck_M_placeOf_21 ?_
      show K 40 [some (.inl x0), some (.inl x1)] [.inl (1130 + (68 * x1))] h
      obtain rfl := Option.some.inj hm
      exact hret 40 _ dc_M_placeOf_40
  · replace hm := ia_ifp hm c
    show K 4 [some (.inl x0), some (.inl x1)] [] h
    refine ia_go hK ck_M_placeOf_4 ?_
    show K 40 [some (.inl x0), some (.inl x1)] [.inl (610 + (260 * x1))] h
    obtain rfl := Option.some.inj hm
    exact hret 40 _ dc_M_placeOf_40
def mm_M_text : ia_M := (⟨"IceStreetModel", "text", "(II)I"⟩, prog_14_method_30_code, 6, (some .int), 12, false)
theorem ok_M_text : ia_mok mm_M_text := ⟨by decide +kernel, by decide +kernel, by decide +kernel, by decide +kernel⟩
theorem mk_M_text : ia_mkn mm_M_text 1 2 := ⟨ia_tb_in (List.mem_of_getElem? (i := 1734) (by decide +kernel)) rfl, ia_tb_in (List.mem_of_getElem? (i := 146) (by decide +kernel)) rfl, by decide +kernel, by decide +kernel, ⟨ia_tb_in (List.mem_of_getElem? (i := 1732) (by decide +kernel)) rfl, ia_tb_in (List.mem_of_getElem? (i := 1733) (by decide +kernel)) rfl⟩⟩
theorem ck_M_text_0 : ia_cks 12 6 false prog_14_method_30_code 0 [(.aload_n 0, 0, 0, 0, 0), (.aload_n 0, 0, 0, 0, 0), (.getfield 7, 12, 0, 3, 1), (.iconst 3, 0, 0, 0, 0), (.iaload, 0, 0, 0, 0), (.putfield 69, 12, 2, 0, 0), (.aload_n 0, 0, 0, 0, 0), (.getfield 7, 12, 0, 3, 1), (.iconst 3, 0, 0, 0, 0), (.iconst 0, 0, 0, 0, 0), (.iastore, 0, 0, 0, 0), (.aload_n 0, 0, 0, 0, 0), (.getfield 7, 12, 0, 3, 1), (.iconst 4, 0, 0, 0, 0), (.iconst 0, 0, 0, 0, 0), (.iastore, 0, 0, 0, 0), (.aload_n 0, 0, 0, 0, 0), (.getfield 7, 12, 0, 3, 1), (.iconst 5, 0, 0, 0, 0), (.iconst (-1), 0, 0, 0, 0), (.iastore, 0, 0, 0, 0), (.iload_n 1, 0, 0, 0, 0), (.iconst 0, 0, 0, 0, 0), (.iconst 2, 0, 0, 0, 0)] = true := by decide +kernel
theorem ck_M_text_37 : ia_cks 12 6 false prog_14_method_30_code 37 [(.ifCond .eq 39, 0, 0, 0, 0)] = true := by decide +kernel
theorem ck_M_text_76 : ia_cks 12 6 false prog_14_method_30_code 76 [(.bipush (-2), 0, 0, 0, 0)] = true := by decide +kernel
theorem ck_M_text_40 : ia_cks 12 6 false prog_14_method_30_code 40 [(.iload_n 2, 0, 0, 0, 0), (.iconst (-1), 0, 0, 0, 0), (.if_icmp .ne 25, 0, 0, 0, 0)] = true := by decide +kernel
theorem ck_M_text_67 : ia_cks 12 6 false prog_14_method_30_code 67 [(.aload_n 0, 0, 0, 0, 0), (.iload_n 1, 0, 0, 0, 0), (.iload_n 2, 0, 0, 0, 0)] = true := by decide +kernel
theorem ck_M_text_73 : ia_cks 12 6 false prog_14_method_30_code 73 [(.ifCond .ne 6, 0, 0, 0, 0)] = true := by decide +kernel
theorem ck_M_text_79 : ia_cks 12 6 false prog_14_method_30_code 79 [(.aload_n 0, 0, 0, 0, 0), (.iconst 0, 0, 0, 0, 0), (.putfield 80, 12, 3, 0, 0), (.aload_n 0, 0, 0, 0, 0), (.iconst 0, 0, 0, 0, 0), (.putfield 109, 12, 8, 5, 0), (.aload_n 0, 0, 0, 0, 0), (.iload_n 1, 0, 0, 0, 0)] = true := by decide +kernel
theorem ck_M_text_94 : ia_cks 12 6 false prog_14_method_30_code 94 [(.aload_n 0, 0, 0, 0, 0)] = true := by decide +kernel
theorem ck_M_text_98 : ia_cks 12 6 false prog_14_method_30_code 98 [(.aload_n 0, 0, 0, 0, 0), (.getfield 109, 12, 8, 0, 0), (.ifCond .ne 40, 0, 0, 0, 0)] = true := by decide +kernel
theorem ck_M_text_105 : ia_cks 12 6 false prog_14_method_30_code 105 [(.aload_n 0, 0, 0, 0, 0), (.getfield 90, 12, 5, 0, 0), (.ifCond .eq 33, 0, 0, 0, 0)] = true := by decide +kernel
theorem ck_M_text_112 : ia_cks 12 6 false prog_14_method_30_code 112 [(.iload_n 1, 0, 0, 0, 0), (.ifCond .ne 10, 0, 0, 0, 0)] = true := by decide +kernel
theorem ck_M_text_123 : ia_cks 12 6 false prog_14_method_30_code 123 [(.iload_n 1, 0, 0, 0, 0), (.iconst 1, 0, 0, 0, 0), (.if_icmp .ne 10, 0, 0, 0, 0)] = true := by decide +kernel
theorem ck_M_text_135 : ia_cks 12 6 false prog_14_method_30_code 135 [(.aload_n 0, 0, 0, 0, 0)] = true := by decide +kernel
theorem ck_M_text_139 : ia_cks 12 6 false prog_14_method_30_code 139 [(.goto (-41), 0, 0, 0, 0)] = true := by decide +kernel
theorem ck_M_text_128 : ia_cks 12 6 false prog_14_method_30_code 128 [(.aload_n 0, 0, 0, 0, 0)] = true := by decide +kernel
theorem ck_M_text_132 : ia_cks 12 6 false prog_14_method_30_code 132 [(.goto (-34), 0, 0, 0, 0)] = true := by decide +kernel
theorem ck_M_text_116 : ia_cks 12 6 false prog_14_method_30_code 116 [(.aload_n 0, 0, 0, 0, 0)] = true := by decide +kernel
theorem ck_M_text_120 : ia_cks 12 6 false prog_14_method_30_code 120 [(.goto (-22), 0, 0, 0, 0)] = true := by decide +kernel
theorem ck_M_text_142 : ia_cks 12 6 false prog_14_method_30_code 142 [(.aload_n 0, 0, 0, 0, 0), (.getfield 7, 12, 0, 3, 1), (.iconst 4, 0, 0, 0, 0), (.iaload, 0, 0, 0, 0), (.ifCond .ne 23, 0, 0, 0, 0)] = true := by decide +kernel
theorem ck_M_text_171 : ia_cks 12 6 false prog_14_method_30_code 171 [(.aload_n 0, 0, 0, 0, 0), (.getfield 7, 12, 0, 3, 1), (.iconst 4, 0, 0, 0, 0), (.iaload, 0, 0, 0, 0), (.ifCond .eq 5, 0, 0, 0, 0)] = true := by decide +kernel
theorem ck_M_text_182 : ia_cks 12 6 false prog_14_method_30_code 182 [(.iload_n 2, 0, 0, 0, 0), (.iconst (-1), 0, 0, 0, 0), (.if_icmp .ne 12, 0, 0, 0, 0)] = true := by decide +kernel
theorem ck_M_text_196 : ia_cks 12 6 false prog_14_method_30_code 196 [(.iload_n 2, 0, 0, 0, 0)] = true := by decide +kernel
theorem ck_M_text_197 : ia_cks 12 6 false prog_14_method_30_code 197 [(.istore_n 3, 0, 0, 0, 0), (.iload_n 2, 0, 0, 0, 0), (.iconst (-1), 0, 0, 0, 0), (.if_icmp .ne 13, 0, 0, 0, 0)] = true := by decide +kernel
theorem ck_M_text_213 : ia_cks 12 6 false prog_14_method_30_code 213 [(.iload_n 1, 0, 0, 0, 0), (.ifCond .ne 9, 0, 0, 0, 0)] = true := by decide +kernel
theorem ck_M_text_223 : ia_cks 12 6 false prog_14_method_30_code 223 [(.iload_n 1, 0, 0, 0, 0), (.iconst 1, 0, 0, 0, 0), (.if_icmp .ne 8, 0, 0, 0, 0)] = true := by decide +kernel
theorem ck_M_text_233 : ia_cks 12 6 false prog_14_method_30_code 233 [(.bipush 122, 0, 0, 0, 0), (.istore 4, 0, 0, 0, 0), (.iconst 0, 0, 0, 0, 0), (.istore 5, 0, 0, 0, 0)] = true := by decide +kernel
theorem ck_M_text_240 : ia_cks 12 6 false prog_14_method_30_code 240 [(.iload 5, 0, 0, 0, 0), (.iload 4, 0, 0, 0, 0), (.if_icmp .ge 29, 0, 0, 0, 0)] = true := by decide +kernel
theorem ck_M_text_247 : ia_cks 12 6 false prog_14_method_30_code 247 [(.aload_n 0, 0, 0, 0, 0), (.getfield 7, 12, 0, 3, 1), (.iload_n 1, 0, 0, 0, 0), (.iload_n 3, 0, 0, 0, 0)] = true := by decide +kernel
theorem ck_M_text_256 : ia_cks 12 6 false prog_14_method_30_code 256 [(.iload 5, 0, 0, 0, 0), (.iadd, 0, 0, 0, 0), (.aload_n 0, 0, 0, 0, 0), (.getfield 17, 12, 10, 3, 3), (.iload 5, 0, 0, 0, 0), (.iaload, 0, 0, 0, 0), (.iastore, 0, 0, 0, 0), (.iinc 5 1, 0, 0, 0, 0), (.goto (-30), 0, 0, 0, 0)] = true := by decide +kernel
theorem ck_M_text_273 : ia_cks 12 6 false prog_14_method_30_code 273 [(.iload_n 3, 0, 0, 0, 0)] = true := by decide +kernel
theorem ck_M_text_228 : ia_cks 12 6 false prog_14_method_30_code 228 [(.bipush 68, 0, 0, 0, 0), (.goto 5, 0, 0, 0, 0)] = true := by decide +kernel
theorem ck_M_text_235 : ia_cks 12 6 false prog_14_method_30_code 235 [(.istore 4, 0, 0, 0, 0), (.iconst 0, 0, 0, 0, 0), (.istore 5, 0, 0, 0, 0)] = true := by decide +kernel
theorem ck_M_text_217 : ia_cks 12 6 false prog_14_method_30_code 217 [(.sipush 260, 0, 0, 0, 0), (.goto 15, 0, 0, 0, 0)] = true := by decide +kernel
theorem ck_M_text_203 : ia_cks 12 6 false prog_14_method_30_code 203 [(.aload_n 0, 0, 0, 0, 0), (.getfield 7, 12, 0, 3, 1), (.iload_n 1, 0, 0, 0, 0), (.dup2, 0, 0, 0, 0), (.iaload, 0, 0, 0, 0), (.iconst 1, 0, 0, 0, 0), (.iadd, 0, 0, 0, 0), (.iastore, 0, 0, 0, 0)] = true := by decide +kernel
theorem ck_M_text_187 : ia_cks 12 6 false prog_14_method_30_code 187 [(.aload_n 0, 0, 0, 0, 0), (.getfield 7, 12, 0, 3, 1), (.iload_n 1, 0, 0, 0, 0), (.iaload, 0, 0, 0, 0), (.goto 4, 0, 0, 0, 0)] = true := by decide +kernel
theorem ck_M_text_180 : ia_cks 12 6 false prog_14_method_30_code 180 [(.iconst (-1), 0, 0, 0, 0)] = true := by decide +kernel
theorem ck_M_text_151 : ia_cks 12 6 false prog_14_method_30_code 151 [(.iload_n 1, 0, 0, 0, 0), (.ifCond .ne 19, 0, 0, 0, 0)] = true := by decide +kernel
theorem ck_M_text_155 : ia_cks 12 6 false prog_14_method_30_code 155 [(.aload_n 0, 0, 0, 0, 0)] = true := by decide +kernel
theorem ck_M_text_159 : ia_cks 12 6 false prog_14_method_30_code 159 [(.ifCond .ne 12, 0, 0, 0, 0)] = true := by decide +kernel
theorem ck_M_text_162 : ia_cks 12 6 false prog_14_method_30_code 162 [(.aload_n 0, 0, 0, 0, 0), (.iconst 4, 0, 0, 0, 0), (.aload_n 0, 0, 0, 0, 0), (.getfield 87, 12, 4, 0, 0)] = true := by decide +kernel
theorem ck_M_text_45 : ia_cks 12 6 false prog_14_method_30_code 45 [(.aload_n 0, 0, 0, 0, 0), (.getfield 7, 12, 0, 3, 1), (.iload_n 1, 0, 0, 0, 0), (.iaload, 0, 0, 0, 0), (.iload_n 1, 0, 0, 0, 0), (.iconst 2, 0, 0, 0, 0), (.if_icmp .ne 7, 0, 0, 0, 0)] = true := by decide +kernel
theorem ck_M_text_60 : ia_cks 12 6 false prog_14_method_30_code 60 [(.iconst 2, 0, 0, 0, 0)] = true := by decide +kernel
theorem ck_M_text_61 : ia_cks 12 6 false prog_14_method_30_code 61 [(.if_icmp .lt 18, 0, 0, 0, 0)] = true := by decide +kernel
theorem ck_M_text_64 : ia_cks 12 6 false prog_14_method_30_code 64 [(.goto 12, 0, 0, 0, 0)] = true := by decide +kernel
theorem ck_M_text_56 : ia_cks 12 6 false prog_14_method_30_code 56 [(.iconst 3, 0, 0, 0, 0), (.goto 4, 0, 0, 0, 0)] = true := by decide +kernel
theorem dc_M_text_34 : decode prog_14_method_30_code 34 = .ok (.invokestatic 116, 3) := by decide +kernel
theorem dc_M_text_78 : decode prog_14_method_30_code 78 = .ok (.ireturn, 1) := by decide +kernel
theorem dc_M_text_70 : decode prog_14_method_30_code 70 = .ok (.invokevirtual 163, 3) := by decide +kernel
theorem dc_M_text_91 : decode prog_14_method_30_code 91 = .ok (.invokevirtual 167, 3) := by decide +kernel
theorem dc_M_text_95 : decode prog_14_method_30_code 95 = .ok (.invokevirtual 124, 3) := by decide +kernel
theorem dc_M_text_136 : decode prog_14_method_30_code 136 = .ok (.invokevirtual 176, 3) := by decide +kernel
theorem dc_M_text_129 : decode prog_14_method_30_code 129 = .ok (.invokevirtual 173, 3) := by decide +kernel
theorem dc_M_text_117 : decode prog_14_method_30_code 117 = .ok (.invokevirtual 170, 3) := by decide +kernel
theorem dc_M_text_253 : decode prog_14_method_30_code 253 = .ok (.invokestatic 183, 3) := by decide +kernel
theorem dc_M_text_274 : decode prog_14_method_30_code 274 = .ok (.ireturn, 1) := by decide +kernel
theorem dc_M_text_181 : decode prog_14_method_30_code 181 = .ok (.ireturn, 1) := by decide +kernel
theorem dc_M_text_156 : decode prog_14_method_30_code 156 = .ok (.invokevirtual 179, 3) := by decide +kernel
theorem dc_M_text_168 : decode prog_14_method_30_code 168 = .ok (.invokevirtual 120, 3) := by decide +kernel
def l_M_text_98 (x1 : Int32) (x2 : Int32) (k142 : ia_H → Option (Int32 × ia_H)) (n : Nat) (h : ia_H) : Option (Int32 × ia_H) := match n with
  | 0 => none
  | n + 1 => if (ia_i h 417 8) = 0 then (if (ia_i h 417 5) = 0 then (k142 h) else (if x1 = 0 then ((f_M_lakeLine h).bind fun v7 => (l_M_text_98 x1 x2 k142 n v7)) else (if x1 = 1 then ((f_M_lawLine h).bind fun v6 => (l_M_text_98 x1 x2 k142 n v6)) else ((f_M_planLine h).bind fun v5 => (l_M_text_98 x1 x2 k142 n v5))))) else (k142 h)
theorem tl_M_text_98 {w : ia_O0} {d N1 W1 : Nat} {K : ia_K} (hK : ia_isK (d + 9) mm_M_text N1 W1 K) {x1 : Int32} {x2 : Int32} {r : Int32} {h1 : ia_H} (hret : ∀ (pc : Nat) (lv : ia_L), ia_ret mm_M_text pc (some (.inl r)) → K pc lv ((some (.inl r)) : Option ia_V).toList h1) {k142 : ia_H → Option (Int32 × ia_H)} (hk142 : ∀ (h : ia_H), gd_ w h → k142 h = some (r, h1) → K 142 [some (.inr (.inr 417)), some (.inl x1), some (.inl x2), none, none, none] [] h) : ∀ (n : Nat) (h : ia_H), gd_ w h → l_M_text_98 x1 x2 k142 n h = some (r, h1) → K 98 [some (.inr (.inr 417)), some (.inl x1), some (.inl x2), none, none, none] [] h := by
  intro n
  induction n with
  | zero =>
    intro h hg hm
    cases (show (none : Option (Int32 × ia_H)) = some _ from hm)
  | succ n ih =>
    intro h hg hm
    rw [l_M_text_98] at hm
    refine ia_go hK ck_M_text_98 ⟨gk_12 hg pk_417, fun c => ?_, fun c => ?_⟩
    · replace hm := ia_ifn hm c
      show K 142 [some (.inr (.inr 417)), some (.inl x1), some (.inl x2), none, none, none] [] h
      exact hk142 h hg hm
    · replace hm := ia_ifp hm c
      show K 105 [some (.inr (.inr 417)), some (.inl x1), some (.inl x2), none, none, none] [] h
      refine ia_go hK ck_M_text_105 ⟨gk_12 hg pk_417, fun c => ?_, fun c => ?_⟩
      · replace hm := ia_ifp hm c
        show K 142 [some (.inr (.inr 417)), some (.inl x1), some (.inl x2), none, none, none] [] h
        exact hk142 h hg hm
      · replace hm := ia_ifn hm c
        show K 112 [some (.inr (.inr 417)), some (.inl x1), some (.inl x2), none, none, none] [] h
        refine ia_go hK ck_M_text_112 ⟨fun c => ?_, fun c => ?_⟩
        · replace hm := ia_ifn hm c
          show K 123 [some (.inr (.inr 417)), some (.inl x1), some (.inl x2), none, none, none] [] h
          refine ia_go hK ck_M_text_123 ⟨fun c => ?_, fun c => ?_⟩
          · replace hm := ia_ifn hm c
            show K 135 [some (.inr (.inr 417)), some (.inl x1), some (.inl x2), none, none, none] [] h
            refine ia_go hK ck_M_text_135 ?_
            show K 136 [some (.inr (.inr 417)), some (.inl x1), some (.inl x2), none, none, none] [.inr (.inr 417)] h
            obtain ⟨v5, hv5, hm⟩ := ia_bnd hm
            have ev5 := t_M_planLine (d + 1) hg hv5
            have gv5 := g_M_planLine hg hv5
            refine ia_cV hK mk_M_planLine lk_12_176 dc_M_text_136 417 [] [] rfl rfl (Nat.le_of_ble_eq_true rfl) (by decide) rfl (gk_12 hg pk_417) ev5 (gd_nm hg gv5) ?_
            show K 139 [some (.inr (.inr 417)), some (.inl x1), some (.inl x2), none, none, none] [] v5
            refine ia_go hK ck_M_text_139 ?_
            show K 98 [some (.inr (.inr 417)), some (.inl x1), some (.inl x2), none, none, none] [] v5
            exact ih v5 gv5 hm
          · replace hm := ia_ifp hm c
            show K 128 [some (.inr (.inr 417)), some (.inl x1), some (.inl x2), none, none, none] [] h
            refine ia_go hK ck_M_text_128 ?_
            show K 129 [some (.inr (.inr 417)), some (.inl x1), some (.inl x2), none, none, none] [.inr (.inr 417)] h
            obtain ⟨v6, hv6, hm⟩ := ia_bnd hm
            have ev6 := t_M_lawLine (d + 1) hg hv6
            have gv6 := g_M_lawLine hg hv6
            refine ia_cV hK mk_M_lawLine lk_12_173 dc_M_text_129 417 [] [] rfl rfl (Nat.le_of_ble_eq_true rfl) (by decide) rfl (gk_12 hg pk_417) ev6 (gd_nm hg gv6) ?_
            show K 132 [some (.inr (.inr 417)), some (.inl x1), some (.inl x2), none, none, none] [] v6
            refine ia_go hK ck_M_text_132 ?_
            show K 98 [some (.inr (.inr 417)), some (.inl x1), some (.inl x2), none, none, none] [] v6
            exact ih v6 gv6 hm
        · replace hm := ia_ifp hm c
          show K 116 [some (.inr (.inr 417)), some (.inl x1), some (.inl x2), none, none, none] [] h
          refine ia_go hK ck_M_text_116 ?_
          show K 117 [some (.inr (.inr 417)), some (.inl x1), some (.inl x2), none, none, none] [.inr (.inr 417)] h
          obtain ⟨v7, hv7, hm⟩ := ia_bnd hm
          have ev7 := t_M_lakeLine (d + 0) hg hv7
          have gv7 := g_M_lakeLine hg hv7
          refine ia_cV hK mk_M_lakeLine lk_12_170 dc_M_text_117 417 [] [] rfl rfl (Nat.le_of_ble_eq_true rfl) (by decide) rfl (gk_12 hg pk_417) ev7 (gd_nm hg gv7) ?_
          show K 120 [some (.inr (.inr 417)), some (.inl x1), some (.inl x2), none, none, none] [] v7
          refine ia_go hK ck_M_text_120 ?_
          show K 98 [some (.inr (.inr 417)), some (.inl x1), some (.inl x2), none, none, none] [] v7
          exact ih v7 gv7 hm
theorem gl_M_text_98 {w : ia_O0} {x1 : Int32} {x2 : Int32} {r : Int32} {h1 : ia_H} {k142 : ia_H → Option (Int32 × ia_H)} (hk142 : ∀ (h : ia_H), gd_ w h → k142 h = some (r, h1) → gd_ w h1) : ∀ (n : Nat) (h : ia_H), gd_ w h → l_M_text_98 x1 x2 k142 n h = some (r, h1) → gd_ w h1 := by
  intro n
  induction n with
  | zero =>
    intro h hg hm
    cases (show (none : Option (Int32 × ia_H)) = some _ from hm)
  | succ n ih =>
    intro h hg hm
    rw [l_M_text_98] at hm
    by_cases c : (ia_i h 417 8) = 0
    · replace hm := ia_ifp hm c
      by_cases c : (ia_i h 417 5) = 0
      · replace hm := ia_ifp hm c
        exact hk142 h hg hm
      · replace hm := ia_ifn hm c
        by_cases c : x1 = 0
        · replace hm := ia_ifp hm c
          obtain ⟨v7, hv7, hm⟩ := ia_bnd hm
          have gv7 := g_M_lakeLine hg hv7
          exact ih v7 gv7 hm
        · replace hm := ia_ifn hm c
          by_cases c : x1 = 1
          · replace hm := ia_ifp hm c
            obtain ⟨v6, hv6, hm⟩ := ia_bnd hm
            have gv6 := g_M_lawLine hg hv6
            exact ih v6 gv6 hm
          · replace hm := ia_ifn hm c
            obtain ⟨v5, hv5, hm⟩ := ia_bnd hm
            have gv5 := g_M_planLine hg hv5
            exact ih v5 gv5 hm
    · replace hm := ia_ifn hm c
      exact hk142 h hg hm
def l_M_text_240 (x1 : Int32) (x2 : Int32) (k273 : Int32 → ia_H → Option (Int32 × ia_H)) (n : Nat) (x3 : Int32) (x4 : Int32) (x5 : Int32) (h : ia_H) : Option (Int32 × ia_H) := match n with
  | 0 => none
  | n + 1 => if x4 ≤ x5 then (k273 x3 h) else ((f_M_placeOf x1 x3 h).bind fun v8 => (ia_gd (ia_ib x5 260) (ia_gd (ia_ib (v8 + x5) 6528) (l_M_text_240 x1 x2 k273 n x3 x4 (x5 + 1) (ia_wI h 418 ((v8 + x5).toNatClampNeg) (ia_i h 420 ((x5).toNatClampNeg)))))))
theorem tl_M_text_240 {w : ia_O0} {d N1 W1 : Nat} {K : ia_K} (hK : ia_isK (d + 9) mm_M_text N1 W1 K) {x1 : Int32} {x2 : Int32} {r : Int32} {h1 : ia_H} (hret : ∀ (pc : Nat) (lv : ia_L), ia_ret mm_M_text pc (some (.inl r)) → K pc lv ((some (.inl r)) : Option ia_V).toList h1) {k273 : Int32 → ia_H → Option (Int32 × ia_H)} (hk273 : ∀ (x3 : Int32) (h : ia_H), gd_ w h → k273 x3 h = some (r, h1) → K 273 [none, none, none, some (.inl x3), none, none] [] h) : ∀ (n : Nat) (x3 : Int32) (x4 : Int32) (x5 : Int32) (h : ia_H), gd_ w h → l_M_text_240 x1 x2 k273 n x3 x4 x5 h = some (r, h1) → K 240 [some (.inr (.inr 417)), some (.inl x1), none, some (.inl x3), some (.inl x4), some (.inl x5)] [] h := by
  intro n
  induction n with
  | zero =>
    intro x3 x4 x5 h hg hm
    cases (show (none : Option (Int32 × ia_H)) = some _ from hm)
  | succ n ih =>
    intro x3 x4 x5 h hg hm
    rw [l_M_text_240] at hm
    refine ia_go hK ck_M_text_240 ⟨fun c => ?_, fun c => ?_⟩
    · replace hm := ia_ifp hm c
      show K 273 [some (.inr (.inr 417)), some (.inl x1), none, some (.inl x3), some (.inl x4), some (.inl x5)] [] h
      refine ia_fg hK (lv' := [none, none, none, some (.inl x3), none, none]) ⟨rfl, trivial⟩ ?_
      exact hk273 x3 h hg hm
    · replace hm := ia_ifn hm c
      show K 247 [some (.inr (.inr 417)), some (.inl x1), none, some (.inl x3), some (.inl x4), some (.inl x5)] [] h
      refine ia_go hK ck_M_text_247 ⟨gk_12 hg pk_417, gr_12_0 hg pk_417, ?_⟩
      show K 253 [some (.inr (.inr 417)), some (.inl x1), none, some (.inl x3), some (.inl x4), some (.inl x5)] [.inl x3, .inl x1, .inr (.inr 418)] h
      obtain ⟨v8, hv8, hm⟩ := ia_bnd hm
      have ev8 := t_M_placeOf (d + 8) hg hv8
      refine ia_cS hK mk_M_placeOf lk_12_183 dc_M_text_253 [.inl x1, .inl x3] [.inr (.inr 418)] rfl rfl (Nat.le_of_ble_eq_true rfl) ev8 ⟨rfl, rfl⟩ ?_
      show K 256 [some (.inr (.inr 417)), some (.inl x1), none, some (.inl x3), some (.inl x4), some (.inl x5)] [.inl v8, .inr (.inr 418)] h
      obtain ⟨c9, hm⟩ := ia_gd_some hm
      obtain ⟨c10, hm⟩ := ia_gd_some hm
      refine ia_go hK ck_M_text_256 ⟨gk_12 hg pk_417, gr_12_10 hg pk_417, ga_i100 hg (ka_12_10 pk_417) c9, ga_s100 hg (ka_12_0 pk_417) c10, ?_⟩
      show K 240 [some (.inr (.inr 417)), some (.inl x1), none, some (.inl x3), some (.inl x4), some (.inl (x5 + 1))] [] (ia_wI h 418 ((v8 + x5).toNatClampNeg) (ia_i h 420 ((x5).toNatClampNeg)))
      exact ih x3 x4 (x5 + 1) (ia_wI h 418 ((v8 + x5).toNatClampNeg) (ia_i h 420 ((x5).toNatClampNeg))) (gd_wI hg (kx_100 (ka_12_0 pk_417))) hm
theorem gl_M_text_240 {w : ia_O0} {x1 : Int32} {x2 : Int32} {r : Int32} {h1 : ia_H} {k273 : Int32 → ia_H → Option (Int32 × ia_H)} (hk273 : ∀ (x3 : Int32) (h : ia_H), gd_ w h → k273 x3 h = some (r, h1) → gd_ w h1) : ∀ (n : Nat) (x3 : Int32) (x4 : Int32) (x5 : Int32) (h : ia_H), gd_ w h → l_M_text_240 x1 x2 k273 n x3 x4 x5 h = some (r, h1) → gd_ w h1 := by
  intro n
  induction n with
  | zero =>
    intro x3 x4 x5 h hg hm
    cases (show (none : Option (Int32 × ia_H)) = some _ from hm)
  | succ n ih =>
    intro x3 x4 x5 h hg hm
    rw [l_M_text_240] at hm
    by_cases c : x4 ≤ x5
    · replace hm := ia_ifp hm c
      exact hk273 x3 h hg hm
    · replace hm := ia_ifn hm c
      obtain ⟨v8, hv8, hm⟩ := ia_bnd hm
      obtain ⟨c9, hm⟩ := ia_gd_some hm
      obtain ⟨c10, hm⟩ := ia_gd_some hm
      exact ih x3 x4 (x5 + 1) (ia_wI h 418 ((v8 + x5).toNatClampNeg) (ia_i h 420 ((x5).toNatClampNeg))) (gd_wI hg (kx_100 (ka_12_0 pk_417))) hm
def j_M_text_213 (x1 : Int32) (x2 : Int32) (x3 : Int32) (h : ia_H) : Option (Int32 × ia_H) := if x1 = 0 then (l_M_text_240 x1 x2 (fun x3 h => some (x3, h)) fu_ x3 260 0 h) else (if x1 = 1 then (l_M_text_240 x1 x2 (fun x3 h => some (x3, h)) fu_ x3 68 0 h) else (l_M_text_240 x1 x2 (fun x3 h => some (x3, h)) fu_ x3 122 0 h))
theorem tj_M_text_213 {w : ia_O0} {d N1 W1 : Nat} {K : ia_K} (hK : ia_isK (d + 9) mm_M_text N1 W1 K) {x1 : Int32} {x2 : Int32} {r : Int32} {h1 : ia_H} (hret : ∀ (pc : Nat) (lv : ia_L), ia_ret mm_M_text pc (some (.inl r)) → K pc lv ((some (.inl r)) : Option ia_V).toList h1) : ∀ (x3 : Int32) (h : ia_H), gd_ w h → j_M_text_213 x1 x2 x3 h = some (r, h1) → K 213 [some (.inr (.inr 417)), some (.inl x1), none, some (.inl x3), none, none] [] h := by
  intro x3 h hg hm
  unfold j_M_text_213 at hm
  refine ia_go hK ck_M_text_213 ⟨fun c => ?_, fun c => ?_⟩
  · replace hm := ia_ifn hm c
    show K 223 [some (.inr (.inr 417)), some (.inl x1), none, some (.inl x3), none, none] [] h
    refine ia_go hK ck_M_text_223 ⟨fun c => ?_, fun c => ?_⟩
    · replace hm := ia_ifn hm c
      show K 233 [some (.inr (.inr 417)), some (.inl x1), none, some (.inl x3), none, none] [] h
      refine ia_go hK ck_M_text_233 ?_
      show K 240 [some (.inr (.inr 417)), some (.inl x1), none, some (.inl x3), some (.inl 122), some (.inl 0)] [] h
      refine tl_M_text_240 hK hret ?_ fu_ x3 122 0 h hg hm
      · intro x3 h hg hm
        refine ia_go hK ck_M_text_273 ?_
        show K 274 [none, none, none, some (.inl x3), none, none] [.inl x3] h
        obtain ⟨rfl, rfl⟩ := Prod.mk.inj (Option.some.inj hm)
        exact hret 274 _ dc_M_text_274
    · replace hm := ia_ifp hm c
      show K 228 [some (.inr (.inr 417)), some (.inl x1), none, some (.inl x3), none, none] [] h
      refine ia_go hK ck_M_text_228 ?_
      show K 235 [some (.inr (.inr 417)), some (.inl x1), none, some (.inl x3), none, none] [.inl 68] h
      refine ia_go hK ck_M_text_235 ?_
      show K 240 [some (.inr (.inr 417)), some (.inl x1), none, some (.inl x3), some (.inl 68), some (.inl 0)] [] h
      refine tl_M_text_240 hK hret ?_ fu_ x3 68 0 h hg hm
      · intro x3 h hg hm
        refine ia_go hK ck_M_text_273 ?_
        show K 274 [none, none, none, some (.inl x3), none, none] [.inl x3] h
        obtain ⟨rfl, rfl⟩ := Prod.mk.inj (Option.some.inj hm)
        exact hret 274 _ dc_M_text_274
  · replace hm := ia_ifp hm c
    show K 217 [some (.inr (.inr 417)), some (.inl x1), none, some (.inl x3), none, none] [] h
    refine ia_go hK ck_M_text_217 ?_
    show K 235 [some (.inr (.inr 417)), some (.inl x1), none, some (.inl x3), none, none] [.inl 260] h
    refine ia_go hK ck_M_text_235 ?_
    show K 240 [some (.inr (.inr 417)), some (.inl x1), none, some (.inl x3), some (.inl 260), some (.inl 0)] [] h
    refine tl_M_text_240 hK hret ?_ fu_ x3 260 0 h hg hm
    · intro x3 h hg hm
      refine ia_go hK ck_M_text_273 ?_
      show K 274 [none, none, none, some (.inl x3), none, none] [.inl x3] h
      obtain ⟨rfl, rfl⟩ := Prod.mk.inj (Option.some.inj hm)
      exact hret 274 _ dc_M_text_274
theorem gj_M_text_213 {w : ia_O0} {x1 : Int32} {x2 : Int32} {r : Int32} {h1 : ia_H} : ∀ (x3 : Int32) (h : ia_H), gd_ w h → j_M_text_213 x1 x2 x3 h = some (r, h1) → gd_ w h1 := by
  intro x3 h hg hm
  unfold j_M_text_213 at hm
  by_cases c : x1 = 0
  · replace hm := ia_ifp hm c
    refine gl_M_text_240 ?_ fu_ x3 260 0 h hg hm
    · intro x3 h hg hm
      obtain ⟨rfl, rfl⟩ := Prod.mk.inj (Option.some.inj hm)
      exact hg
  · replace hm := ia_ifn hm c
    by_cases c : x1 = 1
    · replace hm := ia_ifp hm c
      refine gl_M_text_240 ?_ fu_ x3 68 0 h hg hm
      · intro x3 h hg hm
        obtain ⟨rfl, rfl⟩ := Prod.mk.inj (Option.some.inj hm)
        exact hg
    · replace hm := ia_ifn hm c
      refine gl_M_text_240 ?_ fu_ x3 122 0 h hg hm
      · intro x3 h hg hm
        obtain ⟨rfl, rfl⟩ := Prod.mk.inj (Option.some.inj hm)
        exact hg
def j_M_text_197 (x1 : Int32) (x2 : Int32) (s0 : Int32) (h : ia_H) : Option (Int32 × ia_H) := if x2 = (-1) then (ia_gd (ia_ib x1 6528) (ia_gd (ia_ib x1 6528) (j_M_text_213 x1 x2 s0 (ia_wI h 418 ((x1).toNatClampNeg) ((ia_i h 418 ((x1).toNatClampNeg)) + 1))))) else (j_M_text_213 x1 x2 s0 h)
theorem tj_M_text_197 {w : ia_O0} {d N1 W1 : Nat} {K : ia_K} (hK : ia_isK (d + 9) mm_M_text N1 W1 K) {x1 : Int32} {x2 : Int32} {r : Int32} {h1 : ia_H} (hret : ∀ (pc : Nat) (lv : ia_L), ia_ret mm_M_text pc (some (.inl r)) → K pc lv ((some (.inl r)) : Option ia_V).toList h1) : ∀ (s0 : Int32) (h : ia_H), gd_ w h → j_M_text_197 x1 x2 s0 h = some (r, h1) → K 197 [some (.inr (.inr 417)), some (.inl x1), some (.inl x2), none, none, none] [.inl s0] h := by
  intro s0 h hg hm
  unfold j_M_text_197 at hm
  refine ia_go hK ck_M_text_197 ⟨fun c => ?_, fun c => ?_⟩
  · replace hm := ia_ifn hm c
    show K 213 [some (.inr (.inr 417)), some (.inl x1), some (.inl x2), some (.inl s0), none, none] [] h
    refine ia_fg hK (lv' := [some (.inr (.inr 417)), some (.inl x1), none, some (.inl s0), none, none]) ⟨rfl, rfl, rfl, trivial⟩ ?_
    exact tj_M_text_213 hK hret s0 h hg hm
  · replace hm := ia_ifp hm c
    show K 203 [some (.inr (.inr 417)), some (.inl x1), some (.inl x2), some (.inl s0), none, none] [] h
    obtain ⟨c11, hm⟩ := ia_gd_some hm
    obtain ⟨c12, hm⟩ := ia_gd_some hm
    refine ia_go hK ck_M_text_203 ⟨gk_12 hg pk_417, gr_12_0 hg pk_417, ga_i100 hg (ka_12_0 pk_417) c11, ga_s100 hg (ka_12_0 pk_417) c12, ?_⟩
    show K 213 [some (.inr (.inr 417)), some (.inl x1), some (.inl x2), some (.inl s0), none, none] [] (ia_wI h 418 ((x1).toNatClampNeg) ((ia_i h 418 ((x1).toNatClampNeg)) + 1))
    refine ia_fg hK (lv' := [some (.inr (.inr 417)), some (.inl x1), none, some (.inl s0), none, none]) ⟨rfl, rfl, rfl, trivial⟩ ?_
    exact tj_M_text_213 hK hret s0 (ia_wI h 418 ((x1).toNatClampNeg) ((ia_i h 418 ((x1).toNatClampNeg)) + 1)) (gd_wI hg (kx_100 (ka_12_0 pk_417))) hm
theorem gj_M_text_197 {w : ia_O0} {x1 : Int32} {x2 : Int32} {r : Int32} {h1 : ia_H} : ∀ (s0 : Int32) (h : ia_H), gd_ w h → j_M_text_197 x1 x2 s0 h = some (r, h1) → gd_ w h1 := by
  intro s0 h hg hm
  unfold j_M_text_197 at hm
  by_cases c : x2 = (-1)
  · replace hm := ia_ifp hm c
    obtain ⟨c11, hm⟩ := ia_gd_some hm
    obtain ⟨c12, hm⟩ := ia_gd_some hm
    exact gj_M_text_213 s0 (ia_wI h 418 ((x1).toNatClampNeg) ((ia_i h 418 ((x1).toNatClampNeg)) + 1)) (gd_wI hg (kx_100 (ka_12_0 pk_417))) hm
  · replace hm := ia_ifn hm c
    exact gj_M_text_213 s0 h hg hm
def j_M_text_171 (x1 : Int32) (x2 : Int32) (h : ia_H) : Option (Int32 × ia_H) := if (ia_i h 418 4) = 0 then (if x2 = (-1) then (ia_gd (ia_ib x1 6528) (j_M_text_197 x1 x2 (ia_i h 418 ((x1).toNatClampNeg)) h)) else (j_M_text_197 x1 x2 x2 h)) else (some ((-1), h))
theorem tj_M_text_171 {w : ia_O0} {d N1 W1 : Nat} {K : ia_K} (hK : ia_isK (d + 9) mm_M_text N1 W1 K) {x1 : Int32} {x2 : Int32} {r : Int32} {h1 : ia_H} (hret : ∀ (pc : Nat) (lv : ia_L), ia_ret mm_M_text pc (some (.inl r)) → K pc lv ((some (.inl r)) : Option ia_V).toList h1) : ∀ (h : ia_H), gd_ w h → j_M_text_171 x1 x2 h = some (r, h1) → K 171 [some (.inr (.inr 417)), some (.inl x1), some (.inl x2), none, none, none] [] h := by
  intro h hg hm
  unfold j_M_text_171 at hm
  refine ia_go hK ck_M_text_171 ⟨gk_12 hg pk_417, gr_12_0 hg pk_417, ga_i100 hg (ka_12_0 pk_417) (by decide), fun c => ?_, fun c => ?_⟩
  · replace hm := ia_ifp hm c
    show K 182 [some (.inr (.inr 417)), some (.inl x1), some (.inl x2), none, none, none] [] h
    refine ia_go hK ck_M_text_182 ⟨fun c => ?_, fun c => ?_⟩
    · replace hm := ia_ifn hm c
      show K 196 [some (.inr (.inr 417)), some (.inl x1), some (.inl x2), none, none, none] [] h
      refine ia_go hK ck_M_text_196 ?_
      show K 197 [some (.inr (.inr 417)), some (.inl x1), some (.inl x2), none, none, none] [.inl x2] h
      exact tj_M_text_197 hK hret x2 h hg hm
    · replace hm := ia_ifp hm c
      show K 187 [some (.inr (.inr 417)), some (.inl x1), some (.inl x2), none, none, none] [] h
      obtain ⟨c13, hm⟩ := ia_gd_some hm
      refine ia_go hK ck_M_text_187 ⟨gk_12 hg pk_417, gr_12_0 hg pk_417, ga_i100 hg (ka_12_0 pk_417) c13, ?_⟩
      show K 197 [some (.inr (.inr 417)), some (.inl x1), some (.inl x2), none, none, none] [.inl (ia_i h 418 ((x1).toNatClampNeg))] h
      exact tj_M_text_197 hK hret (ia_i h 418 ((x1).toNatClampNeg)) h hg hm
  · replace hm := ia_ifn hm c
    show K 180 [some (.inr (.inr 417)), some (.inl x1), some (.inl x2), none, none, none] [] h
    refine ia_go hK ck_M_text_180 ?_
    show K 181 [some (.inr (.inr 417)), some (.inl x1), some (.inl x2), none, none, none] [.inl (-1)] h
    obtain ⟨rfl, rfl⟩ := Prod.mk.inj (Option.some.inj hm)
    exact hret 181 _ dc_M_text_181
theorem gj_M_text_171 {w : ia_O0} {x1 : Int32} {x2 : Int32} {r : Int32} {h1 : ia_H} : ∀ (h : ia_H), gd_ w h → j_M_text_171 x1 x2 h = some (r, h1) → gd_ w h1 := by
  intro h hg hm
  unfold j_M_text_171 at hm
  by_cases c : (ia_i h 418 4) = 0
  · replace hm := ia_ifp hm c
    by_cases c : x2 = (-1)
    · replace hm := ia_ifp hm c
      obtain ⟨c13, hm⟩ := ia_gd_some hm
      exact gj_M_text_197 (ia_i h 418 ((x1).toNatClampNeg)) h hg hm
    · replace hm := ia_ifn hm c
      exact gj_M_text_197 x2 h hg hm
  · replace hm := ia_ifn hm c
    obtain ⟨rfl, rfl⟩ := Prod.mk.inj (Option.some.inj hm)
    exact hg
def j_M_text_142 (x1 : Int32) (x2 : Int32) (h : ia_H) : Option (Int32 × ia_H) := if (ia_i h 418 4) = 0 then (if x1 = 0 then ((f_M_isWhole h).bind fun v14 => (if v14.1 = 0 then ((f_M_also 4 (ia_i v14.2 417 4) v14.2).bind fun v15 => (j_M_text_171 x1 x2 v15)) else (j_M_text_171 x1 x2 v14.2))) else (j_M_text_171 x1 x2 h)) else (j_M_text_171 x1 x2 h)
theorem tj_M_text_142 {w : ia_O0} {d N1 W1 : Nat} {K : ia_K} (hK : ia_isK (d + 9) mm_M_text N1 W1 K) {x1 : Int32} {x2 : Int32} {r : Int32} {h1 : ia_H} (hret : ∀ (pc : Nat) (lv : ia_L), ia_ret mm_M_text pc (some (.inl r)) → K pc lv ((some (.inl r)) : Option ia_V).toList h1) : ∀ (h : ia_H), gd_ w h → j_M_text_142 x1 x2 h = some (r, h1) → K 142 [some (.inr (.inr 417)), some (.inl x1), some (.inl x2), none, none, none] [] h := by
  intro h hg hm
  unfold j_M_text_142 at hm
  refine ia_go hK ck_M_text_142 ⟨gk_12 hg pk_417, gr_12_0 hg pk_417, ga_i100 hg (ka_12_0 pk_417) (by decide), fun c => ?_, fun c => ?_⟩
  · replace hm := ia_ifn hm c
    show K 171 [some (.inr (.inr 417)), some (.inl x1), some (.inl x2), none, none, none] [] h
    exact tj_M_text_171 hK hret h hg hm
  · replace hm := ia_ifp hm c
    show K 151 [some (.inr (.inr 417)), some (.inl x1), some (.inl x2), none, none, none] [] h
    refine ia_go hK ck_M_text_151 ⟨fun c => ?_, fun c => ?_⟩
    · replace hm := ia_ifn hm c
      show K 171 [some (.inr (.inr 417)), some (.inl x1), some (.inl x2), none, none, none] [] h
      exact tj_M_text_171 hK hret h hg hm
    · replace hm := ia_ifp hm c
      show K 155 [some (.inr (.inr 417)), some (.inl x1), some (.inl x2), none, none, none] [] h
      refine ia_go hK ck_M_text_155 ?_
      show K 156 [some (.inr (.inr 417)), some (.inl x1), some (.inl x2), none, none, none] [.inr (.inr 417)] h
      obtain ⟨v14, hv14, hm⟩ := ia_bnd hm
      have ev14 := t_M_isWhole (d + 8) hg hv14
      have gv14 := g_M_isWhole hg hv14
      refine ia_cV hK mk_M_isWhole lk_12_179 dc_M_text_156 417 [] [] rfl rfl (Nat.le_of_ble_eq_true rfl) (by decide) rfl (gk_12 hg pk_417) ev14 (gd_nm hg gv14) ?_
      show K 159 [some (.inr (.inr 417)), some (.inl x1), some (.inl x2), none, none, none] [.inl v14.1] v14.2
      refine ia_go hK ck_M_text_159 ⟨fun c => ?_, fun c => ?_⟩
      · replace hm := ia_ifn hm c
        show K 171 [some (.inr (.inr 417)), some (.inl x1), some (.inl x2), none, none, none] [] v14.2
        exact tj_M_text_171 hK hret v14.2 gv14 hm
      · replace hm := ia_ifp hm c
        show K 162 [some (.inr (.inr 417)), some (.inl x1), some (.inl x2), none, none, none] [] v14.2
        refine ia_go hK ck_M_text_162 ⟨gk_12 gv14 pk_417, ?_⟩
        show K 168 [some (.inr (.inr 417)), some (.inl x1), some (.inl x2), none, none, none] [.inl (ia_i v14.2 417 4), .inl 4, .inr (.inr 417)] v14.2
        obtain ⟨v15, hv15, hm⟩ := ia_bnd hm
        have ev15 := t_M_also (d + 8) gv14 hv15
        have gv15 := g_M_also gv14 hv15
        refine ia_cV hK mk_M_also lk_12_120 dc_M_text_168 417 [.inl 4, .inl (ia_i v14.2 417 4)] [] rfl rfl (Nat.le_of_ble_eq_true rfl) (by decide) rfl (gk_12 gv14 pk_417) ev15 (gd_nm gv14 gv15) ?_
        show K 171 [some (.inr (.inr 417)), some (.inl x1), some (.inl x2), none, none, none] [] v15
        exact tj_M_text_171 hK hret v15 gv15 hm
theorem gj_M_text_142 {w : ia_O0} {x1 : Int32} {x2 : Int32} {r : Int32} {h1 : ia_H} : ∀ (h : ia_H), gd_ w h → j_M_text_142 x1 x2 h = some (r, h1) → gd_ w h1 := by
  intro h hg hm
  unfold j_M_text_142 at hm
  by_cases c : (ia_i h 418 4) = 0
  · replace hm := ia_ifp hm c
    by_cases c : x1 = 0
    · replace hm := ia_ifp hm c
      obtain ⟨v14, hv14, hm⟩ := ia_bnd hm
      have gv14 := g_M_isWhole hg hv14
      by_cases c : v14.1 = 0
      · replace hm := ia_ifp hm c
        obtain ⟨v15, hv15, hm⟩ := ia_bnd hm
        have gv15 := g_M_also gv14 hv15
        exact gj_M_text_171 v15 gv15 hm
      · replace hm := ia_ifn hm c
        exact gj_M_text_171 v14.2 gv14 hm
    · replace hm := ia_ifn hm c
      exact gj_M_text_171 h hg hm
  · replace hm := ia_ifn hm c
    exact gj_M_text_171 h hg hm
def j_M_text_79 (x1 : Int32) (x2 : Int32) (h : ia_H) : Option (Int32 × ia_H) := (f_M_begins x1 (ia_wI (ia_wI h 417 3 0) 417 8 0)).bind fun v3 => ((f_M_advance v3).bind fun v4 => (l_M_text_98 x1 x2 (fun h => j_M_text_142 x1 x2 h) fu_ v4))
theorem tj_M_text_79 {w : ia_O0} {d N1 W1 : Nat} {K : ia_K} (hK : ia_isK (d + 9) mm_M_text N1 W1 K) {x1 : Int32} {x2 : Int32} {r : Int32} {h1 : ia_H} (hret : ∀ (pc : Nat) (lv : ia_L), ia_ret mm_M_text pc (some (.inl r)) → K pc lv ((some (.inl r)) : Option ia_V).toList h1) : ∀ (h : ia_H), gd_ w h → j_M_text_79 x1 x2 h = some (r, h1) → K 79 [some (.inr (.inr 417)), some (.inl x1), some (.inl x2), none, none, none] [] h := by
  intro h hg hm
  unfold j_M_text_79 at hm
  refine ia_go hK ck_M_text_79 ⟨gk_12 hg pk_417, gk_12 (gd_wI hg (ko_12 pk_417)) pk_417, Or.inl rfl, ?_⟩
  show K 91 [some (.inr (.inr 417)), some (.inl x1), some (.inl x2), none, none, none] [.inl x1, .inr (.inr 417)] (ia_wI (ia_wI h 417 3 0) 417 8 0)
  obtain ⟨v3, hv3, hm⟩ := ia_bnd hm
  have ev3 := t_M_begins (d + 8) (gd_wI (gd_wI hg (ko_12 pk_417)) (ko_12 pk_417)) hv3
  have gv3 := g_M_begins (gd_wI (gd_wI hg (ko_12 pk_417)) (ko_12 pk_417)) hv3
  refine ia_cV hK mk_M_begins lk_12_167 dc_M_text_91 417 [.inl x1] [] rfl rfl (Nat.le_of_ble_eq_true rfl) (by decide) rfl (gk_12 (gd_wI (gd_wI hg (ko_12 pk_417)) (ko_12 pk_417)) pk_417) ev3 (gd_nm (gd_wI (gd_wI hg (ko_12 pk_417)) (ko_12 pk_417)) gv3) ?_
  show K 94 [some (.inr (.inr 417)), some (.inl x1), some (.inl x2), none, none, none] [] v3
  refine ia_go hK ck_M_text_94 ?_
  show K 95 [some (.inr (.inr 417)), some (.inl x1), some (.inl x2), none, none, none] [.inr (.inr 417)] v3
  obtain ⟨v4, hv4, hm⟩ := ia_bnd hm
  have ev4 := t_M_advance (d + 5) gv3 hv4
  have gv4 := g_M_advance gv3 hv4
  refine ia_cV hK mk_M_advance lk_12_124 dc_M_text_95 417 [] [] rfl rfl (Nat.le_of_ble_eq_true rfl) (by decide) rfl (gk_12 gv3 pk_417) ev4 (gd_nm gv3 gv4) ?_
  show K 98 [some (.inr (.inr 417)), some (.inl x1), some (.inl x2), none, none, none] [] v4
  refine tl_M_text_98 hK hret ?_ fu_ v4 gv4 hm
  · intro h hg hm
    exact tj_M_text_142 hK hret h hg hm
theorem gj_M_text_79 {w : ia_O0} {x1 : Int32} {x2 : Int32} {r : Int32} {h1 : ia_H} : ∀ (h : ia_H), gd_ w h → j_M_text_79 x1 x2 h = some (r, h1) → gd_ w h1 := by
  intro h hg hm
  unfold j_M_text_79 at hm
  obtain ⟨v3, hv3, hm⟩ := ia_bnd hm
  have gv3 := g_M_begins (gd_wI (gd_wI hg (ko_12 pk_417)) (ko_12 pk_417)) hv3
  obtain ⟨v4, hv4, hm⟩ := ia_bnd hm
  have gv4 := g_M_advance gv3 hv4
  refine gl_M_text_98 ?_ fu_ v4 gv4 hm
  · intro h hg hm
    exact gj_M_text_142 h hg hm
def j_M_text_61 (x1 : Int32) (x2 : Int32) (s0 : Int32) (s1 : Int32) (h : ia_H) : Option (Int32 × ia_H) := if s0 < s1 then (j_M_text_79 x1 x2 h) else (some ((-2), h))
theorem tj_M_text_61 {w : ia_O0} {d N1 W1 : Nat} {K : ia_K} (hK : ia_isK (d + 9) mm_M_text N1 W1 K) {x1 : Int32} {x2 : Int32} {r : Int32} {h1 : ia_H} (hret : ∀ (pc : Nat) (lv : ia_L), ia_ret mm_M_text pc (some (.inl r)) → K pc lv ((some (.inl r)) : Option ia_V).toList h1) : ∀ (s0 : Int32) (s1 : Int32) (h : ia_H), gd_ w h → j_M_text_61 x1 x2 s0 s1 h = some (r, h1) → K 61 [some (.inr (.inr 417)), some (.inl x1), some (.inl x2), none, none, none] [.inl s1, .inl s0] h := by
  intro s0 s1 h hg hm
  unfold j_M_text_61 at hm
  refine ia_go hK ck_M_text_61 ⟨fun c => ?_, fun c => ?_⟩
  · replace hm := ia_ifp hm c
    show K 79 [some (.inr (.inr 417)), some (.inl x1), some (.inl x2), none, none, none] [] h
    exact tj_M_text_79 hK hret h hg hm
  · replace hm := ia_ifn hm c
    show K 64 [some (.inr (.inr 417)), some (.inl x1), some (.inl x2), none, none, none] [] h
    refine ia_go hK ck_M_text_64 ?_
    show K 76 [some (.inr (.inr 417)), some (.inl x1), some (.inl x2), none, none, none] [] h
    refine ia_go hK ck_M_text_76 ?_
    show K 78 [some (.inr (.inr 417)), some (.inl x1), some (.inl x2), none, none, none] [.inl (-2)] h
    obtain ⟨rfl, rfl⟩ := Prod.mk.inj (Option.some.inj hm)
    exact hret 78 _ dc_M_text_78
theorem gj_M_text_61 {w : ia_O0} {x1 : Int32} {x2 : Int32} {r : Int32} {h1 : ia_H} : ∀ (s0 : Int32) (s1 : Int32) (h : ia_H), gd_ w h → j_M_text_61 x1 x2 s0 s1 h = some (r, h1) → gd_ w h1 := by
  intro s0 s1 h hg hm
  unfold j_M_text_61 at hm
  by_cases c : s0 < s1
  · replace hm := ia_ifp hm c
    exact gj_M_text_79 h hg hm
  · replace hm := ia_ifn hm c
    obtain ⟨rfl, rfl⟩ := Prod.mk.inj (Option.some.inj hm)
    exact hg
def f_M_text (x1 : Int32) (x2 : Int32) (h : ia_H) : Option (Int32 × ia_H) := (f_M_isIn x1 0 2 (ia_wI (ia_wI (ia_wI (ia_wI h 417 2 (ia_i h 418 3)) 418 3 0) 418 4 0) 418 5 (-1))).bind fun v1 => (if v1 = 0 then (some ((-2), ia_wI (ia_wI (ia_wI (ia_wI h 417 2 (ia_i h 418 3)) 418 3 0) 418 4 0) 418 5 (-1))) else (if x2 = (-1) then (ia_gd (ia_ib x1 6528) (if x1 = 2 then (j_M_text_61 x1 x2 (ia_i (ia_wI (ia_wI (ia_wI (ia_wI h 417 2 (ia_i h 418 3)) 418 3 0) 418 4 0) 418 5 (-1)) 418 ((x1).toNatClampNeg)) 3 (ia_wI (ia_wI (ia_wI (ia_wI h 417 2 (ia_i h 418 3)) 418 3 0) 418 4 0) 418 5 (-1))) else (j_M_text_61 x1 x2 (ia_i (ia_wI (ia_wI (ia_wI (ia_wI h 417 2 (ia_i h 418 3)) 418 3 0) 418 4 0) 418 5 (-1)) 418 ((x1).toNatClampNeg)) 2 (ia_wI (ia_wI (ia_wI (ia_wI h 417 2 (ia_i h 418 3)) 418 3 0) 418 4 0) 418 5 (-1))))) else ((f_M_isOf x1 x2 (ia_wI (ia_wI (ia_wI (ia_wI h 417 2 (ia_i h 418 3)) 418 3 0) 418 4 0) 418 5 (-1))).bind fun v2 => (if v2 = 0 then (some ((-2), ia_wI (ia_wI (ia_wI (ia_wI h 417 2 (ia_i h 418 3)) 418 3 0) 418 4 0) 418 5 (-1))) else (j_M_text_79 x1 x2 (ia_wI (ia_wI (ia_wI (ia_wI h 417 2 (ia_i h 418 3)) 418 3 0) 418 4 0) 418 5 (-1)))))))
theorem g_M_text {w : ia_O0} {x1 : Int32} {x2 : Int32} {h : ia_H} (hg : gd_ w h) {q : (Int32 × ia_H)} (hm : f_M_text x1 x2 h = some q) : gd_ w q.2 := by
  obtain ⟨r, h1⟩ := q
  unfold f_M_text at hm
  obtain ⟨v1, hv1, hm⟩ := ia_bnd hm
  by_cases c : v1 = 0
  · replace hm := ia_ifp hm c
    obtain ⟨rfl, rfl⟩ := Prod.mk.inj (Option.some.inj hm)
    exact (gd_wI (gd_wI (gd_wI (gd_wI hg (ko_12 pk_417)) (kx_100 (ka_12_0 pk_417))) (kx_100 (ka_12_0 pk_417))) (kx_100 (ka_12_0 pk_417)))
  · replace hm := ia_ifn hm c
    by_cases c : x2 = (-1)
    · replace hm := ia_ifp hm c
      obtain ⟨c16, hm⟩ := ia_gd_some hm
      by_cases c : x1 = 2
      · replace hm := ia_ifp hm c
        exact gj_M_text_61 (ia_i (ia_wI (ia_wI (ia_wI (ia_wI h 417 2 (ia_i h 418 3)) 418 3 0) 418 4 0) 418 5 (-1)) 418 ((x1).toNatClampNeg)) 3 (ia_wI (ia_wI (ia_wI (ia_wI h 417 2 (ia_i h 418 3)) 418 3 0) 418 4 0) 418 5 (-1)) (gd_wI (gd_wI (gd_wI (gd_wI hg (ko_12 pk_417)) (kx_100 (ka_12_0 pk_417))) (kx_100 (ka_12_0 pk_417))) (kx_100 (ka_12_0 pk_417))) hm
      · replace hm := ia_ifn hm c
        exact gj_M_text_61 (ia_i (ia_wI (ia_wI (ia_wI (ia_wI h 417 2 (ia_i h 418 3)) 418 3 0) 418 4 0) 418 5 (-1)) 418 ((x1).toNatClampNeg)) 2 (ia_wI (ia_wI (ia_wI (ia_wI h 417 2 (ia_i h 418 3)) 418 3 0) 418 4 0) 418 5 (-1)) (gd_wI (gd_wI (gd_wI (gd_wI hg (ko_12 pk_417)) (kx_100 (ka_12_0 pk_417))) (kx_100 (ka_12_0 pk_417))) (kx_100 (ka_12_0 pk_417))) hm
    · replace hm := ia_ifn hm c
      obtain ⟨v2, hv2, hm⟩ := ia_bnd hm
      by_cases c : v2 = 0
      · replace hm := ia_ifp hm c
        obtain ⟨rfl, rfl⟩ := Prod.mk.inj (Option.some.inj hm)
        exact (gd_wI (gd_wI (gd_wI (gd_wI hg (ko_12 pk_417)) (kx_100 (ka_12_0 pk_417))) (kx_100 (ka_12_0 pk_417))) (kx_100 (ka_12_0 pk_417)))
      · replace hm := ia_ifn hm c
        exact gj_M_text_79 (ia_wI (ia_wI (ia_wI (ia_wI h 417 2 (ia_i h 418 3)) 418 3 0) 418 4 0) 418 5 (-1)) (gd_wI (gd_wI (gd_wI (gd_wI hg (ko_12 pk_417)) (kx_100 (ka_12_0 pk_417))) (kx_100 (ka_12_0 pk_417))) (kx_100 (ka_12_0 pk_417))) hm
theorem t_M_text {w : ia_O0} (d : Nat) {x1 : Int32} {x2 : Int32} {h : ia_H} (hg : gd_ w h) {q : (Int32 × ia_H)} (hm : f_M_text x1 x2 h = some q) : ia_Ev (d + 9) mm_M_text [.inr (.inr 417), .inl x1, .inl x2] h (some (.inl q.1)) q.2 := by
  have gq := g_M_text hg hm
  refine ia_Ev_intro ok_M_text (gd_le hg gq).1 (gd_le hg gq).2 (Nat.le_of_ble_eq_true rfl) (fun K hK hret => ?_)
  obtain ⟨r, h1⟩ := q
  show K 0 [some (.inr (.inr 417)), some (.inl x1), some (.inl x2), none, none, none] [] h
  unfold f_M_text at hm
  refine ia_go hK ck_M_text_0 ⟨gk_12 hg pk_417, gr_12_0 hg pk_417, ga_i100 hg (ka_12_0 pk_417) (by decide), gk_12 hg pk_417, gk_12 (gd_wI hg (ko_12 pk_417)) pk_417, gr_12_0 (gd_wI hg (ko_12 pk_417)) pk_417, ga_s100 (gd_wI hg (ko_12 pk_417)) (ka_12_0 pk_417) (by decide), gk_12 (gd_wI (gd_wI hg (ko_12 pk_417)) (kx_100 (ka_12_0 pk_417))) pk_417, gr_12_0 (gd_wI (gd_wI hg (ko_12 pk_417)) (kx_100 (ka_12_0 pk_417))) pk_417, ga_s100 (gd_wI (gd_wI hg (ko_12 pk_417)) (kx_100 (ka_12_0 pk_417))) (ka_12_0 pk_417) (by decide), gk_12 (gd_wI (gd_wI (gd_wI hg (ko_12 pk_417)) (kx_100 (ka_12_0 pk_417))) (kx_100 (ka_12_0 pk_417))) pk_417, gr_12_0 (gd_wI (gd_wI (gd_wI hg (ko_12 pk_417)) (kx_100 (ka_12_0 pk_417))) (kx_100 (ka_12_0 pk_417))) pk_417, ga_s100 (gd_wI (gd_wI (gd_wI hg (ko_12 pk_417)) (kx_100 (ka_12_0 pk_417))) (kx_100 (ka_12_0 pk_417))) (ka_12_0 pk_417) (by decide), ?_⟩
  show K 34 [some (.inr (.inr 417)), some (.inl x1), some (.inl x2), none, none, none] [.inl 2, .inl 0, .inl x1] (ia_wI (ia_wI (ia_wI (ia_wI h 417 2 (ia_i h 418 3)) 418 3 0) 418 4 0) 418 5 (-1))
  obtain ⟨v1, hv1, hm⟩ := ia_bnd hm
  have ev1 := t_M_isIn (d + 8) (gd_wI (gd_wI (gd_wI (gd_wI hg (ko_12 pk_417)) (kx_100 (ka_12_0 pk_417))) (kx_100 (ka_12_0 pk_417))) (kx_100 (ka_12_0 pk_417))) hv1
  refine ia_cS hK mk_M_isIn lk_12_116 dc_M_text_34 [.inl x1, .inl 0, .inl 2] [] rfl rfl (Nat.le_of_ble_eq_true rfl) ev1 ⟨rfl, rfl⟩ ?_
  show K 37 [some (.inr (.inr 417)), some (.inl x1), some (.inl x2), none, none, none] [.inl v1] (ia_wI (ia_wI (ia_wI (ia_wI h 417 2 (ia_i h 418 3)) 418 3 0) 418 4 0) 418 5 (-1))
  refine ia_go hK ck_M_text_37 ⟨fun c => ?_, fun c => ?_⟩
  · replace hm := ia_ifp hm c
    show K 76 [some (.inr (.inr 417)), some (.inl x1), some (.inl x2), none, none, none] [] (ia_wI (ia_wI (ia_wI (ia_wI h 417 2 (ia_i h 418 3)) 418 3 0) 418 4 0) 418 5 (-1))
    refine ia_go hK ck_M_text_76 ?_
    show K 78 [some (.inr (.inr 417)), some (.inl x1), some (.inl x2), none, none, none] [.inl (-2)] (ia_wI (ia_wI (ia_wI (ia_wI h 417 2 (ia_i h 418 3)) 418 3 0) 418 4 0) 418 5 (-1))
    obtain ⟨rfl, rfl⟩ := Prod.mk.inj (Option.some.inj hm)
    exact hret 78 _ dc_M_text_78
  · replace hm := ia_ifn hm c
    show K 40 [some (.inr (.inr 417)), some (.inl x1), some (.inl x2), none, none, none] [] (ia_wI (ia_wI (ia_wI (ia_wI h 417 2 (ia_i h 418 3)) 418 3 0) 418 4 0) 418 5 (-1))
    refine ia_go hK ck_M_text_40 ⟨fun c => ?_, fun c => ?_⟩
    · replace hm := ia_ifn hm c
      show K 67 [some (.inr (.inr 417)), some (.inl x1), some (.inl x2), none, none, none] [] (ia_wI (ia_wI (ia_wI (ia_wI h 417 2 (ia_i h 418 3)) 418 3 0) 418 4 0) 418 5 (-1))
      refine ia_go hK ck_M_text_67 ?_
      show K 70 [some (.inr (.inr 417)), some (.inl x1), some (.inl x2), none, none, none] [.inl x2, .inl x1, .inr (.inr 417)] (ia_wI (ia_wI (ia_wI (ia_wI h 417 2 (ia_i h 418 3)) 418 3 0) 418 4 0) 418 5 (-1))
      obtain ⟨v2, hv2, hm⟩ := ia_bnd hm
      have ev2 := t_M_isOf (d + 7) (gd_wI (gd_wI (gd_wI (gd_wI hg (ko_12 pk_417)) (kx_100 (ka_12_0 pk_417))) (kx_100 (ka_12_0 pk_417))) (kx_100 (ka_12_0 pk_417))) hv2
      refine ia_cV hK mk_M_isOf lk_12_163 dc_M_text_70 417 [.inl x1, .inl x2] [] rfl rfl (Nat.le_of_ble_eq_true rfl) (by decide) rfl (gk_12 (gd_wI (gd_wI (gd_wI (gd_wI hg (ko_12 pk_417)) (kx_100 (ka_12_0 pk_417))) (kx_100 (ka_12_0 pk_417))) (kx_100 (ka_12_0 pk_417))) pk_417) ev2 ⟨rfl, rfl⟩ ?_
      show K 73 [some (.inr (.inr 417)), some (.inl x1), some (.inl x2), none, none, none] [.inl v2] (ia_wI (ia_wI (ia_wI (ia_wI h 417 2 (ia_i h 418 3)) 418 3 0) 418 4 0) 418 5 (-1))
      refine ia_go hK ck_M_text_73 ⟨fun c => ?_, fun c => ?_⟩
      · replace hm := ia_ifn hm c
        show K 79 [some (.inr (.inr 417)), some (.inl x1), some (.inl x2), none, none, none] [] (ia_wI (ia_wI (ia_wI (ia_wI h 417 2 (ia_i h 418 3)) 418 3 0) 418 4 0) 418 5 (-1))
        exact tj_M_text_79 hK hret (ia_wI (ia_wI (ia_wI (ia_wI h 417 2 (ia_i h 418 3)) 418 3 0) 418 4 0) 418 5 (-1)) (gd_wI (gd_wI (gd_wI (gd_wI hg (ko_12 pk_417)) (kx_100 (ka_12_0 pk_417))) (kx_100 (ka_12_0 pk_417))) (kx_100 (ka_12_0 pk_417))) hm
      · replace hm := ia_ifp hm c
        show K 76 [some (.inr (.inr 417)), some (.inl x1), some (.inl x2), none, none, none] [] (ia_wI (ia_wI (ia_wI (ia_wI h 417 2 (ia_i h 418 3)) 418 3 0) 418 4 0) 418 5 (-1))
        refine ia_go hK ck_M_text_76 ?_
        show K 78 [some (.inr (.inr 417)), some (.inl x1), some (.inl x2), none, none, none] [.inl (-2)] (ia_wI (ia_wI (ia_wI (ia_wI h 417 2 (ia_i h 418 3)) 418 3 0) 418 4 0) 418 5 (-1))
        obtain ⟨rfl, rfl⟩ := Prod.mk.inj (Option.some.inj hm)
        exact hret 78 _ dc_M_text_78
    · replace hm := ia_ifp hm c
      show K 45 [some (.inr (.inr 417)), some (.inl x1), some (.inl x2), none, none, none] [] (ia_wI (ia_wI (ia_wI (ia_wI h 417 2 (ia_i h 418 3)) 418 3 0) 418 4 0) 418 5 (-1))
      obtain ⟨c16, hm⟩ := ia_gd_some hm
      refine ia_go hK ck_M_text_45 ⟨gk_12 (gd_wI (gd_wI (gd_wI (gd_wI hg (ko_12 pk_417)) (kx_100 (ka_12_0 pk_417))) (kx_100 (ka_12_0 pk_417))) (kx_100 (ka_12_0 pk_417))) pk_417, gr_12_0 (gd_wI (gd_wI (gd_wI (gd_wI hg (ko_12 pk_417)) (kx_100 (ka_12_0 pk_417))) (kx_100 (ka_12_0 pk_417))) (kx_100 (ka_12_0 pk_417))) pk_417, ga_i100 (gd_wI (gd_wI (gd_wI (gd_wI hg (ko_12 pk_417)) (kx_100 (ka_12_0 pk_417))) (kx_100 (ka_12_0 pk_417))) (kx_100 (ka_12_0 pk_417))) (ka_12_0 pk_417) c16, fun c => ?_, fun c => ?_⟩
      · replace hm := ia_ifn hm c
        show K 60 [some (.inr (.inr 417)), some (.inl x1), some (.inl x2), none, none, none] [.inl (ia_i (ia_wI (ia_wI (ia_wI (ia_wI h 417 2 (ia_i h 418 3)) 418 3 0) 418 4 0) 418 5 (-1)) 418 ((x1).toNatClampNeg))] (ia_wI (ia_wI (ia_wI (ia_wI h 417 2 (ia_i h 418 3)) 418 3 0) 418 4 0) 418 5 (-1))
        refine ia_go hK ck_M_text_60 ?_
        show K 61 [some (.inr (.inr 417)), some (.inl x1), some (.inl x2), none, none, none] [.inl 2, .inl (ia_i (ia_wI (ia_wI (ia_wI (ia_wI h 417 2 (ia_i h 418 3)) 418 3 0) 418 4 0) 418 5 (-1)) 418 ((x1).toNatClampNeg))] (ia_wI (ia_wI (ia_wI (ia_wI h 417 2 (ia_i h 418 3)) 418 3 0) 418 4 0) 418 5 (-1))
        exact tj_M_text_61 hK hret (ia_i (ia_wI (ia_wI (ia_wI (ia_wI h 417 2 (ia_i h 418 3)) 418 3 0) 418 4 0) 418 5 (-1)) 418 ((x1).toNatClampNeg)) 2 (ia_wI (ia_wI (ia_wI (ia_wI h 417 2 (ia_i h 418 3)) 418 3 0) 418 4 0) 418 5 (-1)) (gd_wI (gd_wI (gd_wI (gd_wI hg (ko_12 pk_417)) (kx_100 (ka_12_0 pk_417))) (kx_100 (ka_12_0 pk_417))) (kx_100 (ka_12_0 pk_417))) hm
      · replace hm := ia_ifp hm c
        show K 56 [some (.inr (.inr 417)), some (.inl x1), some (.inl x2), none, none, none] [.inl (ia_i (ia_wI (ia_wI (ia_wI (ia_wI h 417 2 (ia_i h 418 3)) 418 3 0) 418 4 0) 418 5 (-1)) 418 ((x1).toNatClampNeg))] (ia_wI (ia_wI (ia_wI (ia_wI h 417 2 (ia_i h 418 3)) 418 3 0) 418 4 0) 418 5 (-1))
        refine ia_go hK ck_M_text_56 ?_
        show K 61 [some (.inr (.inr 417)), some (.inl x1), some (.inl x2), none, none, none] [.inl 3, .inl (ia_i (ia_wI (ia_wI (ia_wI (ia_wI h 417 2 (ia_i h 418 3)) 418 3 0) 418 4 0) 418 5 (-1)) 418 ((x1).toNatClampNeg))] (ia_wI (ia_wI (ia_wI (ia_wI h 417 2 (ia_i h 418 3)) 418 3 0) 418 4 0) 418 5 (-1))
        exact tj_M_text_61 hK hret (ia_i (ia_wI (ia_wI (ia_wI (ia_wI h 417 2 (ia_i h 418 3)) 418 3 0) 418 4 0) 418 5 (-1)) 418 ((x1).toNatClampNeg)) 3 (ia_wI (ia_wI (ia_wI (ia_wI h 417 2 (ia_i h 418 3)) 418 3 0) 418 4 0) 418 5 (-1)) (gd_wI (gd_wI (gd_wI (gd_wI hg (ko_12 pk_417)) (kx_100 (ka_12_0 pk_417))) (kx_100 (ka_12_0 pk_417))) (kx_100 (ka_12_0 pk_417))) hm
def mm_M_fault : ia_M := (⟨"IceStreetModel", "fault", "(I)I"⟩, prog_14_method_31_code, 2, (some .int), 12, false)
theorem ok_M_fault : ia_mok mm_M_fault := ⟨by decide +kernel, by decide +kernel, by decide +kernel, by decide +kernel⟩
theorem mk_M_fault : ia_mkn mm_M_fault 1 1 := ⟨ia_tb_in (List.mem_of_getElem? (i := 1835) (by decide +kernel)) rfl, ia_tb_in (List.mem_of_getElem? (i := 146) (by decide +kernel)) rfl, by decide +kernel, by decide +kernel, ⟨ia_tb_in (List.mem_of_getElem? (i := 1833) (by decide +kernel)) rfl, ia_tb_in (List.mem_of_getElem? (i := 1834) (by decide +kernel)) rfl⟩⟩
theorem ck_M_fault_0 : ia_cks 12 2 false prog_14_method_31_code 0 [(.iload_n 1, 0, 0, 0, 0), (.ifCond .ne 12, 0, 0, 0, 0)] = true := by decide +kernel
theorem ck_M_fault_13 : ia_cks 12 2 false prog_14_method_31_code 13 [(.iload_n 1, 0, 0, 0, 0), (.iconst 1, 0, 0, 0, 0), (.if_icmp .ne 12, 0, 0, 0, 0)] = true := by decide +kernel
theorem ck_M_fault_27 : ia_cks 12 2 false prog_14_method_31_code 27 [(.iconst (-1), 0, 0, 0, 0)] = true := by decide +kernel
theorem ck_M_fault_18 : ia_cks 12 2 false prog_14_method_31_code 18 [(.aload_n 0, 0, 0, 0, 0), (.getfield 7, 12, 0, 3, 1), (.iconst 5, 0, 0, 0, 0), (.iaload, 0, 0, 0, 0), (.goto 4, 0, 0, 0, 0)] = true := by decide +kernel
theorem ck_M_fault_4 : ia_cks 12 2 false prog_14_method_31_code 4 [(.aload_n 0, 0, 0, 0, 0), (.getfield 7, 12, 0, 3, 1), (.iconst 4, 0, 0, 0, 0), (.iaload, 0, 0, 0, 0), (.goto 18, 0, 0, 0, 0)] = true := by decide +kernel
theorem dc_M_fault_28 : decode prog_14_method_31_code 28 = .ok (.ireturn, 1) := by decide +kernel
def f_M_fault (x1 : Int32) (h : ia_H) : Option Int32 := if x1 = 0 then (some (ia_i h 418 4)) else (if x1 = 1 then (some (ia_i h 418 5)) else (some (-1)))
theorem t_M_fault {w : ia_O0} (d : Nat) {x1 : Int32} {h : ia_H} (hg : gd_ w h) {r : Int32} (hm : f_M_fault x1 h = some r) : ia_Ev (d + 0) mm_M_fault [.inr (.inr 417), .inl x1] h (some (.inl r)) h := by
  refine ia_Ev_intro ok_M_fault (Nat.le_refl _) (Nat.le_refl _) (Nat.le_of_ble_eq_true rfl) (fun K hK hret => ?_)
  show K 0 [some (.inr (.inr 417)), some (.inl x1)] [] h
  unfold f_M_fault at hm
  refine ia_go hK ck_M_fault_0 ⟨fun c => ?_, fun c => ?_⟩
  · replace hm := ia_ifn hm c
    show K 13 [some (.inr (.inr 417)), some (.inl x1)] [] h
    refine ia_go hK ck_M_fault_13 ⟨fun c => ?_, fun c => ?_⟩
    · replace hm := ia_ifn hm c
      show K 27 [some (.inr (.inr 417)), some (.inl x1)] [] h
      refine ia_go hK ck_M_fault_27 ?_
      show K 28 [some (.inr (.inr 417)), some (.inl x1)] [.inl (-1)] h
      obtain rfl := Option.some.inj hm
      exact hret 28 _ dc_M_fault_28
    · replace hm := ia_ifp hm c
      show K 18 [some (.inr (.inr 417)), some (.inl x1)] [] h
      refine ia_go hK ck_M_fault_18 ⟨gk_12 hg pk_417, gr_12_0 hg pk_417, ga_i100 hg (ka_12_0 pk_417) (by decide), ?_⟩
      show K 28 [some (.inr (.inr 417)), some (.inl x1)] [.inl (ia_i h 418 5)] h
      obtain rfl := Option.some.inj hm
      exact hret 28 _ dc_M_fault_28
  · replace hm := ia_ifp hm c
    show K 4 [some (.inr (.inr 417)), some (.inl x1)] [] h
    refine ia_go hK ck_M_fault_4 ⟨gk_12 hg pk_417, gr_12_0 hg pk_417, ga_i100 hg (ka_12_0 pk_417) (by decide), ?_⟩
    show K 28 [some (.inr (.inr 417)), some (.inl x1)] [.inl (ia_i h 418 4)] h
    obtain rfl := Option.some.inj hm
    exact hret 28 _ dc_M_fault_28
def mm_M_lake : ia_M := (⟨"IceStreetModel", "lake", "(II)I"⟩, prog_14_method_32_code, 4, (some .int), 12, false)
theorem ok_M_lake : ia_mok mm_M_lake := ⟨by decide +kernel, by decide +kernel, by decide +kernel, by decide +kernel⟩
theorem mk_M_lake : ia_mkn mm_M_lake 1 2 := ⟨ia_tb_in (List.mem_of_getElem? (i := 1839) (by decide +kernel)) rfl, ia_tb_in (List.mem_of_getElem? (i := 146) (by decide +kernel)) rfl, by decide +kernel, by decide +kernel, ⟨ia_tb_in (List.mem_of_getElem? (i := 1837) (by decide +kernel)) rfl, ia_tb_in (List.mem_of_getElem? (i := 1838) (by decide +kernel)) rfl⟩⟩
theorem ck_M_lake_0 : ia_cks 12 4 false prog_14_method_32_code 0 [(.aload_n 0, 0, 0, 0, 0), (.iconst 0, 0, 0, 0, 0), (.iload_n 1, 0, 0, 0, 0)] = true := by decide +kernel
theorem ck_M_lake_6 : ia_cks 12 4 false prog_14_method_32_code 6 [(.ifCond .ne 6, 0, 0, 0, 0)] = true := by decide +kernel
theorem ck_M_lake_12 : ia_cks 12 4 false prog_14_method_32_code 12 [(.iconst 0, 0, 0, 0, 0), (.iload_n 1, 0, 0, 0, 0)] = true := by decide +kernel
theorem ck_M_lake_17 : ia_cks 12 4 false prog_14_method_32_code 17 [(.istore_n 3, 0, 0, 0, 0), (.iload_n 2, 0, 0, 0, 0), (.iconst 0, 0, 0, 0, 0), (.iconst 4, 0, 0, 0, 0)] = true := by decide +kernel
theorem ck_M_lake_24 : ia_cks 12 4 false prog_14_method_32_code 24 [(.ifCond .eq 14, 0, 0, 0, 0)] = true := by decide +kernel
theorem ck_M_lake_38 : ia_cks 12 4 false prog_14_method_32_code 38 [(.iload_n 2, 0, 0, 0, 0), (.bipush 20, 0, 0, 0, 0), (.bipush 19, 0, 0, 0, 0), (.aload_n 0, 0, 0, 0, 0), (.getfield 7, 12, 0, 3, 1), (.iload_n 3, 0, 0, 0, 0), (.iconst 3, 0, 0, 0, 0), (.iadd, 0, 0, 0, 0), (.iaload, 0, 0, 0, 0), (.iadd, 0, 0, 0, 0)] = true := by decide +kernel
theorem ck_M_lake_55 : ia_cks 12 4 false prog_14_method_32_code 55 [(.ifCond .eq 21, 0, 0, 0, 0)] = true := by decide +kernel
theorem ck_M_lake_76 : ia_cks 12 4 false prog_14_method_32_code 76 [(.bipush (-100), 0, 0, 0, 0)] = true := by decide +kernel
theorem ck_M_lake_58 : ia_cks 12 4 false prog_14_method_32_code 58 [(.aload_n 0, 0, 0, 0, 0), (.getfield 7, 12, 0, 3, 1), (.iload_n 3, 0, 0, 0, 0), (.sipush 224, 0, 0, 0, 0), (.iadd, 0, 0, 0, 0), (.iload_n 2, 0, 0, 0, 0), (.iadd, 0, 0, 0, 0), (.bipush 20, 0, 0, 0, 0), (.isub, 0, 0, 0, 0), (.iaload, 0, 0, 0, 0), (.goto 5, 0, 0, 0, 0)] = true := by decide +kernel
theorem ck_M_lake_27 : ia_cks 12 4 false prog_14_method_32_code 27 [(.aload_n 0, 0, 0, 0, 0), (.getfield 7, 12, 0, 3, 1), (.iload_n 3, 0, 0, 0, 0), (.iload_n 2, 0, 0, 0, 0), (.iadd, 0, 0, 0, 0), (.iaload, 0, 0, 0, 0), (.goto 43, 0, 0, 0, 0)] = true := by decide +kernel
theorem ck_M_lake_9 : ia_cks 12 4 false prog_14_method_32_code 9 [(.bipush (-100), 0, 0, 0, 0)] = true := by decide +kernel
theorem dc_M_lake_3 : decode prog_14_method_32_code 3 = .ok (.invokevirtual 163, 3) := by decide +kernel
theorem dc_M_lake_14 : decode prog_14_method_32_code 14 = .ok (.invokestatic 183, 3) := by decide +kernel
theorem dc_M_lake_21 : decode prog_14_method_32_code 21 = .ok (.invokestatic 116, 3) := by decide +kernel
theorem dc_M_lake_52 : decode prog_14_method_32_code 52 = .ok (.invokestatic 116, 3) := by decide +kernel
theorem dc_M_lake_78 : decode prog_14_method_32_code 78 = .ok (.ireturn, 1) := by decide +kernel
theorem dc_M_lake_11 : decode prog_14_method_32_code 11 = .ok (.ireturn, 1) := by decide +kernel
def f_M_lake (x1 : Int32) (x2 : Int32) (h : ia_H) : Option Int32 := (f_M_isOf 0 x1 h).bind fun v1 => (if v1 = 0 then (some (-100)) else ((f_M_placeOf 0 x1 h).bind fun v2 => ((f_M_isIn x2 0 4 h).bind fun v3 => (if v3 = 0 then (ia_gd (ia_ib (v2 + 3) 6528) ((f_M_isIn x2 20 (19 + (ia_i h 418 ((v2 + 3).toNatClampNeg))) h).bind fun v5 => (if v5 = 0 then (some (-100)) else (ia_gd (ia_ib (((v2 + 224) + x2) - 20) 6528) (some (ia_i h 418 ((((v2 + 224) + x2) - 20).toNatClampNeg))))))) else (ia_gd (ia_ib (v2 + x2) 6528) (some (ia_i h 418 ((v2 + x2).toNatClampNeg))))))))
theorem t_M_lake {w : ia_O0} (d : Nat) {x1 : Int32} {x2 : Int32} {h : ia_H} (hg : gd_ w h) {r : Int32} (hm : f_M_lake x1 x2 h = some r) : ia_Ev (d + 2) mm_M_lake [.inr (.inr 417), .inl x1, .inl x2] h (some (.inl r)) h := by
  refine ia_Ev_intro ok_M_lake (Nat.le_refl _) (Nat.le_refl _) (Nat.le_of_ble_eq_true rfl) (fun K hK hret => ?_)
  show K 0 [some (.inr (.inr 417)), some (.inl x1), some (.inl x2), none] [] h
  unfold f_M_lake at hm
  refine ia_go hK ck_M_lake_0 ?_
  show K 3 [some (.inr (.inr 417)), some (.inl x1), some (.inl x2), none] [.inl x1, .inl 0, .inr (.inr 417)] h
  obtain ⟨v1, hv1, hm⟩ := ia_bnd hm
  have ev1 := t_M_isOf (d + 0) hg hv1
  refine ia_cV hK mk_M_isOf lk_12_163 dc_M_lake_3 417 [.inl 0, .inl x1] [] rfl rfl (Nat.le_of_ble_eq_true rfl) (by decide) rfl (gk_12 hg pk_417) ev1 ⟨rfl, rfl⟩ ?_
  show K 6 [some (.inr (.inr 417)), some (.inl x1), some (.inl x2), none] [.inl v1] h
  refine ia_go hK ck_M_lake_6 ⟨fun c => ?_, fun c => ?_⟩
  · replace hm := ia_ifn hm c
    show K 12 [some (.inr (.inr 417)), some (.inl x1), some (.inl x2), none] [] h
    refine ia_go hK ck_M_lake_12 ?_
    show K 14 [some (.inr (.inr 417)), some (.inl x1), some (.inl x2), none] [.inl x1, .inl 0] h
    obtain ⟨v2, hv2, hm⟩ := ia_bnd hm
    have ev2 := t_M_placeOf (d + 1) hg hv2
    refine ia_cS hK mk_M_placeOf lk_12_183 dc_M_lake_14 [.inl 0, .inl x1] [] rfl rfl (Nat.le_of_ble_eq_true rfl) ev2 ⟨rfl, rfl⟩ ?_
    show K 17 [some (.inr (.inr 417)), some (.inl x1), some (.inl x2), none] [.inl v2] h
    refine ia_go hK ck_M_lake_17 ?_
    show K 21 [some (.inr (.inr 417)), some (.inl x1), some (.inl x2), some (.inl v2)] [.inl 4, .inl 0, .inl x2] h
    obtain ⟨v3, hv3, hm⟩ := ia_bnd hm
    have ev3 := t_M_isIn (d + 1) hg hv3
    refine ia_cS hK mk_M_isIn lk_12_116 dc_M_lake_21 [.inl x2, .inl 0, .inl 4] [] rfl rfl (Nat.le_of_ble_eq_true rfl) ev3 ⟨rfl, rfl⟩ ?_
    show K 24 [some (.inr (.inr 417)), some (.inl x1), some (.inl x2), some (.inl v2)] [.inl v3] h
    refine ia_go hK ck_M_lake_24 ⟨fun c => ?_, fun c => ?_⟩
    · replace hm := ia_ifp hm c
      show K 38 [some (.inr (.inr 417)), some (.inl x1), some (.inl x2), some (.inl v2)] [] h
      obtain ⟨c4, hm⟩ := ia_gd_some hm
      refine ia_go hK ck_M_lake_38 ⟨gk_12 hg pk_417, gr_12_0 hg pk_417, ga_i100 hg (ka_12_0 pk_417) c4, ?_⟩
      show K 52 [some (.inr (.inr 417)), some (.inl x1), some (.inl x2), some (.inl v2)] [.inl (19 + (ia_i h 418 ((v2 + 3).toNatClampNeg))), .inl 20, .inl x2] h
      obtain ⟨v5, hv5, hm⟩ := ia_bnd hm
      have ev5 := t_M_isIn (d + 1) hg hv5
      refine ia_cS hK mk_M_isIn lk_12_116 dc_M_lake_52 [.inl x2, .inl 20, .inl (19 + (ia_i h 418 ((v2 + 3).toNatClampNeg)))] [] rfl rfl (Nat.le_of_ble_eq_true rfl) ev5 ⟨rfl, rfl⟩ ?_
      show K 55 [some (.inr (.inr 417)), some (.inl x1), some (.inl x2), some (.inl v2)] [.inl v5] h
      refine ia_go hK ck_M_lake_55 ⟨fun c => ?_, fun c => ?_⟩
      · replace hm := ia_ifp hm c
        show K 76 [some (.inr (.inr 417)), some (.inl x1), some (.inl x2), some (.inl v2)] [] h
        refine ia_go hK ck_M_lake_76 ?_
        show K 78 [some (.inr (.inr 417)), some (.inl x1), some (.inl x2), some (.inl v2)] [.inl (-100)] h
        obtain rfl := Option.some.inj hm
        exact hret 78 _ dc_M_lake_78
      · replace hm := ia_ifn hm c
        show K 58 [some (.inr (.inr 417)), some (.inl x1), some (.inl x2), some (.inl v2)] [] h
        obtain ⟨c6, hm⟩ := ia_gd_some hm
        refine ia_go hK ck_M_lake_58 ⟨gk_12 hg pk_417, gr_12_0 hg pk_417, ga_i100 hg (ka_12_0 pk_417) c6, ?_⟩
        show K 78 [some (.inr (.inr 417)), some (.inl x1), some (.inl x2), some (.inl v2)] [.inl (ia_i h 418 ((((v2 + 224) + x2) - 20).toNatClampNeg))] h
        obtain rfl := Option.some.inj hm
        exact hret 78 _ dc_M_lake_78
    · replace hm := ia_ifn hm c
      show K 27 [some (.inr (.inr 417)), some (.inl x1), some (.inl x2), some (.inl v2)] [] h
      obtain ⟨c7, hm⟩ := ia_gd_some hm
      refine ia_go hK ck_M_lake_27 ⟨gk_12 hg pk_417, gr_12_0 hg pk_417, ga_i100 hg (ka_12_0 pk_417) c7, ?_⟩
      show K 78 [some (.inr (.inr 417)), some (.inl x1), some (.inl x2), some (.inl v2)] [.inl (ia_i h 418 ((v2 + x2).toNatClampNeg))] h
      obtain rfl := Option.some.inj hm
      exact hret 78 _ dc_M_lake_78
  · replace hm := ia_ifp hm c
    show K 9 [some (.inr (.inr 417)), some (.inl x1), some (.inl x2), none] [] h
    refine ia_go hK ck_M_lake_9 ?_
    show K 11 [some (.inr (.inr 417)), some (.inl x1), some (.inl x2), none] [.inl (-100)] h
    obtain rfl := Option.some.inj hm
    exact hret 11 _ dc_M_lake_11
def mm_M_isCell : ia_M := (⟨"IceStreetModel", "isCell", "(II)Z"⟩, prog_14_method_33_code, 3, (some .boolean), 12, false)
theorem ok_M_isCell : ia_mok mm_M_isCell := ⟨by decide +kernel, by decide +kernel, by decide +kernel, by decide +kernel⟩
theorem mk_M_isCell : ia_mkn mm_M_isCell 1 2 := ⟨ia_tb_in (List.mem_of_getElem? (i := 1847) (by decide +kernel)) rfl, ia_tb_in (List.mem_of_getElem? (i := 146) (by decide +kernel)) rfl, by decide +kernel, by decide +kernel, ⟨ia_tb_in (List.mem_of_getElem? (i := 1846) (by decide +kernel)) rfl, ia_tb_in (List.mem_of_getElem? (i := 70) (by decide +kernel)) rfl⟩⟩
theorem ck_M_isCell_0 : ia_cks 12 3 false prog_14_method_33_code 0 [(.iload_n 2, 0, 0, 0, 0), (.iconst 0, 0, 0, 0, 0), (.aload_n 0, 0, 0, 0, 0), (.getfield 7, 12, 0, 3, 1), (.iload_n 1, 0, 0, 0, 0), (.iconst 0, 0, 0, 0, 0), (.iadd, 0, 0, 0, 0), (.iaload, 0, 0, 0, 0), (.aload_n 0, 0, 0, 0, 0), (.getfield 7, 12, 0, 3, 1), (.iload_n 1, 0, 0, 0, 0), (.iconst 1, 0, 0, 0, 0), (.iadd, 0, 0, 0, 0), (.iaload, 0, 0, 0, 0), (.imul, 0, 0, 0, 0), (.iconst 1, 0, 0, 0, 0), (.isub, 0, 0, 0, 0)] = true := by decide +kernel
theorem dc_M_isCell_21 : decode prog_14_method_33_code 21 = .ok (.invokestatic 116, 3) := by decide +kernel
theorem dc_M_isCell_24 : decode prog_14_method_33_code 24 = .ok (.ireturn, 1) := by decide +kernel
def f_M_isCell (x1 : Int32) (x2 : Int32) (h : ia_H) : Option Int32 := ia_gd (ia_ib (x1 + 0) 6528) (ia_gd (ia_ib (x1 + 1) 6528) ((f_M_isIn x2 0 (((ia_i h 418 ((x1 + 0).toNatClampNeg)) * (ia_i h 418 ((x1 + 1).toNatClampNeg))) - 1) h).bind fun v3 => (ia_gd (ia_z1 v3) (some v3))))
theorem t_M_isCell {w : ia_O0} (d : Nat) {x1 : Int32} {x2 : Int32} {h : ia_H} (hg : gd_ w h) {r : Int32} (hm : f_M_isCell x1 x2 h = some r) : ia_Ev (d + 1) mm_M_isCell [.inr (.inr 417), .inl x1, .inl x2] h (some (.inl r)) h := by
  refine ia_Ev_intro ok_M_isCell (Nat.le_refl _) (Nat.le_refl _) (Nat.le_of_ble_eq_true rfl) (fun K hK hret => ?_)
  show K 0 [some (.inr (.inr 417)), some (.inl x1), some (.inl x2)] [] h
  unfold f_M_isCell at hm
  obtain ⟨c1, hm⟩ := ia_gd_some hm
  obtain ⟨c2, hm⟩ := ia_gd_some hm
  refine ia_go hK ck_M_isCell_0 ⟨gk_12 hg pk_417, gr_12_0 hg pk_417, ga_i100 hg (ka_12_0 pk_417) c1, gk_12 hg pk_417, gr_12_0 hg pk_417, ga_i100 hg (ka_12_0 pk_417) c2, ?_⟩
  show K 21 [some (.inr (.inr 417)), some (.inl x1), some (.inl x2)] [.inl (((ia_i h 418 ((x1 + 0).toNatClampNeg)) * (ia_i h 418 ((x1 + 1).toNatClampNeg))) - 1), .inl 0, .inl x2] h
  obtain ⟨v3, hv3, hm⟩ := ia_bnd hm
  have ev3 := t_M_isIn (d + 0) hg hv3
  refine ia_cS hK mk_M_isIn lk_12_116 dc_M_isCell_21 [.inl x2, .inl 0, .inl (((ia_i h 418 ((x1 + 0).toNatClampNeg)) * (ia_i h 418 ((x1 + 1).toNatClampNeg))) - 1)] [] rfl rfl (Nat.le_of_ble_eq_true rfl) ev3 ⟨rfl, rfl⟩ ?_
  show K 24 [some (.inr (.inr 417)), some (.inl x1), some (.inl x2)] [.inl v3] h
  obtain ⟨c4, hm⟩ := ia_gd_some hm
  obtain rfl := Option.some.inj hm
  exact hret 24 _ ⟨ia_z1_spec c4, dc_M_isCell_24⟩
def mm_M_beside : ia_M := (⟨"IceStreetModel", "beside", "(III)I"⟩, prog_14_method_34_code, 5, (some .int), 12, false)
theorem ok_M_beside : ia_mok mm_M_beside := ⟨by decide +kernel, by decide +kernel, by decide +kernel, by decide +kernel⟩
theorem mk_M_beside : ia_mkn mm_M_beside 1 3 := ⟨ia_tb_in (List.mem_of_getElem? (i := 1851) (by decide +kernel)) rfl, ia_tb_in (List.mem_of_getElem? (i := 146) (by decide +kernel)) rfl, by decide +kernel, by decide +kernel, ⟨ia_tb_in (List.mem_of_getElem? (i := 1850) (by decide +kernel)) rfl, ia_tb_in (List.mem_of_getElem? (i := 71) (by decide +kernel)) rfl⟩⟩
theorem ck_M_beside_0 : ia_cks 12 5 false prog_14_method_34_code 0 [(.aload_n 0, 0, 0, 0, 0), (.getfield 7, 12, 0, 3, 1), (.iload_n 1, 0, 0, 0, 0), (.iconst 0, 0, 0, 0, 0), (.iadd, 0, 0, 0, 0), (.iaload, 0, 0, 0, 0), (.istore 4, 0, 0, 0, 0), (.iload_n 3, 0, 0, 0, 0), (.ifCond .ne 18, 0, 0, 0, 0)] = true := by decide +kernel
theorem ck_M_beside_29 : ia_cks 12 5 false prog_14_method_34_code 29 [(.iload_n 3, 0, 0, 0, 0), (.iconst 1, 0, 0, 0, 0), (.if_icmp .ne 18, 0, 0, 0, 0)] = true := by decide +kernel
theorem ck_M_beside_49 : ia_cks 12 5 false prog_14_method_34_code 49 [(.iload_n 3, 0, 0, 0, 0), (.iconst 2, 0, 0, 0, 0), (.if_icmp .ne 22, 0, 0, 0, 0)] = true := by decide +kernel
theorem ck_M_beside_73 : ia_cks 12 5 false prog_14_method_34_code 73 [(.iload_n 2, 0, 0, 0, 0), (.iload 4, 0, 0, 0, 0), (.iadd, 0, 0, 0, 0), (.iload 4, 0, 0, 0, 0), (.aload_n 0, 0, 0, 0, 0), (.getfield 7, 12, 0, 3, 1), (.iload_n 1, 0, 0, 0, 0), (.iconst 1, 0, 0, 0, 0), (.iadd, 0, 0, 0, 0), (.iaload, 0, 0, 0, 0), (.imul, 0, 0, 0, 0), (.if_icmp .ge 10, 0, 0, 0, 0)] = true := by decide +kernel
theorem ck_M_beside_98 : ia_cks 12 5 false prog_14_method_34_code 98 [(.iconst (-1), 0, 0, 0, 0)] = true := by decide +kernel
theorem ck_M_beside_91 : ia_cks 12 5 false prog_14_method_34_code 91 [(.iload_n 2, 0, 0, 0, 0), (.iload 4, 0, 0, 0, 0), (.iadd, 0, 0, 0, 0), (.goto 4, 0, 0, 0, 0)] = true := by decide +kernel
theorem ck_M_beside_54 : ia_cks 12 5 false prog_14_method_34_code 54 [(.iload_n 2, 0, 0, 0, 0), (.iload 4, 0, 0, 0, 0), (.irem, 0, 0, 0, 0), (.iload 4, 0, 0, 0, 0), (.iconst 1, 0, 0, 0, 0), (.isub, 0, 0, 0, 0), (.if_icmp .ne 7, 0, 0, 0, 0)] = true := by decide +kernel
theorem ck_M_beside_69 : ia_cks 12 5 false prog_14_method_34_code 69 [(.iload_n 2, 0, 0, 0, 0), (.iconst 1, 0, 0, 0, 0), (.iadd, 0, 0, 0, 0)] = true := by decide +kernel
theorem ck_M_beside_65 : ia_cks 12 5 false prog_14_method_34_code 65 [(.iconst (-1), 0, 0, 0, 0), (.goto 6, 0, 0, 0, 0)] = true := by decide +kernel
theorem ck_M_beside_34 : ia_cks 12 5 false prog_14_method_34_code 34 [(.iload_n 2, 0, 0, 0, 0), (.iload 4, 0, 0, 0, 0), (.irem, 0, 0, 0, 0), (.ifCond .ne 7, 0, 0, 0, 0)] = true := by decide +kernel
theorem ck_M_beside_45 : ia_cks 12 5 false prog_14_method_34_code 45 [(.iload_n 2, 0, 0, 0, 0), (.iconst 1, 0, 0, 0, 0), (.isub, 0, 0, 0, 0)] = true := by decide +kernel
theorem ck_M_beside_41 : ia_cks 12 5 false prog_14_method_34_code 41 [(.iconst (-1), 0, 0, 0, 0), (.goto 6, 0, 0, 0, 0)] = true := by decide +kernel
theorem ck_M_beside_14 : ia_cks 12 5 false prog_14_method_34_code 14 [(.iload_n 2, 0, 0, 0, 0), (.iload 4, 0, 0, 0, 0), (.if_icmp .ge 7, 0, 0, 0, 0)] = true := by decide +kernel
theorem ck_M_beside_24 : ia_cks 12 5 false prog_14_method_34_code 24 [(.iload_n 2, 0, 0, 0, 0), (.iload 4, 0, 0, 0, 0), (.isub, 0, 0, 0, 0)] = true := by decide +kernel
theorem ck_M_beside_20 : ia_cks 12 5 false prog_14_method_34_code 20 [(.iconst (-1), 0, 0, 0, 0), (.goto 7, 0, 0, 0, 0)] = true := by decide +kernel
theorem dc_M_beside_99 : decode prog_14_method_34_code 99 = .ok (.ireturn, 1) := by decide +kernel
theorem dc_M_beside_72 : decode prog_14_method_34_code 72 = .ok (.ireturn, 1) := by decide +kernel
theorem dc_M_beside_48 : decode prog_14_method_34_code 48 = .ok (.ireturn, 1) := by decide +kernel
theorem dc_M_beside_28 : decode prog_14_method_34_code 28 = .ok (.ireturn, 1) := by decide +kernel
def f_M_beside (x1 : Int32) (x2 : Int32) (x3 : Int32) (h : ia_H) : Option Int32 := ia_gd (ia_ib (x1 + 0) 6528) (if x3 = 0 then (if (ia_i h 418 ((x1 + 0).toNatClampNeg)) ≤ x2 then (some (x2 - (ia_i h 418 ((x1 + 0).toNatClampNeg)))) else (some (-1))) else (if x3 = 1 then (ia_gd (ia_nz (ia_i h 418 ((x1 + 0).toNatClampNeg))) (if (x2 - x2 / (ia_i h 418 ((x1 + 0).toNatClampNeg)) * (ia_i h 418 ((x1 + 0).toNatClampNeg))) = 0 then (some (-1)) else (some (x2 - 1)))) else (if x3 = 2 then (ia_gd (ia_nz (ia_i h 418 ((x1 + 0).toNatClampNeg))) (if (x2 - x2 / (ia_i h 418 ((x1 + 0).toNatClampNeg)) * (ia_i h 418 ((x1 + 0).toNatClampNeg))) = ((ia_i h 418 ((x1 + 0).toNatClampNeg)) - 1) then (some (-1)) else (some (x2 + 1)))) else (ia_gd (ia_ib (x1 + 1) 6528) (if ((ia_i h 418 ((x1 + 0).toNatClampNeg)) * (ia_i h 418 ((x1 + 1).toNatClampNeg))) ≤ (x2 + (ia_i h 418 ((x1 + 0).toNatClampNeg))) then (some (-1)) else (some (x2 + (ia_i h 418 ((x1 + 0).toNatClampNeg)))))))))
theorem t_M_beside {w : ia_O0} (d : Nat) {x1 : Int32} {x2 : Int32} {x3 : Int32} {h : ia_H} (hg : gd_ w h) {r : Int32} (hm : f_M_beside x1 x2 x3 h = some r) : ia_Ev (d + 0) mm_M_beside [.inr (.inr 417), .inl x1, .inl x2, .inl x3] h (some (.inl r)) h := by
  refine ia_Ev_intro ok_M_beside (Nat.le_refl _) (Nat.le_refl _) (Nat.le_of_ble_eq_true rfl) (fun K hK hret => ?_)
  show K 0 [some (.inr (.inr 417)), some (.inl x1), some (.inl x2), some (.inl x3), none] [] h
  unfold f_M_beside at hm
  obtain ⟨c1, hm⟩ := ia_gd_some hm
  refine ia_go hK ck_M_beside_0 ⟨gk_12 hg pk_417, gr_12_0 hg pk_417, ga_i100 hg (ka_12_0 pk_417) c1, fun c => ?_, fun c => ?_⟩
  · replace hm := ia_ifn hm c
    show K 29 [some (.inr (.inr 417)), some (.inl x1), some (.inl x2), some (.inl x3), some (.inl (ia_i h 418 ((x1 + 0).toNatClampNeg)))] [] h
    refine ia_go hK ck_M_beside_29 ⟨fun c => ?_, fun c => ?_⟩
    · replace hm := ia_ifn hm c
      show K 49 [some (.inr (.inr 417)), some (.inl x1), some (.inl x2), some (.inl x3), some (.inl (ia_i h 418 ((x1 + 0).toNatClampNeg)))] [] h
      refine ia_go hK ck_M_beside_49 ⟨fun c => ?_, fun c => ?_⟩
      · replace hm := ia_ifn hm c
        show K 73 [some (.inr (.inr 417)), some (.inl x1), some (.inl x2), some (.inl x3), some (.inl (ia_i h 418 ((x1 + 0).toNatClampNeg)))] [] h
        obtain ⟨c2, hm⟩ := ia_gd_some hm
        refine ia_go hK ck_M_beside_73 ⟨gk_12 hg pk_417, gr_12_0 hg pk_417, ga_i100 hg (ka_12_0 pk_417) c2, fun c => ?_, fun c => ?_⟩
        · replace hm := ia_ifp hm c
          show K 98 [some (.inr (.inr 417)), some (.inl x1), some (.inl x2), some (.inl x3), some (.inl (ia_i h 418 ((x1 + 0).toNatClampNeg)))] [] h
          refine ia_go hK ck_M_beside_98 ?_
          show K 99 [some (.inr (.inr 417)), some (.inl x1), some (.inl x2), some (.inl x3), some (.inl (ia_i h 418 ((x1 + 0).toNatClampNeg)))] [.inl (-1)] h
          obtain rfl := Option.some.inj hm
          exact hret 99 _ dc_M_beside_99
        · replace hm := ia_ifn hm c
          show K 91 [some (.inr (.inr 417)), some (.inl x1), some (.inl x2), some (.inl x3), some (.inl (ia_i h 418 ((x1 + 0).toNatClampNeg)))] [] h
          refine ia_go hK ck_M_beside_91 ?_
          show K 99 [some (.inr (.inr 417)), some (.inl x1), some (.inl x2), some (.inl x3), some (.inl (ia_i h 418 ((x1 + 0).toNatClampNeg)))] [.inl (x2 + (ia_i h 418 ((x1 + 0).toNatClampNeg)))] h
          obtain rfl := Option.some.inj hm
          exact hret 99 _ dc_M_beside_99
      · replace hm := ia_ifp hm c
        show K 54 [some (.inr (.inr 417)), some (.inl x1), some (.inl x2), some (.inl x3), some (.inl (ia_i h 418 ((x1 + 0).toNatClampNeg)))] [] h
        obtain ⟨c3, hm⟩ := ia_gd_some hm
        refine ia_go hK ck_M_beside_54 ⟨ia_nz_spec c3, fun c => ?_, fun c => ?_⟩
        · replace hm := ia_ifn hm c
          show K 69 [some (.inr (.inr 417)), some (.inl x1), some (.inl x2), some (.inl x3), some (.inl (ia_i h 418 ((x1 + 0).toNatClampNeg)))] [] h
          refine ia_go hK ck_M_beside_69 ?_
          show K 72 [some (.inr (.inr 417)), some (.inl x1), some (.inl x2), some (.inl x3), some (.inl (ia_i h 418 ((x1 + 0).toNatClampNeg)))] [.inl (x2 + 1)] h
          obtain rfl := Option.some.inj hm
          exact hret 72 _ dc_M_beside_72
        · replace hm := ia_ifp hm c
          show K 65 [some (.inr (.inr 417)), some (.inl x1), some (.inl x2), some (.inl x3), some (.inl (ia_i h 418 ((x1 + 0).toNatClampNeg)))] [] h
          refine ia_go hK ck_M_beside_65 ?_
          show K 72 [some (.inr (.inr 417)), some (.inl x1), some (.inl x2), some (.inl x3), some (.inl (ia_i h 418 ((x1 + 0).toNatClampNeg)))] [.inl (-1)] h
          obtain rfl := Option.some.inj hm
          exact hret 72 _ dc_M_beside_72
    · replace hm := ia_ifp hm c
      show K 34 [some (.inr (.inr 417)), some (.inl x1), some (.inl x2), some (.inl x3), some (.inl (ia_i h 418 ((x1 + 0).toNatClampNeg)))] [] h
      obtain ⟨c4, hm⟩ := ia_gd_some hm
      refine ia_go hK ck_M_beside_34 ⟨ia_nz_spec c4, fun c => ?_, fun c => ?_⟩
      · replace hm := ia_ifn hm c
        show K 45 [some (.inr (.inr 417)), some (.inl x1), some (.inl x2), some (.inl x3), some (.inl (ia_i h 418 ((x1 + 0).toNatClampNeg)))] [] h
        refine ia_go hK ck_M_beside_45 ?_
        show K 48 [some (.inr (.inr 417)), some (.inl x1), some (.inl x2), some (.inl x3), some (.inl (ia_i h 418 ((x1 + 0).toNatClampNeg)))] [.inl (x2 - 1)] h
        obtain rfl := Option.some.inj hm
        exact hret 48 _ dc_M_beside_48
      · replace hm := ia_ifp hm c
        show K 41 [some (.inr (.inr 417)), some (.inl x1), some (.inl x2), some (.inl x3), some (.inl (ia_i h 418 ((x1 + 0).toNatClampNeg)))] [] h
        refine ia_go hK ck_M_beside_41 ?_
        show K 48 [some (.inr (.inr 417)), some (.inl x1), some (.inl x2), some (.inl x3), some (.inl (ia_i h 418 ((x1 + 0).toNatClampNeg)))] [.inl (-1)] h
        obtain rfl := Option.some.inj hm
        exact hret 48 _ dc_M_beside_48
  · replace hm := ia_ifp hm c
    show K 14 [some (.inr (.inr 417)), some (.inl x1), some (.inl x2), some (.inl x3), some (.inl (ia_i h 418 ((x1 + 0).toNatClampNeg)))] [] h
    refine ia_go hK ck_M_beside_14 ⟨fun c => ?_, fun c => ?_⟩
    · replace hm := ia_ifp hm c
      show K 24 [some (.inr (.inr 417)), some (.inl x1), some (.inl x2), some (.inl x3), some (.inl (ia_i h 418 ((x1 + 0).toNatClampNeg)))] [] h
      refine ia_go hK ck_M_beside_24 ?_
      show K 28 [some (.inr (.inr 417)), some (.inl x1), some (.inl x2), some (.inl x3), some (.inl (ia_i h 418 ((x1 + 0).toNatClampNeg)))] [.inl (x2 - (ia_i h 418 ((x1 + 0).toNatClampNeg)))] h
      obtain rfl := Option.some.inj hm
      exact hret 28 _ dc_M_beside_28
    · replace hm := ia_ifn hm c
      show K 20 [some (.inr (.inr 417)), some (.inl x1), some (.inl x2), some (.inl x3), some (.inl (ia_i h 418 ((x1 + 0).toNatClampNeg)))] [] h
      refine ia_go hK ck_M_beside_20 ?_
      show K 28 [some (.inr (.inr 417)), some (.inl x1), some (.inl x2), some (.inl x3), some (.inl (ia_i h 418 ((x1 + 0).toNatClampNeg)))] [.inl (-1)] h
      obtain rfl := Option.some.inj hm
      exact hret 28 _ dc_M_beside_28
def mm_M_isCracked : ia_M := (⟨"IceStreetModel", "isCracked", "(III)Z"⟩, prog_14_method_35_code, 5, (some .boolean), 12, false)
theorem ok_M_isCracked : ia_mok mm_M_isCracked := ⟨by decide +kernel, by decide +kernel, by decide +kernel, by decide +kernel⟩
theorem mk_M_isCracked : ia_mkn mm_M_isCracked 1 3 := ⟨ia_tb_in (List.mem_of_getElem? (i := 1855) (by decide +kernel)) rfl, ia_tb_in (List.mem_of_getElem? (i := 146) (by decide +kernel)) rfl, by decide +kernel, by decide +kernel, ⟨ia_tb_in (List.mem_of_getElem? (i := 1854) (by decide +kernel)) rfl, ia_tb_in (List.mem_of_getElem? (i := 72) (by decide +kernel)) rfl⟩⟩
theorem ck_M_isCracked_0 : ia_cks 12 5 false prog_14_method_35_code 0 [(.aload_n 0, 0, 0, 0, 0), (.iload_n 1, 0, 0, 0, 0), (.iload_n 2, 0, 0, 0, 0), (.iload_n 3, 0, 0, 0, 0)] = true := by decide +kernel
theorem ck_M_isCracked_7 : ia_cks 12 5 false prog_14_method_35_code 7 [(.istore 4, 0, 0, 0, 0), (.iload_n 3, 0, 0, 0, 0), (.ifCond .ne 28, 0, 0, 0, 0)] = true := by decide +kernel
theorem ck_M_isCracked_38 : ia_cks 12 5 false prog_14_method_35_code 38 [(.iload_n 3, 0, 0, 0, 0), (.iconst 1, 0, 0, 0, 0), (.if_icmp .ne 28, 0, 0, 0, 0)] = true := by decide +kernel
theorem ck_M_isCracked_68 : ia_cks 12 5 false prog_14_method_35_code 68 [(.aload_n 0, 0, 0, 0, 0), (.getfield 7, 12, 0, 3, 1), (.iload_n 1, 0, 0, 0, 0), (.iload_n 3, 0, 0, 0, 0), (.iconst 2, 0, 0, 0, 0), (.if_icmp .ne 9, 0, 0, 0, 0)] = true := by decide +kernel
theorem ck_M_isCracked_84 : ia_cks 12 5 false prog_14_method_35_code 84 [(.sipush 188, 0, 0, 0, 0)] = true := by decide +kernel
theorem ck_M_isCracked_87 : ia_cks 12 5 false prog_14_method_35_code 87 [(.iadd, 0, 0, 0, 0), (.iload_n 2, 0, 0, 0, 0), (.iadd, 0, 0, 0, 0), (.iaload, 0, 0, 0, 0), (.iconst 1, 0, 0, 0, 0), (.if_icmp .ne 7, 0, 0, 0, 0)] = true := by decide +kernel
theorem ck_M_isCracked_99 : ia_cks 12 5 false prog_14_method_35_code 99 [(.iconst 0, 0, 0, 0, 0)] = true := by decide +kernel
theorem ck_M_isCracked_95 : ia_cks 12 5 false prog_14_method_35_code 95 [(.iconst 1, 0, 0, 0, 0), (.goto 4, 0, 0, 0, 0)] = true := by decide +kernel
theorem ck_M_isCracked_78 : ia_cks 12 5 false prog_14_method_35_code 78 [(.sipush 152, 0, 0, 0, 0), (.goto 6, 0, 0, 0, 0)] = true := by decide +kernel
theorem ck_M_isCracked_43 : ia_cks 12 5 false prog_14_method_35_code 43 [(.aload_n 0, 0, 0, 0, 0), (.getfield 7, 12, 0, 3, 1), (.iload_n 1, 0, 0, 0, 0), (.sipush 152, 0, 0, 0, 0), (.iadd, 0, 0, 0, 0), (.iload 4, 0, 0, 0, 0), (.iadd, 0, 0, 0, 0), (.iaload, 0, 0, 0, 0), (.iconst 1, 0, 0, 0, 0), (.if_icmp .ne 7, 0, 0, 0, 0)] = true := by decide +kernel
theorem ck_M_isCracked_64 : ia_cks 12 5 false prog_14_method_35_code 64 [(.iconst 0, 0, 0, 0, 0), (.goto 35, 0, 0, 0, 0)] = true := by decide +kernel
theorem ck_M_isCracked_60 : ia_cks 12 5 false prog_14_method_35_code 60 [(.iconst 1, 0, 0, 0, 0), (.goto 39, 0, 0, 0, 0)] = true := by decide +kernel
theorem ck_M_isCracked_13 : ia_cks 12 5 false prog_14_method_35_code 13 [(.aload_n 0, 0, 0, 0, 0), (.getfield 7, 12, 0, 3, 1), (.iload_n 1, 0, 0, 0, 0), (.sipush 188, 0, 0, 0, 0), (.iadd, 0, 0, 0, 0), (.iload 4, 0, 0, 0, 0), (.iadd, 0, 0, 0, 0), (.iaload, 0, 0, 0, 0), (.iconst 1, 0, 0, 0, 0), (.if_icmp .ne 7, 0, 0, 0, 0)] = true := by decide +kernel
theorem ck_M_isCracked_34 : ia_cks 12 5 false prog_14_method_35_code 34 [(.iconst 0, 0, 0, 0, 0), (.goto 65, 0, 0, 0, 0)] = true := by decide +kernel
theorem ck_M_isCracked_30 : ia_cks 12 5 false prog_14_method_35_code 30 [(.iconst 1, 0, 0, 0, 0), (.goto 69, 0, 0, 0, 0)] = true := by decide +kernel
theorem dc_M_isCracked_4 : decode prog_14_method_35_code 4 = .ok (.invokevirtual 186, 3) := by decide +kernel
theorem dc_M_isCracked_100 : decode prog_14_method_35_code 100 = .ok (.ireturn, 1) := by decide +kernel
def j_M_isCracked_87 (x1 : Int32) (x2 : Int32) (x3 : Int32) (h : ia_H) (b0 : Nat) (s1 : Int32) (s2 : Int32) : Option Int32 := ia_gd (ia_ib ((s1 + s2) + x2) 6528) (if (ia_i h b0 (((s1 + s2) + x2).toNatClampNeg)) = 1 then (some 1) else (some 0))
theorem tj_M_isCracked_87 {w : ia_O0} {d N1 W1 : Nat} {K : ia_K} (hK : ia_isK (d + 1) mm_M_isCracked N1 W1 K) {x1 : Int32} {x2 : Int32} {x3 : Int32} {h : ia_H} (hg : gd_ w h) {r : Int32} (hret : ∀ (pc : Nat) (lv : ia_L), ia_ret mm_M_isCracked pc (some (.inl r)) → K pc lv ((some (.inl r)) : Option ia_V).toList h) : ∀ (b0 : Nat) (s1 : Int32) (s2 : Int32), kd_D b0 = (100, 6528) → j_M_isCracked_87 x1 x2 x3 h b0 s1 s2 = some r → K 87 [none, none, some (.inl x2), none, none] [.inl s2, .inl s1, .inr (.inr b0)] h := by
  intro b0 s1 s2 q_b0 hm
  unfold j_M_isCracked_87 at hm
  obtain ⟨c2, hm⟩ := ia_gd_some hm
  refine ia_go hK ck_M_isCracked_87 ⟨ga_i100 hg q_b0 c2, fun c => ?_, fun c => ?_⟩
  · replace hm := ia_ifn hm c
    show K 99 [none, none, some (.inl x2), none, none] [] h
    refine ia_go hK ck_M_isCracked_99 ?_
    show K 100 [none, none, some (.inl x2), none, none] [.inl 0] h
    obtain rfl := Option.some.inj hm
    exact hret 100 _ ⟨Or.inl rfl, dc_M_isCracked_100⟩
  · replace hm := ia_ifp hm c
    show K 95 [none, none, some (.inl x2), none, none] [] h
    refine ia_go hK ck_M_isCracked_95 ?_
    show K 100 [none, none, some (.inl x2), none, none] [.inl 1] h
    obtain rfl := Option.some.inj hm
    exact hret 100 _ ⟨Or.inr rfl, dc_M_isCracked_100⟩
def f_M_isCracked (x1 : Int32) (x2 : Int32) (x3 : Int32) (h : ia_H) : Option Int32 := (f_M_beside x1 x2 x3 h).bind fun v1 => (if x3 = 0 then (ia_gd (ia_ib ((x1 + 188) + v1) 6528) (if (ia_i h 418 (((x1 + 188) + v1).toNatClampNeg)) = 1 then (some 1) else (some 0))) else (if x3 = 1 then (ia_gd (ia_ib ((x1 + 152) + v1) 6528) (if (ia_i h 418 (((x1 + 152) + v1).toNatClampNeg)) = 1 then (some 1) else (some 0))) else (if x3 = 2 then (j_M_isCracked_87 x1 x2 x3 h 418 x1 152) else (j_M_isCracked_87 x1 x2 x3 h 418 x1 188))))
theorem t_M_isCracked {w : ia_O0} (d : Nat) {x1 : Int32} {x2 : Int32} {x3 : Int32} {h : ia_H} (hg : gd_ w h) {r : Int32} (hm : f_M_isCracked x1 x2 x3 h = some r) : ia_Ev (d + 1) mm_M_isCracked [.inr (.inr 417), .inl x1, .inl x2, .inl x3] h (some (.inl r)) h := by
  refine ia_Ev_intro ok_M_isCracked (Nat.le_refl _) (Nat.le_refl _) (Nat.le_of_ble_eq_true rfl) (fun K hK hret => ?_)
  show K 0 [some (.inr (.inr 417)), some (.inl x1), some (.inl x2), some (.inl x3), none] [] h
  unfold f_M_isCracked at hm
  refine ia_go hK ck_M_isCracked_0 ?_
  show K 4 [some (.inr (.inr 417)), some (.inl x1), some (.inl x2), some (.inl x3), none] [.inl x3, .inl x2, .inl x1, .inr (.inr 417)] h
  obtain ⟨v1, hv1, hm⟩ := ia_bnd hm
  have ev1 := t_M_beside (d + 0) hg hv1
  refine ia_cV hK mk_M_beside lk_12_186 dc_M_isCracked_4 417 [.inl x1, .inl x2, .inl x3] [] rfl rfl (Nat.le_of_ble_eq_true rfl) (by decide) rfl (gk_12 hg pk_417) ev1 ⟨rfl, rfl⟩ ?_
  show K 7 [some (.inr (.inr 417)), some (.inl x1), some (.inl x2), some (.inl x3), none] [.inl v1] h
  refine ia_go hK ck_M_isCracked_7 ⟨fun c => ?_, fun c => ?_⟩
  · replace hm := ia_ifn hm c
    show K 38 [some (.inr (.inr 417)), some (.inl x1), some (.inl x2), some (.inl x3), some (.inl v1)] [] h
    refine ia_go hK ck_M_isCracked_38 ⟨fun c => ?_, fun c => ?_⟩
    · replace hm := ia_ifn hm c
      show K 68 [some (.inr (.inr 417)), some (.inl x1), some (.inl x2), some (.inl x3), some (.inl v1)] [] h
      refine ia_go hK ck_M_isCracked_68 ⟨gk_12 hg pk_417, gr_12_0 hg pk_417, fun c => ?_, fun c => ?_⟩
      · replace hm := ia_ifn hm c
        show K 84 [some (.inr (.inr 417)), some (.inl x1), some (.inl x2), some (.inl x3), some (.inl v1)] [.inl x1, .inr (.inr 418)] h
        refine ia_go hK ck_M_isCracked_84 ?_
        show K 87 [some (.inr (.inr 417)), some (.inl x1), some (.inl x2), some (.inl x3), some (.inl v1)] [.inl 188, .inl x1, .inr (.inr 418)] h
        refine ia_fg hK (lv' := [none, none, some (.inl x2), none, none]) ⟨rfl, trivial⟩ ?_
        exact tj_M_isCracked_87 hK hg hret 418 x1 188 (ka_12_0 pk_417) hm
      · replace hm := ia_ifp hm c
        show K 78 [some (.inr (.inr 417)), some (.inl x1), some (.inl x2), some (.inl x3), some (.inl v1)] [.inl x1, .inr (.inr 418)] h
        refine ia_go hK ck_M_isCracked_78 ?_
        show K 87 [some (.inr (.inr 417)), some (.inl x1), some (.inl x2), some (.inl x3), some (.inl v1)] [.inl 152, .inl x1, .inr (.inr 418)] h
        refine ia_fg hK (lv' := [none, none, some (.inl x2), none, none]) ⟨rfl, trivial⟩ ?_
        exact tj_M_isCracked_87 hK hg hret 418 x1 152 (ka_12_0 pk_417) hm
    · replace hm := ia_ifp hm c
      show K 43 [some (.inr (.inr 417)), some (.inl x1), some (.inl x2), some (.inl x3), some (.inl v1)] [] h
      obtain ⟨c3, hm⟩ := ia_gd_some hm
      refine ia_go hK ck_M_isCracked_43 ⟨gk_12 hg pk_417, gr_12_0 hg pk_417, ga_i100 hg (ka_12_0 pk_417) c3, fun c => ?_, fun c => ?_⟩
      · replace hm := ia_ifn hm c
        show K 64 [some (.inr (.inr 417)), some (.inl x1), some (.inl x2), some (.inl x3), some (.inl v1)] [] h
        refine ia_go hK ck_M_isCracked_64 ?_
        show K 100 [some (.inr (.inr 417)), some (.inl x1), some (.inl x2), some (.inl x3), some (.inl v1)] [.inl 0] h
        obtain rfl := Option.some.inj hm
        exact hret 100 _ ⟨Or.inl rfl, dc_M_isCracked_100⟩
      · replace hm := ia_ifp hm c
        show K 60 [some (.inr (.inr 417)), some (.inl x1), some (.inl x2), some (.inl x3), some (.inl v1)] [] h
        refine ia_go hK ck_M_isCracked_60 ?_
        show K 100 [some (.inr (.inr 417)), some (.inl x1), some (.inl x2), some (.inl x3), some (.inl v1)] [.inl 1] h
        obtain rfl := Option.some.inj hm
        exact hret 100 _ ⟨Or.inr rfl, dc_M_isCracked_100⟩
  · replace hm := ia_ifp hm c
    show K 13 [some (.inr (.inr 417)), some (.inl x1), some (.inl x2), some (.inl x3), some (.inl v1)] [] h
    obtain ⟨c4, hm⟩ := ia_gd_some hm
    refine ia_go hK ck_M_isCracked_13 ⟨gk_12 hg pk_417, gr_12_0 hg pk_417, ga_i100 hg (ka_12_0 pk_417) c4, fun c => ?_, fun c => ?_⟩
    · replace hm := ia_ifn hm c
      show K 34 [some (.inr (.inr 417)), some (.inl x1), some (.inl x2), some (.inl x3), some (.inl v1)] [] h
      refine ia_go hK ck_M_isCracked_34 ?_
      show K 100 [some (.inr (.inr 417)), some (.inl x1), some (.inl x2), some (.inl x3), some (.inl v1)] [.inl 0] h
      obtain rfl := Option.some.inj hm
      exact hret 100 _ ⟨Or.inl rfl, dc_M_isCracked_100⟩
    · replace hm := ia_ifp hm c
      show K 30 [some (.inr (.inr 417)), some (.inl x1), some (.inl x2), some (.inl x3), some (.inl v1)] [] h
      refine ia_go hK ck_M_isCracked_30 ?_
      show K 100 [some (.inr (.inr 417)), some (.inl x1), some (.inl x2), some (.inl x3), some (.inl v1)] [.inl 1] h
      obtain rfl := Option.some.inj hm
      exact hret 100 _ ⟨Or.inr rfl, dc_M_isCracked_100⟩
def mm_M_cell : ia_M := (⟨"IceStreetModel", "cell", "(III)I"⟩, prog_14_method_37_code, 7, (some .int), 12, false)
theorem ok_M_cell : ia_mok mm_M_cell := ⟨by decide +kernel, by decide +kernel, by decide +kernel, by decide +kernel⟩
theorem mk_M_cell : ia_mkn mm_M_cell 1 3 := ⟨ia_tb_in (List.mem_of_getElem? (i := 1843) (by decide +kernel)) rfl, ia_tb_in (List.mem_of_getElem? (i := 146) (by decide +kernel)) rfl, by decide +kernel, by decide +kernel, ⟨ia_tb_in (List.mem_of_getElem? (i := 1841) (by decide +kernel)) rfl, ia_tb_in (List.mem_of_getElem? (i := 1842) (by decide +kernel)) rfl⟩⟩
theorem ck_M_cell_0 : ia_cks 12 7 false prog_14_method_37_code 0 [(.aload_n 0, 0, 0, 0, 0), (.iconst 0, 0, 0, 0, 0), (.iload_n 1, 0, 0, 0, 0)] = true := by decide +kernel
theorem ck_M_cell_6 : ia_cks 12 7 false prog_14_method_37_code 6 [(.ifCond .eq 16, 0, 0, 0, 0)] = true := by decide +kernel
theorem ck_M_cell_22 : ia_cks 12 7 false prog_14_method_37_code 22 [(.iconst (-1), 0, 0, 0, 0)] = true := by decide +kernel
theorem ck_M_cell_9 : ia_cks 12 7 false prog_14_method_37_code 9 [(.aload_n 0, 0, 0, 0, 0), (.iconst 0, 0, 0, 0, 0), (.iload_n 1, 0, 0, 0, 0)] = true := by decide +kernel
theorem ck_M_cell_15 : ia_cks 12 7 false prog_14_method_37_code 15 [(.iload_n 2, 0, 0, 0, 0)] = true := by decide +kernel
theorem ck_M_cell_19 : ia_cks 12 7 false prog_14_method_37_code 19 [(.ifCond .ne 5, 0, 0, 0, 0)] = true := by decide +kernel
theorem ck_M_cell_24 : ia_cks 12 7 false prog_14_method_37_code 24 [(.iconst 0, 0, 0, 0, 0), (.iload_n 1, 0, 0, 0, 0)] = true := by decide +kernel
theorem ck_M_cell_29 : ia_cks 12 7 false prog_14_method_37_code 29 [(.istore 4, 0, 0, 0, 0), (.iload_n 3, 0, 0, 0, 0), (.iconst 0, 0, 0, 0, 0), (.iconst 3, 0, 0, 0, 0)] = true := by decide +kernel
theorem ck_M_cell_37 : ia_cks 12 7 false prog_14_method_37_code 37 [(.ifCond .eq 21, 0, 0, 0, 0)] = true := by decide +kernel
theorem ck_M_cell_58 : ia_cks 12 7 false prog_14_method_37_code 58 [(.iload_n 3, 0, 0, 0, 0), (.iconst 4, 0, 0, 0, 0), (.if_icmp .eq 5, 0, 0, 0, 0)] = true := by decide +kernel
theorem ck_M_cell_65 : ia_cks 12 7 false prog_14_method_37_code 65 [(.iconst 0, 0, 0, 0, 0), (.istore 5, 0, 0, 0, 0), (.iconst 0, 0, 0, 0, 0), (.istore 6, 0, 0, 0, 0)] = true := by decide +kernel
theorem ck_M_cell_71 : ia_cks 12 7 false prog_14_method_37_code 71 [(.iload 6, 0, 0, 0, 0), (.iconst 4, 0, 0, 0, 0), (.if_icmp .ge 43, 0, 0, 0, 0)] = true := by decide +kernel
theorem ck_M_cell_77 : ia_cks 12 7 false prog_14_method_37_code 77 [(.iload 5, 0, 0, 0, 0), (.aload_n 0, 0, 0, 0, 0), (.iload 4, 0, 0, 0, 0), (.iload_n 2, 0, 0, 0, 0), (.iload 6, 0, 0, 0, 0)] = true := by decide +kernel
theorem ck_M_cell_88 : ia_cks 12 7 false prog_14_method_37_code 88 [(.ifCond .lt 19, 0, 0, 0, 0)] = true := by decide +kernel
theorem ck_M_cell_107 : ia_cks 12 7 false prog_14_method_37_code 107 [(.iconst 0, 0, 0, 0, 0)] = true := by decide +kernel
theorem ck_M_cell_108 : ia_cks 12 7 false prog_14_method_37_code 108 [(.iadd, 0, 0, 0, 0), (.istore 5, 0, 0, 0, 0), (.iinc 6 1, 0, 0, 0, 0), (.goto (-43), 0, 0, 0, 0)] = true := by decide +kernel
theorem ck_M_cell_91 : ia_cks 12 7 false prog_14_method_37_code 91 [(.aload_n 0, 0, 0, 0, 0), (.iload 4, 0, 0, 0, 0), (.iload_n 2, 0, 0, 0, 0), (.iload 6, 0, 0, 0, 0)] = true := by decide +kernel
theorem ck_M_cell_100 : ia_cks 12 7 false prog_14_method_37_code 100 [(.ifCond .eq 7, 0, 0, 0, 0)] = true := by decide +kernel
theorem ck_M_cell_103 : ia_cks 12 7 false prog_14_method_37_code 103 [(.iconst 1, 0, 0, 0, 0), (.goto 4, 0, 0, 0, 0)] = true := by decide +kernel
theorem ck_M_cell_117 : ia_cks 12 7 false prog_14_method_37_code 117 [(.iload 5, 0, 0, 0, 0)] = true := by decide +kernel
theorem ck_M_cell_63 : ia_cks 12 7 false prog_14_method_37_code 63 [(.iconst (-1), 0, 0, 0, 0)] = true := by decide +kernel
theorem ck_M_cell_40 : ia_cks 12 7 false prog_14_method_37_code 40 [(.aload_n 0, 0, 0, 0, 0), (.getfield 7, 12, 0, 3, 1), (.iload 4, 0, 0, 0, 0), (.bipush 8, 0, 0, 0, 0), (.iadd, 0, 0, 0, 0), (.bipush 36, 0, 0, 0, 0), (.iload_n 3, 0, 0, 0, 0), (.imul, 0, 0, 0, 0), (.iadd, 0, 0, 0, 0), (.iload_n 2, 0, 0, 0, 0), (.iadd, 0, 0, 0, 0), (.iaload, 0, 0, 0, 0)] = true := by decide +kernel
theorem dc_M_cell_3 : decode prog_14_method_37_code 3 = .ok (.invokevirtual 163, 3) := by decide +kernel
theorem dc_M_cell_23 : decode prog_14_method_37_code 23 = .ok (.ireturn, 1) := by decide +kernel
theorem dc_M_cell_12 : decode prog_14_method_37_code 12 = .ok (.invokestatic 183, 3) := by decide +kernel
theorem dc_M_cell_16 : decode prog_14_method_37_code 16 = .ok (.invokevirtual 192, 3) := by decide +kernel
theorem dc_M_cell_26 : decode prog_14_method_37_code 26 = .ok (.invokestatic 183, 3) := by decide +kernel
theorem dc_M_cell_34 : decode prog_14_method_37_code 34 = .ok (.invokestatic 116, 3) := by decide +kernel
theorem dc_M_cell_85 : decode prog_14_method_37_code 85 = .ok (.invokevirtual 186, 3) := by decide +kernel
theorem dc_M_cell_97 : decode prog_14_method_37_code 97 = .ok (.invokevirtual 189, 3) := by decide +kernel
theorem dc_M_cell_119 : decode prog_14_method_37_code 119 = .ok (.ireturn, 1) := by decide +kernel
theorem dc_M_cell_64 : decode prog_14_method_37_code 64 = .ok (.ireturn, 1) := by decide +kernel
theorem dc_M_cell_57 : decode prog_14_method_37_code 57 = .ok (.ireturn, 1) := by decide +kernel
def j_M_cell_108 (x1 : Int32) (x2 : Int32) (x3 : Int32) (h : ia_H) (kr : Int32 → Int32 → Int32 → Option Int32) (k117 : Int32 → Option Int32) (x4 : Int32) (x6 : Int32) (s0 : Int32) (s1 : Int32) : Option Int32 := kr x4 (s0 + s1) (x6 + 1)
theorem tj_M_cell_108 {w : ia_O0} {d N1 W1 : Nat} {K : ia_K} (hK : ia_isK (d + 2) mm_M_cell N1 W1 K) {x1 : Int32} {x2 : Int32} {x3 : Int32} {h : ia_H} (hg : gd_ w h) {r : Int32} (hret : ∀ (pc : Nat) (lv : ia_L), ia_ret mm_M_cell pc (some (.inl r)) → K pc lv ((some (.inl r)) : Option ia_V).toList h) {kr : Int32 → Int32 → Int32 → Option Int32} {k117 : Int32 → Option Int32} (hkr : ∀ (x4 : Int32) (x5 : Int32) (x6 : Int32), kr x4 x5 x6 = some r → K 71 [some (.inr (.inr 417)), none, some (.inl x2), none, some (.inl x4), some (.inl x5), some (.inl x6)] [] h) (hk117 : ∀ (x5 : Int32), k117 x5 = some r → K 117 [none, none, none, none, none, some (.inl x5), none] [] h) : ∀ (x4 : Int32) (x6 : Int32) (s0 : Int32) (s1 : Int32), j_M_cell_108 x1 x2 x3 h kr k117 x4 x6 s0 s1 = some r → K 108 [some (.inr (.inr 417)), none, some (.inl x2), none, some (.inl x4), none, some (.inl x6)] [.inl s1, .inl s0] h := by
  intro x4 x6 s0 s1 hm
  unfold j_M_cell_108 at hm
  refine ia_go hK ck_M_cell_108 ?_
  show K 71 [some (.inr (.inr 417)), none, some (.inl x2), none, some (.inl x4), some (.inl (s0 + s1)), some (.inl (x6 + 1))] [] h
  exact hkr x4 (s0 + s1) (x6 + 1) hm
def l_M_cell_71 (x1 : Int32) (x2 : Int32) (x3 : Int32) (h : ia_H) (k117 : Int32 → Option Int32) (n : Nat) (x4 : Int32) (x5 : Int32) (x6 : Int32) : Option Int32 := match n with
  | 0 => none
  | n + 1 => if 4 ≤ x6 then (k117 x5) else ((f_M_beside x4 x2 x6 h).bind fun v6 => (if v6 < 0 then (j_M_cell_108 x1 x2 x3 h (l_M_cell_71 x1 x2 x3 h k117 n) k117 x4 x6 x5 0) else ((f_M_isCracked x4 x2 x6 h).bind fun v7 => (if v7 = 0 then (j_M_cell_108 x1 x2 x3 h (l_M_cell_71 x1 x2 x3 h k117 n) k117 x4 x6 x5 0) else (j_M_cell_108 x1 x2 x3 h (l_M_cell_71 x1 x2 x3 h k117 n) k117 x4 x6 x5 1)))))
theorem tl_M_cell_71 {w : ia_O0} {d N1 W1 : Nat} {K : ia_K} (hK : ia_isK (d + 2) mm_M_cell N1 W1 K) {x1 : Int32} {x2 : Int32} {x3 : Int32} {h : ia_H} (hg : gd_ w h) {r : Int32} (hret : ∀ (pc : Nat) (lv : ia_L), ia_ret mm_M_cell pc (some (.inl r)) → K pc lv ((some (.inl r)) : Option ia_V).toList h) {k117 : Int32 → Option Int32} (hk117 : ∀ (x5 : Int32), k117 x5 = some r → K 117 [none, none, none, none, none, some (.inl x5), none] [] h) : ∀ (n : Nat) (x4 : Int32) (x5 : Int32) (x6 : Int32), l_M_cell_71 x1 x2 x3 h k117 n x4 x5 x6 = some r → K 71 [some (.inr (.inr 417)), none, some (.inl x2), none, some (.inl x4), some (.inl x5), some (.inl x6)] [] h := by
  intro n
  induction n with
  | zero =>
    intro x4 x5 x6 hm
    cases (show (none : Option Int32) = some _ from hm)
  | succ n ih =>
    intro x4 x5 x6 hm
    rw [l_M_cell_71] at hm
    refine ia_go hK ck_M_cell_71 ⟨fun c => ?_, fun c => ?_⟩
    · replace hm := ia_ifp hm c
      show K 117 [some (.inr (.inr 417)), none, some (.inl x2), none, some (.inl x4), some (.inl x5), some (.inl x6)] [] h
      refine ia_fg hK (lv' := [none, none, none, none, none, some (.inl x5), none]) ⟨rfl, trivial⟩ ?_
      exact hk117 x5 hm
    · replace hm := ia_ifn hm c
      show K 77 [some (.inr (.inr 417)), none, some (.inl x2), none, some (.inl x4), some (.inl x5), some (.inl x6)] [] h
      refine ia_go hK ck_M_cell_77 ?_
      show K 85 [some (.inr (.inr 417)), none, some (.inl x2), none, some (.inl x4), some (.inl x5), some (.inl x6)] [.inl x6, .inl x2, .inl x4, .inr (.inr 417), .inl x5] h
      obtain ⟨v6, hv6, hm⟩ := ia_bnd hm
      have ev6 := t_M_beside (d + 1) hg hv6
      refine ia_cV hK mk_M_beside lk_12_186 dc_M_cell_85 417 [.inl x4, .inl x2, .inl x6] [.inl x5] rfl rfl (Nat.le_of_ble_eq_true rfl) (by decide) rfl (gk_12 hg pk_417) ev6 ⟨rfl, rfl⟩ ?_
      show K 88 [some (.inr (.inr 417)), none, some (.inl x2), none, some (.inl x4), some (.inl x5), some (.inl x6)] [.inl v6, .inl x5] h
      refine ia_go hK ck_M_cell_88 ⟨fun c => ?_, fun c => ?_⟩
      · replace hm := ia_ifp hm c
        show K 107 [some (.inr (.inr 417)), none, some (.inl x2), none, some (.inl x4), some (.inl x5), some (.inl x6)] [.inl x5] h
        refine ia_go hK ck_M_cell_107 ?_
        show K 108 [some (.inr (.inr 417)), none, some (.inl x2), none, some (.inl x4), some (.inl x5), some (.inl x6)] [.inl 0, .inl x5] h
        refine ia_fg hK (lv' := [some (.inr (.inr 417)), none, some (.inl x2), none, some (.inl x4), none, some (.inl x6)]) ⟨rfl, rfl, rfl, rfl, trivial⟩ ?_
        exact tj_M_cell_108 hK hg hret ih hk117 x4 x6 x5 0 hm
      · replace hm := ia_ifn hm c
        show K 91 [some (.inr (.inr 417)), none, some (.inl x2), none, some (.inl x4), some (.inl x5), some (.inl x6)] [.inl x5] h
        refine ia_go hK ck_M_cell_91 ?_
        show K 97 [some (.inr (.inr 417)), none, some (.inl x2), none, some (.inl x4), some (.inl x5), some (.inl x6)] [.inl x6, .inl x2, .inl x4, .inr (.inr 417), .inl x5] h
        obtain ⟨v7, hv7, hm⟩ := ia_bnd hm
        have ev7 := t_M_isCracked (d + 0) hg hv7
        refine ia_cV hK mk_M_isCracked lk_12_189 dc_M_cell_97 417 [.inl x4, .inl x2, .inl x6] [.inl x5] rfl rfl (Nat.le_of_ble_eq_true rfl) (by decide) rfl (gk_12 hg pk_417) ev7 ⟨rfl, rfl⟩ ?_
        show K 100 [some (.inr (.inr 417)), none, some (.inl x2), none, some (.inl x4), some (.inl x5), some (.inl x6)] [.inl v7, .inl x5] h
        refine ia_go hK ck_M_cell_100 ⟨fun c => ?_, fun c => ?_⟩
        · replace hm := ia_ifp hm c
          show K 107 [some (.inr (.inr 417)), none, some (.inl x2), none, some (.inl x4), some (.inl x5), some (.inl x6)] [.inl x5] h
          refine ia_go hK ck_M_cell_107 ?_
          show K 108 [some (.inr (.inr 417)), none, some (.inl x2), none, some (.inl x4), some (.inl x5), some (.inl x6)] [.inl 0, .inl x5] h
          refine ia_fg hK (lv' := [some (.inr (.inr 417)), none, some (.inl x2), none, some (.inl x4), none, some (.inl x6)]) ⟨rfl, rfl, rfl, rfl, trivial⟩ ?_
          exact tj_M_cell_108 hK hg hret ih hk117 x4 x6 x5 0 hm
        · replace hm := ia_ifn hm c
          show K 103 [some (.inr (.inr 417)), none, some (.inl x2), none, some (.inl x4), some (.inl x5), some (.inl x6)] [.inl x5] h
          refine ia_go hK ck_M_cell_103 ?_
          show K 108 [some (.inr (.inr 417)), none, some (.inl x2), none, some (.inl x4), some (.inl x5), some (.inl x6)] [.inl 1, .inl x5] h
          refine ia_fg hK (lv' := [some (.inr (.inr 417)), none, some (.inl x2), none, some (.inl x4), none, some (.inl x6)]) ⟨rfl, rfl, rfl, rfl, trivial⟩ ?_
          exact tj_M_cell_108 hK hg hret ih hk117 x4 x6 x5 1 hm
def f_M_cell (x1 : Int32) (x2 : Int32) (x3 : Int32) (h : ia_H) : Option Int32 := (f_M_isOf 0 x1 h).bind fun v1 => (if v1 = 0 then (some (-1)) else ((f_M_placeOf 0 x1 h).bind fun v2 => ((f_M_isCell v2 x2 h).bind fun v3 => (if v3 = 0 then (some (-1)) else ((f_M_placeOf 0 x1 h).bind fun v4 => ((f_M_isIn x3 0 3 h).bind fun v5 => (if v5 = 0 then (if x3 = 4 then (l_M_cell_71 x1 x2 x3 h (fun x5 => some x5) fu_ v4 0 0) else (some (-1))) else (ia_gd (ia_ib (((v4 + 8) + (36 * x3)) + x2) 6528) (some (ia_i h 418 ((((v4 + 8) + (36 * x3)) + x2).toNatClampNeg)))))))))))
theorem t_M_cell {w : ia_O0} (d : Nat) {x1 : Int32} {x2 : Int32} {x3 : Int32} {h : ia_H} (hg : gd_ w h) {r : Int32} (hm : f_M_cell x1 x2 x3 h = some r) : ia_Ev (d + 2) mm_M_cell [.inr (.inr 417), .inl x1, .inl x2, .inl x3] h (some (.inl r)) h := by
  refine ia_Ev_intro ok_M_cell (Nat.le_refl _) (Nat.le_refl _) (Nat.le_of_ble_eq_true rfl) (fun K hK hret => ?_)
  show K 0 [some (.inr (.inr 417)), some (.inl x1), some (.inl x2), some (.inl x3), none, none, none] [] h
  unfold f_M_cell at hm
  refine ia_go hK ck_M_cell_0 ?_
  show K 3 [some (.inr (.inr 417)), some (.inl x1), some (.inl x2), some (.inl x3), none, none, none] [.inl x1, .inl 0, .inr (.inr 417)] h
  obtain ⟨v1, hv1, hm⟩ := ia_bnd hm
  have ev1 := t_M_isOf (d + 0) hg hv1
  refine ia_cV hK mk_M_isOf lk_12_163 dc_M_cell_3 417 [.inl 0, .inl x1] [] rfl rfl (Nat.le_of_ble_eq_true rfl) (by decide) rfl (gk_12 hg pk_417) ev1 ⟨rfl, rfl⟩ ?_
  show K 6 [some (.inr (.inr 417)), some (.inl x1), some (.inl x2), some (.inl x3), none, none, none] [.inl v1] h
  refine ia_go hK ck_M_cell_6 ⟨fun c => ?_, fun c => ?_⟩
  · replace hm := ia_ifp hm c
    show K 22 [some (.inr (.inr 417)), some (.inl x1), some (.inl x2), some (.inl x3), none, none, none] [] h
    refine ia_go hK ck_M_cell_22 ?_
    show K 23 [some (.inr (.inr 417)), some (.inl x1), some (.inl x2), some (.inl x3), none, none, none] [.inl (-1)] h
    obtain rfl := Option.some.inj hm
    exact hret 23 _ dc_M_cell_23
  · replace hm := ia_ifn hm c
    show K 9 [some (.inr (.inr 417)), some (.inl x1), some (.inl x2), some (.inl x3), none, none, none] [] h
    refine ia_go hK ck_M_cell_9 ?_
    show K 12 [some (.inr (.inr 417)), some (.inl x1), some (.inl x2), some (.inl x3), none, none, none] [.inl x1, .inl 0, .inr (.inr 417)] h
    obtain ⟨v2, hv2, hm⟩ := ia_bnd hm
    have ev2 := t_M_placeOf (d + 1) hg hv2
    refine ia_cS hK mk_M_placeOf lk_12_183 dc_M_cell_12 [.inl 0, .inl x1] [.inr (.inr 417)] rfl rfl (Nat.le_of_ble_eq_true rfl) ev2 ⟨rfl, rfl⟩ ?_
    show K 15 [some (.inr (.inr 417)), some (.inl x1), some (.inl x2), some (.inl x3), none, none, none] [.inl v2, .inr (.inr 417)] h
    refine ia_go hK ck_M_cell_15 ?_
    show K 16 [some (.inr (.inr 417)), some (.inl x1), some (.inl x2), some (.inl x3), none, none, none] [.inl x2, .inl v2, .inr (.inr 417)] h
    obtain ⟨v3, hv3, hm⟩ := ia_bnd hm
    have ev3 := t_M_isCell (d + 0) hg hv3
    refine ia_cV hK mk_M_isCell lk_12_192 dc_M_cell_16 417 [.inl v2, .inl x2] [] rfl rfl (Nat.le_of_ble_eq_true rfl) (by decide) rfl (gk_12 hg pk_417) ev3 ⟨rfl, rfl⟩ ?_
    show K 19 [some (.inr (.inr 417)), some (.inl x1), some (.inl x2), some (.inl x3), none, none, none] [.inl v3] h
    refine ia_go hK ck_M_cell_19 ⟨fun c => ?_, fun c => ?_⟩
    · replace hm := ia_ifn hm c
      show K 24 [some (.inr (.inr 417)), some (.inl x1), some (.inl x2), some (.inl x3), none, none, none] [] h
      refine ia_go hK ck_M_cell_24 ?_
      show K 26 [some (.inr (.inr 417)), some (.inl x1), some (.inl x2), some (.inl x3), none, none, none] [.inl x1, .inl 0] h
      obtain ⟨v4, hv4, hm⟩ := ia_bnd hm
      have ev4 := t_M_placeOf (d + 1) hg hv4
      refine ia_cS hK mk_M_placeOf lk_12_183 dc_M_cell_26 [.inl 0, .inl x1] [] rfl rfl (Nat.le_of_ble_eq_true rfl) ev4 ⟨rfl, rfl⟩ ?_
      show K 29 [some (.inr (.inr 417)), some (.inl x1), some (.inl x2), some (.inl x3), none, none, none] [.inl v4] h
      refine ia_go hK ck_M_cell_29 ?_
      show K 34 [some (.inr (.inr 417)), some (.inl x1), some (.inl x2), some (.inl x3), some (.inl v4), none, none] [.inl 3, .inl 0, .inl x3] h
      obtain ⟨v5, hv5, hm⟩ := ia_bnd hm
      have ev5 := t_M_isIn (d + 1) hg hv5
      refine ia_cS hK mk_M_isIn lk_12_116 dc_M_cell_34 [.inl x3, .inl 0, .inl 3] [] rfl rfl (Nat.le_of_ble_eq_true rfl) ev5 ⟨rfl, rfl⟩ ?_
      show K 37 [some (.inr (.inr 417)), some (.inl x1), some (.inl x2), some (.inl x3), some (.inl v4), none, none] [.inl v5] h
      refine ia_go hK ck_M_cell_37 ⟨fun c => ?_, fun c => ?_⟩
      · replace hm := ia_ifp hm c
        show K 58 [some (.inr (.inr 417)), some (.inl x1), some (.inl x2), some (.inl x3), some (.inl v4), none, none] [] h
        refine ia_go hK ck_M_cell_58 ⟨fun c => ?_, fun c => ?_⟩
        · replace hm := ia_ifp hm c
          show K 65 [some (.inr (.inr 417)), some (.inl x1), some (.inl x2), some (.inl x3), some (.inl v4), none, none] [] h
          refine ia_go hK ck_M_cell_65 ?_
          show K 71 [some (.inr (.inr 417)), some (.inl x1), some (.inl x2), some (.inl x3), some (.inl v4), some (.inl 0), some (.inl 0)] [] h
          refine ia_fg hK (lv' := [some (.inr (.inr 417)), none, some (.inl x2), none, some (.inl v4), some (.inl 0), some (.inl 0)]) ⟨rfl, rfl, rfl, rfl, rfl, trivial⟩ ?_
          refine tl_M_cell_71 hK hg hret ?_ fu_ v4 0 0 hm
          · intro x5 hm
            refine ia_go hK ck_M_cell_117 ?_
            show K 119 [none, none, none, none, none, some (.inl x5), none] [.inl x5] h
            obtain rfl := Option.some.inj hm
            exact hret 119 _ dc_M_cell_119
        · replace hm := ia_ifn hm c
          show K 63 [some (.inr (.inr 417)), some (.inl x1), some (.inl x2), some (.inl x3), some (.inl v4), none, none] [] h
          refine ia_go hK ck_M_cell_63 ?_
          show K 64 [some (.inr (.inr 417)), some (.inl x1), some (.inl x2), some (.inl x3), some (.inl v4), none, none] [.inl (-1)] h
          obtain rfl := Option.some.inj hm
          exact hret 64 _ dc_M_cell_64
      · replace hm := ia_ifn hm c
        show K 40 [some (.inr (.inr 417)), some (.inl x1), some (.inl x2), some (.inl x3), some (.inl v4), none, none] [] h
        obtain ⟨c8, hm⟩ := ia_gd_some hm
        refine ia_go hK ck_M_cell_40 ⟨gk_12 hg pk_417, gr_12_0 hg pk_417, ga_i100 hg (ka_12_0 pk_417) c8, ?_⟩
        show K 57 [some (.inr (.inr 417)), some (.inl x1), some (.inl x2), some (.inl x3), some (.inl v4), none, none] [.inl (ia_i h 418 ((((v4 + 8) + (36 * x3)) + x2).toNatClampNeg))] h
        obtain rfl := Option.some.inj hm
        exact hret 57 _ dc_M_cell_57
    · replace hm := ia_ifp hm c
      show K 22 [some (.inr (.inr 417)), some (.inl x1), some (.inl x2), some (.inl x3), none, none, none] [] h
      refine ia_go hK ck_M_cell_22 ?_
      show K 23 [some (.inr (.inr 417)), some (.inl x1), some (.inl x2), some (.inl x3), none, none, none] [.inl (-1)] h
      obtain rfl := Option.some.inj hm
      exact hret 23 _ dc_M_cell_23
def mm_M_isShop : ia_M := (⟨"IceStreetModel", "isShop", "(II)Z"⟩, prog_14_method_39_code, 3, (some .boolean), 12, false)
theorem ok_M_isShop : ia_mok mm_M_isShop := ⟨by decide +kernel, by decide +kernel, by decide +kernel, by decide +kernel⟩
theorem mk_M_isShop : ia_mkn mm_M_isShop 1 2 := ⟨ia_tb_in (List.mem_of_getElem? (i := 1863) (by decide +kernel)) rfl, ia_tb_in (List.mem_of_getElem? (i := 146) (by decide +kernel)) rfl, by decide +kernel, by decide +kernel, ⟨ia_tb_in (List.mem_of_getElem? (i := 1862) (by decide +kernel)) rfl, ia_tb_in (List.mem_of_getElem? (i := 73) (by decide +kernel)) rfl⟩⟩
theorem ck_M_isShop_0 : ia_cks 12 3 false prog_14_method_39_code 0 [(.iload_n 2, 0, 0, 0, 0), (.iconst 0, 0, 0, 0, 0), (.aload_n 0, 0, 0, 0, 0), (.getfield 7, 12, 0, 3, 1), (.iload_n 1, 0, 0, 0, 0), (.iconst 4, 0, 0, 0, 0), (.iadd, 0, 0, 0, 0), (.iaload, 0, 0, 0, 0), (.iconst 1, 0, 0, 0, 0), (.isub, 0, 0, 0, 0)] = true := by decide +kernel
theorem dc_M_isShop_12 : decode prog_14_method_39_code 12 = .ok (.invokestatic 116, 3) := by decide +kernel
theorem dc_M_isShop_15 : decode prog_14_method_39_code 15 = .ok (.ireturn, 1) := by decide +kernel
def f_M_isShop (x1 : Int32) (x2 : Int32) (h : ia_H) : Option Int32 := ia_gd (ia_ib (x1 + 4) 6528) ((f_M_isIn x2 0 ((ia_i h 418 ((x1 + 4).toNatClampNeg)) - 1) h).bind fun v2 => (ia_gd (ia_z1 v2) (some v2)))
theorem t_M_isShop {w : ia_O0} (d : Nat) {x1 : Int32} {x2 : Int32} {h : ia_H} (hg : gd_ w h) {r : Int32} (hm : f_M_isShop x1 x2 h = some r) : ia_Ev (d + 1) mm_M_isShop [.inr (.inr 417), .inl x1, .inl x2] h (some (.inl r)) h := by
  refine ia_Ev_intro ok_M_isShop (Nat.le_refl _) (Nat.le_refl _) (Nat.le_of_ble_eq_true rfl) (fun K hK hret => ?_)
  show K 0 [some (.inr (.inr 417)), some (.inl x1), some (.inl x2)] [] h
  unfold f_M_isShop at hm
  obtain ⟨c1, hm⟩ := ia_gd_some hm
  refine ia_go hK ck_M_isShop_0 ⟨gk_12 hg pk_417, gr_12_0 hg pk_417, ga_i100 hg (ka_12_0 pk_417) c1, ?_⟩
  show K 12 [some (.inr (.inr 417)), some (.inl x1), some (.inl x2)] [.inl ((ia_i h 418 ((x1 + 4).toNatClampNeg)) - 1), .inl 0, .inl x2] h
  obtain ⟨v2, hv2, hm⟩ := ia_bnd hm
  have ev2 := t_M_isIn (d + 0) hg hv2
  refine ia_cS hK mk_M_isIn lk_12_116 dc_M_isShop_12 [.inl x2, .inl 0, .inl ((ia_i h 418 ((x1 + 4).toNatClampNeg)) - 1)] [] rfl rfl (Nat.le_of_ble_eq_true rfl) ev2 ⟨rfl, rfl⟩ ?_
  show K 15 [some (.inr (.inr 417)), some (.inl x1), some (.inl x2)] [.inl v2] h
  obtain ⟨c3, hm⟩ := ia_gd_some hm
  obtain rfl := Option.some.inj hm
  exact hret 15 _ ⟨ia_z1_spec c3, dc_M_isShop_15⟩
def mm_M_shopOf : ia_M := (⟨"IceStreetModel", "shopOf", "(III)I"⟩, prog_14_method_38_code, 4, (some .int), 12, false)
theorem ok_M_shopOf : ia_mok mm_M_shopOf := ⟨by decide +kernel, by decide +kernel, by decide +kernel, by decide +kernel⟩
theorem mk_M_shopOf : ia_mkn mm_M_shopOf 1 3 := ⟨ia_tb_in (List.mem_of_getElem? (i := 1867) (by decide +kernel)) rfl, ia_tb_in (List.mem_of_getElem? (i := 146) (by decide +kernel)) rfl, by decide +kernel, by decide +kernel, ⟨ia_tb_in (List.mem_of_getElem? (i := 1866) (by decide +kernel)) rfl, ia_tb_in (List.mem_of_getElem? (i := 74) (by decide +kernel)) rfl⟩⟩
theorem ck_M_shopOf_0 : ia_cks 12 4 false prog_14_method_38_code 0 [(.aload_n 0, 0, 0, 0, 0), (.getfield 7, 12, 0, 3, 1), (.iload_n 1, 0, 0, 0, 0), (.sipush 236, 0, 0, 0, 0), (.iadd, 0, 0, 0, 0), (.iconst 4, 0, 0, 0, 0), (.iload_n 2, 0, 0, 0, 0), (.imul, 0, 0, 0, 0), (.iadd, 0, 0, 0, 0), (.iload_n 3, 0, 0, 0, 0), (.iadd, 0, 0, 0, 0), (.iaload, 0, 0, 0, 0)] = true := by decide +kernel
theorem dc_M_shopOf_16 : decode prog_14_method_38_code 16 = .ok (.ireturn, 1) := by decide +kernel
def f_M_shopOf (x1 : Int32) (x2 : Int32) (x3 : Int32) (h : ia_H) : Option Int32 := ia_gd (ia_ib (((x1 + 236) + (4 * x2)) + x3) 6528) (some (ia_i h 418 ((((x1 + 236) + (4 * x2)) + x3).toNatClampNeg)))
theorem t_M_shopOf {w : ia_O0} (d : Nat) {x1 : Int32} {x2 : Int32} {x3 : Int32} {h : ia_H} (hg : gd_ w h) {r : Int32} (hm : f_M_shopOf x1 x2 x3 h = some r) : ia_Ev (d + 0) mm_M_shopOf [.inr (.inr 417), .inl x1, .inl x2, .inl x3] h (some (.inl r)) h := by
  refine ia_Ev_intro ok_M_shopOf (Nat.le_refl _) (Nat.le_refl _) (Nat.le_of_ble_eq_true rfl) (fun K hK hret => ?_)
  show K 0 [some (.inr (.inr 417)), some (.inl x1), some (.inl x2), some (.inl x3)] [] h
  unfold f_M_shopOf at hm
  obtain ⟨c1, hm⟩ := ia_gd_some hm
  refine ia_go hK ck_M_shopOf_0 ⟨gk_12 hg pk_417, gr_12_0 hg pk_417, ga_i100 hg (ka_12_0 pk_417) c1, ?_⟩
  show K 16 [some (.inr (.inr 417)), some (.inl x1), some (.inl x2), some (.inl x3)] [.inl (ia_i h 418 ((((x1 + 236) + (4 * x2)) + x3).toNatClampNeg))] h
  obtain rfl := Option.some.inj hm
  exact hret 16 _ dc_M_shopOf_16
def mm_M_shop : ia_M := (⟨"IceStreetModel", "shop", "(III)I"⟩, prog_14_method_40_code, 4, (some .int), 12, false)
theorem ok_M_shop : ia_mok mm_M_shop := ⟨by decide +kernel, by decide +kernel, by decide +kernel, by decide +kernel⟩
theorem mk_M_shop : ia_mkn mm_M_shop 1 3 := ⟨ia_tb_in (List.mem_of_getElem? (i := 1859) (by decide +kernel)) rfl, ia_tb_in (List.mem_of_getElem? (i := 146) (by decide +kernel)) rfl, by decide +kernel, by decide +kernel, ⟨ia_tb_in (List.mem_of_getElem? (i := 1857) (by decide +kernel)) rfl, ia_tb_in (List.mem_of_getElem? (i := 1858) (by decide +kernel)) rfl⟩⟩
theorem ck_M_shop_0 : ia_cks 12 4 false prog_14_method_40_code 0 [(.aload_n 0, 0, 0, 0, 0), (.iconst 0, 0, 0, 0, 0), (.iload_n 1, 0, 0, 0, 0)] = true := by decide +kernel
theorem ck_M_shop_6 : ia_cks 12 4 false prog_14_method_40_code 6 [(.ifCond .eq 39, 0, 0, 0, 0)] = true := by decide +kernel
theorem ck_M_shop_45 : ia_cks 12 4 false prog_14_method_40_code 45 [(.iconst (-1), 0, 0, 0, 0)] = true := by decide +kernel
theorem ck_M_shop_9 : ia_cks 12 4 false prog_14_method_40_code 9 [(.aload_n 0, 0, 0, 0, 0), (.iconst 0, 0, 0, 0, 0), (.iload_n 1, 0, 0, 0, 0)] = true := by decide +kernel
theorem ck_M_shop_15 : ia_cks 12 4 false prog_14_method_40_code 15 [(.iload_n 2, 0, 0, 0, 0)] = true := by decide +kernel
theorem ck_M_shop_19 : ia_cks 12 4 false prog_14_method_40_code 19 [(.ifCond .eq 26, 0, 0, 0, 0)] = true := by decide +kernel
theorem ck_M_shop_22 : ia_cks 12 4 false prog_14_method_40_code 22 [(.iload_n 3, 0, 0, 0, 0), (.iconst 0, 0, 0, 0, 0), (.iconst 3, 0, 0, 0, 0)] = true := by decide +kernel
theorem ck_M_shop_28 : ia_cks 12 4 false prog_14_method_40_code 28 [(.ifCond .eq 17, 0, 0, 0, 0)] = true := by decide +kernel
theorem ck_M_shop_31 : ia_cks 12 4 false prog_14_method_40_code 31 [(.aload_n 0, 0, 0, 0, 0), (.iconst 0, 0, 0, 0, 0), (.iload_n 1, 0, 0, 0, 0)] = true := by decide +kernel
theorem ck_M_shop_37 : ia_cks 12 4 false prog_14_method_40_code 37 [(.iload_n 2, 0, 0, 0, 0), (.iload_n 3, 0, 0, 0, 0)] = true := by decide +kernel
theorem ck_M_shop_42 : ia_cks 12 4 false prog_14_method_40_code 42 [(.goto 4, 0, 0, 0, 0)] = true := by decide +kernel
theorem dc_M_shop_3 : decode prog_14_method_40_code 3 = .ok (.invokevirtual 163, 3) := by decide +kernel
theorem dc_M_shop_46 : decode prog_14_method_40_code 46 = .ok (.ireturn, 1) := by decide +kernel
theorem dc_M_shop_12 : decode prog_14_method_40_code 12 = .ok (.invokestatic 183, 3) := by decide +kernel
theorem dc_M_shop_16 : decode prog_14_method_40_code 16 = .ok (.invokevirtual 195, 3) := by decide +kernel
theorem dc_M_shop_25 : decode prog_14_method_40_code 25 = .ok (.invokestatic 116, 3) := by decide +kernel
theorem dc_M_shop_34 : decode prog_14_method_40_code 34 = .ok (.invokestatic 183, 3) := by decide +kernel
theorem dc_M_shop_39 : decode prog_14_method_40_code 39 = .ok (.invokevirtual 198, 3) := by decide +kernel
def f_M_shop (x1 : Int32) (x2 : Int32) (x3 : Int32) (h : ia_H) : Option Int32 := (f_M_isOf 0 x1 h).bind fun v1 => (if v1 = 0 then (some (-1)) else ((f_M_placeOf 0 x1 h).bind fun v2 => ((f_M_isShop v2 x2 h).bind fun v3 => (if v3 = 0 then (some (-1)) else ((f_M_isIn x3 0 3 h).bind fun v4 => (if v4 = 0 then (some (-1)) else ((f_M_placeOf 0 x1 h).bind fun v5 => ((f_M_shopOf v5 x2 x3 h).bind fun v6 => (some v6)))))))))
theorem t_M_shop {w : ia_O0} (d : Nat) {x1 : Int32} {x2 : Int32} {x3 : Int32} {h : ia_H} (hg : gd_ w h) {r : Int32} (hm : f_M_shop x1 x2 x3 h = some r) : ia_Ev (d + 2) mm_M_shop [.inr (.inr 417), .inl x1, .inl x2, .inl x3] h (some (.inl r)) h := by
  refine ia_Ev_intro ok_M_shop (Nat.le_refl _) (Nat.le_refl _) (Nat.le_of_ble_eq_true rfl) (fun K hK hret => ?_)
  show K 0 [some (.inr (.inr 417)), some (.inl x1), some (.inl x2), some (.inl x3)] [] h
  unfold f_M_shop at hm
  refine ia_go hK ck_M_shop_0 ?_
  show K 3 [some (.inr (.inr 417)), some (.inl x1), some (.inl x2), some (.inl x3)] [.inl x1, .inl 0, .inr (.inr 417)] h
  obtain ⟨v1, hv1, hm⟩ := ia_bnd hm
  have ev1 := t_M_isOf (d + 0) hg hv1
  refine ia_cV hK mk_M_isOf lk_12_163 dc_M_shop_3 417 [.inl 0, .inl x1] [] rfl rfl (Nat.le_of_ble_eq_true rfl) (by decide) rfl (gk_12 hg pk_417) ev1 ⟨rfl, rfl⟩ ?_
  show K 6 [some (.inr (.inr 417)), some (.inl x1), some (.inl x2), some (.inl x3)] [.inl v1] h
  refine ia_go hK ck_M_shop_6 ⟨fun c => ?_, fun c => ?_⟩
  · replace hm := ia_ifp hm c
    show K 45 [some (.inr (.inr 417)), some (.inl x1), some (.inl x2), some (.inl x3)] [] h
    refine ia_go hK ck_M_shop_45 ?_
    show K 46 [some (.inr (.inr 417)), some (.inl x1), some (.inl x2), some (.inl x3)] [.inl (-1)] h
    obtain rfl := Option.some.inj hm
    exact hret 46 _ dc_M_shop_46
  · replace hm := ia_ifn hm c
    show K 9 [some (.inr (.inr 417)), some (.inl x1), some (.inl x2), some (.inl x3)] [] h
    refine ia_go hK ck_M_shop_9 ?_
    show K 12 [some (.inr (.inr 417)), some (.inl x1), some (.inl x2), some (.inl x3)] [.inl x1, .inl 0, .inr (.inr 417)] h
    obtain ⟨v2, hv2, hm⟩ := ia_bnd hm
    have ev2 := t_M_placeOf (d + 1) hg hv2
    refine ia_cS hK mk_M_placeOf lk_12_183 dc_M_shop_12 [.inl 0, .inl x1] [.inr (.inr 417)] rfl rfl (Nat.le_of_ble_eq_true rfl) ev2 ⟨rfl, rfl⟩ ?_
    show K 15 [some (.inr (.inr 417)), some (.inl x1), some (.inl x2), some (.inl x3)] [.inl v2, .inr (.inr 417)] h
    refine ia_go hK ck_M_shop_15 ?_
    show K 16 [some (.inr (.inr 417)), some (.inl x1), some (.inl x2), some (.inl x3)] [.inl x2, .inl v2, .inr (.inr 417)] h
    obtain ⟨v3, hv3, hm⟩ := ia_bnd hm
    have ev3 := t_M_isShop (d + 0) hg hv3
    refine ia_cV hK mk_M_isShop lk_12_195 dc_M_shop_16 417 [.inl v2, .inl x2] [] rfl rfl (Nat.le_of_ble_eq_true rfl) (by decide) rfl (gk_12 hg pk_417) ev3 ⟨rfl, rfl⟩ ?_
    show K 19 [some (.inr (.inr 417)), some (.inl x1), some (.inl x2), some (.inl x3)] [.inl v3] h
    refine ia_go hK ck_M_shop_19 ⟨fun c => ?_, fun c => ?_⟩
    · replace hm := ia_ifp hm c
      show K 45 [some (.inr (.inr 417)), some (.inl x1), some (.inl x2), some (.inl x3)] [] h
      refine ia_go hK ck_M_shop_45 ?_
      show K 46 [some (.inr (.inr 417)), some (.inl x1), some (.inl x2), some (.inl x3)] [.inl (-1)] h
      obtain rfl := Option.some.inj hm
      exact hret 46 _ dc_M_shop_46
    · replace hm := ia_ifn hm c
      show K 22 [some (.inr (.inr 417)), some (.inl x1), some (.inl x2), some (.inl x3)] [] h
      refine ia_go hK ck_M_shop_22 ?_
      show K 25 [some (.inr (.inr 417)), some (.inl x1), some (.inl x2), some (.inl x3)] [.inl 3, .inl 0, .inl x3] h
      obtain ⟨v4, hv4, hm⟩ := ia_bnd hm
      have ev4 := t_M_isIn (d + 1) hg hv4
      refine ia_cS hK mk_M_isIn lk_12_116 dc_M_shop_25 [.inl x3, .inl 0, .inl 3] [] rfl rfl (Nat.le_of_ble_eq_true rfl) ev4 ⟨rfl, rfl⟩ ?_
      show K 28 [some (.inr (.inr 417)), some (.inl x1), some (.inl x2), some (.inl x3)] [.inl v4] h
      refine ia_go hK ck_M_shop_28 ⟨fun c => ?_, fun c => ?_⟩
      · replace hm := ia_ifp hm c
        show K 45 [some (.inr (.inr 417)), some (.inl x1), some (.inl x2), some (.inl x3)] [] h
        refine ia_go hK ck_M_shop_45 ?_
        show K 46 [some (.inr (.inr 417)), some (.inl x1), some (.inl x2), some (.inl x3)] [.inl (-1)] h
        obtain rfl := Option.some.inj hm
        exact hret 46 _ dc_M_shop_46
      · replace hm := ia_ifn hm c
        show K 31 [some (.inr (.inr 417)), some (.inl x1), some (.inl x2), some (.inl x3)] [] h
        refine ia_go hK ck_M_shop_31 ?_
        show K 34 [some (.inr (.inr 417)), some (.inl x1), some (.inl x2), some (.inl x3)] [.inl x1, .inl 0, .inr (.inr 417)] h
        obtain ⟨v5, hv5, hm⟩ := ia_bnd hm
        have ev5 := t_M_placeOf (d + 1) hg hv5
        refine ia_cS hK mk_M_placeOf lk_12_183 dc_M_shop_34 [.inl 0, .inl x1] [.inr (.inr 417)] rfl rfl (Nat.le_of_ble_eq_true rfl) ev5 ⟨rfl, rfl⟩ ?_
        show K 37 [some (.inr (.inr 417)), some (.inl x1), some (.inl x2), some (.inl x3)] [.inl v5, .inr (.inr 417)] h
        refine ia_go hK ck_M_shop_37 ?_
        show K 39 [some (.inr (.inr 417)), some (.inl x1), some (.inl x2), some (.inl x3)] [.inl x3, .inl x2, .inl v5, .inr (.inr 417)] h
        obtain ⟨v6, hv6, hm⟩ := ia_bnd hm
        have ev6 := t_M_shopOf (d + 1) hg hv6
        refine ia_cV hK mk_M_shopOf lk_12_198 dc_M_shop_39 417 [.inl v5, .inl x2, .inl x3] [] rfl rfl (Nat.le_of_ble_eq_true rfl) (by decide) rfl (gk_12 hg pk_417) ev6 ⟨rfl, rfl⟩ ?_
        show K 42 [some (.inr (.inr 417)), some (.inl x1), some (.inl x2), some (.inl x3)] [.inl v6] h
        refine ia_go hK ck_M_shop_42 ?_
        show K 46 [some (.inr (.inr 417)), some (.inl x1), some (.inl x2), some (.inl x3)] [.inl v6] h
        obtain rfl := Option.some.inj hm
        exact hret 46 _ dc_M_shop_46
def mm_M_law : ia_M := (⟨"IceStreetModel", "law", "(II)I"⟩, prog_14_method_41_code, 5, (some .int), 12, false)
theorem ok_M_law : ia_mok mm_M_law := ⟨by decide +kernel, by decide +kernel, by decide +kernel, by decide +kernel⟩
theorem mk_M_law : ia_mkn mm_M_law 1 2 := ⟨ia_tb_in (List.mem_of_getElem? (i := 1871) (by decide +kernel)) rfl, ia_tb_in (List.mem_of_getElem? (i := 146) (by decide +kernel)) rfl, by decide +kernel, by decide +kernel, ⟨ia_tb_in (List.mem_of_getElem? (i := 1869) (by decide +kernel)) rfl, ia_tb_in (List.mem_of_getElem? (i := 1870) (by decide +kernel)) rfl⟩⟩
theorem ck_M_law_0 : ia_cks 12 5 false prog_14_method_41_code 0 [(.aload_n 0, 0, 0, 0, 0), (.iconst 1, 0, 0, 0, 0), (.iload_n 1, 0, 0, 0, 0)] = true := by decide +kernel
theorem ck_M_law_6 : ia_cks 12 5 false prog_14_method_41_code 6 [(.ifCond .ne 5, 0, 0, 0, 0)] = true := by decide +kernel
theorem ck_M_law_11 : ia_cks 12 5 false prog_14_method_41_code 11 [(.iconst 1, 0, 0, 0, 0), (.iload_n 1, 0, 0, 0, 0)] = true := by decide +kernel
theorem ck_M_law_16 : ia_cks 12 5 false prog_14_method_41_code 16 [(.istore_n 3, 0, 0, 0, 0), (.aload_n 0, 0, 0, 0, 0), (.getfield 7, 12, 0, 3, 1), (.iload_n 3, 0, 0, 0, 0), (.iconst 4, 0, 0, 0, 0), (.iadd, 0, 0, 0, 0), (.iaload, 0, 0, 0, 0), (.istore 4, 0, 0, 0, 0), (.iload_n 2, 0, 0, 0, 0), (.iconst 0, 0, 0, 0, 0), (.iconst 4, 0, 0, 0, 0)] = true := by decide +kernel
theorem ck_M_law_33 : ia_cks 12 5 false prog_14_method_41_code 33 [(.ifCond .eq 12, 0, 0, 0, 0)] = true := by decide +kernel
theorem ck_M_law_45 : ia_cks 12 5 false prog_14_method_41_code 45 [(.iload_n 2, 0, 0, 0, 0), (.bipush 20, 0, 0, 0, 0), (.bipush 19, 0, 0, 0, 0), (.iload 4, 0, 0, 0, 0), (.iadd, 0, 0, 0, 0)] = true := by decide +kernel
theorem ck_M_law_56 : ia_cks 12 5 false prog_14_method_41_code 56 [(.ifCond .eq 20, 0, 0, 0, 0)] = true := by decide +kernel
theorem ck_M_law_76 : ia_cks 12 5 false prog_14_method_41_code 76 [(.iload_n 2, 0, 0, 0, 0), (.bipush 40, 0, 0, 0, 0), (.bipush 39, 0, 0, 0, 0), (.iload 4, 0, 0, 0, 0), (.iadd, 0, 0, 0, 0)] = true := by decide +kernel
theorem ck_M_law_87 : ia_cks 12 5 false prog_14_method_41_code 87 [(.ifCond .eq 22, 0, 0, 0, 0)] = true := by decide +kernel
theorem ck_M_law_109 : ia_cks 12 5 false prog_14_method_41_code 109 [(.iload_n 2, 0, 0, 0, 0), (.bipush 60, 0, 0, 0, 0), (.bipush 95, 0, 0, 0, 0)] = true := by decide +kernel
theorem ck_M_law_117 : ia_cks 12 5 false prog_14_method_41_code 117 [(.ifCond .eq 20, 0, 0, 0, 0)] = true := by decide +kernel
theorem ck_M_law_137 : ia_cks 12 5 false prog_14_method_41_code 137 [(.iconst (-1), 0, 0, 0, 0)] = true := by decide +kernel
theorem ck_M_law_120 : ia_cks 12 5 false prog_14_method_41_code 120 [(.aload_n 0, 0, 0, 0, 0), (.getfield 7, 12, 0, 3, 1), (.iload_n 3, 0, 0, 0, 0), (.bipush 30, 0, 0, 0, 0), (.iadd, 0, 0, 0, 0), (.iload_n 2, 0, 0, 0, 0), (.iadd, 0, 0, 0, 0), (.bipush 60, 0, 0, 0, 0), (.isub, 0, 0, 0, 0), (.iaload, 0, 0, 0, 0), (.goto 4, 0, 0, 0, 0)] = true := by decide +kernel
theorem ck_M_law_90 : ia_cks 12 5 false prog_14_method_41_code 90 [(.aload_n 0, 0, 0, 0, 0), (.getfield 7, 12, 0, 3, 1), (.iload_n 3, 0, 0, 0, 0), (.bipush 6, 0, 0, 0, 0), (.iadd, 0, 0, 0, 0), (.iconst 2, 0, 0, 0, 0), (.iload_n 2, 0, 0, 0, 0), (.bipush 40, 0, 0, 0, 0), (.isub, 0, 0, 0, 0), (.imul, 0, 0, 0, 0), (.iadd, 0, 0, 0, 0), (.iconst 1, 0, 0, 0, 0), (.iadd, 0, 0, 0, 0), (.iaload, 0, 0, 0, 0)] = true := by decide +kernel
theorem ck_M_law_59 : ia_cks 12 5 false prog_14_method_41_code 59 [(.aload_n 0, 0, 0, 0, 0), (.getfield 7, 12, 0, 3, 1), (.iload_n 3, 0, 0, 0, 0), (.bipush 6, 0, 0, 0, 0), (.iadd, 0, 0, 0, 0), (.iconst 2, 0, 0, 0, 0), (.iload_n 2, 0, 0, 0, 0), (.bipush 20, 0, 0, 0, 0), (.isub, 0, 0, 0, 0), (.imul, 0, 0, 0, 0), (.iadd, 0, 0, 0, 0), (.iaload, 0, 0, 0, 0)] = true := by decide +kernel
theorem ck_M_law_36 : ia_cks 12 5 false prog_14_method_41_code 36 [(.aload_n 0, 0, 0, 0, 0), (.getfield 7, 12, 0, 3, 1), (.iload_n 3, 0, 0, 0, 0), (.iload_n 2, 0, 0, 0, 0), (.iadd, 0, 0, 0, 0), (.iaload, 0, 0, 0, 0)] = true := by decide +kernel
theorem ck_M_law_9 : ia_cks 12 5 false prog_14_method_41_code 9 [(.iconst (-1), 0, 0, 0, 0)] = true := by decide +kernel
theorem dc_M_law_3 : decode prog_14_method_41_code 3 = .ok (.invokevirtual 163, 3) := by decide +kernel
theorem dc_M_law_13 : decode prog_14_method_41_code 13 = .ok (.invokestatic 183, 3) := by decide +kernel
theorem dc_M_law_30 : decode prog_14_method_41_code 30 = .ok (.invokestatic 116, 3) := by decide +kernel
theorem dc_M_law_53 : decode prog_14_method_41_code 53 = .ok (.invokestatic 116, 3) := by decide +kernel
theorem dc_M_law_84 : decode prog_14_method_41_code 84 = .ok (.invokestatic 116, 3) := by decide +kernel
theorem dc_M_law_114 : decode prog_14_method_41_code 114 = .ok (.invokestatic 116, 3) := by decide +kernel
theorem dc_M_law_138 : decode prog_14_method_41_code 138 = .ok (.ireturn, 1) := by decide +kernel
theorem dc_M_law_108 : decode prog_14_method_41_code 108 = .ok (.ireturn, 1) := by decide +kernel
theorem dc_M_law_75 : decode prog_14_method_41_code 75 = .ok (.ireturn, 1) := by decide +kernel
theorem dc_M_law_44 : decode prog_14_method_41_code 44 = .ok (.ireturn, 1) := by decide +kernel
theorem dc_M_law_10 : decode prog_14_method_41_code 10 = .ok (.ireturn, 1) := by decide +kernel
def f_M_law (x1 : Int32) (x2 : Int32) (h : ia_H) : Option Int32 := (f_M_isOf 1 x1 h).bind fun v1 => (if v1 = 0 then (some (-1)) else ((f_M_placeOf 1 x1 h).bind fun v2 => (ia_gd (ia_ib (v2 + 4) 6528) ((f_M_isIn x2 0 4 h).bind fun v4 => (if v4 = 0 then ((f_M_isIn x2 20 (19 + (ia_i h 418 ((v2 + 4).toNatClampNeg))) h).bind fun v5 => (if v5 = 0 then ((f_M_isIn x2 40 (39 + (ia_i h 418 ((v2 + 4).toNatClampNeg))) h).bind fun v6 => (if v6 = 0 then ((f_M_isIn x2 60 95 h).bind fun v7 => (if v7 = 0 then (some (-1)) else (ia_gd (ia_ib (((v2 + 30) + x2) - 60) 6528) (some (ia_i h 418 ((((v2 + 30) + x2) - 60).toNatClampNeg)))))) else (ia_gd (ia_ib (((v2 + 6) + (2 * (x2 - 40))) + 1) 6528) (some (ia_i h 418 ((((v2 + 6) + (2 * (x2 - 40))) + 1).toNatClampNeg)))))) else (ia_gd (ia_ib ((v2 + 6) + (2 * (x2 - 20))) 6528) (some (ia_i h 418 (((v2 + 6) + (2 * (x2 - 20))).toNatClampNeg)))))) else (ia_gd (ia_ib (v2 + x2) 6528) (some (ia_i h 418 ((v2 + x2).toNatClampNeg)))))))))
theorem t_M_law {w : ia_O0} (d : Nat) {x1 : Int32} {x2 : Int32} {h : ia_H} (hg : gd_ w h) {r : Int32} (hm : f_M_law x1 x2 h = some r) : ia_Ev (d + 2) mm_M_law [.inr (.inr 417), .inl x1, .inl x2] h (some (.inl r)) h := by
  refine ia_Ev_intro ok_M_law (Nat.le_refl _) (Nat.le_refl _) (Nat.le_of_ble_eq_true rfl) (fun K hK hret => ?_)
  show K 0 [some (.inr (.inr 417)), some (.inl x1), some (.inl x2), none, none] [] h
  unfold f_M_law at hm
  refine ia_go hK ck_M_law_0 ?_
  show K 3 [some (.inr (.inr 417)), some (.inl x1), some (.inl x2), none, none] [.inl x1, .inl 1, .inr (.inr 417)] h
  obtain ⟨v1, hv1, hm⟩ := ia_bnd hm
  have ev1 := t_M_isOf (d + 0) hg hv1
  refine ia_cV hK mk_M_isOf lk_12_163 dc_M_law_3 417 [.inl 1, .inl x1] [] rfl rfl (Nat.le_of_ble_eq_true rfl) (by decide) rfl (gk_12 hg pk_417) ev1 ⟨rfl, rfl⟩ ?_
  show K 6 [some (.inr (.inr 417)), some (.inl x1), some (.inl x2), none, none] [.inl v1] h
  refine ia_go hK ck_M_law_6 ⟨fun c => ?_, fun c => ?_⟩
  · replace hm := ia_ifn hm c
    show K 11 [some (.inr (.inr 417)), some (.inl x1), some (.inl x2), none, none] [] h
    refine ia_go hK ck_M_law_11 ?_
    show K 13 [some (.inr (.inr 417)), some (.inl x1), some (.inl x2), none, none] [.inl x1, .inl 1] h
    obtain ⟨v2, hv2, hm⟩ := ia_bnd hm
    have ev2 := t_M_placeOf (d + 1) hg hv2
    refine ia_cS hK mk_M_placeOf lk_12_183 dc_M_law_13 [.inl 1, .inl x1] [] rfl rfl (Nat.le_of_ble_eq_true rfl) ev2 ⟨rfl, rfl⟩ ?_
    show K 16 [some (.inr (.inr 417)), some (.inl x1), some (.inl x2), none, none] [.inl v2] h
    obtain ⟨c3, hm⟩ := ia_gd_some hm
    refine ia_go hK ck_M_law_16 ⟨gk_12 hg pk_417, gr_12_0 hg pk_417, ga_i100 hg (ka_12_0 pk_417) c3, ?_⟩
    show K 30 [some (.inr (.inr 417)), some (.inl x1), some (.inl x2), some (.inl v2), some (.inl (ia_i h 418 ((v2 + 4).toNatClampNeg)))] [.inl 4, .inl 0, .inl x2] h
    obtain ⟨v4, hv4, hm⟩ := ia_bnd hm
    have ev4 := t_M_isIn (d + 1) hg hv4
    refine ia_cS hK mk_M_isIn lk_12_116 dc_M_law_30 [.inl x2, .inl 0, .inl 4] [] rfl rfl (Nat.le_of_ble_eq_true rfl) ev4 ⟨rfl, rfl⟩ ?_
    show K 33 [some (.inr (.inr 417)), some (.inl x1), some (.inl x2), some (.inl v2), some (.inl (ia_i h 418 ((v2 + 4).toNatClampNeg)))] [.inl v4] h
    refine ia_go hK ck_M_law_33 ⟨fun c => ?_, fun c => ?_⟩
    · replace hm := ia_ifp hm c
      show K 45 [some (.inr (.inr 417)), some (.inl x1), some (.inl x2), some (.inl v2), some (.inl (ia_i h 418 ((v2 + 4).toNatClampNeg)))] [] h
      refine ia_go hK ck_M_law_45 ?_
      show K 53 [some (.inr (.inr 417)), some (.inl x1), some (.inl x2), some (.inl v2), some (.inl (ia_i h 418 ((v2 + 4).toNatClampNeg)))] [.inl (19 + (ia_i h 418 ((v2 + 4).toNatClampNeg))), .inl 20, .inl x2] h
      obtain ⟨v5, hv5, hm⟩ := ia_bnd hm
      have ev5 := t_M_isIn (d + 1) hg hv5
      refine ia_cS hK mk_M_isIn lk_12_116 dc_M_law_53 [.inl x2, .inl 20, .inl (19 + (ia_i h 418 ((v2 + 4).toNatClampNeg)))] [] rfl rfl (Nat.le_of_ble_eq_true rfl) ev5 ⟨rfl, rfl⟩ ?_
      show K 56 [some (.inr (.inr 417)), some (.inl x1), some (.inl x2), some (.inl v2), some (.inl (ia_i h 418 ((v2 + 4).toNatClampNeg)))] [.inl v5] h
      refine ia_go hK ck_M_law_56 ⟨fun c => ?_, fun c => ?_⟩
      · replace hm := ia_ifp hm c
        show K 76 [some (.inr (.inr 417)), some (.inl x1), some (.inl x2), some (.inl v2), some (.inl (ia_i h 418 ((v2 + 4).toNatClampNeg)))] [] h
        refine ia_go hK ck_M_law_76 ?_
        show K 84 [some (.inr (.inr 417)), some (.inl x1), some (.inl x2), some (.inl v2), some (.inl (ia_i h 418 ((v2 + 4).toNatClampNeg)))] [.inl (39 + (ia_i h 418 ((v2 + 4).toNatClampNeg))), .inl 40, .inl x2] h
        obtain ⟨v6, hv6, hm⟩ := ia_bnd hm
        have ev6 := t_M_isIn (d + 1) hg hv6
        refine ia_cS hK mk_M_isIn lk_12_116 dc_M_law_84 [.inl x2, .inl 40, .inl (39 + (ia_i h 418 ((v2 + 4).toNatClampNeg)))] [] rfl rfl (Nat.le_of_ble_eq_true rfl) ev6 ⟨rfl, rfl⟩ ?_
        show K 87 [some (.inr (.inr 417)), some (.inl x1), some (.inl x2), some (.inl v2), some (.inl (ia_i h 418 ((v2 + 4).toNatClampNeg)))] [.inl v6] h
        refine ia_go hK ck_M_law_87 ⟨fun c => ?_, fun c => ?_⟩
        · replace hm := ia_ifp hm c
          show K 109 [some (.inr (.inr 417)), some (.inl x1), some (.inl x2), some (.inl v2), some (.inl (ia_i h 418 ((v2 + 4).toNatClampNeg)))] [] h
          refine ia_go hK ck_M_law_109 ?_
          show K 114 [some (.inr (.inr 417)), some (.inl x1), some (.inl x2), some (.inl v2), some (.inl (ia_i h 418 ((v2 + 4).toNatClampNeg)))] [.inl 95, .inl 60, .inl x2] h
          obtain ⟨v7, hv7, hm⟩ := ia_bnd hm
          have ev7 := t_M_isIn (d + 1) hg hv7
          refine ia_cS hK mk_M_isIn lk_12_116 dc_M_law_114 [.inl x2, .inl 60, .inl 95] [] rfl rfl (Nat.le_of_ble_eq_true rfl) ev7 ⟨rfl, rfl⟩ ?_
          show K 117 [some (.inr (.inr 417)), some (.inl x1), some (.inl x2), some (.inl v2), some (.inl (ia_i h 418 ((v2 + 4).toNatClampNeg)))] [.inl v7] h
          refine ia_go hK ck_M_law_117 ⟨fun c => ?_, fun c => ?_⟩
          · replace hm := ia_ifp hm c
            show K 137 [some (.inr (.inr 417)), some (.inl x1), some (.inl x2), some (.inl v2), some (.inl (ia_i h 418 ((v2 + 4).toNatClampNeg)))] [] h
            refine ia_go hK ck_M_law_137 ?_
            show K 138 [some (.inr (.inr 417)), some (.inl x1), some (.inl x2), some (.inl v2), some (.inl (ia_i h 418 ((v2 + 4).toNatClampNeg)))] [.inl (-1)] h
            obtain rfl := Option.some.inj hm
            exact hret 138 _ dc_M_law_138
          · replace hm := ia_ifn hm c
            show K 120 [some (.inr (.inr 417)), some (.inl x1), some (.inl x2), some (.inl v2), some (.inl (ia_i h 418 ((v2 + 4).toNatClampNeg)))] [] h
            obtain ⟨c8, hm⟩ := ia_gd_some hm
            refine ia_go hK ck_M_law_120 ⟨gk_12 hg pk_417, gr_12_0 hg pk_417, ga_i100 hg (ka_12_0 pk_417) c8, ?_⟩
            show K 138 [some (.inr (.inr 417)), some (.inl x1), some (.inl x2), some (.inl v2), some (.inl (ia_i h 418 ((v2 + 4).toNatClampNeg)))] [.inl (ia_i h 418 ((((v2 + 30) + x2) - 60).toNatClampNeg))] h
            obtain rfl := Option.some.inj hm
            exact hret 138 _ dc_M_law_138
        · replace hm := ia_ifn hm c
          show K 90 [some (.inr (.inr 417)), some (.inl x1), some (.inl x2), some (.inl v2), some (.inl (ia_i h 418 ((v2 + 4).toNatClampNeg)))] [] h
          obtain ⟨c9, hm⟩ := ia_gd_some hm
          refine ia_go hK ck_M_law_90 ⟨gk_12 hg pk_417, gr_12_0 hg pk_417, ga_i100 hg (ka_12_0 pk_417) c9, ?_⟩
          show K 108 [some (.inr (.inr 417)), some (.inl x1), some (.inl x2), some (.inl v2), some (.inl (ia_i h 418 ((v2 + 4).toNatClampNeg)))] [.inl (ia_i h 418 ((((v2 + 6) + (2 * (x2 - 40))) + 1).toNatClampNeg))] h
          obtain rfl := Option.some.inj hm
          exact hret 108 _ dc_M_law_108
      · replace hm := ia_ifn hm c
        show K 59 [some (.inr (.inr 417)), some (.inl x1), some (.inl x2), some (.inl v2), some (.inl (ia_i h 418 ((v2 + 4).toNatClampNeg)))] [] h
        obtain ⟨c10, hm⟩ := ia_gd_some hm
        refine ia_go hK ck_M_law_59 ⟨gk_12 hg pk_417, gr_12_0 hg pk_417, ga_i100 hg (ka_12_0 pk_417) c10, ?_⟩
        show K 75 [some (.inr (.inr 417)), some (.inl x1), some (.inl x2), some (.inl v2), some (.inl (ia_i h 418 ((v2 + 4).toNatClampNeg)))] [.inl (ia_i h 418 (((v2 + 6) + (2 * (x2 - 20))).toNatClampNeg))] h
        obtain rfl := Option.some.inj hm
        exact hret 75 _ dc_M_law_75
    · replace hm := ia_ifn hm c
      show K 36 [some (.inr (.inr 417)), some (.inl x1), some (.inl x2), some (.inl v2), some (.inl (ia_i h 418 ((v2 + 4).toNatClampNeg)))] [] h
      obtain ⟨c11, hm⟩ := ia_gd_some hm
      refine ia_go hK ck_M_law_36 ⟨gk_12 hg pk_417, gr_12_0 hg pk_417, ga_i100 hg (ka_12_0 pk_417) c11, ?_⟩
      show K 44 [some (.inr (.inr 417)), some (.inl x1), some (.inl x2), some (.inl v2), some (.inl (ia_i h 418 ((v2 + 4).toNatClampNeg)))] [.inl (ia_i h 418 ((v2 + x2).toNatClampNeg))] h
      obtain rfl := Option.some.inj hm
      exact hret 44 _ dc_M_law_44
  · replace hm := ia_ifp hm c
    show K 9 [some (.inr (.inr 417)), some (.inl x1), some (.inl x2), none, none] [] h
    refine ia_go hK ck_M_law_9 ?_
    show K 10 [some (.inr (.inr 417)), some (.inl x1), some (.inl x2), none, none] [.inl (-1)] h
    obtain rfl := Option.some.inj hm
    exact hret 10 _ dc_M_law_10
def mm_M_act : ia_M := (⟨"IceStreetModel", "act", "(III)I"⟩, prog_14_method_42_code, 5, (some .int), 12, false)
theorem ok_M_act : ia_mok mm_M_act := ⟨by decide +kernel, by decide +kernel, by decide +kernel, by decide +kernel⟩
theorem mk_M_act : ia_mkn mm_M_act 1 3 := ⟨ia_tb_in (List.mem_of_getElem? (i := 1875) (by decide +kernel)) rfl, ia_tb_in (List.mem_of_getElem? (i := 146) (by decide +kernel)) rfl, by decide +kernel, by decide +kernel, ⟨ia_tb_in (List.mem_of_getElem? (i := 1873) (by decide +kernel)) rfl, ia_tb_in (List.mem_of_getElem? (i := 1874) (by decide +kernel)) rfl⟩⟩
theorem ck_M_act_0 : ia_cks 12 5 false prog_14_method_42_code 0 [(.aload_n 0, 0, 0, 0, 0), (.iconst 2, 0, 0, 0, 0), (.iload_n 1, 0, 0, 0, 0)] = true := by decide +kernel
theorem ck_M_act_6 : ia_cks 12 5 false prog_14_method_42_code 6 [(.ifCond .ne 6, 0, 0, 0, 0)] = true := by decide +kernel
theorem ck_M_act_12 : ia_cks 12 5 false prog_14_method_42_code 12 [(.iconst 2, 0, 0, 0, 0), (.iload_n 1, 0, 0, 0, 0)] = true := by decide +kernel
theorem ck_M_act_17 : ia_cks 12 5 false prog_14_method_42_code 17 [(.istore 4, 0, 0, 0, 0), (.iload_n 2, 0, 0, 0, 0), (.iconst (-1), 0, 0, 0, 0), (.if_icmp .ne 20, 0, 0, 0, 0)] = true := by decide +kernel
theorem ck_M_act_41 : ia_cks 12 5 false prog_14_method_42_code 41 [(.iload_n 2, 0, 0, 0, 0), (.iconst 0, 0, 0, 0, 0), (.aload_n 0, 0, 0, 0, 0), (.getfield 7, 12, 0, 3, 1), (.iload 4, 0, 0, 0, 0), (.iaload, 0, 0, 0, 0), (.iconst 1, 0, 0, 0, 0), (.isub, 0, 0, 0, 0)] = true := by decide +kernel
theorem ck_M_act_55 : ia_cks 12 5 false prog_14_method_42_code 55 [(.ifCond .eq 30, 0, 0, 0, 0)] = true := by decide +kernel
theorem ck_M_act_85 : ia_cks 12 5 false prog_14_method_42_code 85 [(.bipush (-2), 0, 0, 0, 0)] = true := by decide +kernel
theorem ck_M_act_58 : ia_cks 12 5 false prog_14_method_42_code 58 [(.iload_n 3, 0, 0, 0, 0), (.iconst 0, 0, 0, 0, 0), (.iconst 3, 0, 0, 0, 0)] = true := by decide +kernel
theorem ck_M_act_64 : ia_cks 12 5 false prog_14_method_42_code 64 [(.ifCond .eq 21, 0, 0, 0, 0)] = true := by decide +kernel
theorem ck_M_act_67 : ia_cks 12 5 false prog_14_method_42_code 67 [(.aload_n 0, 0, 0, 0, 0), (.getfield 7, 12, 0, 3, 1), (.iload 4, 0, 0, 0, 0), (.iconst 1, 0, 0, 0, 0), (.iadd, 0, 0, 0, 0), (.iconst 4, 0, 0, 0, 0), (.iload_n 2, 0, 0, 0, 0), (.imul, 0, 0, 0, 0), (.iadd, 0, 0, 0, 0), (.iload_n 3, 0, 0, 0, 0), (.iadd, 0, 0, 0, 0), (.iaload, 0, 0, 0, 0), (.goto 5, 0, 0, 0, 0)] = true := by decide +kernel
theorem ck_M_act_24 : ia_cks 12 5 false prog_14_method_42_code 24 [(.iload_n 3, 0, 0, 0, 0), (.ifCond .ne 13, 0, 0, 0, 0)] = true := by decide +kernel
theorem ck_M_act_38 : ia_cks 12 5 false prog_14_method_42_code 38 [(.bipush (-2), 0, 0, 0, 0)] = true := by decide +kernel
theorem ck_M_act_28 : ia_cks 12 5 false prog_14_method_42_code 28 [(.aload_n 0, 0, 0, 0, 0), (.getfield 7, 12, 0, 3, 1), (.iload 4, 0, 0, 0, 0), (.iaload, 0, 0, 0, 0), (.goto 5, 0, 0, 0, 0)] = true := by decide +kernel
theorem ck_M_act_9 : ia_cks 12 5 false prog_14_method_42_code 9 [(.bipush (-2), 0, 0, 0, 0)] = true := by decide +kernel
theorem dc_M_act_3 : decode prog_14_method_42_code 3 = .ok (.invokevirtual 163, 3) := by decide +kernel
theorem dc_M_act_14 : decode prog_14_method_42_code 14 = .ok (.invokestatic 183, 3) := by decide +kernel
theorem dc_M_act_52 : decode prog_14_method_42_code 52 = .ok (.invokestatic 116, 3) := by decide +kernel
theorem dc_M_act_87 : decode prog_14_method_42_code 87 = .ok (.ireturn, 1) := by decide +kernel
theorem dc_M_act_61 : decode prog_14_method_42_code 61 = .ok (.invokestatic 116, 3) := by decide +kernel
theorem dc_M_act_40 : decode prog_14_method_42_code 40 = .ok (.ireturn, 1) := by decide +kernel
theorem dc_M_act_11 : decode prog_14_method_42_code 11 = .ok (.ireturn, 1) := by decide +kernel
def f_M_act (x1 : Int32) (x2 : Int32) (x3 : Int32) (h : ia_H) : Option Int32 := (f_M_isOf 2 x1 h).bind fun v1 => (if v1 = 0 then (some (-2)) else ((f_M_placeOf 2 x1 h).bind fun v2 => (if x2 = (-1) then (if x3 = 0 then (ia_gd (ia_ib v2 6528) (some (ia_i h 418 ((v2).toNatClampNeg)))) else (some (-2))) else (ia_gd (ia_ib v2 6528) ((f_M_isIn x2 0 ((ia_i h 418 ((v2).toNatClampNeg)) - 1) h).bind fun v4 => (if v4 = 0 then (some (-2)) else ((f_M_isIn x3 0 3 h).bind fun v5 => (if v5 = 0 then (some (-2)) else (ia_gd (ia_ib (((v2 + 1) + (4 * x2)) + x3) 6528) (some (ia_i h 418 ((((v2 + 1) + (4 * x2)) + x3).toNatClampNeg))))))))))))
theorem t_M_act {w : ia_O0} (d : Nat) {x1 : Int32} {x2 : Int32} {x3 : Int32} {h : ia_H} (hg : gd_ w h) {r : Int32} (hm : f_M_act x1 x2 x3 h = some r) : ia_Ev (d + 2) mm_M_act [.inr (.inr 417), .inl x1, .inl x2, .inl x3] h (some (.inl r)) h := by
  refine ia_Ev_intro ok_M_act (Nat.le_refl _) (Nat.le_refl _) (Nat.le_of_ble_eq_true rfl) (fun K hK hret => ?_)
  show K 0 [some (.inr (.inr 417)), some (.inl x1), some (.inl x2), some (.inl x3), none] [] h
  unfold f_M_act at hm
  refine ia_go hK ck_M_act_0 ?_
  show K 3 [some (.inr (.inr 417)), some (.inl x1), some (.inl x2), some (.inl x3), none] [.inl x1, .inl 2, .inr (.inr 417)] h
  obtain ⟨v1, hv1, hm⟩ := ia_bnd hm
  have ev1 := t_M_isOf (d + 0) hg hv1
  refine ia_cV hK mk_M_isOf lk_12_163 dc_M_act_3 417 [.inl 2, .inl x1] [] rfl rfl (Nat.le_of_ble_eq_true rfl) (by decide) rfl (gk_12 hg pk_417) ev1 ⟨rfl, rfl⟩ ?_
  show K 6 [some (.inr (.inr 417)), some (.inl x1), some (.inl x2), some (.inl x3), none] [.inl v1] h
  refine ia_go hK ck_M_act_6 ⟨fun c => ?_, fun c => ?_⟩
  · replace hm := ia_ifn hm c
    show K 12 [some (.inr (.inr 417)), some (.inl x1), some (.inl x2), some (.inl x3), none] [] h
    refine ia_go hK ck_M_act_12 ?_
    show K 14 [some (.inr (.inr 417)), some (.inl x1), some (.inl x2), some (.inl x3), none] [.inl x1, .inl 2] h
    obtain ⟨v2, hv2, hm⟩ := ia_bnd hm
    have ev2 := t_M_placeOf (d + 1) hg hv2
    refine ia_cS hK mk_M_placeOf lk_12_183 dc_M_act_14 [.inl 2, .inl x1] [] rfl rfl (Nat.le_of_ble_eq_true rfl) ev2 ⟨rfl, rfl⟩ ?_
    show K 17 [some (.inr (.inr 417)), some (.inl x1), some (.inl x2), some (.inl x3), none] [.inl v2] h
    refine ia_go hK ck_M_act_17 ⟨fun c => ?_, fun c => ?_⟩
    · replace hm := ia_ifn hm c
      show K 41 [some (.inr (.inr 417)), some (.inl x1), some (.inl x2), some (.inl x3), some (.inl v2)] [] h
      obtain ⟨c3, hm⟩ := ia_gd_some hm
      refine ia_go hK ck_M_act_41 ⟨gk_12 hg pk_417, gr_12_0 hg pk_417, ga_i100 hg (ka_12_0 pk_417) c3, ?_⟩
      show K 52 [some (.inr (.inr 417)), some (.inl x1), some (.inl x2), some (.inl x3), some (.inl v2)] [.inl ((ia_i h 418 ((v2).toNatClampNeg)) - 1), .inl 0, .inl x2] h
      obtain ⟨v4, hv4, hm⟩ := ia_bnd hm
      have ev4 := t_M_isIn (d + 1) hg hv4
      refine ia_cS hK mk_M_isIn lk_12_116 dc_M_act_52 [.inl x2, .inl 0, .inl ((ia_i h 418 ((v2).toNatClampNeg)) - 1)] [] rfl rfl (Nat.le_of_ble_eq_true rfl) ev4 ⟨rfl, rfl⟩ ?_
      show K 55 [some (.inr (.inr 417)), some (.inl x1), some (.inl x2), some (.inl x3), some (.inl v2)] [.inl v4] h
      refine ia_go hK ck_M_act_55 ⟨fun c => ?_, fun c => ?_⟩
      · replace hm := ia_ifp hm c
        show K 85 [some (.inr (.inr 417)), some (.inl x1), some (.inl x2), some (.inl x3), some (.inl v2)] [] h
        refine ia_go hK ck_M_act_85 ?_
        show K 87 [some (.inr (.inr 417)), some (.inl x1), some (.inl x2), some (.inl x3), some (.inl v2)] [.inl (-2)] h
        obtain rfl := Option.some.inj hm
        exact hret 87 _ dc_M_act_87
      · replace hm := ia_ifn hm c
        show K 58 [some (.inr (.inr 417)), some (.inl x1), some (.inl x2), some (.inl x3), some (.inl v2)] [] h
        refine ia_go hK ck_M_act_58 ?_
        show K 61 [some (.inr (.inr 417)), some (.inl x1), some (.inl x2), some (.inl x3), some (.inl v2)] [.inl 3, .inl 0, .inl x3] h
        obtain ⟨v5, hv5, hm⟩ := ia_bnd hm
        have ev5 := t_M_isIn (d + 1) hg hv5
        refine ia_cS hK mk_M_isIn lk_12_116 dc_M_act_61 [.inl x3, .inl 0, .inl 3] [] rfl rfl (Nat.le_of_ble_eq_true rfl) ev5 ⟨rfl, rfl⟩ ?_
        show K 64 [some (.inr (.inr 417)), some (.inl x1), some (.inl x2), some (.inl x3), some (.inl v2)] [.inl v5] h
        refine ia_go hK ck_M_act_64 ⟨fun c => ?_, fun c => ?_⟩
        · replace hm := ia_ifp hm c
          show K 85 [some (.inr (.inr 417)), some (.inl x1), some (.inl x2), some (.inl x3), some (.inl v2)] [] h
          refine ia_go hK ck_M_act_85 ?_
          show K 87 [some (.inr (.inr 417)), some (.inl x1), some (.inl x2), some (.inl x3), some (.inl v2)] [.inl (-2)] h
          obtain rfl := Option.some.inj hm
          exact hret 87 _ dc_M_act_87
        · replace hm := ia_ifn hm c
          show K 67 [some (.inr (.inr 417)), some (.inl x1), some (.inl x2), some (.inl x3), some (.inl v2)] [] h
          obtain ⟨c6, hm⟩ := ia_gd_some hm
          refine ia_go hK ck_M_act_67 ⟨gk_12 hg pk_417, gr_12_0 hg pk_417, ga_i100 hg (ka_12_0 pk_417) c6, ?_⟩
          show K 87 [some (.inr (.inr 417)), some (.inl x1), some (.inl x2), some (.inl x3), some (.inl v2)] [.inl (ia_i h 418 ((((v2 + 1) + (4 * x2)) + x3).toNatClampNeg))] h
          obtain rfl := Option.some.inj hm
          exact hret 87 _ dc_M_act_87
    · replace hm := ia_ifp hm c
      show K 24 [some (.inr (.inr 417)), some (.inl x1), some (.inl x2), some (.inl x3), some (.inl v2)] [] h
      refine ia_go hK ck_M_act_24 ⟨fun c => ?_, fun c => ?_⟩
      · replace hm := ia_ifn hm c
        show K 38 [some (.inr (.inr 417)), some (.inl x1), some (.inl x2), some (.inl x3), some (.inl v2)] [] h
        refine ia_go hK ck_M_act_38 ?_
        show K 40 [some (.inr (.inr 417)), some (.inl x1), some (.inl x2), some (.inl x3), some (.inl v2)] [.inl (-2)] h
        obtain rfl := Option.some.inj hm
        exact hret 40 _ dc_M_act_40
      · replace hm := ia_ifp hm c
        show K 28 [some (.inr (.inr 417)), some (.inl x1), some (.inl x2), some (.inl x3), some (.inl v2)] [] h
        obtain ⟨c7, hm⟩ := ia_gd_some hm
        refine ia_go hK ck_M_act_28 ⟨gk_12 hg pk_417, gr_12_0 hg pk_417, ga_i100 hg (ka_12_0 pk_417) c7, ?_⟩
        show K 40 [some (.inr (.inr 417)), some (.inl x1), some (.inl x2), some (.inl x3), some (.inl v2)] [.inl (ia_i h 418 ((v2).toNatClampNeg))] h
        obtain rfl := Option.some.inj hm
        exact hret 40 _ dc_M_act_40
  · replace hm := ia_ifp hm c
    show K 9 [some (.inr (.inr 417)), some (.inl x1), some (.inl x2), some (.inl x3), none] [] h
    refine ia_go hK ck_M_act_9 ?_
    show K 11 [some (.inr (.inr 417)), some (.inl x1), some (.inl x2), some (.inl x3), none] [.inl (-2)] h
    obtain rfl := Option.some.inj hm
    exact hret 11 _ dc_M_act_11
def mm_M_areBoth : ia_M := (⟨"IceStreetModel", "areBoth", "(II)Z"⟩, prog_14_method_69_code, 3, (some .boolean), 12, false)
theorem ok_M_areBoth : ia_mok mm_M_areBoth := ⟨by decide +kernel, by decide +kernel, by decide +kernel, by decide +kernel⟩
theorem mk_M_areBoth : ia_mkn mm_M_areBoth 1 2 := ⟨ia_tb_in (List.mem_of_getElem? (i := 1883) (by decide +kernel)) rfl, ia_tb_in (List.mem_of_getElem? (i := 146) (by decide +kernel)) rfl, by decide +kernel, by decide +kernel, ⟨ia_tb_in (List.mem_of_getElem? (i := 1882) (by decide +kernel)) rfl, ia_tb_in (List.mem_of_getElem? (i := 75) (by decide +kernel)) rfl⟩⟩
theorem ck_M_areBoth_0 : ia_cks 12 3 false prog_14_method_69_code 0 [(.aload_n 0, 0, 0, 0, 0), (.iconst 0, 0, 0, 0, 0), (.iload_n 1, 0, 0, 0, 0)] = true := by decide +kernel
theorem ck_M_areBoth_6 : ia_cks 12 3 false prog_14_method_69_code 6 [(.ifCond .eq 12, 0, 0, 0, 0)] = true := by decide +kernel
theorem ck_M_areBoth_18 : ia_cks 12 3 false prog_14_method_69_code 18 [(.iconst 0, 0, 0, 0, 0)] = true := by decide +kernel
theorem ck_M_areBoth_9 : ia_cks 12 3 false prog_14_method_69_code 9 [(.aload_n 0, 0, 0, 0, 0), (.iconst 1, 0, 0, 0, 0), (.iload_n 2, 0, 0, 0, 0)] = true := by decide +kernel
theorem ck_M_areBoth_15 : ia_cks 12 3 false prog_14_method_69_code 15 [(.ifCond .ne 5, 0, 0, 0, 0)] = true := by decide +kernel
theorem ck_M_areBoth_20 : ia_cks 12 3 false prog_14_method_69_code 20 [(.aload_n 0, 0, 0, 0, 0), (.iconst 0, 0, 0, 0, 0), (.iload_n 1, 0, 0, 0, 0)] = true := by decide +kernel
theorem ck_M_areBoth_26 : ia_cks 12 3 false prog_14_method_69_code 26 [(.putfield 201, 12, 14, 0, 0), (.aload_n 0, 0, 0, 0, 0), (.iconst 1, 0, 0, 0, 0), (.iload_n 2, 0, 0, 0, 0)] = true := by decide +kernel
theorem ck_M_areBoth_35 : ia_cks 12 3 false prog_14_method_69_code 35 [(.putfield 219, 12, 15, 0, 0), (.iconst 1, 0, 0, 0, 0)] = true := by decide +kernel
theorem dc_M_areBoth_3 : decode prog_14_method_69_code 3 = .ok (.invokevirtual 163, 3) := by decide +kernel
theorem dc_M_areBoth_19 : decode prog_14_method_69_code 19 = .ok (.ireturn, 1) := by decide +kernel
theorem dc_M_areBoth_12 : decode prog_14_method_69_code 12 = .ok (.invokevirtual 163, 3) := by decide +kernel
theorem dc_M_areBoth_23 : decode prog_14_method_69_code 23 = .ok (.invokestatic 183, 3) := by decide +kernel
theorem dc_M_areBoth_32 : decode prog_14_method_69_code 32 = .ok (.invokestatic 183, 3) := by decide +kernel
theorem dc_M_areBoth_39 : decode prog_14_method_69_code 39 = .ok (.ireturn, 1) := by decide +kernel
def f_M_areBoth (x1 : Int32) (x2 : Int32) (h : ia_H) : Option (Int32 × ia_H) := (f_M_isOf 0 x1 h).bind fun v1 => (if v1 = 0 then (some (0, h)) else ((f_M_isOf 1 x2 h).bind fun v2 => (if v2 = 0 then (some (0, h)) else ((f_M_placeOf 0 x1 h).bind fun v3 => ((f_M_placeOf 1 x2 (ia_wI h 417 14 v3)).bind fun v4 => (some (1, ia_wI (ia_wI h 417 14 v3) 417 15 v4)))))))
theorem g_M_areBoth {w : ia_O0} {x1 : Int32} {x2 : Int32} {h : ia_H} (hg : gd_ w h) {q : (Int32 × ia_H)} (hm : f_M_areBoth x1 x2 h = some q) : gd_ w q.2 := by
  obtain ⟨r, h1⟩ := q
  unfold f_M_areBoth at hm
  obtain ⟨v1, hv1, hm⟩ := ia_bnd hm
  by_cases c : v1 = 0
  · replace hm := ia_ifp hm c
    obtain ⟨rfl, rfl⟩ := Prod.mk.inj (Option.some.inj hm)
    exact hg
  · replace hm := ia_ifn hm c
    obtain ⟨v2, hv2, hm⟩ := ia_bnd hm
    by_cases c : v2 = 0
    · replace hm := ia_ifp hm c
      obtain ⟨rfl, rfl⟩ := Prod.mk.inj (Option.some.inj hm)
      exact hg
    · replace hm := ia_ifn hm c
      obtain ⟨v3, hv3, hm⟩ := ia_bnd hm
      obtain ⟨v4, hv4, hm⟩ := ia_bnd hm
      obtain ⟨rfl, rfl⟩ := Prod.mk.inj (Option.some.inj hm)
      exact (gd_wI (gd_wI hg (ko_12 pk_417)) (ko_12 pk_417))
theorem t_M_areBoth {w : ia_O0} (d : Nat) {x1 : Int32} {x2 : Int32} {h : ia_H} (hg : gd_ w h) {q : (Int32 × ia_H)} (hm : f_M_areBoth x1 x2 h = some q) : ia_Ev (d + 2) mm_M_areBoth [.inr (.inr 417), .inl x1, .inl x2] h (some (.inl q.1)) q.2 := by
  have gq := g_M_areBoth hg hm
  refine ia_Ev_intro ok_M_areBoth (gd_le hg gq).1 (gd_le hg gq).2 (Nat.le_of_ble_eq_true rfl) (fun K hK hret => ?_)
  obtain ⟨r, h1⟩ := q
  show K 0 [some (.inr (.inr 417)), some (.inl x1), some (.inl x2)] [] h
  unfold f_M_areBoth at hm
  refine ia_go hK ck_M_areBoth_0 ?_
  show K 3 [some (.inr (.inr 417)), some (.inl x1), some (.inl x2)] [.inl x1, .inl 0, .inr (.inr 417)] h
  obtain ⟨v1, hv1, hm⟩ := ia_bnd hm
  have ev1 := t_M_isOf (d + 0) hg hv1
  refine ia_cV hK mk_M_isOf lk_12_163 dc_M_areBoth_3 417 [.inl 0, .inl x1] [] rfl rfl (Nat.le_of_ble_eq_true rfl) (by decide) rfl (gk_12 hg pk_417) ev1 ⟨rfl, rfl⟩ ?_
  show K 6 [some (.inr (.inr 417)), some (.inl x1), some (.inl x2)] [.inl v1] h
  refine ia_go hK ck_M_areBoth_6 ⟨fun c => ?_, fun c => ?_⟩
  · replace hm := ia_ifp hm c
    show K 18 [some (.inr (.inr 417)), some (.inl x1), some (.inl x2)] [] h
    refine ia_go hK ck_M_areBoth_18 ?_
    show K 19 [some (.inr (.inr 417)), some (.inl x1), some (.inl x2)] [.inl 0] h
    obtain ⟨rfl, rfl⟩ := Prod.mk.inj (Option.some.inj hm)
    exact hret 19 _ ⟨Or.inl rfl, dc_M_areBoth_19⟩
  · replace hm := ia_ifn hm c
    show K 9 [some (.inr (.inr 417)), some (.inl x1), some (.inl x2)] [] h
    refine ia_go hK ck_M_areBoth_9 ?_
    show K 12 [some (.inr (.inr 417)), some (.inl x1), some (.inl x2)] [.inl x2, .inl 1, .inr (.inr 417)] h
    obtain ⟨v2, hv2, hm⟩ := ia_bnd hm
    have ev2 := t_M_isOf (d + 0) hg hv2
    refine ia_cV hK mk_M_isOf lk_12_163 dc_M_areBoth_12 417 [.inl 1, .inl x2] [] rfl rfl (Nat.le_of_ble_eq_true rfl) (by decide) rfl (gk_12 hg pk_417) ev2 ⟨rfl, rfl⟩ ?_
    show K 15 [some (.inr (.inr 417)), some (.inl x1), some (.inl x2)] [.inl v2] h
    refine ia_go hK ck_M_areBoth_15 ⟨fun c => ?_, fun c => ?_⟩
    · replace hm := ia_ifn hm c
      show K 20 [some (.inr (.inr 417)), some (.inl x1), some (.inl x2)] [] h
      refine ia_go hK ck_M_areBoth_20 ?_
      show K 23 [some (.inr (.inr 417)), some (.inl x1), some (.inl x2)] [.inl x1, .inl 0, .inr (.inr 417)] h
      obtain ⟨v3, hv3, hm⟩ := ia_bnd hm
      have ev3 := t_M_placeOf (d + 1) hg hv3
      refine ia_cS hK mk_M_placeOf lk_12_183 dc_M_areBoth_23 [.inl 0, .inl x1] [.inr (.inr 417)] rfl rfl (Nat.le_of_ble_eq_true rfl) ev3 ⟨rfl, rfl⟩ ?_
      show K 26 [some (.inr (.inr 417)), some (.inl x1), some (.inl x2)] [.inl v3, .inr (.inr 417)] h
      refine ia_go hK ck_M_areBoth_26 ⟨gk_12 hg pk_417, ?_⟩
      show K 32 [some (.inr (.inr 417)), some (.inl x1), some (.inl x2)] [.inl x2, .inl 1, .inr (.inr 417)] (ia_wI h 417 14 v3)
      obtain ⟨v4, hv4, hm⟩ := ia_bnd hm
      have ev4 := t_M_placeOf (d + 1) (gd_wI hg (ko_12 pk_417)) hv4
      refine ia_cS hK mk_M_placeOf lk_12_183 dc_M_areBoth_32 [.inl 1, .inl x2] [.inr (.inr 417)] rfl rfl (Nat.le_of_ble_eq_true rfl) ev4 ⟨rfl, rfl⟩ ?_
      show K 35 [some (.inr (.inr 417)), some (.inl x1), some (.inl x2)] [.inl v4, .inr (.inr 417)] (ia_wI h 417 14 v3)
      refine ia_go hK ck_M_areBoth_35 ⟨gk_12 (gd_wI hg (ko_12 pk_417)) pk_417, ?_⟩
      show K 39 [some (.inr (.inr 417)), some (.inl x1), some (.inl x2)] [.inl 1] (ia_wI (ia_wI h 417 14 v3) 417 15 v4)
      obtain ⟨rfl, rfl⟩ := Prod.mk.inj (Option.some.inj hm)
      exact hret 39 _ ⟨Or.inr rfl, dc_M_areBoth_39⟩
    · replace hm := ia_ifp hm c
      show K 18 [some (.inr (.inr 417)), some (.inl x1), some (.inl x2)] [] h
      refine ia_go hK ck_M_areBoth_18 ?_
      show K 19 [some (.inr (.inr 417)), some (.inl x1), some (.inl x2)] [.inl 0] h
      obtain ⟨rfl, rfl⟩ := Prod.mk.inj (Option.some.inj hm)
      exact hret 19 _ ⟨Or.inl rfl, dc_M_areBoth_19⟩
