def mm_M_byteAt : ia_M := (⟨"IceStreetModel", "byteAt", "(I)I"⟩, prog_14_method_5_code, 2, (some .int), 12, false)
theorem ok_M_byteAt : ia_mok mm_M_byteAt := ⟨by decide +kernel, by decide +kernel, by decide +kernel, by decide +kernel⟩
theorem mk_M_byteAt : ia_mkn mm_M_byteAt 1 1 := ⟨ia_tb_in (List.mem_of_getElem? (i := 1753) (by decide +kernel)) rfl, ia_tb_in (List.mem_of_getElem? (i := 146) (by decide +kernel)) rfl, by decide +kernel, by decide +kernel, ⟨ia_tb_in (List.mem_of_getElem? (i := 1752) (by decide +kernel)) rfl, ia_tb_in (List.mem_of_getElem? (i := 54) (by decide +kernel)) rfl⟩⟩
theorem ck_M_byteAt_0 : ia_cks 12 2 false prog_14_method_5_code 0 [(.iload_n 1, 0, 0, 0, 0), (.aload_n 0, 0, 0, 0, 0), (.getfield 69, 12, 2, 0, 0), (.if_icmp .ge 15, 0, 0, 0, 0)] = true := by decide +kernel
theorem ck_M_byteAt_20 : ia_cks 12 2 false prog_14_method_5_code 20 [(.iconst (-1), 0, 0, 0, 0)] = true := by decide +kernel
theorem ck_M_byteAt_8 : ia_cks 12 2 false prog_14_method_5_code 8 [(.aload_n 0, 0, 0, 0, 0), (.getfield 7, 12, 0, 3, 1), (.bipush 10, 0, 0, 0, 0), (.iload_n 1, 0, 0, 0, 0), (.iadd, 0, 0, 0, 0), (.iaload, 0, 0, 0, 0), (.goto 4, 0, 0, 0, 0)] = true := by decide +kernel
theorem dc_M_byteAt_21 : decode prog_14_method_5_code 21 = .ok (.ireturn, 1) := by decide +kernel
def f_M_byteAt (x1 : Int32) (h : ia_H) : Option Int32 := if (ia_i h 417 2) ≤ x1 then (some (-1)) else (ia_gd (ia_ib (10 + x1) 6528) (some (ia_i h 418 ((10 + x1).toNatClampNeg))))
theorem t_M_byteAt {w : ia_O0} (d : Nat) {x1 : Int32} {h : ia_H} (hg : gd_ w h) {r : Int32} (hm : f_M_byteAt x1 h = some r) : ia_Ev (d + 0) mm_M_byteAt [.inr (.inr 417), .inl x1] h (some (.inl r)) h := by
  refine ia_Ev_intro ok_M_byteAt (Nat.le_refl _) (Nat.le_refl _) (Nat.le_of_ble_eq_true rfl) (fun K hK hret => ?_)
  show K 0 [some (.inr (.inr 417)), some (.inl x1)] [] h
  unfold f_M_byteAt at hm
  refine ia_go hK ck_M_byteAt_0 ⟨gk_12 hg pk_417, fun c => ?_, fun c => ?_⟩
  · replace hm := ia_ifp hm c
    show K 20 [some (.inr (.inr 417)), some (.inl x1)] [] h
    refine ia_go hK ck_M_byteAt_20 ?_
    show K 21 [some (.inr (.inr 417)), some (.inl x1)] [.inl (-1)] h
    obtain rfl := Option.some.inj hm
    exact hret 21 _ dc_M_byteAt_21
  · replace hm := ia_ifn hm c
    show K 8 [some (.inr (.inr 417)), some (.inl x1)] [] h
    obtain ⟨c1, hm⟩ := ia_gd_some hm
    refine ia_go hK ck_M_byteAt_8 ⟨gk_12 hg pk_417, gr_12_0 hg pk_417, ga_i100 hg (ka_12_0 pk_417) c1, ?_⟩
    show K 21 [some (.inr (.inr 417)), some (.inl x1)] [.inl (ia_i h 418 ((10 + x1).toNatClampNeg))] h
    obtain rfl := Option.some.inj hm
    exact hret 21 _ dc_M_byteAt_21
def mm_M_isLetter : ia_M := (⟨"IceStreetModel", "isLetter", "(I)Z"⟩, prog_14_method_6_code, 1, (some .boolean), 12, false)
theorem ok_M_isLetter : ia_mok mm_M_isLetter := ⟨by decide +kernel, by decide +kernel, by decide +kernel, by decide +kernel⟩
theorem mk_M_isLetter : ia_mkn mm_M_isLetter 0 1 := ⟨ia_tb_in (List.mem_of_getElem? (i := 1756) (by decide +kernel)) rfl, ia_tb_in (List.mem_of_getElem? (i := 146) (by decide +kernel)) rfl, by decide +kernel, by decide +kernel, ia_tb_in (List.mem_of_getElem? (i := 1755) (by decide +kernel)) rfl⟩
theorem ck_M_isLetter_0 : ia_cks 12 1 false prog_14_method_6_code 0 [(.iload_n 0, 0, 0, 0, 0), (.bipush 97, 0, 0, 0, 0), (.if_icmp .lt 13, 0, 0, 0, 0)] = true := by decide +kernel
theorem ck_M_isLetter_16 : ia_cks 12 1 false prog_14_method_6_code 16 [(.iconst 0, 0, 0, 0, 0)] = true := by decide +kernel
theorem ck_M_isLetter_6 : ia_cks 12 1 false prog_14_method_6_code 6 [(.iload_n 0, 0, 0, 0, 0), (.bipush 122, 0, 0, 0, 0), (.if_icmp .gt 7, 0, 0, 0, 0)] = true := by decide +kernel
theorem ck_M_isLetter_12 : ia_cks 12 1 false prog_14_method_6_code 12 [(.iconst 1, 0, 0, 0, 0), (.goto 4, 0, 0, 0, 0)] = true := by decide +kernel
theorem dc_M_isLetter_17 : decode prog_14_method_6_code 17 = .ok (.ireturn, 1) := by decide +kernel
def f_M_isLetter (x0 : Int32) (h : ia_H) : Option Int32 := if x0 < 97 then (some 0) else (if 122 < x0 then (some 0) else (some 1))
theorem t_M_isLetter {w : ia_O0} (d : Nat) {x0 : Int32} {h : ia_H} (hg : gd_ w h) {r : Int32} (hm : f_M_isLetter x0 h = some r) : ia_Ev (d + 0) mm_M_isLetter [.inl x0] h (some (.inl r)) h := by
  refine ia_Ev_intro ok_M_isLetter (Nat.le_refl _) (Nat.le_refl _) (Nat.le_of_ble_eq_true rfl) (fun K hK hret => ?_)
  show K 0 [some (.inl x0)] [] h
  unfold f_M_isLetter at hm
  refine ia_go hK ck_M_isLetter_0 ⟨fun c => ?_, fun c => ?_⟩
  · replace hm := ia_ifp hm c
    show K 16 [some (.inl x0)] [] h
    refine ia_go hK ck_M_isLetter_16 ?_
    show K 17 [some (.inl x0)] [.inl 0] h
    obtain rfl := Option.some.inj hm
    exact hret 17 _ ⟨Or.inl rfl, dc_M_isLetter_17⟩
  · replace hm := ia_ifn hm c
    show K 6 [some (.inl x0)] [] h
    refine ia_go hK ck_M_isLetter_6 ⟨fun c => ?_, fun c => ?_⟩
    · replace hm := ia_ifp hm c
      show K 16 [some (.inl x0)] [] h
      refine ia_go hK ck_M_isLetter_16 ?_
      show K 17 [some (.inl x0)] [.inl 0] h
      obtain rfl := Option.some.inj hm
      exact hret 17 _ ⟨Or.inl rfl, dc_M_isLetter_17⟩
    · replace hm := ia_ifn hm c
      show K 12 [some (.inl x0)] [] h
      refine ia_go hK ck_M_isLetter_12 ?_
      show K 17 [some (.inl x0)] [.inl 1] h
      obtain rfl := Option.some.inj hm
      exact hret 17 _ ⟨Or.inr rfl, dc_M_isLetter_17⟩
def mm_M_three : ia_M := (⟨"IceStreetModel", "three", "(III)I"⟩, prog_14_method_8_code, 3, (some .int), 12, false)
theorem ok_M_three : ia_mok mm_M_three := ⟨by decide +kernel, by decide +kernel, by decide +kernel, by decide +kernel⟩
theorem mk_M_three : ia_mkn mm_M_three 0 3 := ⟨ia_tb_in (List.mem_of_getElem? (i := 1765) (by decide +kernel)) rfl, ia_tb_in (List.mem_of_getElem? (i := 146) (by decide +kernel)) rfl, by decide +kernel, by decide +kernel, ia_tb_in (List.mem_of_getElem? (i := 1764) (by decide +kernel)) rfl⟩
theorem ck_M_three_0 : ia_cks 12 3 false prog_14_method_8_code 0 [(.iload_n 0, 0, 0, 0, 0), (.bipush 32, 0, 0, 0, 0), (.imul, 0, 0, 0, 0), (.iload_n 1, 0, 0, 0, 0), (.iadd, 0, 0, 0, 0), (.bipush 32, 0, 0, 0, 0), (.imul, 0, 0, 0, 0), (.iload_n 2, 0, 0, 0, 0), (.iadd, 0, 0, 0, 0)] = true := by decide +kernel
theorem dc_M_three_11 : decode prog_14_method_8_code 11 = .ok (.ireturn, 1) := by decide +kernel
def f_M_three (x0 : Int32) (x1 : Int32) (x2 : Int32) (h : ia_H) : Option Int32 := some ((((x0 * 32) + x1) * 32) + x2)
theorem t_M_three {w : ia_O0} (d : Nat) {x0 : Int32} {x1 : Int32} {x2 : Int32} {h : ia_H} (hg : gd_ w h) {r : Int32} (hm : f_M_three x0 x1 x2 h = some r) : ia_Ev (d + 0) mm_M_three [.inl x0, .inl x1, .inl x2] h (some (.inl r)) h := by
  refine ia_Ev_intro ok_M_three (Nat.le_refl _) (Nat.le_refl _) (Nat.le_of_ble_eq_true rfl) (fun K hK hret => ?_)
  show K 0 [some (.inl x0), some (.inl x1), some (.inl x2)] [] h
  unfold f_M_three at hm
  refine ia_go hK ck_M_three_0 ?_
  show K 11 [some (.inl x0), some (.inl x1), some (.inl x2)] [.inl ((((x0 * 32) + x1) * 32) + x2)] h
  obtain rfl := Option.some.inj hm
  exact hret 11 _ dc_M_three_11
def mm_M_five : ia_M := (⟨"IceStreetModel", "five", "(IIIII)I"⟩, prog_14_method_9_code, 5, (some .int), 12, false)
theorem ok_M_five : ia_mok mm_M_five := ⟨by decide +kernel, by decide +kernel, by decide +kernel, by decide +kernel⟩
theorem mk_M_five : ia_mkn mm_M_five 0 5 := ⟨ia_tb_in (List.mem_of_getElem? (i := 1762) (by decide +kernel)) rfl, ia_tb_in (List.mem_of_getElem? (i := 146) (by decide +kernel)) rfl, by decide +kernel, by decide +kernel, ia_tb_in (List.mem_of_getElem? (i := 1761) (by decide +kernel)) rfl⟩
theorem ck_M_five_0 : ia_cks 12 5 false prog_14_method_9_code 0 [(.iload_n 0, 0, 0, 0, 0), (.iload_n 1, 0, 0, 0, 0), (.iload_n 2, 0, 0, 0, 0)] = true := by decide +kernel
theorem ck_M_five_6 : ia_cks 12 5 false prog_14_method_9_code 6 [(.sipush 1024, 0, 0, 0, 0), (.imul, 0, 0, 0, 0), (.iload_n 3, 0, 0, 0, 0), (.bipush 32, 0, 0, 0, 0), (.imul, 0, 0, 0, 0), (.iadd, 0, 0, 0, 0), (.iload 4, 0, 0, 0, 0), (.iadd, 0, 0, 0, 0)] = true := by decide +kernel
theorem dc_M_five_3 : decode prog_14_method_9_code 3 = .ok (.invokestatic 72, 3) := by decide +kernel
theorem dc_M_five_18 : decode prog_14_method_9_code 18 = .ok (.ireturn, 1) := by decide +kernel
def f_M_five (x0 : Int32) (x1 : Int32) (x2 : Int32) (x3 : Int32) (x4 : Int32) (h : ia_H) : Option Int32 := (f_M_three x0 x1 x2 h).bind fun v1 => (some (((v1 * 1024) + (x3 * 32)) + x4))
theorem t_M_five {w : ia_O0} (d : Nat) {x0 : Int32} {x1 : Int32} {x2 : Int32} {x3 : Int32} {x4 : Int32} {h : ia_H} (hg : gd_ w h) {r : Int32} (hm : f_M_five x0 x1 x2 x3 x4 h = some r) : ia_Ev (d + 1) mm_M_five [.inl x0, .inl x1, .inl x2, .inl x3, .inl x4] h (some (.inl r)) h := by
  refine ia_Ev_intro ok_M_five (Nat.le_refl _) (Nat.le_refl _) (Nat.le_of_ble_eq_true rfl) (fun K hK hret => ?_)
  show K 0 [some (.inl x0), some (.inl x1), some (.inl x2), some (.inl x3), some (.inl x4)] [] h
  unfold f_M_five at hm
  refine ia_go hK ck_M_five_0 ?_
  show K 3 [some (.inl x0), some (.inl x1), some (.inl x2), some (.inl x3), some (.inl x4)] [.inl x2, .inl x1, .inl x0] h
  obtain ⟨v1, hv1, hm⟩ := ia_bnd hm
  have ev1 := t_M_three (d + 0) hg hv1
  refine ia_cS hK mk_M_three lk_12_72 dc_M_five_3 [.inl x0, .inl x1, .inl x2] [] rfl rfl (Nat.le_of_ble_eq_true rfl) ev1 ⟨rfl, rfl⟩ ?_
  show K 6 [some (.inl x0), some (.inl x1), some (.inl x2), some (.inl x3), some (.inl x4)] [.inl v1] h
  refine ia_go hK ck_M_five_6 ?_
  show K 18 [some (.inl x0), some (.inl x1), some (.inl x2), some (.inl x3), some (.inl x4)] [.inl (((v1 * 1024) + (x3 * 32)) + x4)] h
  obtain rfl := Option.some.inj hm
  exact hret 18 _ dc_M_five_18
def mm_M_wordOf : ia_M := (⟨"IceStreetModel", "wordOf", "(I)I"⟩, prog_14_method_10_code, 1, (some .int), 12, false)
theorem ok_M_wordOf : ia_mok mm_M_wordOf := ⟨by decide +kernel, by decide +kernel, by decide +kernel, by decide +kernel⟩
theorem mk_M_wordOf : ia_mkn mm_M_wordOf 0 1 := ⟨ia_tb_in (List.mem_of_getElem? (i := 1759) (by decide +kernel)) rfl, ia_tb_in (List.mem_of_getElem? (i := 146) (by decide +kernel)) rfl, by decide +kernel, by decide +kernel, ia_tb_in (List.mem_of_getElem? (i := 1758) (by decide +kernel)) rfl⟩
theorem ck_M_wordOf_0 : ia_cks 12 1 false prog_14_method_10_code 0 [(.iload_n 0, 0, 0, 0, 0), (.iconst 0, 0, 0, 0, 0), (.bipush 19, 0, 0, 0, 0), (.bipush 9, 0, 0, 0, 0), (.bipush 26, 0, 0, 0, 0), (.iconst 5, 0, 0, 0, 0)] = true := by decide +kernel
theorem ck_M_wordOf_12 : ia_cks 12 1 false prog_14_method_10_code 12 [(.if_icmp .ne 5, 0, 0, 0, 0)] = true := by decide +kernel
theorem ck_M_wordOf_17 : ia_cks 12 1 false prog_14_method_10_code 17 [(.iload_n 0, 0, 0, 0, 0), (.iconst 1, 0, 0, 0, 0), (.bipush 12, 0, 0, 0, 0), (.bipush 12, 0, 0, 0, 0)] = true := by decide +kernel
theorem ck_M_wordOf_26 : ia_cks 12 1 false prog_14_method_10_code 26 [(.if_icmp .ne 5, 0, 0, 0, 0)] = true := by decide +kernel
theorem ck_M_wordOf_31 : ia_cks 12 1 false prog_14_method_10_code 31 [(.iload_n 0, 0, 0, 0, 0), (.bipush 9, 0, 0, 0, 0), (.iconst 3, 0, 0, 0, 0), (.iconst 5, 0, 0, 0, 0)] = true := by decide +kernel
theorem ck_M_wordOf_39 : ia_cks 12 1 false prog_14_method_10_code 39 [(.if_icmp .ne 5, 0, 0, 0, 0)] = true := by decide +kernel
theorem ck_M_wordOf_44 : ia_cks 12 1 false prog_14_method_10_code 44 [(.iload_n 0, 0, 0, 0, 0), (.iconst 0, 0, 0, 0, 0), (.bipush 19, 0, 0, 0, 0), (.bipush 14, 0, 0, 0, 0), (.bipush 15, 0, 0, 0, 0), (.bipush 23, 0, 0, 0, 0)] = true := by decide +kernel
theorem ck_M_wordOf_57 : ia_cks 12 1 false prog_14_method_10_code 57 [(.if_icmp .ne 5, 0, 0, 0, 0)] = true := by decide +kernel
theorem ck_M_wordOf_62 : ia_cks 12 1 false prog_14_method_10_code 62 [(.iload_n 0, 0, 0, 0, 0), (.iconst 0, 0, 0, 0, 0), (.bipush 23, 0, 0, 0, 0), (.iconst 5, 0, 0, 0, 0), (.iconst 1, 0, 0, 0, 0), (.bipush 11, 0, 0, 0, 0)] = true := by decide +kernel
theorem ck_M_wordOf_73 : ia_cks 12 1 false prog_14_method_10_code 73 [(.if_icmp .ne 5, 0, 0, 0, 0)] = true := by decide +kernel
theorem ck_M_wordOf_78 : ia_cks 12 1 false prog_14_method_10_code 78 [(.iload_n 0, 0, 0, 0, 0), (.iconst 3, 0, 0, 0, 0), (.bipush 18, 0, 0, 0, 0), (.iconst 1, 0, 0, 0, 0), (.iconst 3, 0, 0, 0, 0), (.bipush 11, 0, 0, 0, 0)] = true := by decide +kernel
theorem ck_M_wordOf_89 : ia_cks 12 1 false prog_14_method_10_code 89 [(.if_icmp .ne 6, 0, 0, 0, 0)] = true := by decide +kernel
theorem ck_M_wordOf_95 : ia_cks 12 1 false prog_14_method_10_code 95 [(.iload_n 0, 0, 0, 0, 0), (.bipush 6, 0, 0, 0, 0), (.bipush 18, 0, 0, 0, 0), (.bipush 15, 0, 0, 0, 0), (.bipush 19, 0, 0, 0, 0), (.bipush 20, 0, 0, 0, 0)] = true := by decide +kernel
theorem ck_M_wordOf_109 : ia_cks 12 1 false prog_14_method_10_code 109 [(.if_icmp .ne 6, 0, 0, 0, 0)] = true := by decide +kernel
theorem ck_M_wordOf_115 : ia_cks 12 1 false prog_14_method_10_code 115 [(.iload_n 0, 0, 0, 0, 0), (.iconst 0, 0, 0, 0, 0), (.iconst 2, 0, 0, 0, 0), (.iconst 5, 0, 0, 0, 0), (.iconst 1, 0, 0, 0, 0), (.bipush 18, 0, 0, 0, 0)] = true := by decide +kernel
theorem ck_M_wordOf_125 : ia_cks 12 1 false prog_14_method_10_code 125 [(.if_icmp .ne 6, 0, 0, 0, 0)] = true := by decide +kernel
theorem ck_M_wordOf_131 : ia_cks 12 1 false prog_14_method_10_code 131 [(.iload_n 0, 0, 0, 0, 0), (.bipush 19, 0, 0, 0, 0), (.bipush 8, 0, 0, 0, 0), (.bipush 15, 0, 0, 0, 0), (.bipush 18, 0, 0, 0, 0), (.iconst 5, 0, 0, 0, 0)] = true := by decide +kernel
theorem ck_M_wordOf_144 : ia_cks 12 1 false prog_14_method_10_code 144 [(.if_icmp .ne 6, 0, 0, 0, 0)] = true := by decide +kernel
theorem ck_M_wordOf_150 : ia_cks 12 1 false prog_14_method_10_code 150 [(.iload_n 0, 0, 0, 0, 0), (.iconst 0, 0, 0, 0, 0), (.bipush 19, 0, 0, 0, 0), (.bipush 8, 0, 0, 0, 0), (.bipush 15, 0, 0, 0, 0), (.bipush 16, 0, 0, 0, 0)] = true := by decide +kernel
theorem ck_M_wordOf_163 : ia_cks 12 1 false prog_14_method_10_code 163 [(.if_icmp .ne 6, 0, 0, 0, 0)] = true := by decide +kernel
theorem ck_M_wordOf_169 : ia_cks 12 1 false prog_14_method_10_code 169 [(.iload_n 0, 0, 0, 0, 0), (.bipush 12, 0, 0, 0, 0), (.iconst 5, 0, 0, 0, 0), (.iconst 1, 0, 0, 0, 0), (.bipush 19, 0, 0, 0, 0), (.bipush 20, 0, 0, 0, 0)] = true := by decide +kernel
theorem ck_M_wordOf_181 : ia_cks 12 1 false prog_14_method_10_code 181 [(.if_icmp .ne 6, 0, 0, 0, 0)] = true := by decide +kernel
theorem ck_M_wordOf_187 : ia_cks 12 1 false prog_14_method_10_code 187 [(.iload_n 0, 0, 0, 0, 0), (.iconst 1, 0, 0, 0, 0), (.bipush 16, 0, 0, 0, 0), (.iconst 1, 0, 0, 0, 0), (.bipush 18, 0, 0, 0, 0), (.bipush 20, 0, 0, 0, 0)] = true := by decide +kernel
theorem ck_M_wordOf_199 : ia_cks 12 1 false prog_14_method_10_code 199 [(.if_icmp .ne 6, 0, 0, 0, 0)] = true := by decide +kernel
theorem ck_M_wordOf_205 : ia_cks 12 1 false prog_14_method_10_code 205 [(.iload_n 0, 0, 0, 0, 0), (.bipush 19, 0, 0, 0, 0), (.bipush 8, 0, 0, 0, 0), (.iconst 1, 0, 0, 0, 0), (.bipush 18, 0, 0, 0, 0), (.iconst 5, 0, 0, 0, 0)] = true := by decide +kernel
theorem ck_M_wordOf_217 : ia_cks 12 1 false prog_14_method_10_code 217 [(.if_icmp .ne 6, 0, 0, 0, 0)] = true := by decide +kernel
theorem ck_M_wordOf_223 : ia_cks 12 1 false prog_14_method_10_code 223 [(.iload_n 0, 0, 0, 0, 0), (.iconst 0, 0, 0, 0, 0), (.bipush 18, 0, 0, 0, 0), (.iconst 5, 0, 0, 0, 0), (.bipush 14, 0, 0, 0, 0), (.bipush 20, 0, 0, 0, 0)] = true := by decide +kernel
theorem ck_M_wordOf_235 : ia_cks 12 1 false prog_14_method_10_code 235 [(.if_icmp .ne 6, 0, 0, 0, 0)] = true := by decide +kernel
theorem ck_M_wordOf_241 : ia_cks 12 1 false prog_14_method_10_code 241 [(.iload_n 0, 0, 0, 0, 0), (.iconst 0, 0, 0, 0, 0), (.bipush 12, 0, 0, 0, 0), (.iconst 1, 0, 0, 0, 0), (.bipush 14, 0, 0, 0, 0), (.iconst 5, 0, 0, 0, 0)] = true := by decide +kernel
theorem ck_M_wordOf_252 : ia_cks 12 1 false prog_14_method_10_code 252 [(.if_icmp .ne 6, 0, 0, 0, 0)] = true := by decide +kernel
theorem ck_M_wordOf_258 : ia_cks 12 1 false prog_14_method_10_code 258 [(.iload_n 0, 0, 0, 0, 0), (.iconst 2, 0, 0, 0, 0), (.iconst 1, 0, 0, 0, 0), (.bipush 18, 0, 0, 0, 0)] = true := by decide +kernel
theorem ck_M_wordOf_266 : ia_cks 12 1 false prog_14_method_10_code 266 [(.if_icmp .ne 6, 0, 0, 0, 0)] = true := by decide +kernel
theorem ck_M_wordOf_272 : ia_cks 12 1 false prog_14_method_10_code 272 [(.iload_n 0, 0, 0, 0, 0), (.iconst 4, 0, 0, 0, 0), (.iconst 1, 0, 0, 0, 0), (.bipush 25, 0, 0, 0, 0)] = true := by decide +kernel
theorem ck_M_wordOf_280 : ia_cks 12 1 false prog_14_method_10_code 280 [(.if_icmp .ne 6, 0, 0, 0, 0)] = true := by decide +kernel
theorem ck_M_wordOf_286 : ia_cks 12 1 false prog_14_method_10_code 286 [(.iload_n 0, 0, 0, 0, 0), (.iconst 0, 0, 0, 0, 0), (.bipush 13, 0, 0, 0, 0), (.bipush 15, 0, 0, 0, 0), (.bipush 22, 0, 0, 0, 0), (.iconst 5, 0, 0, 0, 0)] = true := by decide +kernel
theorem ck_M_wordOf_298 : ia_cks 12 1 false prog_14_method_10_code 298 [(.if_icmp .ne 6, 0, 0, 0, 0)] = true := by decide +kernel
theorem ck_M_wordOf_304 : ia_cks 12 1 false prog_14_method_10_code 304 [(.iload_n 0, 0, 0, 0, 0), (.bipush 15, 0, 0, 0, 0), (.bipush 6, 0, 0, 0, 0), (.bipush 6, 0, 0, 0, 0)] = true := by decide +kernel
theorem ck_M_wordOf_314 : ia_cks 12 1 false prog_14_method_10_code 314 [(.if_icmp .ne 6, 0, 0, 0, 0)] = true := by decide +kernel
theorem ck_M_wordOf_320 : ia_cks 12 1 false prog_14_method_10_code 320 [(.iload_n 0, 0, 0, 0, 0), (.iconst 0, 0, 0, 0, 0), (.bipush 7, 0, 0, 0, 0), (.bipush 15, 0, 0, 0, 0)] = true := by decide +kernel
theorem ck_M_wordOf_329 : ia_cks 12 1 false prog_14_method_10_code 329 [(.if_icmp .ne 6, 0, 0, 0, 0)] = true := by decide +kernel
theorem ck_M_wordOf_335 : ia_cks 12 1 false prog_14_method_10_code 335 [(.iload_n 0, 0, 0, 0, 0), (.bipush 19, 0, 0, 0, 0), (.bipush 23, 0, 0, 0, 0), (.iconst 5, 0, 0, 0, 0), (.iconst 5, 0, 0, 0, 0), (.bipush 16, 0, 0, 0, 0)] = true := by decide +kernel
theorem ck_M_wordOf_347 : ia_cks 12 1 false prog_14_method_10_code 347 [(.if_icmp .ne 8, 0, 0, 0, 0)] = true := by decide +kernel
theorem ck_M_wordOf_355 : ia_cks 12 1 false prog_14_method_10_code 355 [(.bipush 99, 0, 0, 0, 0)] = true := by decide +kernel
theorem ck_M_wordOf_350 : ia_cks 12 1 false prog_14_method_10_code 350 [(.bipush 21, 0, 0, 0, 0), (.goto 5, 0, 0, 0, 0)] = true := by decide +kernel
theorem ck_M_wordOf_332 : ia_cks 12 1 false prog_14_method_10_code 332 [(.bipush 20, 0, 0, 0, 0)] = true := by decide +kernel
theorem ck_M_wordOf_317 : ia_cks 12 1 false prog_14_method_10_code 317 [(.bipush 19, 0, 0, 0, 0)] = true := by decide +kernel
theorem ck_M_wordOf_301 : ia_cks 12 1 false prog_14_method_10_code 301 [(.bipush 18, 0, 0, 0, 0)] = true := by decide +kernel
theorem ck_M_wordOf_283 : ia_cks 12 1 false prog_14_method_10_code 283 [(.bipush 17, 0, 0, 0, 0)] = true := by decide +kernel
theorem ck_M_wordOf_269 : ia_cks 12 1 false prog_14_method_10_code 269 [(.bipush 16, 0, 0, 0, 0)] = true := by decide +kernel
theorem ck_M_wordOf_255 : ia_cks 12 1 false prog_14_method_10_code 255 [(.bipush 15, 0, 0, 0, 0)] = true := by decide +kernel
theorem ck_M_wordOf_238 : ia_cks 12 1 false prog_14_method_10_code 238 [(.bipush 14, 0, 0, 0, 0)] = true := by decide +kernel
theorem ck_M_wordOf_220 : ia_cks 12 1 false prog_14_method_10_code 220 [(.bipush 13, 0, 0, 0, 0)] = true := by decide +kernel
theorem ck_M_wordOf_202 : ia_cks 12 1 false prog_14_method_10_code 202 [(.bipush 12, 0, 0, 0, 0)] = true := by decide +kernel
theorem ck_M_wordOf_184 : ia_cks 12 1 false prog_14_method_10_code 184 [(.bipush 11, 0, 0, 0, 0)] = true := by decide +kernel
theorem ck_M_wordOf_166 : ia_cks 12 1 false prog_14_method_10_code 166 [(.bipush 10, 0, 0, 0, 0)] = true := by decide +kernel
theorem ck_M_wordOf_147 : ia_cks 12 1 false prog_14_method_10_code 147 [(.bipush 9, 0, 0, 0, 0)] = true := by decide +kernel
theorem ck_M_wordOf_128 : ia_cks 12 1 false prog_14_method_10_code 128 [(.bipush 8, 0, 0, 0, 0)] = true := by decide +kernel
theorem ck_M_wordOf_112 : ia_cks 12 1 false prog_14_method_10_code 112 [(.bipush 7, 0, 0, 0, 0)] = true := by decide +kernel
theorem ck_M_wordOf_92 : ia_cks 12 1 false prog_14_method_10_code 92 [(.bipush 6, 0, 0, 0, 0)] = true := by decide +kernel
theorem ck_M_wordOf_76 : ia_cks 12 1 false prog_14_method_10_code 76 [(.iconst 5, 0, 0, 0, 0)] = true := by decide +kernel
theorem ck_M_wordOf_60 : ia_cks 12 1 false prog_14_method_10_code 60 [(.iconst 4, 0, 0, 0, 0)] = true := by decide +kernel
theorem ck_M_wordOf_42 : ia_cks 12 1 false prog_14_method_10_code 42 [(.iconst 3, 0, 0, 0, 0)] = true := by decide +kernel
theorem ck_M_wordOf_29 : ia_cks 12 1 false prog_14_method_10_code 29 [(.iconst 2, 0, 0, 0, 0)] = true := by decide +kernel
theorem ck_M_wordOf_15 : ia_cks 12 1 false prog_14_method_10_code 15 [(.iconst 1, 0, 0, 0, 0)] = true := by decide +kernel
theorem dc_M_wordOf_9 : decode prog_14_method_10_code 9 = .ok (.invokestatic 76, 3) := by decide +kernel
theorem dc_M_wordOf_23 : decode prog_14_method_10_code 23 = .ok (.invokestatic 72, 3) := by decide +kernel
theorem dc_M_wordOf_36 : decode prog_14_method_10_code 36 = .ok (.invokestatic 72, 3) := by decide +kernel
theorem dc_M_wordOf_54 : decode prog_14_method_10_code 54 = .ok (.invokestatic 76, 3) := by decide +kernel
theorem dc_M_wordOf_70 : decode prog_14_method_10_code 70 = .ok (.invokestatic 76, 3) := by decide +kernel
theorem dc_M_wordOf_86 : decode prog_14_method_10_code 86 = .ok (.invokestatic 76, 3) := by decide +kernel
theorem dc_M_wordOf_106 : decode prog_14_method_10_code 106 = .ok (.invokestatic 76, 3) := by decide +kernel
theorem dc_M_wordOf_122 : decode prog_14_method_10_code 122 = .ok (.invokestatic 76, 3) := by decide +kernel
theorem dc_M_wordOf_141 : decode prog_14_method_10_code 141 = .ok (.invokestatic 76, 3) := by decide +kernel
theorem dc_M_wordOf_160 : decode prog_14_method_10_code 160 = .ok (.invokestatic 76, 3) := by decide +kernel
theorem dc_M_wordOf_178 : decode prog_14_method_10_code 178 = .ok (.invokestatic 76, 3) := by decide +kernel
theorem dc_M_wordOf_196 : decode prog_14_method_10_code 196 = .ok (.invokestatic 76, 3) := by decide +kernel
theorem dc_M_wordOf_214 : decode prog_14_method_10_code 214 = .ok (.invokestatic 76, 3) := by decide +kernel
theorem dc_M_wordOf_232 : decode prog_14_method_10_code 232 = .ok (.invokestatic 76, 3) := by decide +kernel
theorem dc_M_wordOf_249 : decode prog_14_method_10_code 249 = .ok (.invokestatic 76, 3) := by decide +kernel
theorem dc_M_wordOf_263 : decode prog_14_method_10_code 263 = .ok (.invokestatic 72, 3) := by decide +kernel
theorem dc_M_wordOf_277 : decode prog_14_method_10_code 277 = .ok (.invokestatic 72, 3) := by decide +kernel
theorem dc_M_wordOf_295 : decode prog_14_method_10_code 295 = .ok (.invokestatic 76, 3) := by decide +kernel
theorem dc_M_wordOf_311 : decode prog_14_method_10_code 311 = .ok (.invokestatic 72, 3) := by decide +kernel
theorem dc_M_wordOf_326 : decode prog_14_method_10_code 326 = .ok (.invokestatic 72, 3) := by decide +kernel
theorem dc_M_wordOf_344 : decode prog_14_method_10_code 344 = .ok (.invokestatic 76, 3) := by decide +kernel
theorem dc_M_wordOf_357 : decode prog_14_method_10_code 357 = .ok (.ireturn, 1) := by decide +kernel
theorem dc_M_wordOf_334 : decode prog_14_method_10_code 334 = .ok (.ireturn, 1) := by decide +kernel
theorem dc_M_wordOf_319 : decode prog_14_method_10_code 319 = .ok (.ireturn, 1) := by decide +kernel
theorem dc_M_wordOf_303 : decode prog_14_method_10_code 303 = .ok (.ireturn, 1) := by decide +kernel
theorem dc_M_wordOf_285 : decode prog_14_method_10_code 285 = .ok (.ireturn, 1) := by decide +kernel
theorem dc_M_wordOf_271 : decode prog_14_method_10_code 271 = .ok (.ireturn, 1) := by decide +kernel
theorem dc_M_wordOf_257 : decode prog_14_method_10_code 257 = .ok (.ireturn, 1) := by decide +kernel
theorem dc_M_wordOf_240 : decode prog_14_method_10_code 240 = .ok (.ireturn, 1) := by decide +kernel
theorem dc_M_wordOf_222 : decode prog_14_method_10_code 222 = .ok (.ireturn, 1) := by decide +kernel
theorem dc_M_wordOf_204 : decode prog_14_method_10_code 204 = .ok (.ireturn, 1) := by decide +kernel
theorem dc_M_wordOf_186 : decode prog_14_method_10_code 186 = .ok (.ireturn, 1) := by decide +kernel
theorem dc_M_wordOf_168 : decode prog_14_method_10_code 168 = .ok (.ireturn, 1) := by decide +kernel
theorem dc_M_wordOf_149 : decode prog_14_method_10_code 149 = .ok (.ireturn, 1) := by decide +kernel
theorem dc_M_wordOf_130 : decode prog_14_method_10_code 130 = .ok (.ireturn, 1) := by decide +kernel
theorem dc_M_wordOf_114 : decode prog_14_method_10_code 114 = .ok (.ireturn, 1) := by decide +kernel
theorem dc_M_wordOf_94 : decode prog_14_method_10_code 94 = .ok (.ireturn, 1) := by decide +kernel
theorem dc_M_wordOf_77 : decode prog_14_method_10_code 77 = .ok (.ireturn, 1) := by decide +kernel
theorem dc_M_wordOf_61 : decode prog_14_method_10_code 61 = .ok (.ireturn, 1) := by decide +kernel
theorem dc_M_wordOf_43 : decode prog_14_method_10_code 43 = .ok (.ireturn, 1) := by decide +kernel
theorem dc_M_wordOf_30 : decode prog_14_method_10_code 30 = .ok (.ireturn, 1) := by decide +kernel
theorem dc_M_wordOf_16 : decode prog_14_method_10_code 16 = .ok (.ireturn, 1) := by decide +kernel
def f_M_wordOf (x0 : Int32) (h : ia_H) : Option Int32 := (f_M_five 0 19 9 26 5 h).bind fun v1 => (if x0 = v1 then (some 1) else ((f_M_three 1 12 12 h).bind fun v2 => (if x0 = v2 then (some 2) else ((f_M_three 9 3 5 h).bind fun v3 => (if x0 = v3 then (some 3) else ((f_M_five 0 19 14 15 23 h).bind fun v4 => (if x0 = v4 then (some 4) else ((f_M_five 0 23 5 1 11 h).bind fun v5 => (if x0 = v5 then (some 5) else ((f_M_five 3 18 1 3 11 h).bind fun v6 => (if x0 = v6 then (some 6) else ((f_M_five 6 18 15 19 20 h).bind fun v7 => (if x0 = v7 then (some 7) else ((f_M_five 0 2 5 1 18 h).bind fun v8 => (if x0 = v8 then (some 8) else ((f_M_five 19 8 15 18 5 h).bind fun v9 => (if x0 = v9 then (some 9) else ((f_M_five 0 19 8 15 16 h).bind fun v10 => (if x0 = v10 then (some 10) else ((f_M_five 12 5 1 19 20 h).bind fun v11 => (if x0 = v11 then (some 11) else ((f_M_five 1 16 1 18 20 h).bind fun v12 => (if x0 = v12 then (some 12) else ((f_M_five 19 8 1 18 5 h).bind fun v13 => (if x0 = v13 then (some 13) else ((f_M_five 0 18 5 14 20 h).bind fun v14 => (if x0 = v14 then (some 14) else ((f_M_five 0 12 1 14 5 h).bind fun v15 => (if x0 = v15 then (some 15) else ((f_M_three 2 1 18 h).bind fun v16 => (if x0 = v16 then (some 16) else ((f_M_three 4 1 25 h).bind fun v17 => (if x0 = v17 then (some 17) else ((f_M_five 0 13 15 22 5 h).bind fun v18 => (if x0 = v18 then (some 18) else ((f_M_three 15 6 6 h).bind fun v19 => (if x0 = v19 then (some 19) else ((f_M_three 0 7 15 h).bind fun v20 => (if x0 = v20 then (some 20) else ((f_M_five 19 23 5 5 16 h).bind fun v21 => (if x0 = v21 then (some 21) else (some 99))))))))))))))))))))))))))))))))))))))))))
theorem t_M_wordOf {w : ia_O0} (d : Nat) {x0 : Int32} {h : ia_H} (hg : gd_ w h) {r : Int32} (hm : f_M_wordOf x0 h = some r) : ia_Ev (d + 2) mm_M_wordOf [.inl x0] h (some (.inl r)) h := by
  refine ia_Ev_intro ok_M_wordOf (Nat.le_refl _) (Nat.le_refl _) (Nat.le_of_ble_eq_true rfl) (fun K hK hret => ?_)
  show K 0 [some (.inl x0)] [] h
  unfold f_M_wordOf at hm
  refine ia_go hK ck_M_wordOf_0 ?_
  show K 9 [some (.inl x0)] [.inl 5, .inl 26, .inl 9, .inl 19, .inl 0, .inl x0] h
  obtain ⟨v1, hv1, hm⟩ := ia_bnd hm
  have ev1 := t_M_five (d + 0) hg hv1
  refine ia_cS hK mk_M_five lk_12_76 dc_M_wordOf_9 [.inl 0, .inl 19, .inl 9, .inl 26, .inl 5] [.inl x0] rfl rfl (Nat.le_of_ble_eq_true rfl) ev1 ⟨rfl, rfl⟩ ?_
  show K 12 [some (.inl x0)] [.inl v1, .inl x0] h
  refine ia_go hK ck_M_wordOf_12 ⟨fun c => ?_, fun c => ?_⟩
  · replace hm := ia_ifn hm c
    show K 17 [some (.inl x0)] [] h
    refine ia_go hK ck_M_wordOf_17 ?_
    show K 23 [some (.inl x0)] [.inl 12, .inl 12, .inl 1, .inl x0] h
    obtain ⟨v2, hv2, hm⟩ := ia_bnd hm
    have ev2 := t_M_three (d + 1) hg hv2
    refine ia_cS hK mk_M_three lk_12_72 dc_M_wordOf_23 [.inl 1, .inl 12, .inl 12] [.inl x0] rfl rfl (Nat.le_of_ble_eq_true rfl) ev2 ⟨rfl, rfl⟩ ?_
    show K 26 [some (.inl x0)] [.inl v2, .inl x0] h
    refine ia_go hK ck_M_wordOf_26 ⟨fun c => ?_, fun c => ?_⟩
    · replace hm := ia_ifn hm c
      show K 31 [some (.inl x0)] [] h
      refine ia_go hK ck_M_wordOf_31 ?_
      show K 36 [some (.inl x0)] [.inl 5, .inl 3, .inl 9, .inl x0] h
      obtain ⟨v3, hv3, hm⟩ := ia_bnd hm
      have ev3 := t_M_three (d + 1) hg hv3
      refine ia_cS hK mk_M_three lk_12_72 dc_M_wordOf_36 [.inl 9, .inl 3, .inl 5] [.inl x0] rfl rfl (Nat.le_of_ble_eq_true rfl) ev3 ⟨rfl, rfl⟩ ?_
      show K 39 [some (.inl x0)] [.inl v3, .inl x0] h
      refine ia_go hK ck_M_wordOf_39 ⟨fun c => ?_, fun c => ?_⟩
      · replace hm := ia_ifn hm c
        show K 44 [some (.inl x0)] [] h
        refine ia_go hK ck_M_wordOf_44 ?_
        show K 54 [some (.inl x0)] [.inl 23, .inl 15, .inl 14, .inl 19, .inl 0, .inl x0] h
        obtain ⟨v4, hv4, hm⟩ := ia_bnd hm
        have ev4 := t_M_five (d + 0) hg hv4
        refine ia_cS hK mk_M_five lk_12_76 dc_M_wordOf_54 [.inl 0, .inl 19, .inl 14, .inl 15, .inl 23] [.inl x0] rfl rfl (Nat.le_of_ble_eq_true rfl) ev4 ⟨rfl, rfl⟩ ?_
        show K 57 [some (.inl x0)] [.inl v4, .inl x0] h
        refine ia_go hK ck_M_wordOf_57 ⟨fun c => ?_, fun c => ?_⟩
        · replace hm := ia_ifn hm c
          show K 62 [some (.inl x0)] [] h
          refine ia_go hK ck_M_wordOf_62 ?_
          show K 70 [some (.inl x0)] [.inl 11, .inl 1, .inl 5, .inl 23, .inl 0, .inl x0] h
          obtain ⟨v5, hv5, hm⟩ := ia_bnd hm
          have ev5 := t_M_five (d + 0) hg hv5
          refine ia_cS hK mk_M_five lk_12_76 dc_M_wordOf_70 [.inl 0, .inl 23, .inl 5, .inl 1, .inl 11] [.inl x0] rfl rfl (Nat.le_of_ble_eq_true rfl) ev5 ⟨rfl, rfl⟩ ?_
          show K 73 [some (.inl x0)] [.inl v5, .inl x0] h
          refine ia_go hK ck_M_wordOf_73 ⟨fun c => ?_, fun c => ?_⟩
          · replace hm := ia_ifn hm c
            show K 78 [some (.inl x0)] [] h
            refine ia_go hK ck_M_wordOf_78 ?_
            show K 86 [some (.inl x0)] [.inl 11, .inl 3, .inl 1, .inl 18, .inl 3, .inl x0] h
            obtain ⟨v6, hv6, hm⟩ := ia_bnd hm
            have ev6 := t_M_five (d + 0) hg hv6
            refine ia_cS hK mk_M_five lk_12_76 dc_M_wordOf_86 [.inl 3, .inl 18, .inl 1, .inl 3, .inl 11] [.inl x0] rfl rfl (Nat.le_of_ble_eq_true rfl) ev6 ⟨rfl, rfl⟩ ?_
            show K 89 [some (.inl x0)] [.inl v6, .inl x0] h
            refine ia_go hK ck_M_wordOf_89 ⟨fun c => ?_, fun c => ?_⟩
            · replace hm := ia_ifn hm c
              show K 95 [some (.inl x0)] [] h
              refine ia_go hK ck_M_wordOf_95 ?_
              show K 106 [some (.inl x0)] [.inl 20, .inl 19, .inl 15, .inl 18, .inl 6, .inl x0] h
              obtain ⟨v7, hv7, hm⟩ := ia_bnd hm
              have ev7 := t_M_five (d + 0) hg hv7
              refine ia_cS hK mk_M_five lk_12_76 dc_M_wordOf_106 [.inl 6, .inl 18, .inl 15, .inl 19, .inl 20] [.inl x0] rfl rfl (Nat.le_of_ble_eq_true rfl) ev7 ⟨rfl, rfl⟩ ?_
              show K 109 [some (.inl x0)] [.inl v7, .inl x0] h
              refine ia_go hK ck_M_wordOf_109 ⟨fun c => ?_, fun c => ?_⟩
              · replace hm := ia_ifn hm c
                show K 115 [some (.inl x0)] [] h
                refine ia_go hK ck_M_wordOf_115 ?_
                show K 122 [some (.inl x0)] [.inl 18, .inl 1, .inl 5, .inl 2, .inl 0, .inl x0] h
                obtain ⟨v8, hv8, hm⟩ := ia_bnd hm
                have ev8 := t_M_five (d + 0) hg hv8
                refine ia_cS hK mk_M_five lk_12_76 dc_M_wordOf_122 [.inl 0, .inl 2, .inl 5, .inl 1, .inl 18] [.inl x0] rfl rfl (Nat.le_of_ble_eq_true rfl) ev8 ⟨rfl, rfl⟩ ?_
                show K 125 [some (.inl x0)] [.inl v8, .inl x0] h
                refine ia_go hK ck_M_wordOf_125 ⟨fun c => ?_, fun c => ?_⟩
                · replace hm := ia_ifn hm c
                  show K 131 [some (.inl x0)] [] h
                  refine ia_go hK ck_M_wordOf_131 ?_
                  show K 141 [some (.inl x0)] [.inl 5, .inl 18, .inl 15, .inl 8, .inl 19, .inl x0] h
                  obtain ⟨v9, hv9, hm⟩ := ia_bnd hm
                  have ev9 := t_M_five (d + 0) hg hv9
                  refine ia_cS hK mk_M_five lk_12_76 dc_M_wordOf_141 [.inl 19, .inl 8, .inl 15, .inl 18, .inl 5] [.inl x0] rfl rfl (Nat.le_of_ble_eq_true rfl) ev9 ⟨rfl, rfl⟩ ?_
                  show K 144 [some (.inl x0)] [.inl v9, .inl x0] h
                  refine ia_go hK ck_M_wordOf_144 ⟨fun c => ?_, fun c => ?_⟩
                  · replace hm := ia_ifn hm c
                    show K 150 [some (.inl x0)] [] h
                    refine ia_go hK ck_M_wordOf_150 ?_
                    show K 160 [some (.inl x0)] [.inl 16, .inl 15, .inl 8, .inl 19, .inl 0, .inl x0] h
                    obtain ⟨v10, hv10, hm⟩ := ia_bnd hm
                    have ev10 := t_M_five (d + 0) hg hv10
                    refine ia_cS hK mk_M_five lk_12_76 dc_M_wordOf_160 [.inl 0, .inl 19, .inl 8, .inl 15, .inl 16] [.inl x0] rfl rfl (Nat.le_of_ble_eq_true rfl) ev10 ⟨rfl, rfl⟩ ?_
                    show K 163 [some (.inl x0)] [.inl v10, .inl x0] h
                    refine ia_go hK ck_M_wordOf_163 ⟨fun c => ?_, fun c => ?_⟩
                    · replace hm := ia_ifn hm c
                      show K 169 [some (.inl x0)] [] h
                      refine ia_go hK ck_M_wordOf_169 ?_
                      show K 178 [some (.inl x0)] [.inl 20, .inl 19, .inl 1, .inl 5, .inl 12, .inl x0] h
                      obtain ⟨v11, hv11, hm⟩ := ia_bnd hm
                      have ev11 := t_M_five (d + 0) hg hv11
                      refine ia_cS hK mk_M_five lk_12_76 dc_M_wordOf_178 [.inl 12, .inl 5, .inl 1, .inl 19, .inl 20] [.inl x0] rfl rfl (Nat.le_of_ble_eq_true rfl) ev11 ⟨rfl, rfl⟩ ?_
                      show K 181 [some (.inl x0)] [.inl v11, .inl x0] h
                      refine ia_go hK ck_M_wordOf_181 ⟨fun c => ?_, fun c => ?_⟩
                      · replace hm := ia_ifn hm c
                        show K 187 [some (.inl x0)] [] h
                        refine ia_go hK ck_M_wordOf_187 ?_
                        show K 196 [some (.inl x0)] [.inl 20, .inl 18, .inl 1, .inl 16, .inl 1, .inl x0] h
                        obtain ⟨v12, hv12, hm⟩ := ia_bnd hm
                        have ev12 := t_M_five (d + 0) hg hv12
                        refine ia_cS hK mk_M_five lk_12_76 dc_M_wordOf_196 [.inl 1, .inl 16, .inl 1, .inl 18, .inl 20] [.inl x0] rfl rfl (Nat.le_of_ble_eq_true rfl) ev12 ⟨rfl, rfl⟩ ?_
                        show K 199 [some (.inl x0)] [.inl v12, .inl x0] h
                        refine ia_go hK ck_M_wordOf_199 ⟨fun c => ?_, fun c => ?_⟩
                        · replace hm := ia_ifn hm c
                          show K 205 [some (.inl x0)] [] h
                          refine ia_go hK ck_M_wordOf_205 ?_
                          show K 214 [some (.inl x0)] [.inl 5, .inl 18, .inl 1, .inl 8, .inl 19, .inl x0] h
                          obtain ⟨v13, hv13, hm⟩ := ia_bnd hm
                          have ev13 := t_M_five (d + 0) hg hv13
                          refine ia_cS hK mk_M_five lk_12_76 dc_M_wordOf_214 [.inl 19, .inl 8, .inl 1, .inl 18, .inl 5] [.inl x0] rfl rfl (Nat.le_of_ble_eq_true rfl) ev13 ⟨rfl, rfl⟩ ?_
                          show K 217 [some (.inl x0)] [.inl v13, .inl x0] h
                          refine ia_go hK ck_M_wordOf_217 ⟨fun c => ?_, fun c => ?_⟩
                          · replace hm := ia_ifn hm c
                            show K 223 [some (.inl x0)] [] h
                            refine ia_go hK ck_M_wordOf_223 ?_
                            show K 232 [some (.inl x0)] [.inl 20, .inl 14, .inl 5, .inl 18, .inl 0, .inl x0] h
                            obtain ⟨v14, hv14, hm⟩ := ia_bnd hm
                            have ev14 := t_M_five (d + 0) hg hv14
                            refine ia_cS hK mk_M_five lk_12_76 dc_M_wordOf_232 [.inl 0, .inl 18, .inl 5, .inl 14, .inl 20] [.inl x0] rfl rfl (Nat.le_of_ble_eq_true rfl) ev14 ⟨rfl, rfl⟩ ?_
                            show K 235 [some (.inl x0)] [.inl v14, .inl x0] h
                            refine ia_go hK ck_M_wordOf_235 ⟨fun c => ?_, fun c => ?_⟩
                            · replace hm := ia_ifn hm c
                              show K 241 [some (.inl x0)] [] h
                              refine ia_go hK ck_M_wordOf_241 ?_
                              show K 249 [some (.inl x0)] [.inl 5, .inl 14, .inl 1, .inl 12, .inl 0, .inl x0] h
                              obtain ⟨v15, hv15, hm⟩ := ia_bnd hm
                              have ev15 := t_M_five (d + 0) hg hv15
                              refine ia_cS hK mk_M_five lk_12_76 dc_M_wordOf_249 [.inl 0, .inl 12, .inl 1, .inl 14, .inl 5] [.inl x0] rfl rfl (Nat.le_of_ble_eq_true rfl) ev15 ⟨rfl, rfl⟩ ?_
                              show K 252 [some (.inl x0)] [.inl v15, .inl x0] h
                              refine ia_go hK ck_M_wordOf_252 ⟨fun c => ?_, fun c => ?_⟩
                              · replace hm := ia_ifn hm c
                                show K 258 [some (.inl x0)] [] h
                                refine ia_go hK ck_M_wordOf_258 ?_
                                show K 263 [some (.inl x0)] [.inl 18, .inl 1, .inl 2, .inl x0] h
                                obtain ⟨v16, hv16, hm⟩ := ia_bnd hm
                                have ev16 := t_M_three (d + 1) hg hv16
                                refine ia_cS hK mk_M_three lk_12_72 dc_M_wordOf_263 [.inl 2, .inl 1, .inl 18] [.inl x0] rfl rfl (Nat.le_of_ble_eq_true rfl) ev16 ⟨rfl, rfl⟩ ?_
                                show K 266 [some (.inl x0)] [.inl v16, .inl x0] h
                                refine ia_go hK ck_M_wordOf_266 ⟨fun c => ?_, fun c => ?_⟩
                                · replace hm := ia_ifn hm c
                                  show K 272 [some (.inl x0)] [] h
                                  refine ia_go hK ck_M_wordOf_272 ?_
                                  show K 277 [some (.inl x0)] [.inl 25, .inl 1, .inl 4, .inl x0] h
                                  obtain ⟨v17, hv17, hm⟩ := ia_bnd hm
                                  have ev17 := t_M_three (d + 1) hg hv17
                                  refine ia_cS hK mk_M_three lk_12_72 dc_M_wordOf_277 [.inl 4, .inl 1, .inl 25] [.inl x0] rfl rfl (Nat.le_of_ble_eq_true rfl) ev17 ⟨rfl, rfl⟩ ?_
                                  show K 280 [some (.inl x0)] [.inl v17, .inl x0] h
                                  refine ia_go hK ck_M_wordOf_280 ⟨fun c => ?_, fun c => ?_⟩
                                  · replace hm := ia_ifn hm c
                                    show K 286 [some (.inl x0)] [] h
                                    refine ia_go hK ck_M_wordOf_286 ?_
                                    show K 295 [some (.inl x0)] [.inl 5, .inl 22, .inl 15, .inl 13, .inl 0, .inl x0] h
                                    obtain ⟨v18, hv18, hm⟩ := ia_bnd hm
                                    have ev18 := t_M_five (d + 0) hg hv18
                                    refine ia_cS hK mk_M_five lk_12_76 dc_M_wordOf_295 [.inl 0, .inl 13, .inl 15, .inl 22, .inl 5] [.inl x0] rfl rfl (Nat.le_of_ble_eq_true rfl) ev18 ⟨rfl, rfl⟩ ?_
                                    show K 298 [some (.inl x0)] [.inl v18, .inl x0] h
                                    refine ia_go hK ck_M_wordOf_298 ⟨fun c => ?_, fun c => ?_⟩
                                    · replace hm := ia_ifn hm c
                                      show K 304 [some (.inl x0)] [] h
                                      refine ia_go hK ck_M_wordOf_304 ?_
                                      show K 311 [some (.inl x0)] [.inl 6, .inl 6, .inl 15, .inl x0] h
                                      obtain ⟨v19, hv19, hm⟩ := ia_bnd hm
                                      have ev19 := t_M_three (d + 1) hg hv19
                                      refine ia_cS hK mk_M_three lk_12_72 dc_M_wordOf_311 [.inl 15, .inl 6, .inl 6] [.inl x0] rfl rfl (Nat.le_of_ble_eq_true rfl) ev19 ⟨rfl, rfl⟩ ?_
                                      show K 314 [some (.inl x0)] [.inl v19, .inl x0] h
                                      refine ia_go hK ck_M_wordOf_314 ⟨fun c => ?_, fun c => ?_⟩
                                      · replace hm := ia_ifn hm c
                                        show K 320 [some (.inl x0)] [] h
                                        refine ia_go hK ck_M_wordOf_320 ?_
                                        show K 326 [some (.inl x0)] [.inl 15, .inl 7, .inl 0, .inl x0] h
                                        obtain ⟨v20, hv20, hm⟩ := ia_bnd hm
                                        have ev20 := t_M_three (d + 1) hg hv20
                                        refine ia_cS hK mk_M_three lk_12_72 dc_M_wordOf_326 [.inl 0, .inl 7, .inl 15] [.inl x0] rfl rfl (Nat.le_of_ble_eq_true rfl) ev20 ⟨rfl, rfl⟩ ?_
                                        show K 329 [some (.inl x0)] [.inl v20, .inl x0] h
                                        refine ia_go hK ck_M_wordOf_329 ⟨fun c => ?_, fun c => ?_⟩
                                        · replace hm := ia_ifn hm c
                                          show K 335 [some (.inl x0)] [] h
                                          refine ia_go hK ck_M_wordOf_335 ?_
                                          show K 344 [some (.inl x0)] [.inl 16, .inl 5, .inl 5, .inl 23, .inl 19, .inl x0] h
                                          obtain ⟨v21, hv21, hm⟩ := ia_bnd hm
                                          have ev21 := t_M_five (d + 0) hg hv21
                                          refine ia_cS hK mk_M_five lk_12_76 dc_M_wordOf_344 [.inl 19, .inl 23, .inl 5, .inl 5, .inl 16] [.inl x0] rfl rfl (Nat.le_of_ble_eq_true rfl) ev21 ⟨rfl, rfl⟩ ?_
                                          show K 347 [some (.inl x0)] [.inl v21, .inl x0] h
                                          refine ia_go hK ck_M_wordOf_347 ⟨fun c => ?_, fun c => ?_⟩
                                          · replace hm := ia_ifn hm c
                                            show K 355 [some (.inl x0)] [] h
                                            refine ia_go hK ck_M_wordOf_355 ?_
                                            show K 357 [some (.inl x0)] [.inl 99] h
                                            obtain rfl := Option.some.inj hm
                                            exact hret 357 _ dc_M_wordOf_357
                                          · replace hm := ia_ifp hm c
                                            show K 350 [some (.inl x0)] [] h
                                            refine ia_go hK ck_M_wordOf_350 ?_
                                            show K 357 [some (.inl x0)] [.inl 21] h
                                            obtain rfl := Option.some.inj hm
                                            exact hret 357 _ dc_M_wordOf_357
                                        · replace hm := ia_ifp hm c
                                          show K 332 [some (.inl x0)] [] h
                                          refine ia_go hK ck_M_wordOf_332 ?_
                                          show K 334 [some (.inl x0)] [.inl 20] h
                                          obtain rfl := Option.some.inj hm
                                          exact hret 334 _ dc_M_wordOf_334
                                      · replace hm := ia_ifp hm c
                                        show K 317 [some (.inl x0)] [] h
                                        refine ia_go hK ck_M_wordOf_317 ?_
                                        show K 319 [some (.inl x0)] [.inl 19] h
                                        obtain rfl := Option.some.inj hm
                                        exact hret 319 _ dc_M_wordOf_319
                                    · replace hm := ia_ifp hm c
                                      show K 301 [some (.inl x0)] [] h
                                      refine ia_go hK ck_M_wordOf_301 ?_
                                      show K 303 [some (.inl x0)] [.inl 18] h
                                      obtain rfl := Option.some.inj hm
                                      exact hret 303 _ dc_M_wordOf_303
                                  · replace hm := ia_ifp hm c
                                    show K 283 [some (.inl x0)] [] h
                                    refine ia_go hK ck_M_wordOf_283 ?_
                                    show K 285 [some (.inl x0)] [.inl 17] h
                                    obtain rfl := Option.some.inj hm
                                    exact hret 285 _ dc_M_wordOf_285
                                · replace hm := ia_ifp hm c
                                  show K 269 [some (.inl x0)] [] h
                                  refine ia_go hK ck_M_wordOf_269 ?_
                                  show K 271 [some (.inl x0)] [.inl 16] h
                                  obtain rfl := Option.some.inj hm
                                  exact hret 271 _ dc_M_wordOf_271
                              · replace hm := ia_ifp hm c
                                show K 255 [some (.inl x0)] [] h
                                refine ia_go hK ck_M_wordOf_255 ?_
                                show K 257 [some (.inl x0)] [.inl 15] h
                                obtain rfl := Option.some.inj hm
                                exact hret 257 _ dc_M_wordOf_257
                            · replace hm := ia_ifp hm c
                              show K 238 [some (.inl x0)] [] h
                              refine ia_go hK ck_M_wordOf_238 ?_
                              show K 240 [some (.inl x0)] [.inl 14] h
                              obtain rfl := Option.some.inj hm
                              exact hret 240 _ dc_M_wordOf_240
                          · replace hm := ia_ifp hm c
                            show K 220 [some (.inl x0)] [] h
                            refine ia_go hK ck_M_wordOf_220 ?_
                            show K 222 [some (.inl x0)] [.inl 13] h
                            obtain rfl := Option.some.inj hm
                            exact hret 222 _ dc_M_wordOf_222
                        · replace hm := ia_ifp hm c
                          show K 202 [some (.inl x0)] [] h
                          refine ia_go hK ck_M_wordOf_202 ?_
                          show K 204 [some (.inl x0)] [.inl 12] h
                          obtain rfl := Option.some.inj hm
                          exact hret 204 _ dc_M_wordOf_204
                      · replace hm := ia_ifp hm c
                        show K 184 [some (.inl x0)] [] h
                        refine ia_go hK ck_M_wordOf_184 ?_
                        show K 186 [some (.inl x0)] [.inl 11] h
                        obtain rfl := Option.some.inj hm
                        exact hret 186 _ dc_M_wordOf_186
                    · replace hm := ia_ifp hm c
                      show K 166 [some (.inl x0)] [] h
                      refine ia_go hK ck_M_wordOf_166 ?_
                      show K 168 [some (.inl x0)] [.inl 10] h
                      obtain rfl := Option.some.inj hm
                      exact hret 168 _ dc_M_wordOf_168
                  · replace hm := ia_ifp hm c
                    show K 147 [some (.inl x0)] [] h
                    refine ia_go hK ck_M_wordOf_147 ?_
                    show K 149 [some (.inl x0)] [.inl 9] h
                    obtain rfl := Option.some.inj hm
                    exact hret 149 _ dc_M_wordOf_149
                · replace hm := ia_ifp hm c
                  show K 128 [some (.inl x0)] [] h
                  refine ia_go hK ck_M_wordOf_128 ?_
                  show K 130 [some (.inl x0)] [.inl 8] h
                  obtain rfl := Option.some.inj hm
                  exact hret 130 _ dc_M_wordOf_130
              · replace hm := ia_ifp hm c
                show K 112 [some (.inl x0)] [] h
                refine ia_go hK ck_M_wordOf_112 ?_
                show K 114 [some (.inl x0)] [.inl 7] h
                obtain rfl := Option.some.inj hm
                exact hret 114 _ dc_M_wordOf_114
            · replace hm := ia_ifp hm c
              show K 92 [some (.inl x0)] [] h
              refine ia_go hK ck_M_wordOf_92 ?_
              show K 94 [some (.inl x0)] [.inl 6] h
              obtain rfl := Option.some.inj hm
              exact hret 94 _ dc_M_wordOf_94
          · replace hm := ia_ifp hm c
            show K 76 [some (.inl x0)] [] h
            refine ia_go hK ck_M_wordOf_76 ?_
            show K 77 [some (.inl x0)] [.inl 5] h
            obtain rfl := Option.some.inj hm
            exact hret 77 _ dc_M_wordOf_77
        · replace hm := ia_ifp hm c
          show K 60 [some (.inl x0)] [] h
          refine ia_go hK ck_M_wordOf_60 ?_
          show K 61 [some (.inl x0)] [.inl 4] h
          obtain rfl := Option.some.inj hm
          exact hret 61 _ dc_M_wordOf_61
      · replace hm := ia_ifp hm c
        show K 42 [some (.inl x0)] [] h
        refine ia_go hK ck_M_wordOf_42 ?_
        show K 43 [some (.inl x0)] [.inl 3] h
        obtain rfl := Option.some.inj hm
        exact hret 43 _ dc_M_wordOf_43
    · replace hm := ia_ifp hm c
      show K 29 [some (.inl x0)] [] h
      refine ia_go hK ck_M_wordOf_29 ?_
      show K 30 [some (.inl x0)] [.inl 2] h
      obtain rfl := Option.some.inj hm
      exact hret 30 _ dc_M_wordOf_30
  · replace hm := ia_ifp hm c
    show K 15 [some (.inl x0)] [] h
    refine ia_go hK ck_M_wordOf_15 ?_
    show K 16 [some (.inl x0)] [.inl 1] h
    obtain rfl := Option.some.inj hm
    exact hret 16 _ dc_M_wordOf_16
def mm_M_isDigit : ia_M := (⟨"IceStreetModel", "isDigit", "(I)Z"⟩, prog_14_method_7_code, 1, (some .boolean), 12, false)
theorem ok_M_isDigit : ia_mok mm_M_isDigit := ⟨by decide +kernel, by decide +kernel, by decide +kernel, by decide +kernel⟩
theorem mk_M_isDigit : ia_mkn mm_M_isDigit 0 1 := ⟨ia_tb_in (List.mem_of_getElem? (i := 1768) (by decide +kernel)) rfl, ia_tb_in (List.mem_of_getElem? (i := 146) (by decide +kernel)) rfl, by decide +kernel, by decide +kernel, ia_tb_in (List.mem_of_getElem? (i := 1767) (by decide +kernel)) rfl⟩
theorem ck_M_isDigit_0 : ia_cks 12 1 false prog_14_method_7_code 0 [(.iload_n 0, 0, 0, 0, 0), (.bipush 48, 0, 0, 0, 0), (.if_icmp .lt 13, 0, 0, 0, 0)] = true := by decide +kernel
theorem ck_M_isDigit_16 : ia_cks 12 1 false prog_14_method_7_code 16 [(.iconst 0, 0, 0, 0, 0)] = true := by decide +kernel
theorem ck_M_isDigit_6 : ia_cks 12 1 false prog_14_method_7_code 6 [(.iload_n 0, 0, 0, 0, 0), (.bipush 57, 0, 0, 0, 0), (.if_icmp .gt 7, 0, 0, 0, 0)] = true := by decide +kernel
theorem ck_M_isDigit_12 : ia_cks 12 1 false prog_14_method_7_code 12 [(.iconst 1, 0, 0, 0, 0), (.goto 4, 0, 0, 0, 0)] = true := by decide +kernel
theorem dc_M_isDigit_17 : decode prog_14_method_7_code 17 = .ok (.ireturn, 1) := by decide +kernel
def f_M_isDigit (x0 : Int32) (h : ia_H) : Option Int32 := if x0 < 48 then (some 0) else (if 57 < x0 then (some 0) else (some 1))
theorem t_M_isDigit {w : ia_O0} (d : Nat) {x0 : Int32} {h : ia_H} (hg : gd_ w h) {r : Int32} (hm : f_M_isDigit x0 h = some r) : ia_Ev (d + 0) mm_M_isDigit [.inl x0] h (some (.inl r)) h := by
  refine ia_Ev_intro ok_M_isDigit (Nat.le_refl _) (Nat.le_refl _) (Nat.le_of_ble_eq_true rfl) (fun K hK hret => ?_)
  show K 0 [some (.inl x0)] [] h
  unfold f_M_isDigit at hm
  refine ia_go hK ck_M_isDigit_0 ⟨fun c => ?_, fun c => ?_⟩
  · replace hm := ia_ifp hm c
    show K 16 [some (.inl x0)] [] h
    refine ia_go hK ck_M_isDigit_16 ?_
    show K 17 [some (.inl x0)] [.inl 0] h
    obtain rfl := Option.some.inj hm
    exact hret 17 _ ⟨Or.inl rfl, dc_M_isDigit_17⟩
  · replace hm := ia_ifn hm c
    show K 6 [some (.inl x0)] [] h
    refine ia_go hK ck_M_isDigit_6 ⟨fun c => ?_, fun c => ?_⟩
    · replace hm := ia_ifp hm c
      show K 16 [some (.inl x0)] [] h
      refine ia_go hK ck_M_isDigit_16 ?_
      show K 17 [some (.inl x0)] [.inl 0] h
      obtain rfl := Option.some.inj hm
      exact hret 17 _ ⟨Or.inl rfl, dc_M_isDigit_17⟩
    · replace hm := ia_ifn hm c
      show K 12 [some (.inl x0)] [] h
      refine ia_go hK ck_M_isDigit_12 ?_
      show K 17 [some (.inl x0)] [.inl 1] h
      obtain rfl := Option.some.inj hm
      exact hret 17 _ ⟨Or.inr rfl, dc_M_isDigit_17⟩
def mm_M_advance : ia_M := (⟨"IceStreetModel", "advance", "()V"⟩, prog_14_method_11_code, 3, none, 12, false)
theorem ok_M_advance : ia_mok mm_M_advance := ⟨by decide +kernel, by decide +kernel, by decide +kernel, by decide +kernel⟩
theorem mk_M_advance : ia_mkn mm_M_advance 1 0 := ⟨ia_tb_in (List.mem_of_getElem? (i := 1749) (by decide +kernel)) rfl, ia_tb_in (List.mem_of_getElem? (i := 146) (by decide +kernel)) rfl, by decide +kernel, by decide +kernel, ⟨ia_tb_in (List.mem_of_getElem? (i := 1748) (by decide +kernel)) rfl, ia_tb_in (List.mem_of_getElem? (i := 53) (by decide +kernel)) rfl⟩⟩
theorem ck_M_advance_0 : ia_cks 12 3 false prog_14_method_11_code 0 [(.aload_n 0, 0, 0, 0, 0), (.aload_n 0, 0, 0, 0, 0), (.getfield 80, 12, 3, 0, 0)] = true := by decide +kernel
theorem ck_M_advance_8 : ia_cks 12 3 false prog_14_method_11_code 8 [(.bipush 10, 0, 0, 0, 0), (.if_icmp .eq 16, 0, 0, 0, 0)] = true := by decide +kernel
theorem ck_M_advance_26 : ia_cks 12 3 false prog_14_method_11_code 26 [(.aload_n 0, 0, 0, 0, 0), (.dup, 0, 0, 0, 0), (.getfield 80, 12, 3, 0, 0), (.iconst 1, 0, 0, 0, 0), (.iadd, 0, 0, 0, 0), (.putfield 80, 12, 3, 0, 0), (.goto (-36), 0, 0, 0, 0)] = true := by decide +kernel
theorem ck_M_advance_13 : ia_cks 12 3 false prog_14_method_11_code 13 [(.aload_n 0, 0, 0, 0, 0), (.aload_n 0, 0, 0, 0, 0), (.getfield 80, 12, 3, 0, 0)] = true := by decide +kernel
theorem ck_M_advance_21 : ia_cks 12 3 false prog_14_method_11_code 21 [(.bipush 32, 0, 0, 0, 0), (.if_icmp .ne 16, 0, 0, 0, 0)] = true := by decide +kernel
theorem ck_M_advance_39 : ia_cks 12 3 false prog_14_method_11_code 39 [(.aload_n 0, 0, 0, 0, 0), (.aload_n 0, 0, 0, 0, 0), (.getfield 80, 12, 3, 0, 0), (.putfield 87, 12, 4, 0, 0), (.aload_n 0, 0, 0, 0, 0), (.aload_n 0, 0, 0, 0, 0), (.getfield 80, 12, 3, 0, 0)] = true := by decide +kernel
theorem ck_M_advance_55 : ia_cks 12 3 false prog_14_method_11_code 55 [(.istore_n 1, 0, 0, 0, 0), (.iload_n 1, 0, 0, 0, 0), (.ifCond .ge 11, 0, 0, 0, 0)] = true := by decide +kernel
theorem ck_M_advance_68 : ia_cks 12 3 false prog_14_method_11_code 68 [(.iload_n 1, 0, 0, 0, 0)] = true := by decide +kernel
theorem ck_M_advance_72 : ia_cks 12 3 false prog_14_method_11_code 72 [(.ifCond .eq 109, 0, 0, 0, 0)] = true := by decide +kernel
theorem ck_M_advance_181 : ia_cks 12 3 false prog_14_method_11_code 181 [(.iload_n 1, 0, 0, 0, 0)] = true := by decide +kernel
theorem ck_M_advance_185 : ia_cks 12 3 false prog_14_method_11_code 185 [(.ifCond .eq 96, 0, 0, 0, 0)] = true := by decide +kernel
theorem ck_M_advance_281 : ia_cks 12 3 false prog_14_method_11_code 281 [(.aload_n 0, 0, 0, 0, 0), (.dup, 0, 0, 0, 0), (.getfield 80, 12, 3, 0, 0), (.iconst 1, 0, 0, 0, 0), (.iadd, 0, 0, 0, 0), (.putfield 80, 12, 3, 0, 0), (.aload_n 0, 0, 0, 0, 0), (.iload_n 1, 0, 0, 0, 0), (.bipush 59, 0, 0, 0, 0), (.if_icmp .ne 7, 0, 0, 0, 0)] = true := by decide +kernel
theorem ck_M_advance_302 : ia_cks 12 3 false prog_14_method_11_code 302 [(.iload_n 1, 0, 0, 0, 0), (.bipush 45, 0, 0, 0, 0), (.if_icmp .ne 7, 0, 0, 0, 0)] = true := by decide +kernel
theorem ck_M_advance_312 : ia_cks 12 3 false prog_14_method_11_code 312 [(.iconst 4, 0, 0, 0, 0), (.putfield 90, 12, 5, 0, 0)] = true := by decide +kernel
theorem ck_M_advance_308 : ia_cks 12 3 false prog_14_method_11_code 308 [(.iconst 5, 0, 0, 0, 0), (.goto 4, 0, 0, 0, 0)] = true := by decide +kernel
theorem ck_M_advance_313 : ia_cks 12 3 false prog_14_method_11_code 313 [(.putfield 90, 12, 5, 0, 0)] = true := by decide +kernel
theorem ck_M_advance_298 : ia_cks 12 3 false prog_14_method_11_code 298 [(.iconst 2, 0, 0, 0, 0), (.goto 14, 0, 0, 0, 0)] = true := by decide +kernel
theorem ck_M_advance_188 : ia_cks 12 3 false prog_14_method_11_code 188 [(.aload_n 0, 0, 0, 0, 0), (.iconst 0, 0, 0, 0, 0), (.putfield 106, 12, 6, 0, 0)] = true := by decide +kernel
theorem ck_M_advance_193 : ia_cks 12 3 false prog_14_method_11_code 193 [(.aload_n 0, 0, 0, 0, 0), (.aload_n 0, 0, 0, 0, 0), (.getfield 80, 12, 3, 0, 0)] = true := by decide +kernel
theorem ck_M_advance_204 : ia_cks 12 3 false prog_14_method_11_code 204 [(.ifCond .eq 52, 0, 0, 0, 0)] = true := by decide +kernel
theorem ck_M_advance_207 : ia_cks 12 3 false prog_14_method_11_code 207 [(.aload_n 0, 0, 0, 0, 0), (.getfield 80, 12, 3, 0, 0), (.aload_n 0, 0, 0, 0, 0), (.getfield 87, 12, 4, 0, 0), (.isub, 0, 0, 0, 0), (.iconst 2, 0, 0, 0, 0), (.if_icmp .ge 26, 0, 0, 0, 0)] = true := by decide +kernel
theorem ck_M_advance_243 : ia_cks 12 3 false prog_14_method_11_code 243 [(.aload_n 0, 0, 0, 0, 0), (.dup, 0, 0, 0, 0), (.getfield 80, 12, 3, 0, 0), (.iconst 1, 0, 0, 0, 0), (.iadd, 0, 0, 0, 0), (.putfield 80, 12, 3, 0, 0), (.goto (-60), 0, 0, 0, 0)] = true := by decide +kernel
theorem ck_M_advance_220 : ia_cks 12 3 false prog_14_method_11_code 220 [(.aload_n 0, 0, 0, 0, 0), (.bipush 10, 0, 0, 0, 0), (.aload_n 0, 0, 0, 0, 0), (.getfield 106, 12, 6, 0, 0), (.imul, 0, 0, 0, 0), (.aload_n 0, 0, 0, 0, 0), (.aload_n 0, 0, 0, 0, 0), (.getfield 80, 12, 3, 0, 0)] = true := by decide +kernel
theorem ck_M_advance_236 : ia_cks 12 3 false prog_14_method_11_code 236 [(.iadd, 0, 0, 0, 0), (.bipush 48, 0, 0, 0, 0), (.isub, 0, 0, 0, 0), (.putfield 106, 12, 6, 0, 0)] = true := by decide +kernel
theorem ck_M_advance_256 : ia_cks 12 3 false prog_14_method_11_code 256 [(.aload_n 0, 0, 0, 0, 0), (.aload_n 0, 0, 0, 0, 0), (.getfield 80, 12, 3, 0, 0), (.aload_n 0, 0, 0, 0, 0), (.getfield 87, 12, 4, 0, 0), (.isub, 0, 0, 0, 0), (.iconst 2, 0, 0, 0, 0), (.if_icmp .le 7, 0, 0, 0, 0)] = true := by decide +kernel
theorem ck_M_advance_274 : ia_cks 12 3 false prog_14_method_11_code 274 [(.iconst 1, 0, 0, 0, 0), (.putfield 90, 12, 5, 0, 0), (.goto 38, 0, 0, 0, 0)] = true := by decide +kernel
theorem ck_M_advance_270 : ia_cks 12 3 false prog_14_method_11_code 270 [(.iconst 4, 0, 0, 0, 0), (.goto 4, 0, 0, 0, 0)] = true := by decide +kernel
theorem ck_M_advance_275 : ia_cks 12 3 false prog_14_method_11_code 275 [(.putfield 90, 12, 5, 0, 0), (.goto 38, 0, 0, 0, 0)] = true := by decide +kernel
theorem ck_M_advance_75 : ia_cks 12 3 false prog_14_method_11_code 75 [(.iconst 0, 0, 0, 0, 0), (.istore_n 2, 0, 0, 0, 0)] = true := by decide +kernel
theorem ck_M_advance_77 : ia_cks 12 3 false prog_14_method_11_code 77 [(.aload_n 0, 0, 0, 0, 0), (.aload_n 0, 0, 0, 0, 0), (.getfield 80, 12, 3, 0, 0)] = true := by decide +kernel
theorem ck_M_advance_88 : ia_cks 12 3 false prog_14_method_11_code 88 [(.ifCond .eq 46, 0, 0, 0, 0)] = true := by decide +kernel
theorem ck_M_advance_91 : ia_cks 12 3 false prog_14_method_11_code 91 [(.aload_n 0, 0, 0, 0, 0), (.getfield 80, 12, 3, 0, 0), (.aload_n 0, 0, 0, 0, 0), (.getfield 87, 12, 4, 0, 0), (.isub, 0, 0, 0, 0), (.iconst 5, 0, 0, 0, 0), (.if_icmp .ge 20, 0, 0, 0, 0)] = true := by decide +kernel
theorem ck_M_advance_121 : ia_cks 12 3 false prog_14_method_11_code 121 [(.aload_n 0, 0, 0, 0, 0), (.dup, 0, 0, 0, 0), (.getfield 80, 12, 3, 0, 0), (.iconst 1, 0, 0, 0, 0), (.iadd, 0, 0, 0, 0), (.putfield 80, 12, 3, 0, 0), (.goto (-54), 0, 0, 0, 0)] = true := by decide +kernel
theorem ck_M_advance_104 : ia_cks 12 3 false prog_14_method_11_code 104 [(.bipush 32, 0, 0, 0, 0), (.iload_n 2, 0, 0, 0, 0), (.imul, 0, 0, 0, 0), (.aload_n 0, 0, 0, 0, 0), (.aload_n 0, 0, 0, 0, 0), (.getfield 80, 12, 3, 0, 0)] = true := by decide +kernel
theorem ck_M_advance_116 : ia_cks 12 3 false prog_14_method_11_code 116 [(.iadd, 0, 0, 0, 0), (.bipush 96, 0, 0, 0, 0), (.isub, 0, 0, 0, 0), (.istore_n 2, 0, 0, 0, 0)] = true := by decide +kernel
theorem ck_M_advance_134 : ia_cks 12 3 false prog_14_method_11_code 134 [(.aload_n 0, 0, 0, 0, 0), (.aload_n 0, 0, 0, 0, 0), (.getfield 80, 12, 3, 0, 0), (.aload_n 0, 0, 0, 0, 0), (.getfield 87, 12, 4, 0, 0), (.isub, 0, 0, 0, 0), (.iconst 5, 0, 0, 0, 0), (.if_icmp .le 8, 0, 0, 0, 0)] = true := by decide +kernel
theorem ck_M_advance_153 : ia_cks 12 3 false prog_14_method_11_code 153 [(.iload_n 2, 0, 0, 0, 0)] = true := by decide +kernel
theorem ck_M_advance_157 : ia_cks 12 3 false prog_14_method_11_code 157 [(.putfield 100, 12, 7, 0, 0), (.aload_n 0, 0, 0, 0, 0), (.aload_n 0, 0, 0, 0, 0), (.getfield 100, 12, 7, 0, 0), (.bipush 99, 0, 0, 0, 0), (.if_icmp .ne 7, 0, 0, 0, 0)] = true := by decide +kernel
theorem ck_M_advance_174 : ia_cks 12 3 false prog_14_method_11_code 174 [(.iconst 3, 0, 0, 0, 0), (.putfield 90, 12, 5, 0, 0), (.goto 138, 0, 0, 0, 0)] = true := by decide +kernel
theorem ck_M_advance_170 : ia_cks 12 3 false prog_14_method_11_code 170 [(.iconst 4, 0, 0, 0, 0), (.goto 4, 0, 0, 0, 0)] = true := by decide +kernel
theorem ck_M_advance_175 : ia_cks 12 3 false prog_14_method_11_code 175 [(.putfield 90, 12, 5, 0, 0), (.goto 138, 0, 0, 0, 0)] = true := by decide +kernel
theorem ck_M_advance_148 : ia_cks 12 3 false prog_14_method_11_code 148 [(.bipush 99, 0, 0, 0, 0), (.goto 7, 0, 0, 0, 0)] = true := by decide +kernel
theorem ck_M_advance_60 : ia_cks 12 3 false prog_14_method_11_code 60 [(.aload_n 0, 0, 0, 0, 0), (.iconst 0, 0, 0, 0, 0), (.putfield 90, 12, 5, 0, 0), (.goto 251, 0, 0, 0, 0)] = true := by decide +kernel
theorem dc_M_advance_5 : decode prog_14_method_11_code 5 = .ok (.invokevirtual 83, 3) := by decide +kernel
theorem dc_M_advance_18 : decode prog_14_method_11_code 18 = .ok (.invokevirtual 83, 3) := by decide +kernel
theorem dc_M_advance_52 : decode prog_14_method_11_code 52 = .ok (.invokevirtual 83, 3) := by decide +kernel
theorem dc_M_advance_69 : decode prog_14_method_11_code 69 = .ok (.invokestatic 93, 3) := by decide +kernel
theorem dc_M_advance_182 : decode prog_14_method_11_code 182 = .ok (.invokestatic 103, 3) := by decide +kernel
theorem dc_M_advance_316 : decode prog_14_method_11_code 316 = .ok (.return_, 1) := by decide +kernel
theorem dc_M_advance_198 : decode prog_14_method_11_code 198 = .ok (.invokevirtual 83, 3) := by decide +kernel
theorem dc_M_advance_201 : decode prog_14_method_11_code 201 = .ok (.invokestatic 103, 3) := by decide +kernel
theorem dc_M_advance_233 : decode prog_14_method_11_code 233 = .ok (.invokevirtual 83, 3) := by decide +kernel
theorem dc_M_advance_82 : decode prog_14_method_11_code 82 = .ok (.invokevirtual 83, 3) := by decide +kernel
theorem dc_M_advance_85 : decode prog_14_method_11_code 85 = .ok (.invokestatic 93, 3) := by decide +kernel
theorem dc_M_advance_113 : decode prog_14_method_11_code 113 = .ok (.invokevirtual 83, 3) := by decide +kernel
theorem dc_M_advance_154 : decode prog_14_method_11_code 154 = .ok (.invokestatic 97, 3) := by decide +kernel
def j_M_advance_26 (kr : ia_H → Option ia_H) (k39 : ia_H → Option ia_H) (h : ia_H) : Option ia_H := kr (ia_wI h 417 3 ((ia_i h 417 3) + 1))
theorem tj_M_advance_26 {w : ia_O0} {d N1 W1 : Nat} {K : ia_K} (hK : ia_isK (d + 3) mm_M_advance N1 W1 K) {h1 : ia_H} (hret : ∀ (pc : Nat) (lv : ia_L), ia_ret mm_M_advance pc none → K pc lv (none : Option ia_V).toList h1) {kr : ia_H → Option ia_H} {k39 : ia_H → Option ia_H} (hkr : ∀ (h : ia_H), gd_ w h → kr h = some h1 → K 0 [some (.inr (.inr 417)), none, none] [] h) (hk39 : ∀ (h : ia_H), gd_ w h → k39 h = some h1 → K 39 [some (.inr (.inr 417)), none, none] [] h) : ∀ (h : ia_H), gd_ w h → j_M_advance_26 kr k39 h = some h1 → K 26 [some (.inr (.inr 417)), none, none] [] h := by
  intro h hg hm
  unfold j_M_advance_26 at hm
  refine ia_go hK ck_M_advance_26 ⟨gk_12 hg pk_417, gk_12 hg pk_417, ?_⟩
  show K 0 [some (.inr (.inr 417)), none, none] [] (ia_wI h 417 3 ((ia_i h 417 3) + 1))
  exact hkr (ia_wI h 417 3 ((ia_i h 417 3) + 1)) (gd_wI hg (ko_12 pk_417)) hm
theorem gj_M_advance_26 {w : ia_O0} {h1 : ia_H} {kr : ia_H → Option ia_H} {k39 : ia_H → Option ia_H} (hkr : ∀ (h : ia_H), gd_ w h → kr h = some h1 → gd_ w h1) (hk39 : ∀ (h : ia_H), gd_ w h → k39 h = some h1 → gd_ w h1) : ∀ (h : ia_H), gd_ w h → j_M_advance_26 kr k39 h = some h1 → gd_ w h1 := by
  intro h hg hm
  unfold j_M_advance_26 at hm
  exact hkr (ia_wI h 417 3 ((ia_i h 417 3) + 1)) (gd_wI hg (ko_12 pk_417)) hm
def l_M_advance_0 (k39 : ia_H → Option ia_H) (n : Nat) (h : ia_H) : Option ia_H := match n with
  | 0 => none
  | n + 1 => (f_M_byteAt (ia_i h 417 3) h).bind fun v1 => (if v1 = 10 then (j_M_advance_26 (l_M_advance_0 k39 n) k39 h) else ((f_M_byteAt (ia_i h 417 3) h).bind fun v2 => (if v2 = 32 then (j_M_advance_26 (l_M_advance_0 k39 n) k39 h) else (k39 h))))
theorem tl_M_advance_0 {w : ia_O0} {d N1 W1 : Nat} {K : ia_K} (hK : ia_isK (d + 3) mm_M_advance N1 W1 K) {h1 : ia_H} (hret : ∀ (pc : Nat) (lv : ia_L), ia_ret mm_M_advance pc none → K pc lv (none : Option ia_V).toList h1) {k39 : ia_H → Option ia_H} (hk39 : ∀ (h : ia_H), gd_ w h → k39 h = some h1 → K 39 [some (.inr (.inr 417)), none, none] [] h) : ∀ (n : Nat) (h : ia_H), gd_ w h → l_M_advance_0 k39 n h = some h1 → K 0 [some (.inr (.inr 417)), none, none] [] h := by
  intro n
  induction n with
  | zero =>
    intro h hg hm
    cases (show (none : Option ia_H) = some _ from hm)
  | succ n ih =>
    intro h hg hm
    rw [l_M_advance_0] at hm
    refine ia_go hK ck_M_advance_0 ⟨gk_12 hg pk_417, ?_⟩
    show K 5 [some (.inr (.inr 417)), none, none] [.inl (ia_i h 417 3), .inr (.inr 417)] h
    obtain ⟨v1, hv1, hm⟩ := ia_bnd hm
    have ev1 := t_M_byteAt (d + 2) hg hv1
    refine ia_cV hK mk_M_byteAt lk_12_83 dc_M_advance_5 417 [.inl (ia_i h 417 3)] [] rfl rfl (Nat.le_of_ble_eq_true rfl) (by decide) rfl (gk_12 hg pk_417) ev1 ⟨rfl, rfl⟩ ?_
    show K 8 [some (.inr (.inr 417)), none, none] [.inl v1] h
    refine ia_go hK ck_M_advance_8 ⟨fun c => ?_, fun c => ?_⟩
    · replace hm := ia_ifp hm c
      show K 26 [some (.inr (.inr 417)), none, none] [] h
      exact tj_M_advance_26 hK hret ih hk39 h hg hm
    · replace hm := ia_ifn hm c
      show K 13 [some (.inr (.inr 417)), none, none] [] h
      refine ia_go hK ck_M_advance_13 ⟨gk_12 hg pk_417, ?_⟩
      show K 18 [some (.inr (.inr 417)), none, none] [.inl (ia_i h 417 3), .inr (.inr 417)] h
      obtain ⟨v2, hv2, hm⟩ := ia_bnd hm
      have ev2 := t_M_byteAt (d + 2) hg hv2
      refine ia_cV hK mk_M_byteAt lk_12_83 dc_M_advance_18 417 [.inl (ia_i h 417 3)] [] rfl rfl (Nat.le_of_ble_eq_true rfl) (by decide) rfl (gk_12 hg pk_417) ev2 ⟨rfl, rfl⟩ ?_
      show K 21 [some (.inr (.inr 417)), none, none] [.inl v2] h
      refine ia_go hK ck_M_advance_21 ⟨fun c => ?_, fun c => ?_⟩
      · replace hm := ia_ifn hm c
        show K 39 [some (.inr (.inr 417)), none, none] [] h
        exact hk39 h hg hm
      · replace hm := ia_ifp hm c
        show K 26 [some (.inr (.inr 417)), none, none] [] h
        exact tj_M_advance_26 hK hret ih hk39 h hg hm
theorem gl_M_advance_0 {w : ia_O0} {h1 : ia_H} {k39 : ia_H → Option ia_H} (hk39 : ∀ (h : ia_H), gd_ w h → k39 h = some h1 → gd_ w h1) : ∀ (n : Nat) (h : ia_H), gd_ w h → l_M_advance_0 k39 n h = some h1 → gd_ w h1 := by
  intro n
  induction n with
  | zero =>
    intro h hg hm
    cases (show (none : Option ia_H) = some _ from hm)
  | succ n ih =>
    intro h hg hm
    rw [l_M_advance_0] at hm
    obtain ⟨v1, hv1, hm⟩ := ia_bnd hm
    by_cases c : v1 = 10
    · replace hm := ia_ifp hm c
      exact gj_M_advance_26 ih hk39 h hg hm
    · replace hm := ia_ifn hm c
      obtain ⟨v2, hv2, hm⟩ := ia_bnd hm
      by_cases c : v2 = 32
      · replace hm := ia_ifp hm c
        exact gj_M_advance_26 ih hk39 h hg hm
      · replace hm := ia_ifn hm c
        exact hk39 h hg hm
def j_M_advance_243 (kr : ia_H → Option ia_H) (k256 : ia_H → Option ia_H) (h : ia_H) : Option ia_H := kr (ia_wI h 417 3 ((ia_i h 417 3) + 1))
theorem tj_M_advance_243 {w : ia_O0} {d N1 W1 : Nat} {K : ia_K} (hK : ia_isK (d + 3) mm_M_advance N1 W1 K) {h1 : ia_H} (hret : ∀ (pc : Nat) (lv : ia_L), ia_ret mm_M_advance pc none → K pc lv (none : Option ia_V).toList h1) {kr : ia_H → Option ia_H} {k256 : ia_H → Option ia_H} (hkr : ∀ (h : ia_H), gd_ w h → kr h = some h1 → K 193 [some (.inr (.inr 417)), none, none] [] h) (hk256 : ∀ (h : ia_H), gd_ w h → k256 h = some h1 → K 256 [some (.inr (.inr 417)), none, none] [] h) : ∀ (h : ia_H), gd_ w h → j_M_advance_243 kr k256 h = some h1 → K 243 [some (.inr (.inr 417)), none, none] [] h := by
  intro h hg hm
  unfold j_M_advance_243 at hm
  refine ia_go hK ck_M_advance_243 ⟨gk_12 hg pk_417, gk_12 hg pk_417, ?_⟩
  show K 193 [some (.inr (.inr 417)), none, none] [] (ia_wI h 417 3 ((ia_i h 417 3) + 1))
  exact hkr (ia_wI h 417 3 ((ia_i h 417 3) + 1)) (gd_wI hg (ko_12 pk_417)) hm
theorem gj_M_advance_243 {w : ia_O0} {h1 : ia_H} {kr : ia_H → Option ia_H} {k256 : ia_H → Option ia_H} (hkr : ∀ (h : ia_H), gd_ w h → kr h = some h1 → gd_ w h1) (hk256 : ∀ (h : ia_H), gd_ w h → k256 h = some h1 → gd_ w h1) : ∀ (h : ia_H), gd_ w h → j_M_advance_243 kr k256 h = some h1 → gd_ w h1 := by
  intro h hg hm
  unfold j_M_advance_243 at hm
  exact hkr (ia_wI h 417 3 ((ia_i h 417 3) + 1)) (gd_wI hg (ko_12 pk_417)) hm
def l_M_advance_193 (k256 : ia_H → Option ia_H) (n : Nat) (h : ia_H) : Option ia_H := match n with
  | 0 => none
  | n + 1 => (f_M_byteAt (ia_i h 417 3) h).bind fun v6 => ((f_M_isDigit v6 h).bind fun v7 => (if v7 = 0 then (k256 h) else (if 2 ≤ ((ia_i h 417 3) - (ia_i h 417 4)) then (j_M_advance_243 (l_M_advance_193 k256 n) k256 h) else ((f_M_byteAt (ia_i h 417 3) h).bind fun v8 => (j_M_advance_243 (l_M_advance_193 k256 n) k256 (ia_wI h 417 6 (((10 * (ia_i h 417 6)) + v8) - 48)))))))
theorem tl_M_advance_193 {w : ia_O0} {d N1 W1 : Nat} {K : ia_K} (hK : ia_isK (d + 3) mm_M_advance N1 W1 K) {h1 : ia_H} (hret : ∀ (pc : Nat) (lv : ia_L), ia_ret mm_M_advance pc none → K pc lv (none : Option ia_V).toList h1) {k256 : ia_H → Option ia_H} (hk256 : ∀ (h : ia_H), gd_ w h → k256 h = some h1 → K 256 [some (.inr (.inr 417)), none, none] [] h) : ∀ (n : Nat) (h : ia_H), gd_ w h → l_M_advance_193 k256 n h = some h1 → K 193 [some (.inr (.inr 417)), none, none] [] h := by
  intro n
  induction n with
  | zero =>
    intro h hg hm
    cases (show (none : Option ia_H) = some _ from hm)
  | succ n ih =>
    intro h hg hm
    rw [l_M_advance_193] at hm
    refine ia_go hK ck_M_advance_193 ⟨gk_12 hg pk_417, ?_⟩
    show K 198 [some (.inr (.inr 417)), none, none] [.inl (ia_i h 417 3), .inr (.inr 417)] h
    obtain ⟨v6, hv6, hm⟩ := ia_bnd hm
    have ev6 := t_M_byteAt (d + 2) hg hv6
    refine ia_cV hK mk_M_byteAt lk_12_83 dc_M_advance_198 417 [.inl (ia_i h 417 3)] [] rfl rfl (Nat.le_of_ble_eq_true rfl) (by decide) rfl (gk_12 hg pk_417) ev6 ⟨rfl, rfl⟩ ?_
    show K 201 [some (.inr (.inr 417)), none, none] [.inl v6] h
    obtain ⟨v7, hv7, hm⟩ := ia_bnd hm
    have ev7 := t_M_isDigit (d + 2) hg hv7
    refine ia_cS hK mk_M_isDigit lk_12_103 dc_M_advance_201 [.inl v6] [] rfl rfl (Nat.le_of_ble_eq_true rfl) ev7 ⟨rfl, rfl⟩ ?_
    show K 204 [some (.inr (.inr 417)), none, none] [.inl v7] h
    refine ia_go hK ck_M_advance_204 ⟨fun c => ?_, fun c => ?_⟩
    · replace hm := ia_ifp hm c
      show K 256 [some (.inr (.inr 417)), none, none] [] h
      exact hk256 h hg hm
    · replace hm := ia_ifn hm c
      show K 207 [some (.inr (.inr 417)), none, none] [] h
      refine ia_go hK ck_M_advance_207 ⟨gk_12 hg pk_417, gk_12 hg pk_417, fun c => ?_, fun c => ?_⟩
      · replace hm := ia_ifp hm c
        show K 243 [some (.inr (.inr 417)), none, none] [] h
        exact tj_M_advance_243 hK hret ih hk256 h hg hm
      · replace hm := ia_ifn hm c
        show K 220 [some (.inr (.inr 417)), none, none] [] h
        refine ia_go hK ck_M_advance_220 ⟨gk_12 hg pk_417, gk_12 hg pk_417, ?_⟩
        show K 233 [some (.inr (.inr 417)), none, none] [.inl (ia_i h 417 3), .inr (.inr 417), .inl (10 * (ia_i h 417 6)), .inr (.inr 417)] h
        obtain ⟨v8, hv8, hm⟩ := ia_bnd hm
        have ev8 := t_M_byteAt (d + 2) hg hv8
        refine ia_cV hK mk_M_byteAt lk_12_83 dc_M_advance_233 417 [.inl (ia_i h 417 3)] [.inl (10 * (ia_i h 417 6)), .inr (.inr 417)] rfl rfl (Nat.le_of_ble_eq_true rfl) (by decide) rfl (gk_12 hg pk_417) ev8 ⟨rfl, rfl⟩ ?_
        show K 236 [some (.inr (.inr 417)), none, none] [.inl v8, .inl (10 * (ia_i h 417 6)), .inr (.inr 417)] h
        refine ia_go hK ck_M_advance_236 ⟨gk_12 hg pk_417, ?_⟩
        show K 243 [some (.inr (.inr 417)), none, none] [] (ia_wI h 417 6 (((10 * (ia_i h 417 6)) + v8) - 48))
        exact tj_M_advance_243 hK hret ih hk256 (ia_wI h 417 6 (((10 * (ia_i h 417 6)) + v8) - 48)) (gd_wI hg (ko_12 pk_417)) hm
theorem gl_M_advance_193 {w : ia_O0} {h1 : ia_H} {k256 : ia_H → Option ia_H} (hk256 : ∀ (h : ia_H), gd_ w h → k256 h = some h1 → gd_ w h1) : ∀ (n : Nat) (h : ia_H), gd_ w h → l_M_advance_193 k256 n h = some h1 → gd_ w h1 := by
  intro n
  induction n with
  | zero =>
    intro h hg hm
    cases (show (none : Option ia_H) = some _ from hm)
  | succ n ih =>
    intro h hg hm
    rw [l_M_advance_193] at hm
    obtain ⟨v6, hv6, hm⟩ := ia_bnd hm
    obtain ⟨v7, hv7, hm⟩ := ia_bnd hm
    by_cases c : v7 = 0
    · replace hm := ia_ifp hm c
      exact hk256 h hg hm
    · replace hm := ia_ifn hm c
      by_cases c : 2 ≤ ((ia_i h 417 3) - (ia_i h 417 4))
      · replace hm := ia_ifp hm c
        exact gj_M_advance_243 ih hk256 h hg hm
      · replace hm := ia_ifn hm c
        obtain ⟨v8, hv8, hm⟩ := ia_bnd hm
        exact gj_M_advance_243 ih hk256 (ia_wI h 417 6 (((10 * (ia_i h 417 6)) + v8) - 48)) (gd_wI hg (ko_12 pk_417)) hm
def j_M_advance_121 (kr : Int32 → ia_H → Option ia_H) (k134 : Int32 → ia_H → Option ia_H) (x2 : Int32) (h : ia_H) : Option ia_H := kr x2 (ia_wI h 417 3 ((ia_i h 417 3) + 1))
theorem tj_M_advance_121 {w : ia_O0} {d N1 W1 : Nat} {K : ia_K} (hK : ia_isK (d + 3) mm_M_advance N1 W1 K) {h1 : ia_H} (hret : ∀ (pc : Nat) (lv : ia_L), ia_ret mm_M_advance pc none → K pc lv (none : Option ia_V).toList h1) {kr : Int32 → ia_H → Option ia_H} {k134 : Int32 → ia_H → Option ia_H} (hkr : ∀ (x2 : Int32) (h : ia_H), gd_ w h → kr x2 h = some h1 → K 77 [some (.inr (.inr 417)), none, some (.inl x2)] [] h) (hk134 : ∀ (x2 : Int32) (h : ia_H), gd_ w h → k134 x2 h = some h1 → K 134 [some (.inr (.inr 417)), none, some (.inl x2)] [] h) : ∀ (x2 : Int32) (h : ia_H), gd_ w h → j_M_advance_121 kr k134 x2 h = some h1 → K 121 [some (.inr (.inr 417)), none, some (.inl x2)] [] h := by
  intro x2 h hg hm
  unfold j_M_advance_121 at hm
  refine ia_go hK ck_M_advance_121 ⟨gk_12 hg pk_417, gk_12 hg pk_417, ?_⟩
  show K 77 [some (.inr (.inr 417)), none, some (.inl x2)] [] (ia_wI h 417 3 ((ia_i h 417 3) + 1))
  exact hkr x2 (ia_wI h 417 3 ((ia_i h 417 3) + 1)) (gd_wI hg (ko_12 pk_417)) hm
theorem gj_M_advance_121 {w : ia_O0} {h1 : ia_H} {kr : Int32 → ia_H → Option ia_H} {k134 : Int32 → ia_H → Option ia_H} (hkr : ∀ (x2 : Int32) (h : ia_H), gd_ w h → kr x2 h = some h1 → gd_ w h1) (hk134 : ∀ (x2 : Int32) (h : ia_H), gd_ w h → k134 x2 h = some h1 → gd_ w h1) : ∀ (x2 : Int32) (h : ia_H), gd_ w h → j_M_advance_121 kr k134 x2 h = some h1 → gd_ w h1 := by
  intro x2 h hg hm
  unfold j_M_advance_121 at hm
  exact hkr x2 (ia_wI h 417 3 ((ia_i h 417 3) + 1)) (gd_wI hg (ko_12 pk_417)) hm
def l_M_advance_77 (k134 : Int32 → ia_H → Option ia_H) (n : Nat) (x2 : Int32) (h : ia_H) : Option ia_H := match n with
  | 0 => none
  | n + 1 => (f_M_byteAt (ia_i h 417 3) h).bind fun v9 => ((f_M_isLetter v9 h).bind fun v10 => (if v10 = 0 then (k134 x2 h) else (if 5 ≤ ((ia_i h 417 3) - (ia_i h 417 4)) then (j_M_advance_121 (l_M_advance_77 k134 n) k134 x2 h) else ((f_M_byteAt (ia_i h 417 3) h).bind fun v11 => (j_M_advance_121 (l_M_advance_77 k134 n) k134 (((32 * x2) + v11) - 96) h)))))
theorem tl_M_advance_77 {w : ia_O0} {d N1 W1 : Nat} {K : ia_K} (hK : ia_isK (d + 3) mm_M_advance N1 W1 K) {h1 : ia_H} (hret : ∀ (pc : Nat) (lv : ia_L), ia_ret mm_M_advance pc none → K pc lv (none : Option ia_V).toList h1) {k134 : Int32 → ia_H → Option ia_H} (hk134 : ∀ (x2 : Int32) (h : ia_H), gd_ w h → k134 x2 h = some h1 → K 134 [some (.inr (.inr 417)), none, some (.inl x2)] [] h) : ∀ (n : Nat) (x2 : Int32) (h : ia_H), gd_ w h → l_M_advance_77 k134 n x2 h = some h1 → K 77 [some (.inr (.inr 417)), none, some (.inl x2)] [] h := by
  intro n
  induction n with
  | zero =>
    intro x2 h hg hm
    cases (show (none : Option ia_H) = some _ from hm)
  | succ n ih =>
    intro x2 h hg hm
    rw [l_M_advance_77] at hm
    refine ia_go hK ck_M_advance_77 ⟨gk_12 hg pk_417, ?_⟩
    show K 82 [some (.inr (.inr 417)), none, some (.inl x2)] [.inl (ia_i h 417 3), .inr (.inr 417)] h
    obtain ⟨v9, hv9, hm⟩ := ia_bnd hm
    have ev9 := t_M_byteAt (d + 2) hg hv9
    refine ia_cV hK mk_M_byteAt lk_12_83 dc_M_advance_82 417 [.inl (ia_i h 417 3)] [] rfl rfl (Nat.le_of_ble_eq_true rfl) (by decide) rfl (gk_12 hg pk_417) ev9 ⟨rfl, rfl⟩ ?_
    show K 85 [some (.inr (.inr 417)), none, some (.inl x2)] [.inl v9] h
    obtain ⟨v10, hv10, hm⟩ := ia_bnd hm
    have ev10 := t_M_isLetter (d + 2) hg hv10
    refine ia_cS hK mk_M_isLetter lk_12_93 dc_M_advance_85 [.inl v9] [] rfl rfl (Nat.le_of_ble_eq_true rfl) ev10 ⟨rfl, rfl⟩ ?_
    show K 88 [some (.inr (.inr 417)), none, some (.inl x2)] [.inl v10] h
    refine ia_go hK ck_M_advance_88 ⟨fun c => ?_, fun c => ?_⟩
    · replace hm := ia_ifp hm c
      show K 134 [some (.inr (.inr 417)), none, some (.inl x2)] [] h
      exact hk134 x2 h hg hm
    · replace hm := ia_ifn hm c
      show K 91 [some (.inr (.inr 417)), none, some (.inl x2)] [] h
      refine ia_go hK ck_M_advance_91 ⟨gk_12 hg pk_417, gk_12 hg pk_417, fun c => ?_, fun c => ?_⟩
      · replace hm := ia_ifp hm c
        show K 121 [some (.inr (.inr 417)), none, some (.inl x2)] [] h
        exact tj_M_advance_121 hK hret ih hk134 x2 h hg hm
      · replace hm := ia_ifn hm c
        show K 104 [some (.inr (.inr 417)), none, some (.inl x2)] [] h
        refine ia_go hK ck_M_advance_104 ⟨gk_12 hg pk_417, ?_⟩
        show K 113 [some (.inr (.inr 417)), none, some (.inl x2)] [.inl (ia_i h 417 3), .inr (.inr 417), .inl (32 * x2)] h
        obtain ⟨v11, hv11, hm⟩ := ia_bnd hm
        have ev11 := t_M_byteAt (d + 2) hg hv11
        refine ia_cV hK mk_M_byteAt lk_12_83 dc_M_advance_113 417 [.inl (ia_i h 417 3)] [.inl (32 * x2)] rfl rfl (Nat.le_of_ble_eq_true rfl) (by decide) rfl (gk_12 hg pk_417) ev11 ⟨rfl, rfl⟩ ?_
        show K 116 [some (.inr (.inr 417)), none, some (.inl x2)] [.inl v11, .inl (32 * x2)] h
        refine ia_go hK ck_M_advance_116 ?_
        show K 121 [some (.inr (.inr 417)), none, some (.inl (((32 * x2) + v11) - 96))] [] h
        exact tj_M_advance_121 hK hret ih hk134 (((32 * x2) + v11) - 96) h hg hm
theorem gl_M_advance_77 {w : ia_O0} {h1 : ia_H} {k134 : Int32 → ia_H → Option ia_H} (hk134 : ∀ (x2 : Int32) (h : ia_H), gd_ w h → k134 x2 h = some h1 → gd_ w h1) : ∀ (n : Nat) (x2 : Int32) (h : ia_H), gd_ w h → l_M_advance_77 k134 n x2 h = some h1 → gd_ w h1 := by
  intro n
  induction n with
  | zero =>
    intro x2 h hg hm
    cases (show (none : Option ia_H) = some _ from hm)
  | succ n ih =>
    intro x2 h hg hm
    rw [l_M_advance_77] at hm
    obtain ⟨v9, hv9, hm⟩ := ia_bnd hm
    obtain ⟨v10, hv10, hm⟩ := ia_bnd hm
    by_cases c : v10 = 0
    · replace hm := ia_ifp hm c
      exact hk134 x2 h hg hm
    · replace hm := ia_ifn hm c
      by_cases c : 5 ≤ ((ia_i h 417 3) - (ia_i h 417 4))
      · replace hm := ia_ifp hm c
        exact gj_M_advance_121 ih hk134 x2 h hg hm
      · replace hm := ia_ifn hm c
        obtain ⟨v11, hv11, hm⟩ := ia_bnd hm
        exact gj_M_advance_121 ih hk134 (((32 * x2) + v11) - 96) h hg hm
def j_M_advance_157 (s1 : Int32) (h : ia_H) : Option ia_H := if (ia_i (ia_wI h 417 7 s1) 417 7) = 99 then (some (ia_wI (ia_wI h 417 7 s1) 417 5 4)) else (some (ia_wI (ia_wI h 417 7 s1) 417 5 3))
theorem tj_M_advance_157 {w : ia_O0} {d N1 W1 : Nat} {K : ia_K} (hK : ia_isK (d + 3) mm_M_advance N1 W1 K) {h1 : ia_H} (hret : ∀ (pc : Nat) (lv : ia_L), ia_ret mm_M_advance pc none → K pc lv (none : Option ia_V).toList h1) : ∀ (s1 : Int32) (h : ia_H), gd_ w h → j_M_advance_157 s1 h = some h1 → K 157 [some (.inr (.inr 417)), none, none] [.inl s1, .inr (.inr 417)] h := by
  intro s1 h hg hm
  unfold j_M_advance_157 at hm
  refine ia_go hK ck_M_advance_157 ⟨gk_12 hg pk_417, gk_12 (gd_wI hg (ko_12 pk_417)) pk_417, fun c => ?_, fun c => ?_⟩
  · replace hm := ia_ifn hm c
    show K 174 [some (.inr (.inr 417)), none, none] [.inr (.inr 417)] (ia_wI h 417 7 s1)
    refine ia_go hK ck_M_advance_174 ⟨gk_12 (gd_wI hg (ko_12 pk_417)) pk_417, ?_⟩
    show K 316 [some (.inr (.inr 417)), none, none] [] (ia_wI (ia_wI h 417 7 s1) 417 5 3)
    obtain rfl := Option.some.inj hm
    exact hret 316 _ dc_M_advance_316
  · replace hm := ia_ifp hm c
    show K 170 [some (.inr (.inr 417)), none, none] [.inr (.inr 417)] (ia_wI h 417 7 s1)
    refine ia_go hK ck_M_advance_170 ?_
    show K 175 [some (.inr (.inr 417)), none, none] [.inl 4, .inr (.inr 417)] (ia_wI h 417 7 s1)
    refine ia_go hK ck_M_advance_175 ⟨gk_12 (gd_wI hg (ko_12 pk_417)) pk_417, ?_⟩
    show K 316 [some (.inr (.inr 417)), none, none] [] (ia_wI (ia_wI h 417 7 s1) 417 5 4)
    obtain rfl := Option.some.inj hm
    exact hret 316 _ dc_M_advance_316
theorem gj_M_advance_157 {w : ia_O0} {h1 : ia_H} : ∀ (s1 : Int32) (h : ia_H), gd_ w h → j_M_advance_157 s1 h = some h1 → gd_ w h1 := by
  intro s1 h hg hm
  unfold j_M_advance_157 at hm
  by_cases c : (ia_i (ia_wI h 417 7 s1) 417 7) = 99
  · replace hm := ia_ifp hm c
    obtain rfl := Option.some.inj hm
    exact (gd_wI (gd_wI hg (ko_12 pk_417)) (ko_12 pk_417))
  · replace hm := ia_ifn hm c
    obtain rfl := Option.some.inj hm
    exact (gd_wI (gd_wI hg (ko_12 pk_417)) (ko_12 pk_417))
def f_M_advance (h : ia_H) : Option ia_H := l_M_advance_0 (fun h => (f_M_byteAt (ia_i (ia_wI h 417 4 (ia_i h 417 3)) 417 3) (ia_wI h 417 4 (ia_i h 417 3))).bind fun v3 => (if 0 ≤ v3 then ((f_M_isLetter v3 (ia_wI h 417 4 (ia_i h 417 3))).bind fun v4 => (if v4 = 0 then ((f_M_isDigit v3 (ia_wI h 417 4 (ia_i h 417 3))).bind fun v5 => (if v5 = 0 then (if v3 = 59 then (some (ia_wI (ia_wI (ia_wI h 417 4 (ia_i h 417 3)) 417 3 ((ia_i (ia_wI h 417 4 (ia_i h 417 3)) 417 3) + 1)) 417 5 2)) else (if v3 = 45 then (some (ia_wI (ia_wI (ia_wI h 417 4 (ia_i h 417 3)) 417 3 ((ia_i (ia_wI h 417 4 (ia_i h 417 3)) 417 3) + 1)) 417 5 5)) else (some (ia_wI (ia_wI (ia_wI h 417 4 (ia_i h 417 3)) 417 3 ((ia_i (ia_wI h 417 4 (ia_i h 417 3)) 417 3) + 1)) 417 5 4)))) else (l_M_advance_193 (fun h => if ((ia_i h 417 3) - (ia_i h 417 4)) ≤ 2 then (some (ia_wI h 417 5 1)) else (some (ia_wI h 417 5 4))) fu_ (ia_wI (ia_wI h 417 4 (ia_i h 417 3)) 417 6 0)))) else (l_M_advance_77 (fun x2 h => if ((ia_i h 417 3) - (ia_i h 417 4)) ≤ 5 then ((f_M_wordOf x2 h).bind fun v12 => (j_M_advance_157 v12 h)) else (j_M_advance_157 99 h)) fu_ 0 (ia_wI h 417 4 (ia_i h 417 3))))) else (some (ia_wI (ia_wI h 417 4 (ia_i h 417 3)) 417 5 0)))) fu_ h
theorem g_M_advance {w : ia_O0} {h : ia_H} (hg : gd_ w h) {q : ia_H} (hm : f_M_advance h = some q) : gd_ w q := by
  obtain ⟨h1, e1⟩ : ∃ x, x = q := ⟨_, rfl⟩
  subst e1
  unfold f_M_advance at hm
  refine gl_M_advance_0 ?_ fu_ h hg hm
  · intro h hg hm
    obtain ⟨v3, hv3, hm⟩ := ia_bnd hm
    by_cases c : 0 ≤ v3
    · replace hm := ia_ifp hm c
      obtain ⟨v4, hv4, hm⟩ := ia_bnd hm
      by_cases c : v4 = 0
      · replace hm := ia_ifp hm c
        obtain ⟨v5, hv5, hm⟩ := ia_bnd hm
        by_cases c : v5 = 0
        · replace hm := ia_ifp hm c
          by_cases c : v3 = 59
          · replace hm := ia_ifp hm c
            obtain rfl := Option.some.inj hm
            exact (gd_wI (gd_wI (gd_wI hg (ko_12 pk_417)) (ko_12 pk_417)) (ko_12 pk_417))
          · replace hm := ia_ifn hm c
            by_cases c : v3 = 45
            · replace hm := ia_ifp hm c
              obtain rfl := Option.some.inj hm
              exact (gd_wI (gd_wI (gd_wI hg (ko_12 pk_417)) (ko_12 pk_417)) (ko_12 pk_417))
            · replace hm := ia_ifn hm c
              obtain rfl := Option.some.inj hm
              exact (gd_wI (gd_wI (gd_wI hg (ko_12 pk_417)) (ko_12 pk_417)) (ko_12 pk_417))
        · replace hm := ia_ifn hm c
          refine gl_M_advance_193 ?_ fu_ (ia_wI (ia_wI h 417 4 (ia_i h 417 3)) 417 6 0) (gd_wI (gd_wI hg (ko_12 pk_417)) (ko_12 pk_417)) hm
          · intro h hg hm
            by_cases c : ((ia_i h 417 3) - (ia_i h 417 4)) ≤ 2
            · replace hm := ia_ifp hm c
              obtain rfl := Option.some.inj hm
              exact (gd_wI hg (ko_12 pk_417))
            · replace hm := ia_ifn hm c
              obtain rfl := Option.some.inj hm
              exact (gd_wI hg (ko_12 pk_417))
      · replace hm := ia_ifn hm c
        refine gl_M_advance_77 ?_ fu_ 0 (ia_wI h 417 4 (ia_i h 417 3)) (gd_wI hg (ko_12 pk_417)) hm
        · intro x2 h hg hm
          by_cases c : ((ia_i h 417 3) - (ia_i h 417 4)) ≤ 5
          · replace hm := ia_ifp hm c
            obtain ⟨v12, hv12, hm⟩ := ia_bnd hm
            exact gj_M_advance_157 v12 h hg hm
          · replace hm := ia_ifn hm c
            exact gj_M_advance_157 99 h hg hm
    · replace hm := ia_ifn hm c
      obtain rfl := Option.some.inj hm
      exact (gd_wI (gd_wI hg (ko_12 pk_417)) (ko_12 pk_417))
theorem t_M_advance {w : ia_O0} (d : Nat) {h : ia_H} (hg : gd_ w h) {q : ia_H} (hm : f_M_advance h = some q) : ia_Ev (d + 3) mm_M_advance [.inr (.inr 417)] h none q := by
  have gq := g_M_advance hg hm
  refine ia_Ev_intro ok_M_advance (gd_le hg gq).1 (gd_le hg gq).2 (Nat.le_of_ble_eq_true rfl) (fun K hK hret => ?_)
  obtain ⟨h1, e1⟩ : ∃ x, x = q := ⟨_, rfl⟩
  subst e1
  show K 0 [some (.inr (.inr 417)), none, none] [] h
  unfold f_M_advance at hm
  refine tl_M_advance_0 hK hret ?_ fu_ h hg hm
  · intro h hg hm
    refine ia_go hK ck_M_advance_39 ⟨gk_12 hg pk_417, gk_12 hg pk_417, gk_12 (gd_wI hg (ko_12 pk_417)) pk_417, ?_⟩
    show K 52 [some (.inr (.inr 417)), none, none] [.inl (ia_i (ia_wI h 417 4 (ia_i h 417 3)) 417 3), .inr (.inr 417)] (ia_wI h 417 4 (ia_i h 417 3))
    obtain ⟨v3, hv3, hm⟩ := ia_bnd hm
    have ev3 := t_M_byteAt (d + 2) (gd_wI hg (ko_12 pk_417)) hv3
    refine ia_cV hK mk_M_byteAt lk_12_83 dc_M_advance_52 417 [.inl (ia_i (ia_wI h 417 4 (ia_i h 417 3)) 417 3)] [] rfl rfl (Nat.le_of_ble_eq_true rfl) (by decide) rfl (gk_12 (gd_wI hg (ko_12 pk_417)) pk_417) ev3 ⟨rfl, rfl⟩ ?_
    show K 55 [some (.inr (.inr 417)), none, none] [.inl v3] (ia_wI h 417 4 (ia_i h 417 3))
    refine ia_go hK ck_M_advance_55 ⟨fun c => ?_, fun c => ?_⟩
    · replace hm := ia_ifp hm c
      show K 68 [some (.inr (.inr 417)), some (.inl v3), none] [] (ia_wI h 417 4 (ia_i h 417 3))
      refine ia_go hK ck_M_advance_68 ?_
      show K 69 [some (.inr (.inr 417)), some (.inl v3), none] [.inl v3] (ia_wI h 417 4 (ia_i h 417 3))
      obtain ⟨v4, hv4, hm⟩ := ia_bnd hm
      have ev4 := t_M_isLetter (d + 2) (gd_wI hg (ko_12 pk_417)) hv4
      refine ia_cS hK mk_M_isLetter lk_12_93 dc_M_advance_69 [.inl v3] [] rfl rfl (Nat.le_of_ble_eq_true rfl) ev4 ⟨rfl, rfl⟩ ?_
      show K 72 [some (.inr (.inr 417)), some (.inl v3), none] [.inl v4] (ia_wI h 417 4 (ia_i h 417 3))
      refine ia_go hK ck_M_advance_72 ⟨fun c => ?_, fun c => ?_⟩
      · replace hm := ia_ifp hm c
        show K 181 [some (.inr (.inr 417)), some (.inl v3), none] [] (ia_wI h 417 4 (ia_i h 417 3))
        refine ia_go hK ck_M_advance_181 ?_
        show K 182 [some (.inr (.inr 417)), some (.inl v3), none] [.inl v3] (ia_wI h 417 4 (ia_i h 417 3))
        obtain ⟨v5, hv5, hm⟩ := ia_bnd hm
        have ev5 := t_M_isDigit (d + 2) (gd_wI hg (ko_12 pk_417)) hv5
        refine ia_cS hK mk_M_isDigit lk_12_103 dc_M_advance_182 [.inl v3] [] rfl rfl (Nat.le_of_ble_eq_true rfl) ev5 ⟨rfl, rfl⟩ ?_
        show K 185 [some (.inr (.inr 417)), some (.inl v3), none] [.inl v5] (ia_wI h 417 4 (ia_i h 417 3))
        refine ia_go hK ck_M_advance_185 ⟨fun c => ?_, fun c => ?_⟩
        · replace hm := ia_ifp hm c
          show K 281 [some (.inr (.inr 417)), some (.inl v3), none] [] (ia_wI h 417 4 (ia_i h 417 3))
          refine ia_go hK ck_M_advance_281 ⟨gk_12 (gd_wI hg (ko_12 pk_417)) pk_417, gk_12 (gd_wI hg (ko_12 pk_417)) pk_417, fun c => ?_, fun c => ?_⟩
          · replace hm := ia_ifn hm c
            show K 302 [some (.inr (.inr 417)), some (.inl v3), none] [.inr (.inr 417)] (ia_wI (ia_wI h 417 4 (ia_i h 417 3)) 417 3 ((ia_i (ia_wI h 417 4 (ia_i h 417 3)) 417 3) + 1))
            refine ia_go hK ck_M_advance_302 ⟨fun c => ?_, fun c => ?_⟩
            · replace hm := ia_ifn hm c
              show K 312 [some (.inr (.inr 417)), some (.inl v3), none] [.inr (.inr 417)] (ia_wI (ia_wI h 417 4 (ia_i h 417 3)) 417 3 ((ia_i (ia_wI h 417 4 (ia_i h 417 3)) 417 3) + 1))
              refine ia_go hK ck_M_advance_312 ⟨gk_12 (gd_wI (gd_wI hg (ko_12 pk_417)) (ko_12 pk_417)) pk_417, ?_⟩
              show K 316 [some (.inr (.inr 417)), some (.inl v3), none] [] (ia_wI (ia_wI (ia_wI h 417 4 (ia_i h 417 3)) 417 3 ((ia_i (ia_wI h 417 4 (ia_i h 417 3)) 417 3) + 1)) 417 5 4)
              obtain rfl := Option.some.inj hm
              exact hret 316 _ dc_M_advance_316
            · replace hm := ia_ifp hm c
              show K 308 [some (.inr (.inr 417)), some (.inl v3), none] [.inr (.inr 417)] (ia_wI (ia_wI h 417 4 (ia_i h 417 3)) 417 3 ((ia_i (ia_wI h 417 4 (ia_i h 417 3)) 417 3) + 1))
              refine ia_go hK ck_M_advance_308 ?_
              show K 313 [some (.inr (.inr 417)), some (.inl v3), none] [.inl 5, .inr (.inr 417)] (ia_wI (ia_wI h 417 4 (ia_i h 417 3)) 417 3 ((ia_i (ia_wI h 417 4 (ia_i h 417 3)) 417 3) + 1))
              refine ia_go hK ck_M_advance_313 ⟨gk_12 (gd_wI (gd_wI hg (ko_12 pk_417)) (ko_12 pk_417)) pk_417, ?_⟩
              show K 316 [some (.inr (.inr 417)), some (.inl v3), none] [] (ia_wI (ia_wI (ia_wI h 417 4 (ia_i h 417 3)) 417 3 ((ia_i (ia_wI h 417 4 (ia_i h 417 3)) 417 3) + 1)) 417 5 5)
              obtain rfl := Option.some.inj hm
              exact hret 316 _ dc_M_advance_316
          · replace hm := ia_ifp hm c
            show K 298 [some (.inr (.inr 417)), some (.inl v3), none] [.inr (.inr 417)] (ia_wI (ia_wI h 417 4 (ia_i h 417 3)) 417 3 ((ia_i (ia_wI h 417 4 (ia_i h 417 3)) 417 3) + 1))
            refine ia_go hK ck_M_advance_298 ?_
            show K 313 [some (.inr (.inr 417)), some (.inl v3), none] [.inl 2, .inr (.inr 417)] (ia_wI (ia_wI h 417 4 (ia_i h 417 3)) 417 3 ((ia_i (ia_wI h 417 4 (ia_i h 417 3)) 417 3) + 1))
            refine ia_go hK ck_M_advance_313 ⟨gk_12 (gd_wI (gd_wI hg (ko_12 pk_417)) (ko_12 pk_417)) pk_417, ?_⟩
            show K 316 [some (.inr (.inr 417)), some (.inl v3), none] [] (ia_wI (ia_wI (ia_wI h 417 4 (ia_i h 417 3)) 417 3 ((ia_i (ia_wI h 417 4 (ia_i h 417 3)) 417 3) + 1)) 417 5 2)
            obtain rfl := Option.some.inj hm
            exact hret 316 _ dc_M_advance_316
        · replace hm := ia_ifn hm c
          show K 188 [some (.inr (.inr 417)), some (.inl v3), none] [] (ia_wI h 417 4 (ia_i h 417 3))
          refine ia_go hK ck_M_advance_188 ⟨gk_12 (gd_wI hg (ko_12 pk_417)) pk_417, ?_⟩
          show K 193 [some (.inr (.inr 417)), some (.inl v3), none] [] (ia_wI (ia_wI h 417 4 (ia_i h 417 3)) 417 6 0)
          refine ia_fg hK (lv' := [some (.inr (.inr 417)), none, none]) ⟨rfl, trivial⟩ ?_
          refine tl_M_advance_193 hK hret ?_ fu_ (ia_wI (ia_wI h 417 4 (ia_i h 417 3)) 417 6 0) (gd_wI (gd_wI hg (ko_12 pk_417)) (ko_12 pk_417)) hm
          · intro h hg hm
            refine ia_go hK ck_M_advance_256 ⟨gk_12 hg pk_417, gk_12 hg pk_417, fun c => ?_, fun c => ?_⟩
            · replace hm := ia_ifp hm c
              show K 274 [some (.inr (.inr 417)), none, none] [.inr (.inr 417)] h
              refine ia_go hK ck_M_advance_274 ⟨gk_12 hg pk_417, ?_⟩
              show K 316 [some (.inr (.inr 417)), none, none] [] (ia_wI h 417 5 1)
              obtain rfl := Option.some.inj hm
              exact hret 316 _ dc_M_advance_316
            · replace hm := ia_ifn hm c
              show K 270 [some (.inr (.inr 417)), none, none] [.inr (.inr 417)] h
              refine ia_go hK ck_M_advance_270 ?_
              show K 275 [some (.inr (.inr 417)), none, none] [.inl 4, .inr (.inr 417)] h
              refine ia_go hK ck_M_advance_275 ⟨gk_12 hg pk_417, ?_⟩
              show K 316 [some (.inr (.inr 417)), none, none] [] (ia_wI h 417 5 4)
              obtain rfl := Option.some.inj hm
              exact hret 316 _ dc_M_advance_316
      · replace hm := ia_ifn hm c
        show K 75 [some (.inr (.inr 417)), some (.inl v3), none] [] (ia_wI h 417 4 (ia_i h 417 3))
        refine ia_go hK ck_M_advance_75 ?_
        show K 77 [some (.inr (.inr 417)), some (.inl v3), some (.inl 0)] [] (ia_wI h 417 4 (ia_i h 417 3))
        refine ia_fg hK (lv' := [some (.inr (.inr 417)), none, some (.inl 0)]) ⟨rfl, rfl, trivial⟩ ?_
        refine tl_M_advance_77 hK hret ?_ fu_ 0 (ia_wI h 417 4 (ia_i h 417 3)) (gd_wI hg (ko_12 pk_417)) hm
        · intro x2 h hg hm
          refine ia_go hK ck_M_advance_134 ⟨gk_12 hg pk_417, gk_12 hg pk_417, fun c => ?_, fun c => ?_⟩
          · replace hm := ia_ifp hm c
            show K 153 [some (.inr (.inr 417)), none, some (.inl x2)] [.inr (.inr 417)] h
            refine ia_go hK ck_M_advance_153 ?_
            show K 154 [some (.inr (.inr 417)), none, some (.inl x2)] [.inl x2, .inr (.inr 417)] h
            obtain ⟨v12, hv12, hm⟩ := ia_bnd hm
            have ev12 := t_M_wordOf (d + 0) hg hv12
            refine ia_cS hK mk_M_wordOf lk_12_97 dc_M_advance_154 [.inl x2] [.inr (.inr 417)] rfl rfl (Nat.le_of_ble_eq_true rfl) ev12 ⟨rfl, rfl⟩ ?_
            show K 157 [some (.inr (.inr 417)), none, some (.inl x2)] [.inl v12, .inr (.inr 417)] h
            refine ia_fg hK (lv' := [some (.inr (.inr 417)), none, none]) ⟨rfl, trivial⟩ ?_
            exact tj_M_advance_157 hK hret v12 h hg hm
          · replace hm := ia_ifn hm c
            show K 148 [some (.inr (.inr 417)), none, some (.inl x2)] [.inr (.inr 417)] h
            refine ia_go hK ck_M_advance_148 ?_
            show K 157 [some (.inr (.inr 417)), none, some (.inl x2)] [.inl 99, .inr (.inr 417)] h
            refine ia_fg hK (lv' := [some (.inr (.inr 417)), none, none]) ⟨rfl, trivial⟩ ?_
            exact tj_M_advance_157 hK hret 99 h hg hm
    · replace hm := ia_ifn hm c
      show K 60 [some (.inr (.inr 417)), some (.inl v3), none] [] (ia_wI h 417 4 (ia_i h 417 3))
      refine ia_go hK ck_M_advance_60 ⟨gk_12 (gd_wI hg (ko_12 pk_417)) pk_417, ?_⟩
      show K 316 [some (.inr (.inr 417)), some (.inl v3), none] [] (ia_wI (ia_wI h 417 4 (ia_i h 417 3)) 417 5 0)
      obtain rfl := Option.some.inj hm
      exact hret 316 _ dc_M_advance_316
def mm_M_ends : ia_M := (⟨"IceStreetModel", "ends", "()V"⟩, prog_14_method_12_code, 1, none, 12, false)
theorem ok_M_ends : ia_mok mm_M_ends := ⟨by decide +kernel, by decide +kernel, by decide +kernel, by decide +kernel⟩
theorem mk_M_ends : ia_mkn mm_M_ends 1 0 := ⟨ia_tb_in (List.mem_of_getElem? (i := 1780) (by decide +kernel)) rfl, ia_tb_in (List.mem_of_getElem? (i := 146) (by decide +kernel)) rfl, by decide +kernel, by decide +kernel, ⟨ia_tb_in (List.mem_of_getElem? (i := 1779) (by decide +kernel)) rfl, ia_tb_in (List.mem_of_getElem? (i := 57) (by decide +kernel)) rfl⟩⟩
theorem ck_M_ends_0 : ia_cks 12 1 false prog_14_method_12_code 0 [(.aload_n 0, 0, 0, 0, 0), (.getfield 109, 12, 8, 0, 0), (.ifCond .eq 4, 0, 0, 0, 0)] = true := by decide +kernel
theorem ck_M_ends_8 : ia_cks 12 1 false prog_14_method_12_code 8 [(.aload_n 0, 0, 0, 0, 0), (.iconst 1, 0, 0, 0, 0), (.putfield 109, 12, 8, 5, 0), (.aload_n 0, 0, 0, 0, 0), (.getfield 7, 12, 0, 3, 1), (.iconst 4, 0, 0, 0, 0), (.iconst 1, 0, 0, 0, 0), (.iastore, 0, 0, 0, 0), (.aload_n 0, 0, 0, 0, 0), (.getfield 7, 12, 0, 3, 1), (.iconst 5, 0, 0, 0, 0), (.aload_n 0, 0, 0, 0, 0), (.getfield 87, 12, 4, 0, 0), (.iastore, 0, 0, 0, 0)] = true := by decide +kernel
theorem dc_M_ends_30 : decode prog_14_method_12_code 30 = .ok (.return_, 1) := by decide +kernel
theorem dc_M_ends_7 : decode prog_14_method_12_code 7 = .ok (.return_, 1) := by decide +kernel
def f_M_ends (h : ia_H) : Option ia_H := if (ia_i h 417 8) = 0 then (some (ia_wI (ia_wI (ia_wI h 417 8 1) 418 4 1) 418 5 (ia_i (ia_wI (ia_wI h 417 8 1) 418 4 1) 417 4))) else (some h)
theorem g_M_ends {w : ia_O0} {h : ia_H} (hg : gd_ w h) {q : ia_H} (hm : f_M_ends h = some q) : gd_ w q := by
  obtain ⟨h1, e1⟩ : ∃ x, x = q := ⟨_, rfl⟩
  subst e1
  unfold f_M_ends at hm
  by_cases c : (ia_i h 417 8) = 0
  · replace hm := ia_ifp hm c
    obtain rfl := Option.some.inj hm
    exact (gd_wI (gd_wI (gd_wI hg (ko_12 pk_417)) (kx_100 (ka_12_0 pk_417))) (kx_100 (ka_12_0 pk_417)))
  · replace hm := ia_ifn hm c
    obtain rfl := Option.some.inj hm
    exact hg
theorem t_M_ends {w : ia_O0} (d : Nat) {h : ia_H} (hg : gd_ w h) {q : ia_H} (hm : f_M_ends h = some q) : ia_Ev (d + 0) mm_M_ends [.inr (.inr 417)] h none q := by
  have gq := g_M_ends hg hm
  refine ia_Ev_intro ok_M_ends (gd_le hg gq).1 (gd_le hg gq).2 (Nat.le_of_ble_eq_true rfl) (fun K hK hret => ?_)
  obtain ⟨h1, e1⟩ : ∃ x, x = q := ⟨_, rfl⟩
  subst e1
  show K 0 [some (.inr (.inr 417))] [] h
  unfold f_M_ends at hm
  refine ia_go hK ck_M_ends_0 ⟨gk_12 hg pk_417, fun c => ?_, fun c => ?_⟩
  · replace hm := ia_ifp hm c
    show K 8 [some (.inr (.inr 417))] [] h
    refine ia_go hK ck_M_ends_8 ⟨gk_12 hg pk_417, Or.inr rfl, gk_12 (gd_wI hg (ko_12 pk_417)) pk_417, gr_12_0 (gd_wI hg (ko_12 pk_417)) pk_417, ga_s100 (gd_wI hg (ko_12 pk_417)) (ka_12_0 pk_417) (by decide), gk_12 (gd_wI (gd_wI hg (ko_12 pk_417)) (kx_100 (ka_12_0 pk_417))) pk_417, gr_12_0 (gd_wI (gd_wI hg (ko_12 pk_417)) (kx_100 (ka_12_0 pk_417))) pk_417, gk_12 (gd_wI (gd_wI hg (ko_12 pk_417)) (kx_100 (ka_12_0 pk_417))) pk_417, ga_s100 (gd_wI (gd_wI hg (ko_12 pk_417)) (kx_100 (ka_12_0 pk_417))) (ka_12_0 pk_417) (by decide), ?_⟩
    show K 30 [some (.inr (.inr 417))] [] (ia_wI (ia_wI (ia_wI h 417 8 1) 418 4 1) 418 5 (ia_i (ia_wI (ia_wI h 417 8 1) 418 4 1) 417 4))
    obtain rfl := Option.some.inj hm
    exact hret 30 _ dc_M_ends_30
  · replace hm := ia_ifn hm c
    show K 7 [some (.inr (.inr 417))] [] h
    obtain rfl := Option.some.inj hm
    exact hret 7 _ dc_M_ends_7
def mm_M_takes : ia_M := (⟨"IceStreetModel", "takes", "(II)I"⟩, prog_14_method_17_code, 4, (some .int), 12, false)
theorem ok_M_takes : ia_mok mm_M_takes := ⟨by decide +kernel, by decide +kernel, by decide +kernel, by decide +kernel⟩
theorem mk_M_takes : ia_mkn mm_M_takes 1 2 := ⟨ia_tb_in (List.mem_of_getElem? (i := 1776) (by decide +kernel)) rfl, ia_tb_in (List.mem_of_getElem? (i := 146) (by decide +kernel)) rfl, by decide +kernel, by decide +kernel, ⟨ia_tb_in (List.mem_of_getElem? (i := 1775) (by decide +kernel)) rfl, ia_tb_in (List.mem_of_getElem? (i := 56) (by decide +kernel)) rfl⟩⟩
theorem ck_M_takes_0 : ia_cks 12 4 false prog_14_method_17_code 0 [(.aload_n 0, 0, 0, 0, 0), (.getfield 109, 12, 8, 0, 0), (.ifCond .ne 23, 0, 0, 0, 0)] = true := by decide +kernel
theorem ck_M_takes_27 : ia_cks 12 4 false prog_14_method_17_code 27 [(.aload_n 0, 0, 0, 0, 0)] = true := by decide +kernel
theorem ck_M_takes_31 : ia_cks 12 4 false prog_14_method_17_code 31 [(.iconst 0, 0, 0, 0, 0)] = true := by decide +kernel
theorem ck_M_takes_7 : ia_cks 12 4 false prog_14_method_17_code 7 [(.aload_n 0, 0, 0, 0, 0), (.getfield 90, 12, 5, 0, 0), (.iconst 3, 0, 0, 0, 0), (.if_icmp .ne 15, 0, 0, 0, 0)] = true := by decide +kernel
theorem ck_M_takes_15 : ia_cks 12 4 false prog_14_method_17_code 15 [(.aload_n 0, 0, 0, 0, 0), (.getfield 100, 12, 7, 0, 0), (.iload_n 1, 0, 0, 0, 0), (.iload_n 2, 0, 0, 0, 0)] = true := by decide +kernel
theorem ck_M_takes_24 : ia_cks 12 4 false prog_14_method_17_code 24 [(.ifCond .ne 9, 0, 0, 0, 0)] = true := by decide +kernel
theorem ck_M_takes_33 : ia_cks 12 4 false prog_14_method_17_code 33 [(.aload_n 0, 0, 0, 0, 0), (.getfield 100, 12, 7, 0, 0), (.istore_n 3, 0, 0, 0, 0), (.aload_n 0, 0, 0, 0, 0)] = true := by decide +kernel
theorem ck_M_takes_42 : ia_cks 12 4 false prog_14_method_17_code 42 [(.iload_n 3, 0, 0, 0, 0)] = true := by decide +kernel
theorem dc_M_takes_28 : decode prog_14_method_17_code 28 = .ok (.invokevirtual 113, 3) := by decide +kernel
theorem dc_M_takes_32 : decode prog_14_method_17_code 32 = .ok (.ireturn, 1) := by decide +kernel
theorem dc_M_takes_21 : decode prog_14_method_17_code 21 = .ok (.invokestatic 116, 3) := by decide +kernel
theorem dc_M_takes_39 : decode prog_14_method_17_code 39 = .ok (.invokevirtual 124, 3) := by decide +kernel
theorem dc_M_takes_43 : decode prog_14_method_17_code 43 = .ok (.ireturn, 1) := by decide +kernel
def j_M_takes_27 (x1 : Int32) (x2 : Int32) (h : ia_H) : Option (Int32 × ia_H) := (f_M_ends h).bind fun v1 => (some (0, v1))
theorem tj_M_takes_27 {w : ia_O0} {d N1 W1 : Nat} {K : ia_K} (hK : ia_isK (d + 4) mm_M_takes N1 W1 K) {x1 : Int32} {x2 : Int32} {r : Int32} {h1 : ia_H} (hret : ∀ (pc : Nat) (lv : ia_L), ia_ret mm_M_takes pc (some (.inl r)) → K pc lv ((some (.inl r)) : Option ia_V).toList h1) : ∀ (h : ia_H), gd_ w h → j_M_takes_27 x1 x2 h = some (r, h1) → K 27 [some (.inr (.inr 417)), none, none, none] [] h := by
  intro h hg hm
  unfold j_M_takes_27 at hm
  refine ia_go hK ck_M_takes_27 ?_
  show K 28 [some (.inr (.inr 417)), none, none, none] [.inr (.inr 417)] h
  obtain ⟨v1, hv1, hm⟩ := ia_bnd hm
  have ev1 := t_M_ends (d + 3) hg hv1
  have gv1 := g_M_ends hg hv1
  refine ia_cV hK mk_M_ends lk_12_113 dc_M_takes_28 417 [] [] rfl rfl (Nat.le_of_ble_eq_true rfl) (by decide) rfl (gk_12 hg pk_417) ev1 (gd_nm hg gv1) ?_
  show K 31 [some (.inr (.inr 417)), none, none, none] [] v1
  refine ia_go hK ck_M_takes_31 ?_
  show K 32 [some (.inr (.inr 417)), none, none, none] [.inl 0] v1
  obtain ⟨rfl, rfl⟩ := Prod.mk.inj (Option.some.inj hm)
  exact hret 32 _ dc_M_takes_32
theorem gj_M_takes_27 {w : ia_O0} {x1 : Int32} {x2 : Int32} {r : Int32} {h1 : ia_H} : ∀ (h : ia_H), gd_ w h → j_M_takes_27 x1 x2 h = some (r, h1) → gd_ w h1 := by
  intro h hg hm
  unfold j_M_takes_27 at hm
  obtain ⟨v1, hv1, hm⟩ := ia_bnd hm
  have gv1 := g_M_ends hg hv1
  obtain ⟨rfl, rfl⟩ := Prod.mk.inj (Option.some.inj hm)
  exact gv1
def f_M_takes (x1 : Int32) (x2 : Int32) (h : ia_H) : Option (Int32 × ia_H) := if (ia_i h 417 8) = 0 then (if (ia_i h 417 5) = 3 then ((f_M_isIn (ia_i h 417 7) x1 x2 h).bind fun v2 => (if v2 = 0 then (j_M_takes_27 x1 x2 h) else ((f_M_advance h).bind fun v3 => (some (ia_i h 417 7, v3))))) else (j_M_takes_27 x1 x2 h)) else (j_M_takes_27 x1 x2 h)
theorem g_M_takes {w : ia_O0} {x1 : Int32} {x2 : Int32} {h : ia_H} (hg : gd_ w h) {q : (Int32 × ia_H)} (hm : f_M_takes x1 x2 h = some q) : gd_ w q.2 := by
  obtain ⟨r, h1⟩ := q
  unfold f_M_takes at hm
  by_cases c : (ia_i h 417 8) = 0
  · replace hm := ia_ifp hm c
    by_cases c : (ia_i h 417 5) = 3
    · replace hm := ia_ifp hm c
      obtain ⟨v2, hv2, hm⟩ := ia_bnd hm
      by_cases c : v2 = 0
      · replace hm := ia_ifp hm c
        exact gj_M_takes_27 h hg hm
      · replace hm := ia_ifn hm c
        obtain ⟨v3, hv3, hm⟩ := ia_bnd hm
        have gv3 := g_M_advance hg hv3
        obtain ⟨rfl, rfl⟩ := Prod.mk.inj (Option.some.inj hm)
        exact gv3
    · replace hm := ia_ifn hm c
      exact gj_M_takes_27 h hg hm
  · replace hm := ia_ifn hm c
    exact gj_M_takes_27 h hg hm
theorem t_M_takes {w : ia_O0} (d : Nat) {x1 : Int32} {x2 : Int32} {h : ia_H} (hg : gd_ w h) {q : (Int32 × ia_H)} (hm : f_M_takes x1 x2 h = some q) : ia_Ev (d + 4) mm_M_takes [.inr (.inr 417), .inl x1, .inl x2] h (some (.inl q.1)) q.2 := by
  have gq := g_M_takes hg hm
  refine ia_Ev_intro ok_M_takes (gd_le hg gq).1 (gd_le hg gq).2 (Nat.le_of_ble_eq_true rfl) (fun K hK hret => ?_)
  obtain ⟨r, h1⟩ := q
  show K 0 [some (.inr (.inr 417)), some (.inl x1), some (.inl x2), none] [] h
  unfold f_M_takes at hm
  refine ia_go hK ck_M_takes_0 ⟨gk_12 hg pk_417, fun c => ?_, fun c => ?_⟩
  · replace hm := ia_ifn hm c
    show K 27 [some (.inr (.inr 417)), some (.inl x1), some (.inl x2), none] [] h
    refine ia_fg hK (lv' := [some (.inr (.inr 417)), none, none, none]) ⟨rfl, trivial⟩ ?_
    exact tj_M_takes_27 hK hret h hg hm
  · replace hm := ia_ifp hm c
    show K 7 [some (.inr (.inr 417)), some (.inl x1), some (.inl x2), none] [] h
    refine ia_go hK ck_M_takes_7 ⟨gk_12 hg pk_417, fun c => ?_, fun c => ?_⟩
    · replace hm := ia_ifn hm c
      show K 27 [some (.inr (.inr 417)), some (.inl x1), some (.inl x2), none] [] h
      refine ia_fg hK (lv' := [some (.inr (.inr 417)), none, none, none]) ⟨rfl, trivial⟩ ?_
      exact tj_M_takes_27 hK hret h hg hm
    · replace hm := ia_ifp hm c
      show K 15 [some (.inr (.inr 417)), some (.inl x1), some (.inl x2), none] [] h
      refine ia_go hK ck_M_takes_15 ⟨gk_12 hg pk_417, ?_⟩
      show K 21 [some (.inr (.inr 417)), some (.inl x1), some (.inl x2), none] [.inl x2, .inl x1, .inl (ia_i h 417 7)] h
      obtain ⟨v2, hv2, hm⟩ := ia_bnd hm
      have ev2 := t_M_isIn (d + 3) hg hv2
      refine ia_cS hK mk_M_isIn lk_12_116 dc_M_takes_21 [.inl (ia_i h 417 7), .inl x1, .inl x2] [] rfl rfl (Nat.le_of_ble_eq_true rfl) ev2 ⟨rfl, rfl⟩ ?_
      show K 24 [some (.inr (.inr 417)), some (.inl x1), some (.inl x2), none] [.inl v2] h
      refine ia_go hK ck_M_takes_24 ⟨fun c => ?_, fun c => ?_⟩
      · replace hm := ia_ifn hm c
        show K 33 [some (.inr (.inr 417)), some (.inl x1), some (.inl x2), none] [] h
        refine ia_go hK ck_M_takes_33 ⟨gk_12 hg pk_417, ?_⟩
        show K 39 [some (.inr (.inr 417)), some (.inl x1), some (.inl x2), some (.inl (ia_i h 417 7))] [.inr (.inr 417)] h
        obtain ⟨v3, hv3, hm⟩ := ia_bnd hm
        have ev3 := t_M_advance (d + 0) hg hv3
        have gv3 := g_M_advance hg hv3
        refine ia_cV hK mk_M_advance lk_12_124 dc_M_takes_39 417 [] [] rfl rfl (Nat.le_of_ble_eq_true rfl) (by decide) rfl (gk_12 hg pk_417) ev3 (gd_nm hg gv3) ?_
        show K 42 [some (.inr (.inr 417)), some (.inl x1), some (.inl x2), some (.inl (ia_i h 417 7))] [] v3
        refine ia_go hK ck_M_takes_42 ?_
        show K 43 [some (.inr (.inr 417)), some (.inl x1), some (.inl x2), some (.inl (ia_i h 417 7))] [.inl (ia_i h 417 7)] v3
        obtain ⟨rfl, rfl⟩ := Prod.mk.inj (Option.some.inj hm)
        exact hret 43 _ dc_M_takes_43
      · replace hm := ia_ifp hm c
        show K 27 [some (.inr (.inr 417)), some (.inl x1), some (.inl x2), none] [] h
        refine ia_fg hK (lv' := [some (.inr (.inr 417)), none, none, none]) ⟨rfl, trivial⟩ ?_
        exact tj_M_takes_27 hK hret h hg hm
def mm_M_also : ia_M := (⟨"IceStreetModel", "also", "(II)V"⟩, prog_14_method_13_code, 3, none, 12, false)
theorem ok_M_also : ia_mok mm_M_also := ⟨by decide +kernel, by decide +kernel, by decide +kernel, by decide +kernel⟩
theorem mk_M_also : ia_mkn mm_M_also 1 2 := ⟨ia_tb_in (List.mem_of_getElem? (i := 1788) (by decide +kernel)) rfl, ia_tb_in (List.mem_of_getElem? (i := 146) (by decide +kernel)) rfl, by decide +kernel, by decide +kernel, ⟨ia_tb_in (List.mem_of_getElem? (i := 1787) (by decide +kernel)) rfl, ia_tb_in (List.mem_of_getElem? (i := 59) (by decide +kernel)) rfl⟩⟩
theorem ck_M_also_0 : ia_cks 12 3 false prog_14_method_13_code 0 [(.aload_n 0, 0, 0, 0, 0), (.getfield 109, 12, 8, 0, 0), (.ifCond .ne 42, 0, 0, 0, 0)] = true := by decide +kernel
theorem ck_M_also_7 : ia_cks 12 3 false prog_14_method_13_code 7 [(.aload_n 0, 0, 0, 0, 0), (.getfield 7, 12, 0, 3, 1), (.iconst 4, 0, 0, 0, 0), (.iaload, 0, 0, 0, 0), (.ifCond .eq 34, 0, 0, 0, 0)] = true := by decide +kernel
theorem ck_M_also_47 : ia_cks 12 3 false prog_14_method_13_code 47 [(.aload_n 0, 0, 0, 0, 0), (.getfield 7, 12, 0, 3, 1), (.iconst 4, 0, 0, 0, 0), (.iload_n 1, 0, 0, 0, 0), (.iastore, 0, 0, 0, 0), (.aload_n 0, 0, 0, 0, 0), (.getfield 7, 12, 0, 3, 1), (.iconst 5, 0, 0, 0, 0), (.iload_n 2, 0, 0, 0, 0), (.iastore, 0, 0, 0, 0)] = true := by decide +kernel
theorem ck_M_also_16 : ia_cks 12 3 false prog_14_method_13_code 16 [(.aload_n 0, 0, 0, 0, 0), (.getfield 7, 12, 0, 3, 1), (.iconst 5, 0, 0, 0, 0), (.iaload, 0, 0, 0, 0), (.iload_n 2, 0, 0, 0, 0), (.if_icmp .lt 23, 0, 0, 0, 0)] = true := by decide +kernel
theorem ck_M_also_26 : ia_cks 12 3 false prog_14_method_13_code 26 [(.aload_n 0, 0, 0, 0, 0), (.getfield 7, 12, 0, 3, 1), (.iconst 5, 0, 0, 0, 0), (.iaload, 0, 0, 0, 0), (.iload_n 2, 0, 0, 0, 0), (.if_icmp .ne 14, 0, 0, 0, 0)] = true := by decide +kernel
theorem ck_M_also_36 : ia_cks 12 3 false prog_14_method_13_code 36 [(.aload_n 0, 0, 0, 0, 0), (.getfield 7, 12, 0, 3, 1), (.iconst 4, 0, 0, 0, 0), (.iaload, 0, 0, 0, 0), (.iload_n 1, 0, 0, 0, 0), (.if_icmp .gt 4, 0, 0, 0, 0)] = true := by decide +kernel
theorem dc_M_also_46 : decode prog_14_method_13_code 46 = .ok (.return_, 1) := by decide +kernel
theorem dc_M_also_61 : decode prog_14_method_13_code 61 = .ok (.return_, 1) := by decide +kernel
def j_M_also_47 (x1 : Int32) (x2 : Int32) (h : ia_H) : Option ia_H := some (ia_wI (ia_wI h 418 4 x1) 418 5 x2)
theorem tj_M_also_47 {w : ia_O0} {d N1 W1 : Nat} {K : ia_K} (hK : ia_isK (d + 0) mm_M_also N1 W1 K) {x1 : Int32} {x2 : Int32} {h1 : ia_H} (hret : ∀ (pc : Nat) (lv : ia_L), ia_ret mm_M_also pc none → K pc lv (none : Option ia_V).toList h1) : ∀ (h : ia_H), gd_ w h → j_M_also_47 x1 x2 h = some h1 → K 47 [some (.inr (.inr 417)), some (.inl x1), some (.inl x2)] [] h := by
  intro h hg hm
  unfold j_M_also_47 at hm
  refine ia_go hK ck_M_also_47 ⟨gk_12 hg pk_417, gr_12_0 hg pk_417, ga_s100 hg (ka_12_0 pk_417) (by decide), gk_12 (gd_wI hg (kx_100 (ka_12_0 pk_417))) pk_417, gr_12_0 (gd_wI hg (kx_100 (ka_12_0 pk_417))) pk_417, ga_s100 (gd_wI hg (kx_100 (ka_12_0 pk_417))) (ka_12_0 pk_417) (by decide), ?_⟩
  show K 61 [some (.inr (.inr 417)), some (.inl x1), some (.inl x2)] [] (ia_wI (ia_wI h 418 4 x1) 418 5 x2)
  obtain rfl := Option.some.inj hm
  exact hret 61 _ dc_M_also_61
theorem gj_M_also_47 {w : ia_O0} {x1 : Int32} {x2 : Int32} {h1 : ia_H} : ∀ (h : ia_H), gd_ w h → j_M_also_47 x1 x2 h = some h1 → gd_ w h1 := by
  intro h hg hm
  unfold j_M_also_47 at hm
  obtain rfl := Option.some.inj hm
  exact (gd_wI (gd_wI hg (kx_100 (ka_12_0 pk_417))) (kx_100 (ka_12_0 pk_417)))
def f_M_also (x1 : Int32) (x2 : Int32) (h : ia_H) : Option ia_H := if (ia_i h 417 8) = 0 then (if (ia_i h 418 4) = 0 then (j_M_also_47 x1 x2 h) else (if (ia_i h 418 5) < x2 then (some h) else (if (ia_i h 418 5) = x2 then (if x1 < (ia_i h 418 4) then (j_M_also_47 x1 x2 h) else (some h)) else (j_M_also_47 x1 x2 h)))) else (some h)
theorem g_M_also {w : ia_O0} {x1 : Int32} {x2 : Int32} {h : ia_H} (hg : gd_ w h) {q : ia_H} (hm : f_M_also x1 x2 h = some q) : gd_ w q := by
  obtain ⟨h1, e1⟩ : ∃ x, x = q := ⟨_, rfl⟩
  subst e1
  unfold f_M_also at hm
  by_cases c : (ia_i h 417 8) = 0
  · replace hm := ia_ifp hm c
    by_cases c : (ia_i h 418 4) = 0
    · replace hm := ia_ifp hm c
      exact gj_M_also_47 h hg hm
    · replace hm := ia_ifn hm c
      by_cases c : (ia_i h 418 5) < x2
      · replace hm := ia_ifp hm c
        obtain rfl := Option.some.inj hm
        exact hg
      · replace hm := ia_ifn hm c
        by_cases c : (ia_i h 418 5) = x2
        · replace hm := ia_ifp hm c
          by_cases c : x1 < (ia_i h 418 4)
          · replace hm := ia_ifp hm c
            exact gj_M_also_47 h hg hm
          · replace hm := ia_ifn hm c
            obtain rfl := Option.some.inj hm
            exact hg
        · replace hm := ia_ifn hm c
          exact gj_M_also_47 h hg hm
  · replace hm := ia_ifn hm c
    obtain rfl := Option.some.inj hm
    exact hg
theorem t_M_also {w : ia_O0} (d : Nat) {x1 : Int32} {x2 : Int32} {h : ia_H} (hg : gd_ w h) {q : ia_H} (hm : f_M_also x1 x2 h = some q) : ia_Ev (d + 0) mm_M_also [.inr (.inr 417), .inl x1, .inl x2] h none q := by
  have gq := g_M_also hg hm
  refine ia_Ev_intro ok_M_also (gd_le hg gq).1 (gd_le hg gq).2 (Nat.le_of_ble_eq_true rfl) (fun K hK hret => ?_)
  obtain ⟨h1, e1⟩ : ∃ x, x = q := ⟨_, rfl⟩
  subst e1
  show K 0 [some (.inr (.inr 417)), some (.inl x1), some (.inl x2)] [] h
  unfold f_M_also at hm
  refine ia_go hK ck_M_also_0 ⟨gk_12 hg pk_417, fun c => ?_, fun c => ?_⟩
  · replace hm := ia_ifn hm c
    show K 46 [some (.inr (.inr 417)), some (.inl x1), some (.inl x2)] [] h
    obtain rfl := Option.some.inj hm
    exact hret 46 _ dc_M_also_46
  · replace hm := ia_ifp hm c
    show K 7 [some (.inr (.inr 417)), some (.inl x1), some (.inl x2)] [] h
    refine ia_go hK ck_M_also_7 ⟨gk_12 hg pk_417, gr_12_0 hg pk_417, ga_i100 hg (ka_12_0 pk_417) (by decide), fun c => ?_, fun c => ?_⟩
    · replace hm := ia_ifp hm c
      show K 47 [some (.inr (.inr 417)), some (.inl x1), some (.inl x2)] [] h
      exact tj_M_also_47 hK hret h hg hm
    · replace hm := ia_ifn hm c
      show K 16 [some (.inr (.inr 417)), some (.inl x1), some (.inl x2)] [] h
      refine ia_go hK ck_M_also_16 ⟨gk_12 hg pk_417, gr_12_0 hg pk_417, ga_i100 hg (ka_12_0 pk_417) (by decide), fun c => ?_, fun c => ?_⟩
      · replace hm := ia_ifp hm c
        show K 46 [some (.inr (.inr 417)), some (.inl x1), some (.inl x2)] [] h
        obtain rfl := Option.some.inj hm
        exact hret 46 _ dc_M_also_46
      · replace hm := ia_ifn hm c
        show K 26 [some (.inr (.inr 417)), some (.inl x1), some (.inl x2)] [] h
        refine ia_go hK ck_M_also_26 ⟨gk_12 hg pk_417, gr_12_0 hg pk_417, ga_i100 hg (ka_12_0 pk_417) (by decide), fun c => ?_, fun c => ?_⟩
        · replace hm := ia_ifn hm c
          show K 47 [some (.inr (.inr 417)), some (.inl x1), some (.inl x2)] [] h
          exact tj_M_also_47 hK hret h hg hm
        · replace hm := ia_ifp hm c
          show K 36 [some (.inr (.inr 417)), some (.inl x1), some (.inl x2)] [] h
          refine ia_go hK ck_M_also_36 ⟨gk_12 hg pk_417, gr_12_0 hg pk_417, ga_i100 hg (ka_12_0 pk_417) (by decide), fun c => ?_, fun c => ?_⟩
          · replace hm := ia_ifp hm c
            show K 47 [some (.inr (.inr 417)), some (.inl x1), some (.inl x2)] [] h
            exact tj_M_also_47 hK hret h hg hm
          · replace hm := ia_ifn hm c
            show K 46 [some (.inr (.inr 417)), some (.inl x1), some (.inl x2)] [] h
            obtain rfl := Option.some.inj hm
            exact hret 46 _ dc_M_also_46
def mm_M_numbered : ia_M := (⟨"IceStreetModel", "numbered", "(II)I"⟩, prog_14_method_14_code, 4, (some .int), 12, false)
theorem ok_M_numbered : ia_mok mm_M_numbered := ⟨by decide +kernel, by decide +kernel, by decide +kernel, by decide +kernel⟩
theorem mk_M_numbered : ia_mkn mm_M_numbered 1 2 := ⟨ia_tb_in (List.mem_of_getElem? (i := 1784) (by decide +kernel)) rfl, ia_tb_in (List.mem_of_getElem? (i := 146) (by decide +kernel)) rfl, by decide +kernel, by decide +kernel, ⟨ia_tb_in (List.mem_of_getElem? (i := 1783) (by decide +kernel)) rfl, ia_tb_in (List.mem_of_getElem? (i := 58) (by decide +kernel)) rfl⟩⟩
theorem ck_M_numbered_0 : ia_cks 12 4 false prog_14_method_14_code 0 [(.aload_n 0, 0, 0, 0, 0), (.getfield 109, 12, 8, 0, 0), (.ifCond .ne 11, 0, 0, 0, 0)] = true := by decide +kernel
theorem ck_M_numbered_15 : ia_cks 12 4 false prog_14_method_14_code 15 [(.aload_n 0, 0, 0, 0, 0)] = true := by decide +kernel
theorem ck_M_numbered_19 : ia_cks 12 4 false prog_14_method_14_code 19 [(.iconst (-1), 0, 0, 0, 0)] = true := by decide +kernel
theorem ck_M_numbered_7 : ia_cks 12 4 false prog_14_method_14_code 7 [(.aload_n 0, 0, 0, 0, 0), (.getfield 90, 12, 5, 0, 0), (.iconst 1, 0, 0, 0, 0), (.if_icmp .eq 9, 0, 0, 0, 0)] = true := by decide +kernel
theorem ck_M_numbered_21 : ia_cks 12 4 false prog_14_method_14_code 21 [(.aload_n 0, 0, 0, 0, 0), (.getfield 106, 12, 6, 0, 0), (.istore_n 3, 0, 0, 0, 0), (.iload_n 3, 0, 0, 0, 0), (.iload_n 1, 0, 0, 0, 0), (.iload_n 2, 0, 0, 0, 0)] = true := by decide +kernel
theorem ck_M_numbered_32 : ia_cks 12 4 false prog_14_method_14_code 32 [(.ifCond .ne 12, 0, 0, 0, 0)] = true := by decide +kernel
theorem ck_M_numbered_44 : ia_cks 12 4 false prog_14_method_14_code 44 [(.aload_n 0, 0, 0, 0, 0)] = true := by decide +kernel
theorem ck_M_numbered_48 : ia_cks 12 4 false prog_14_method_14_code 48 [(.iload_n 3, 0, 0, 0, 0), (.iload_n 1, 0, 0, 0, 0), (.iload_n 2, 0, 0, 0, 0)] = true := by decide +kernel
theorem ck_M_numbered_54 : ia_cks 12 4 false prog_14_method_14_code 54 [(.ifCond .eq 7, 0, 0, 0, 0)] = true := by decide +kernel
theorem ck_M_numbered_61 : ia_cks 12 4 false prog_14_method_14_code 61 [(.iconst (-1), 0, 0, 0, 0)] = true := by decide +kernel
theorem ck_M_numbered_57 : ia_cks 12 4 false prog_14_method_14_code 57 [(.iload_n 3, 0, 0, 0, 0), (.goto 4, 0, 0, 0, 0)] = true := by decide +kernel
theorem ck_M_numbered_35 : ia_cks 12 4 false prog_14_method_14_code 35 [(.aload_n 0, 0, 0, 0, 0), (.iconst 2, 0, 0, 0, 0), (.aload_n 0, 0, 0, 0, 0), (.getfield 87, 12, 4, 0, 0)] = true := by decide +kernel
theorem dc_M_numbered_16 : decode prog_14_method_14_code 16 = .ok (.invokevirtual 113, 3) := by decide +kernel
theorem dc_M_numbered_20 : decode prog_14_method_14_code 20 = .ok (.ireturn, 1) := by decide +kernel
theorem dc_M_numbered_29 : decode prog_14_method_14_code 29 = .ok (.invokestatic 116, 3) := by decide +kernel
theorem dc_M_numbered_45 : decode prog_14_method_14_code 45 = .ok (.invokevirtual 124, 3) := by decide +kernel
theorem dc_M_numbered_51 : decode prog_14_method_14_code 51 = .ok (.invokestatic 116, 3) := by decide +kernel
theorem dc_M_numbered_62 : decode prog_14_method_14_code 62 = .ok (.ireturn, 1) := by decide +kernel
theorem dc_M_numbered_41 : decode prog_14_method_14_code 41 = .ok (.invokevirtual 120, 3) := by decide +kernel
def j_M_numbered_15 (x1 : Int32) (x2 : Int32) (h : ia_H) : Option (Int32 × ia_H) := (f_M_ends h).bind fun v1 => (some ((-1), v1))
theorem tj_M_numbered_15 {w : ia_O0} {d N1 W1 : Nat} {K : ia_K} (hK : ia_isK (d + 4) mm_M_numbered N1 W1 K) {x1 : Int32} {x2 : Int32} {r : Int32} {h1 : ia_H} (hret : ∀ (pc : Nat) (lv : ia_L), ia_ret mm_M_numbered pc (some (.inl r)) → K pc lv ((some (.inl r)) : Option ia_V).toList h1) : ∀ (h : ia_H), gd_ w h → j_M_numbered_15 x1 x2 h = some (r, h1) → K 15 [some (.inr (.inr 417)), none, none, none] [] h := by
  intro h hg hm
  unfold j_M_numbered_15 at hm
  refine ia_go hK ck_M_numbered_15 ?_
  show K 16 [some (.inr (.inr 417)), none, none, none] [.inr (.inr 417)] h
  obtain ⟨v1, hv1, hm⟩ := ia_bnd hm
  have ev1 := t_M_ends (d + 3) hg hv1
  have gv1 := g_M_ends hg hv1
  refine ia_cV hK mk_M_ends lk_12_113 dc_M_numbered_16 417 [] [] rfl rfl (Nat.le_of_ble_eq_true rfl) (by decide) rfl (gk_12 hg pk_417) ev1 (gd_nm hg gv1) ?_
  show K 19 [some (.inr (.inr 417)), none, none, none] [] v1
  refine ia_go hK ck_M_numbered_19 ?_
  show K 20 [some (.inr (.inr 417)), none, none, none] [.inl (-1)] v1
  obtain ⟨rfl, rfl⟩ := Prod.mk.inj (Option.some.inj hm)
  exact hret 20 _ dc_M_numbered_20
theorem gj_M_numbered_15 {w : ia_O0} {x1 : Int32} {x2 : Int32} {r : Int32} {h1 : ia_H} : ∀ (h : ia_H), gd_ w h → j_M_numbered_15 x1 x2 h = some (r, h1) → gd_ w h1 := by
  intro h hg hm
  unfold j_M_numbered_15 at hm
  obtain ⟨v1, hv1, hm⟩ := ia_bnd hm
  have gv1 := g_M_ends hg hv1
  obtain ⟨rfl, rfl⟩ := Prod.mk.inj (Option.some.inj hm)
  exact gv1
def j_M_numbered_44 (x1 : Int32) (x2 : Int32) (x3 : Int32) (h : ia_H) : Option (Int32 × ia_H) := (f_M_advance h).bind fun v3 => ((f_M_isIn x3 x1 x2 v3).bind fun v4 => (if v4 = 0 then (some ((-1), v3)) else (some (x3, v3))))
theorem tj_M_numbered_44 {w : ia_O0} {d N1 W1 : Nat} {K : ia_K} (hK : ia_isK (d + 4) mm_M_numbered N1 W1 K) {x1 : Int32} {x2 : Int32} {r : Int32} {h1 : ia_H} (hret : ∀ (pc : Nat) (lv : ia_L), ia_ret mm_M_numbered pc (some (.inl r)) → K pc lv ((some (.inl r)) : Option ia_V).toList h1) : ∀ (x3 : Int32) (h : ia_H), gd_ w h → j_M_numbered_44 x1 x2 x3 h = some (r, h1) → K 44 [some (.inr (.inr 417)), some (.inl x1), some (.inl x2), some (.inl x3)] [] h := by
  intro x3 h hg hm
  unfold j_M_numbered_44 at hm
  refine ia_go hK ck_M_numbered_44 ?_
  show K 45 [some (.inr (.inr 417)), some (.inl x1), some (.inl x2), some (.inl x3)] [.inr (.inr 417)] h
  obtain ⟨v3, hv3, hm⟩ := ia_bnd hm
  have ev3 := t_M_advance (d + 0) hg hv3
  have gv3 := g_M_advance hg hv3
  refine ia_cV hK mk_M_advance lk_12_124 dc_M_numbered_45 417 [] [] rfl rfl (Nat.le_of_ble_eq_true rfl) (by decide) rfl (gk_12 hg pk_417) ev3 (gd_nm hg gv3) ?_
  show K 48 [some (.inr (.inr 417)), some (.inl x1), some (.inl x2), some (.inl x3)] [] v3
  refine ia_go hK ck_M_numbered_48 ?_
  show K 51 [some (.inr (.inr 417)), some (.inl x1), some (.inl x2), some (.inl x3)] [.inl x2, .inl x1, .inl x3] v3
  obtain ⟨v4, hv4, hm⟩ := ia_bnd hm
  have ev4 := t_M_isIn (d + 3) gv3 hv4
  refine ia_cS hK mk_M_isIn lk_12_116 dc_M_numbered_51 [.inl x3, .inl x1, .inl x2] [] rfl rfl (Nat.le_of_ble_eq_true rfl) ev4 ⟨rfl, rfl⟩ ?_
  show K 54 [some (.inr (.inr 417)), some (.inl x1), some (.inl x2), some (.inl x3)] [.inl v4] v3
  refine ia_go hK ck_M_numbered_54 ⟨fun c => ?_, fun c => ?_⟩
  · replace hm := ia_ifp hm c
    show K 61 [some (.inr (.inr 417)), some (.inl x1), some (.inl x2), some (.inl x3)] [] v3
    refine ia_go hK ck_M_numbered_61 ?_
    show K 62 [some (.inr (.inr 417)), some (.inl x1), some (.inl x2), some (.inl x3)] [.inl (-1)] v3
    obtain ⟨rfl, rfl⟩ := Prod.mk.inj (Option.some.inj hm)
    exact hret 62 _ dc_M_numbered_62
  · replace hm := ia_ifn hm c
    show K 57 [some (.inr (.inr 417)), some (.inl x1), some (.inl x2), some (.inl x3)] [] v3
    refine ia_go hK ck_M_numbered_57 ?_
    show K 62 [some (.inr (.inr 417)), some (.inl x1), some (.inl x2), some (.inl x3)] [.inl x3] v3
    obtain ⟨rfl, rfl⟩ := Prod.mk.inj (Option.some.inj hm)
    exact hret 62 _ dc_M_numbered_62
theorem gj_M_numbered_44 {w : ia_O0} {x1 : Int32} {x2 : Int32} {r : Int32} {h1 : ia_H} : ∀ (x3 : Int32) (h : ia_H), gd_ w h → j_M_numbered_44 x1 x2 x3 h = some (r, h1) → gd_ w h1 := by
  intro x3 h hg hm
  unfold j_M_numbered_44 at hm
  obtain ⟨v3, hv3, hm⟩ := ia_bnd hm
  have gv3 := g_M_advance hg hv3
  obtain ⟨v4, hv4, hm⟩ := ia_bnd hm
  by_cases c : v4 = 0
  · replace hm := ia_ifp hm c
    obtain ⟨rfl, rfl⟩ := Prod.mk.inj (Option.some.inj hm)
    exact gv3
  · replace hm := ia_ifn hm c
    obtain ⟨rfl, rfl⟩ := Prod.mk.inj (Option.some.inj hm)
    exact gv3
def f_M_numbered (x1 : Int32) (x2 : Int32) (h : ia_H) : Option (Int32 × ia_H) := if (ia_i h 417 8) = 0 then (if (ia_i h 417 5) = 1 then ((f_M_isIn (ia_i h 417 6) x1 x2 h).bind fun v2 => (if v2 = 0 then ((f_M_also 2 (ia_i h 417 4) h).bind fun v5 => (j_M_numbered_44 x1 x2 (ia_i h 417 6) v5)) else (j_M_numbered_44 x1 x2 (ia_i h 417 6) h))) else (j_M_numbered_15 x1 x2 h)) else (j_M_numbered_15 x1 x2 h)
theorem g_M_numbered {w : ia_O0} {x1 : Int32} {x2 : Int32} {h : ia_H} (hg : gd_ w h) {q : (Int32 × ia_H)} (hm : f_M_numbered x1 x2 h = some q) : gd_ w q.2 := by
  obtain ⟨r, h1⟩ := q
  unfold f_M_numbered at hm
  by_cases c : (ia_i h 417 8) = 0
  · replace hm := ia_ifp hm c
    by_cases c : (ia_i h 417 5) = 1
    · replace hm := ia_ifp hm c
      obtain ⟨v2, hv2, hm⟩ := ia_bnd hm
      by_cases c : v2 = 0
      · replace hm := ia_ifp hm c
        obtain ⟨v5, hv5, hm⟩ := ia_bnd hm
        have gv5 := g_M_also hg hv5
        exact gj_M_numbered_44 (ia_i h 417 6) v5 gv5 hm
      · replace hm := ia_ifn hm c
        exact gj_M_numbered_44 (ia_i h 417 6) h hg hm
    · replace hm := ia_ifn hm c
      exact gj_M_numbered_15 h hg hm
  · replace hm := ia_ifn hm c
    exact gj_M_numbered_15 h hg hm
theorem t_M_numbered {w : ia_O0} (d : Nat) {x1 : Int32} {x2 : Int32} {h : ia_H} (hg : gd_ w h) {q : (Int32 × ia_H)} (hm : f_M_numbered x1 x2 h = some q) : ia_Ev (d + 4) mm_M_numbered [.inr (.inr 417), .inl x1, .inl x2] h (some (.inl q.1)) q.2 := by
  have gq := g_M_numbered hg hm
  refine ia_Ev_intro ok_M_numbered (gd_le hg gq).1 (gd_le hg gq).2 (Nat.le_of_ble_eq_true rfl) (fun K hK hret => ?_)
  obtain ⟨r, h1⟩ := q
  show K 0 [some (.inr (.inr 417)), some (.inl x1), some (.inl x2), none] [] h
  unfold f_M_numbered at hm
  refine ia_go hK ck_M_numbered_0 ⟨gk_12 hg pk_417, fun c => ?_, fun c => ?_⟩
  · replace hm := ia_ifn hm c
    show K 15 [some (.inr (.inr 417)), some (.inl x1), some (.inl x2), none] [] h
    refine ia_fg hK (lv' := [some (.inr (.inr 417)), none, none, none]) ⟨rfl, trivial⟩ ?_
    exact tj_M_numbered_15 hK hret h hg hm
  · replace hm := ia_ifp hm c
    show K 7 [some (.inr (.inr 417)), some (.inl x1), some (.inl x2), none] [] h
    refine ia_go hK ck_M_numbered_7 ⟨gk_12 hg pk_417, fun c => ?_, fun c => ?_⟩
    · replace hm := ia_ifp hm c
      show K 21 [some (.inr (.inr 417)), some (.inl x1), some (.inl x2), none] [] h
      refine ia_go hK ck_M_numbered_21 ⟨gk_12 hg pk_417, ?_⟩
      show K 29 [some (.inr (.inr 417)), some (.inl x1), some (.inl x2), some (.inl (ia_i h 417 6))] [.inl x2, .inl x1, .inl (ia_i h 417 6)] h
      obtain ⟨v2, hv2, hm⟩ := ia_bnd hm
      have ev2 := t_M_isIn (d + 3) hg hv2
      refine ia_cS hK mk_M_isIn lk_12_116 dc_M_numbered_29 [.inl (ia_i h 417 6), .inl x1, .inl x2] [] rfl rfl (Nat.le_of_ble_eq_true rfl) ev2 ⟨rfl, rfl⟩ ?_
      show K 32 [some (.inr (.inr 417)), some (.inl x1), some (.inl x2), some (.inl (ia_i h 417 6))] [.inl v2] h
      refine ia_go hK ck_M_numbered_32 ⟨fun c => ?_, fun c => ?_⟩
      · replace hm := ia_ifn hm c
        show K 44 [some (.inr (.inr 417)), some (.inl x1), some (.inl x2), some (.inl (ia_i h 417 6))] [] h
        exact tj_M_numbered_44 hK hret (ia_i h 417 6) h hg hm
      · replace hm := ia_ifp hm c
        show K 35 [some (.inr (.inr 417)), some (.inl x1), some (.inl x2), some (.inl (ia_i h 417 6))] [] h
        refine ia_go hK ck_M_numbered_35 ⟨gk_12 hg pk_417, ?_⟩
        show K 41 [some (.inr (.inr 417)), some (.inl x1), some (.inl x2), some (.inl (ia_i h 417 6))] [.inl (ia_i h 417 4), .inl 2, .inr (.inr 417)] h
        obtain ⟨v5, hv5, hm⟩ := ia_bnd hm
        have ev5 := t_M_also (d + 3) hg hv5
        have gv5 := g_M_also hg hv5
        refine ia_cV hK mk_M_also lk_12_120 dc_M_numbered_41 417 [.inl 2, .inl (ia_i h 417 4)] [] rfl rfl (Nat.le_of_ble_eq_true rfl) (by decide) rfl (gk_12 hg pk_417) ev5 (gd_nm hg gv5) ?_
        show K 44 [some (.inr (.inr 417)), some (.inl x1), some (.inl x2), some (.inl (ia_i h 417 6))] [] v5
        exact tj_M_numbered_44 hK hret (ia_i h 417 6) v5 gv5 hm
    · replace hm := ia_ifn hm c
      show K 15 [some (.inr (.inr 417)), some (.inl x1), some (.inl x2), none] [] h
      refine ia_fg hK (lv' := [some (.inr (.inr 417)), none, none, none]) ⟨rfl, trivial⟩ ?_
      exact tj_M_numbered_15 hK hret h hg hm
def mm_M_cellOf : ia_M := (⟨"IceStreetModel", "cellOf", "()I"⟩, prog_14_method_15_code, 2, (some .int), 12, false)
theorem ok_M_cellOf : ia_mok mm_M_cellOf := ⟨by decide +kernel, by decide +kernel, by decide +kernel, by decide +kernel⟩
theorem mk_M_cellOf : ia_mkn mm_M_cellOf 1 0 := ⟨ia_tb_in (List.mem_of_getElem? (i := 1792) (by decide +kernel)) rfl, ia_tb_in (List.mem_of_getElem? (i := 146) (by decide +kernel)) rfl, by decide +kernel, by decide +kernel, ⟨ia_tb_in (List.mem_of_getElem? (i := 1791) (by decide +kernel)) rfl, ia_tb_in (List.mem_of_getElem? (i := 60) (by decide +kernel)) rfl⟩⟩
theorem ck_M_cellOf_0 : ia_cks 12 2 false prog_14_method_15_code 0 [(.aload_n 0, 0, 0, 0, 0), (.iconst 0, 0, 0, 0, 0), (.bipush 35, 0, 0, 0, 0)] = true := by decide +kernel
theorem ck_M_cellOf_7 : ia_cks 12 2 false prog_14_method_15_code 7 [(.istore_n 1, 0, 0, 0, 0), (.aload_n 0, 0, 0, 0, 0), (.iload_n 1, 0, 0, 0, 0), (.aload_n 0, 0, 0, 0, 0), (.getfield 131, 12, 9, 0, 0), (.if_icmp .le 7, 0, 0, 0, 0)] = true := by decide +kernel
theorem ck_M_cellOf_21 : ia_cks 12 2 false prog_14_method_15_code 21 [(.aload_n 0, 0, 0, 0, 0), (.getfield 131, 12, 9, 0, 0), (.putfield 131, 12, 9, 0, 0), (.iload_n 1, 0, 0, 0, 0)] = true := by decide +kernel
theorem ck_M_cellOf_17 : ia_cks 12 2 false prog_14_method_15_code 17 [(.iload_n 1, 0, 0, 0, 0), (.goto 7, 0, 0, 0, 0)] = true := by decide +kernel
theorem ck_M_cellOf_25 : ia_cks 12 2 false prog_14_method_15_code 25 [(.putfield 131, 12, 9, 0, 0), (.iload_n 1, 0, 0, 0, 0)] = true := by decide +kernel
theorem dc_M_cellOf_4 : decode prog_14_method_15_code 4 = .ok (.invokevirtual 127, 3) := by decide +kernel
theorem dc_M_cellOf_29 : decode prog_14_method_15_code 29 = .ok (.ireturn, 1) := by decide +kernel
def f_M_cellOf (h : ia_H) : Option (Int32 × ia_H) := (f_M_numbered 0 35 h).bind fun v1 => (if v1.1 ≤ (ia_i v1.2 417 9) then (some (v1.1, ia_wI v1.2 417 9 (ia_i v1.2 417 9))) else (some (v1.1, ia_wI v1.2 417 9 v1.1)))
theorem g_M_cellOf {w : ia_O0} {h : ia_H} (hg : gd_ w h) {q : (Int32 × ia_H)} (hm : f_M_cellOf h = some q) : gd_ w q.2 := by
  obtain ⟨r, h1⟩ := q
  unfold f_M_cellOf at hm
  obtain ⟨v1, hv1, hm⟩ := ia_bnd hm
  have gv1 := g_M_numbered hg hv1
  by_cases c : v1.1 ≤ (ia_i v1.2 417 9)
  · replace hm := ia_ifp hm c
    obtain ⟨rfl, rfl⟩ := Prod.mk.inj (Option.some.inj hm)
    exact (gd_wI gv1 (ko_12 pk_417))
  · replace hm := ia_ifn hm c
    obtain ⟨rfl, rfl⟩ := Prod.mk.inj (Option.some.inj hm)
    exact (gd_wI gv1 (ko_12 pk_417))
theorem t_M_cellOf {w : ia_O0} (d : Nat) {h : ia_H} (hg : gd_ w h) {q : (Int32 × ia_H)} (hm : f_M_cellOf h = some q) : ia_Ev (d + 5) mm_M_cellOf [.inr (.inr 417)] h (some (.inl q.1)) q.2 := by
  have gq := g_M_cellOf hg hm
  refine ia_Ev_intro ok_M_cellOf (gd_le hg gq).1 (gd_le hg gq).2 (Nat.le_of_ble_eq_true rfl) (fun K hK hret => ?_)
  obtain ⟨r, h1⟩ := q
  show K 0 [some (.inr (.inr 417)), none] [] h
  unfold f_M_cellOf at hm
  refine ia_go hK ck_M_cellOf_0 ?_
  show K 4 [some (.inr (.inr 417)), none] [.inl 35, .inl 0, .inr (.inr 417)] h
  obtain ⟨v1, hv1, hm⟩ := ia_bnd hm
  have ev1 := t_M_numbered (d + 0) hg hv1
  have gv1 := g_M_numbered hg hv1
  refine ia_cV hK mk_M_numbered lk_12_127 dc_M_cellOf_4 417 [.inl 0, .inl 35] [] rfl rfl (Nat.le_of_ble_eq_true rfl) (by decide) rfl (gk_12 hg pk_417) ev1 (gd_nm hg gv1) ?_
  show K 7 [some (.inr (.inr 417)), none] [.inl v1.1] v1.2
  refine ia_go hK ck_M_cellOf_7 ⟨gk_12 gv1 pk_417, fun c => ?_, fun c => ?_⟩
  · replace hm := ia_ifp hm c
    show K 21 [some (.inr (.inr 417)), some (.inl v1.1)] [.inr (.inr 417)] v1.2
    refine ia_go hK ck_M_cellOf_21 ⟨gk_12 gv1 pk_417, gk_12 gv1 pk_417, ?_⟩
    show K 29 [some (.inr (.inr 417)), some (.inl v1.1)] [.inl v1.1] (ia_wI v1.2 417 9 (ia_i v1.2 417 9))
    obtain ⟨rfl, rfl⟩ := Prod.mk.inj (Option.some.inj hm)
    exact hret 29 _ dc_M_cellOf_29
  · replace hm := ia_ifn hm c
    show K 17 [some (.inr (.inr 417)), some (.inl v1.1)] [.inr (.inr 417)] v1.2
    refine ia_go hK ck_M_cellOf_17 ?_
    show K 25 [some (.inr (.inr 417)), some (.inl v1.1)] [.inl v1.1, .inr (.inr 417)] v1.2
    refine ia_go hK ck_M_cellOf_25 ⟨gk_12 gv1 pk_417, ?_⟩
    show K 29 [some (.inr (.inr 417)), some (.inl v1.1)] [.inl v1.1] (ia_wI v1.2 417 9 v1.1)
    obtain ⟨rfl, rfl⟩ := Prod.mk.inj (Option.some.inj hm)
    exact hret 29 _ dc_M_cellOf_29
def mm_M_otherCell : ia_M := (⟨"IceStreetModel", "otherCell", "(I)I"⟩, prog_14_method_16_code, 2, (some .int), 12, false)
theorem ok_M_otherCell : ia_mok mm_M_otherCell := ⟨by decide +kernel, by decide +kernel, by decide +kernel, by decide +kernel⟩
theorem mk_M_otherCell : ia_mkn mm_M_otherCell 1 1 := ⟨ia_tb_in (List.mem_of_getElem? (i := 1800) (by decide +kernel)) rfl, ia_tb_in (List.mem_of_getElem? (i := 146) (by decide +kernel)) rfl, by decide +kernel, by decide +kernel, ⟨ia_tb_in (List.mem_of_getElem? (i := 1799) (by decide +kernel)) rfl, ia_tb_in (List.mem_of_getElem? (i := 62) (by decide +kernel)) rfl⟩⟩
theorem ck_M_otherCell_0 : ia_cks 12 2 false prog_14_method_16_code 0 [(.aload_n 0, 0, 0, 0, 0), (.getfield 90, 12, 5, 0, 0), (.iconst 1, 0, 0, 0, 0), (.if_icmp .ne 20, 0, 0, 0, 0)] = true := by decide +kernel
theorem ck_M_otherCell_25 : ia_cks 12 2 false prog_14_method_16_code 25 [(.aload_n 0, 0, 0, 0, 0)] = true := by decide +kernel
theorem ck_M_otherCell_8 : ia_cks 12 2 false prog_14_method_16_code 8 [(.aload_n 0, 0, 0, 0, 0), (.getfield 106, 12, 6, 0, 0), (.iload_n 1, 0, 0, 0, 0), (.if_icmp .ne 12, 0, 0, 0, 0)] = true := by decide +kernel
theorem ck_M_otherCell_16 : ia_cks 12 2 false prog_14_method_16_code 16 [(.aload_n 0, 0, 0, 0, 0), (.iconst 2, 0, 0, 0, 0), (.aload_n 0, 0, 0, 0, 0), (.getfield 87, 12, 4, 0, 0)] = true := by decide +kernel
theorem dc_M_otherCell_26 : decode prog_14_method_16_code 26 = .ok (.invokevirtual 134, 3) := by decide +kernel
theorem dc_M_otherCell_29 : decode prog_14_method_16_code 29 = .ok (.ireturn, 1) := by decide +kernel
theorem dc_M_otherCell_22 : decode prog_14_method_16_code 22 = .ok (.invokevirtual 120, 3) := by decide +kernel
def j_M_otherCell_25 (x1 : Int32) (h : ia_H) : Option (Int32 × ia_H) := (f_M_cellOf h).bind fun v1 => (some (v1.1, v1.2))
theorem tj_M_otherCell_25 {w : ia_O0} {d N1 W1 : Nat} {K : ia_K} (hK : ia_isK (d + 6) mm_M_otherCell N1 W1 K) {x1 : Int32} {r : Int32} {h1 : ia_H} (hret : ∀ (pc : Nat) (lv : ia_L), ia_ret mm_M_otherCell pc (some (.inl r)) → K pc lv ((some (.inl r)) : Option ia_V).toList h1) : ∀ (h : ia_H), gd_ w h → j_M_otherCell_25 x1 h = some (r, h1) → K 25 [some (.inr (.inr 417)), none] [] h := by
  intro h hg hm
  unfold j_M_otherCell_25 at hm
  refine ia_go hK ck_M_otherCell_25 ?_
  show K 26 [some (.inr (.inr 417)), none] [.inr (.inr 417)] h
  obtain ⟨v1, hv1, hm⟩ := ia_bnd hm
  have ev1 := t_M_cellOf (d + 0) hg hv1
  have gv1 := g_M_cellOf hg hv1
  refine ia_cV hK mk_M_cellOf lk_12_134 dc_M_otherCell_26 417 [] [] rfl rfl (Nat.le_of_ble_eq_true rfl) (by decide) rfl (gk_12 hg pk_417) ev1 (gd_nm hg gv1) ?_
  show K 29 [some (.inr (.inr 417)), none] [.inl v1.1] v1.2
  obtain ⟨rfl, rfl⟩ := Prod.mk.inj (Option.some.inj hm)
  exact hret 29 _ dc_M_otherCell_29
theorem gj_M_otherCell_25 {w : ia_O0} {x1 : Int32} {r : Int32} {h1 : ia_H} : ∀ (h : ia_H), gd_ w h → j_M_otherCell_25 x1 h = some (r, h1) → gd_ w h1 := by
  intro h hg hm
  unfold j_M_otherCell_25 at hm
  obtain ⟨v1, hv1, hm⟩ := ia_bnd hm
  have gv1 := g_M_cellOf hg hv1
  obtain ⟨rfl, rfl⟩ := Prod.mk.inj (Option.some.inj hm)
  exact gv1
def f_M_otherCell (x1 : Int32) (h : ia_H) : Option (Int32 × ia_H) := if (ia_i h 417 5) = 1 then (if (ia_i h 417 6) = x1 then ((f_M_also 2 (ia_i h 417 4) h).bind fun v2 => (j_M_otherCell_25 x1 v2)) else (j_M_otherCell_25 x1 h)) else (j_M_otherCell_25 x1 h)
theorem g_M_otherCell {w : ia_O0} {x1 : Int32} {h : ia_H} (hg : gd_ w h) {q : (Int32 × ia_H)} (hm : f_M_otherCell x1 h = some q) : gd_ w q.2 := by
  obtain ⟨r, h1⟩ := q
  unfold f_M_otherCell at hm
  by_cases c : (ia_i h 417 5) = 1
  · replace hm := ia_ifp hm c
    by_cases c : (ia_i h 417 6) = x1
    · replace hm := ia_ifp hm c
      obtain ⟨v2, hv2, hm⟩ := ia_bnd hm
      have gv2 := g_M_also hg hv2
      exact gj_M_otherCell_25 v2 gv2 hm
    · replace hm := ia_ifn hm c
      exact gj_M_otherCell_25 h hg hm
  · replace hm := ia_ifn hm c
    exact gj_M_otherCell_25 h hg hm
theorem t_M_otherCell {w : ia_O0} (d : Nat) {x1 : Int32} {h : ia_H} (hg : gd_ w h) {q : (Int32 × ia_H)} (hm : f_M_otherCell x1 h = some q) : ia_Ev (d + 6) mm_M_otherCell [.inr (.inr 417), .inl x1] h (some (.inl q.1)) q.2 := by
  have gq := g_M_otherCell hg hm
  refine ia_Ev_intro ok_M_otherCell (gd_le hg gq).1 (gd_le hg gq).2 (Nat.le_of_ble_eq_true rfl) (fun K hK hret => ?_)
  obtain ⟨r, h1⟩ := q
  show K 0 [some (.inr (.inr 417)), some (.inl x1)] [] h
  unfold f_M_otherCell at hm
  refine ia_go hK ck_M_otherCell_0 ⟨gk_12 hg pk_417, fun c => ?_, fun c => ?_⟩
  · replace hm := ia_ifn hm c
    show K 25 [some (.inr (.inr 417)), some (.inl x1)] [] h
    refine ia_fg hK (lv' := [some (.inr (.inr 417)), none]) ⟨rfl, trivial⟩ ?_
    exact tj_M_otherCell_25 hK hret h hg hm
  · replace hm := ia_ifp hm c
    show K 8 [some (.inr (.inr 417)), some (.inl x1)] [] h
    refine ia_go hK ck_M_otherCell_8 ⟨gk_12 hg pk_417, fun c => ?_, fun c => ?_⟩
    · replace hm := ia_ifn hm c
      show K 25 [some (.inr (.inr 417)), some (.inl x1)] [] h
      refine ia_fg hK (lv' := [some (.inr (.inr 417)), none]) ⟨rfl, trivial⟩ ?_
      exact tj_M_otherCell_25 hK hret h hg hm
    · replace hm := ia_ifp hm c
      show K 16 [some (.inr (.inr 417)), some (.inl x1)] [] h
      refine ia_go hK ck_M_otherCell_16 ⟨gk_12 hg pk_417, ?_⟩
      show K 22 [some (.inr (.inr 417)), some (.inl x1)] [.inl (ia_i h 417 4), .inl 2, .inr (.inr 417)] h
      obtain ⟨v2, hv2, hm⟩ := ia_bnd hm
      have ev2 := t_M_also (d + 5) hg hv2
      have gv2 := g_M_also hg hv2
      refine ia_cV hK mk_M_also lk_12_120 dc_M_otherCell_22 417 [.inl 2, .inl (ia_i h 417 4)] [] rfl rfl (Nat.le_of_ble_eq_true rfl) (by decide) rfl (gk_12 hg pk_417) ev2 (gd_nm hg gv2) ?_
      show K 25 [some (.inr (.inr 417)), some (.inl x1)] [] v2
      refine ia_fg hK (lv' := [some (.inr (.inr 417)), none]) ⟨rfl, trivial⟩ ?_
      exact tj_M_otherCell_25 hK hret v2 gv2 hm
def mm_M_crackLine : ia_M := (⟨"IceStreetModel", "crackLine", "()V"⟩, prog_14_method_21_code, 3, none, 12, false)
theorem ok_M_crackLine : ia_mok mm_M_crackLine := ⟨by decide +kernel, by decide +kernel, by decide +kernel, by decide +kernel⟩
theorem mk_M_crackLine : ia_mkn mm_M_crackLine 1 0 := ⟨ia_tb_in (List.mem_of_getElem? (i := 1796) (by decide +kernel)) rfl, ia_tb_in (List.mem_of_getElem? (i := 146) (by decide +kernel)) rfl, by decide +kernel, by decide +kernel, ⟨ia_tb_in (List.mem_of_getElem? (i := 1795) (by decide +kernel)) rfl, ia_tb_in (List.mem_of_getElem? (i := 61) (by decide +kernel)) rfl⟩⟩
theorem ck_M_crackLine_0 : ia_cks 12 3 false prog_14_method_21_code 0 [(.aload_n 0, 0, 0, 0, 0)] = true := by decide +kernel
theorem ck_M_crackLine_4 : ia_cks 12 3 false prog_14_method_21_code 4 [(.istore_n 1, 0, 0, 0, 0), (.aload_n 0, 0, 0, 0, 0), (.iload_n 1, 0, 0, 0, 0)] = true := by decide +kernel
theorem ck_M_crackLine_10 : ia_cks 12 3 false prog_14_method_21_code 10 [(.istore_n 2, 0, 0, 0, 0), (.aload_n 0, 0, 0, 0, 0), (.getfield 141, 12, 11, 0, 0), (.bipush 68, 0, 0, 0, 0), (.if_icmp .ge 29, 0, 0, 0, 0)] = true := by decide +kernel
theorem ck_M_crackLine_46 : ia_cks 12 3 false prog_14_method_21_code 46 [(.aload_n 0, 0, 0, 0, 0), (.dup, 0, 0, 0, 0), (.getfield 141, 12, 11, 0, 0), (.iconst 1, 0, 0, 0, 0), (.iadd, 0, 0, 0, 0), (.putfield 141, 12, 11, 0, 0)] = true := by decide +kernel
theorem ck_M_crackLine_20 : ia_cks 12 3 false prog_14_method_21_code 20 [(.aload_n 0, 0, 0, 0, 0), (.getfield 20, 12, 12, 3, 4), (.iconst 2, 0, 0, 0, 0), (.aload_n 0, 0, 0, 0, 0), (.getfield 141, 12, 11, 0, 0), (.imul, 0, 0, 0, 0), (.iload_n 1, 0, 0, 0, 0), (.iastore, 0, 0, 0, 0), (.aload_n 0, 0, 0, 0, 0), (.getfield 20, 12, 12, 3, 4), (.iconst 2, 0, 0, 0, 0), (.aload_n 0, 0, 0, 0, 0), (.getfield 141, 12, 11, 0, 0), (.imul, 0, 0, 0, 0), (.iconst 1, 0, 0, 0, 0), (.iadd, 0, 0, 0, 0), (.iload_n 2, 0, 0, 0, 0), (.iastore, 0, 0, 0, 0)] = true := by decide +kernel
theorem dc_M_crackLine_1 : decode prog_14_method_21_code 1 = .ok (.invokevirtual 134, 3) := by decide +kernel
theorem dc_M_crackLine_7 : decode prog_14_method_21_code 7 = .ok (.invokevirtual 138, 3) := by decide +kernel
theorem dc_M_crackLine_56 : decode prog_14_method_21_code 56 = .ok (.return_, 1) := by decide +kernel
def j_M_crackLine_46 (h : ia_H) : Option ia_H := some (ia_wI h 417 11 ((ia_i h 417 11) + 1))
theorem tj_M_crackLine_46 {w : ia_O0} {d N1 W1 : Nat} {K : ia_K} (hK : ia_isK (d + 7) mm_M_crackLine N1 W1 K) {h1 : ia_H} (hret : ∀ (pc : Nat) (lv : ia_L), ia_ret mm_M_crackLine pc none → K pc lv (none : Option ia_V).toList h1) : ∀ (h : ia_H), gd_ w h → j_M_crackLine_46 h = some h1 → K 46 [some (.inr (.inr 417)), none, none] [] h := by
  intro h hg hm
  unfold j_M_crackLine_46 at hm
  refine ia_go hK ck_M_crackLine_46 ⟨gk_12 hg pk_417, gk_12 hg pk_417, ?_⟩
  show K 56 [some (.inr (.inr 417)), none, none] [] (ia_wI h 417 11 ((ia_i h 417 11) + 1))
  obtain rfl := Option.some.inj hm
  exact hret 56 _ dc_M_crackLine_56
theorem gj_M_crackLine_46 {w : ia_O0} {h1 : ia_H} : ∀ (h : ia_H), gd_ w h → j_M_crackLine_46 h = some h1 → gd_ w h1 := by
  intro h hg hm
  unfold j_M_crackLine_46 at hm
  obtain rfl := Option.some.inj hm
  exact (gd_wI hg (ko_12 pk_417))
def f_M_crackLine (h : ia_H) : Option ia_H := (f_M_cellOf h).bind fun v1 => ((f_M_otherCell v1.1 v1.2).bind fun v2 => (if 68 ≤ (ia_i v2.2 417 11) then (j_M_crackLine_46 v2.2) else (ia_gd (ia_ib (2 * (ia_i v2.2 417 11)) 140) (ia_gd (ia_ib ((2 * (ia_i (ia_wI v2.2 421 ((2 * (ia_i v2.2 417 11)).toNatClampNeg) v1.1) 417 11)) + 1) 140) (j_M_crackLine_46 (ia_wI (ia_wI v2.2 421 ((2 * (ia_i v2.2 417 11)).toNatClampNeg) v1.1) 421 (((2 * (ia_i (ia_wI v2.2 421 ((2 * (ia_i v2.2 417 11)).toNatClampNeg) v1.1) 417 11)) + 1).toNatClampNeg) v2.1))))))
theorem g_M_crackLine {w : ia_O0} {h : ia_H} (hg : gd_ w h) {q : ia_H} (hm : f_M_crackLine h = some q) : gd_ w q := by
  obtain ⟨h1, e1⟩ : ∃ x, x = q := ⟨_, rfl⟩
  subst e1
  unfold f_M_crackLine at hm
  obtain ⟨v1, hv1, hm⟩ := ia_bnd hm
  have gv1 := g_M_cellOf hg hv1
  obtain ⟨v2, hv2, hm⟩ := ia_bnd hm
  have gv2 := g_M_otherCell gv1 hv2
  by_cases c : 68 ≤ (ia_i v2.2 417 11)
  · replace hm := ia_ifp hm c
    exact gj_M_crackLine_46 v2.2 gv2 hm
  · replace hm := ia_ifn hm c
    obtain ⟨c3, hm⟩ := ia_gd_some hm
    obtain ⟨c4, hm⟩ := ia_gd_some hm
    exact gj_M_crackLine_46 (ia_wI (ia_wI v2.2 421 ((2 * (ia_i v2.2 417 11)).toNatClampNeg) v1.1) 421 (((2 * (ia_i (ia_wI v2.2 421 ((2 * (ia_i v2.2 417 11)).toNatClampNeg) v1.1) 417 11)) + 1).toNatClampNeg) v2.1) (gd_wI (gd_wI gv2 (kx_100 (ka_12_12 pk_417))) (kx_100 (ka_12_12 pk_417))) hm
theorem t_M_crackLine {w : ia_O0} (d : Nat) {h : ia_H} (hg : gd_ w h) {q : ia_H} (hm : f_M_crackLine h = some q) : ia_Ev (d + 7) mm_M_crackLine [.inr (.inr 417)] h none q := by
  have gq := g_M_crackLine hg hm
  refine ia_Ev_intro ok_M_crackLine (gd_le hg gq).1 (gd_le hg gq).2 (Nat.le_of_ble_eq_true rfl) (fun K hK hret => ?_)
  obtain ⟨h1, e1⟩ : ∃ x, x = q := ⟨_, rfl⟩
  subst e1
  show K 0 [some (.inr (.inr 417)), none, none] [] h
  unfold f_M_crackLine at hm
  refine ia_go hK ck_M_crackLine_0 ?_
  show K 1 [some (.inr (.inr 417)), none, none] [.inr (.inr 417)] h
  obtain ⟨v1, hv1, hm⟩ := ia_bnd hm
  have ev1 := t_M_cellOf (d + 1) hg hv1
  have gv1 := g_M_cellOf hg hv1
  refine ia_cV hK mk_M_cellOf lk_12_134 dc_M_crackLine_1 417 [] [] rfl rfl (Nat.le_of_ble_eq_true rfl) (by decide) rfl (gk_12 hg pk_417) ev1 (gd_nm hg gv1) ?_
  show K 4 [some (.inr (.inr 417)), none, none] [.inl v1.1] v1.2
  refine ia_go hK ck_M_crackLine_4 ?_
  show K 7 [some (.inr (.inr 417)), some (.inl v1.1), none] [.inl v1.1, .inr (.inr 417)] v1.2
  obtain ⟨v2, hv2, hm⟩ := ia_bnd hm
  have ev2 := t_M_otherCell (d + 0) gv1 hv2
  have gv2 := g_M_otherCell gv1 hv2
  refine ia_cV hK mk_M_otherCell lk_12_138 dc_M_crackLine_7 417 [.inl v1.1] [] rfl rfl (Nat.le_of_ble_eq_true rfl) (by decide) rfl (gk_12 gv1 pk_417) ev2 (gd_nm gv1 gv2) ?_
  show K 10 [some (.inr (.inr 417)), some (.inl v1.1), none] [.inl v2.1] v2.2
  refine ia_go hK ck_M_crackLine_10 ⟨gk_12 gv2 pk_417, fun c => ?_, fun c => ?_⟩
  · replace hm := ia_ifp hm c
    show K 46 [some (.inr (.inr 417)), some (.inl v1.1), some (.inl v2.1)] [] v2.2
    refine ia_fg hK (lv' := [some (.inr (.inr 417)), none, none]) ⟨rfl, trivial⟩ ?_
    exact tj_M_crackLine_46 hK hret v2.2 gv2 hm
  · replace hm := ia_ifn hm c
    show K 20 [some (.inr (.inr 417)), some (.inl v1.1), some (.inl v2.1)] [] v2.2
    obtain ⟨c3, hm⟩ := ia_gd_some hm
    obtain ⟨c4, hm⟩ := ia_gd_some hm
    refine ia_go hK ck_M_crackLine_20 ⟨gk_12 gv2 pk_417, gr_12_12 gv2 pk_417, gk_12 gv2 pk_417, ga_s100 gv2 (ka_12_12 pk_417) c3, gk_12 (gd_wI gv2 (kx_100 (ka_12_12 pk_417))) pk_417, gr_12_12 (gd_wI gv2 (kx_100 (ka_12_12 pk_417))) pk_417, gk_12 (gd_wI gv2 (kx_100 (ka_12_12 pk_417))) pk_417, ga_s100 (gd_wI gv2 (kx_100 (ka_12_12 pk_417))) (ka_12_12 pk_417) c4, ?_⟩
    show K 46 [some (.inr (.inr 417)), some (.inl v1.1), some (.inl v2.1)] [] (ia_wI (ia_wI v2.2 421 ((2 * (ia_i v2.2 417 11)).toNatClampNeg) v1.1) 421 (((2 * (ia_i (ia_wI v2.2 421 ((2 * (ia_i v2.2 417 11)).toNatClampNeg) v1.1) 417 11)) + 1).toNatClampNeg) v2.1)
    refine ia_fg hK (lv' := [some (.inr (.inr 417)), none, none]) ⟨rfl, trivial⟩ ?_
    exact tj_M_crackLine_46 hK hret (ia_wI (ia_wI v2.2 421 ((2 * (ia_i v2.2 417 11)).toNatClampNeg) v1.1) 421 (((2 * (ia_i (ia_wI v2.2 421 ((2 * (ia_i v2.2 417 11)).toNatClampNeg) v1.1) 417 11)) + 1).toNatClampNeg) v2.1) (gd_wI (gd_wI gv2 (kx_100 (ka_12_12 pk_417))) (kx_100 (ka_12_12 pk_417))) hm
def mm_M_frostLine : ia_M := (⟨"IceStreetModel", "frostLine", "()V"⟩, prog_14_method_19_code, 5, none, 12, false)
theorem ok_M_frostLine : ia_mok mm_M_frostLine := ⟨by decide +kernel, by decide +kernel, by decide +kernel, by decide +kernel⟩
theorem mk_M_frostLine : ia_mkn mm_M_frostLine 1 0 := ⟨ia_tb_in (List.mem_of_getElem? (i := 1804) (by decide +kernel)) rfl, ia_tb_in (List.mem_of_getElem? (i := 146) (by decide +kernel)) rfl, by decide +kernel, by decide +kernel, ⟨ia_tb_in (List.mem_of_getElem? (i := 1803) (by decide +kernel)) rfl, ia_tb_in (List.mem_of_getElem? (i := 63) (by decide +kernel)) rfl⟩⟩
theorem ck_M_frostLine_0 : ia_cks 12 5 false prog_14_method_19_code 0 [(.aload_n 0, 0, 0, 0, 0), (.getfield 17, 12, 10, 3, 3), (.iconst 3, 0, 0, 0, 0), (.iconst 0, 0, 0, 0, 0), (.iastore, 0, 0, 0, 0), (.iconst 1, 0, 0, 0, 0), (.istore_n 1, 0, 0, 0, 0), (.iconst 0, 0, 0, 0, 0), (.istore_n 2, 0, 0, 0, 0)] = true := by decide +kernel
theorem ck_M_frostLine_11 : ia_cks 12 5 false prog_14_method_19_code 11 [(.aload_n 0, 0, 0, 0, 0), (.getfield 109, 12, 8, 0, 0), (.ifCond .ne 105, 0, 0, 0, 0)] = true := by decide +kernel
theorem ck_M_frostLine_18 : ia_cks 12 5 false prog_14_method_19_code 18 [(.iload_n 1, 0, 0, 0, 0), (.ifCond .ne 19, 0, 0, 0, 0)] = true := by decide +kernel
theorem ck_M_frostLine_38 : ia_cks 12 5 false prog_14_method_19_code 38 [(.iload_n 2, 0, 0, 0, 0), (.bipush 12, 0, 0, 0, 0), (.if_icmp .lt 12, 0, 0, 0, 0)] = true := by decide +kernel
theorem ck_M_frostLine_53 : ia_cks 12 5 false prog_14_method_19_code 53 [(.aload_n 0, 0, 0, 0, 0), (.getfield 90, 12, 5, 0, 0), (.iconst 5, 0, 0, 0, 0), (.if_icmp .ne 7, 0, 0, 0, 0)] = true := by decide +kernel
theorem ck_M_frostLine_65 : ia_cks 12 5 false prog_14_method_19_code 65 [(.iconst 0, 0, 0, 0, 0)] = true := by decide +kernel
theorem ck_M_frostLine_66 : ia_cks 12 5 false prog_14_method_19_code 66 [(.istore_n 3, 0, 0, 0, 0), (.iload_n 3, 0, 0, 0, 0), (.ifCond .eq 7, 0, 0, 0, 0)] = true := by decide +kernel
theorem ck_M_frostLine_75 : ia_cks 12 5 false prog_14_method_19_code 75 [(.aload_n 0, 0, 0, 0, 0), (.iconst 0, 0, 0, 0, 0), (.bipush 20, 0, 0, 0, 0)] = true := by decide +kernel
theorem ck_M_frostLine_82 : ia_cks 12 5 false prog_14_method_19_code 82 [(.istore 4, 0, 0, 0, 0), (.iload_n 2, 0, 0, 0, 0), (.bipush 12, 0, 0, 0, 0), (.if_icmp .ge 25, 0, 0, 0, 0)] = true := by decide +kernel
theorem ck_M_frostLine_112 : ia_cks 12 5 false prog_14_method_19_code 112 [(.iinc 2 1, 0, 0, 0, 0), (.iconst 0, 0, 0, 0, 0), (.istore_n 1, 0, 0, 0, 0), (.goto (-106), 0, 0, 0, 0)] = true := by decide +kernel
theorem ck_M_frostLine_90 : ia_cks 12 5 false prog_14_method_19_code 90 [(.aload_n 0, 0, 0, 0, 0), (.getfield 17, 12, 10, 3, 3), (.sipush 224, 0, 0, 0, 0), (.iload_n 2, 0, 0, 0, 0), (.iadd, 0, 0, 0, 0), (.iload_n 3, 0, 0, 0, 0), (.ifCond .eq 9, 0, 0, 0, 0)] = true := by decide +kernel
theorem ck_M_frostLine_109 : ia_cks 12 5 false prog_14_method_19_code 109 [(.iload 4, 0, 0, 0, 0), (.iastore, 0, 0, 0, 0)] = true := by decide +kernel
theorem ck_M_frostLine_103 : ia_cks 12 5 false prog_14_method_19_code 103 [(.iload 4, 0, 0, 0, 0), (.ineg, 0, 0, 0, 0), (.goto 5, 0, 0, 0, 0)] = true := by decide +kernel
theorem ck_M_frostLine_111 : ia_cks 12 5 false prog_14_method_19_code 111 [(.iastore, 0, 0, 0, 0)] = true := by decide +kernel
theorem ck_M_frostLine_71 : ia_cks 12 5 false prog_14_method_19_code 71 [(.aload_n 0, 0, 0, 0, 0)] = true := by decide +kernel
theorem ck_M_frostLine_61 : ia_cks 12 5 false prog_14_method_19_code 61 [(.iconst 1, 0, 0, 0, 0), (.goto 4, 0, 0, 0, 0)] = true := by decide +kernel
theorem ck_M_frostLine_44 : ia_cks 12 5 false prog_14_method_19_code 44 [(.aload_n 0, 0, 0, 0, 0), (.iconst 3, 0, 0, 0, 0), (.aload_n 0, 0, 0, 0, 0), (.getfield 87, 12, 4, 0, 0)] = true := by decide +kernel
theorem ck_M_frostLine_22 : ia_cks 12 5 false prog_14_method_19_code 22 [(.aload_n 0, 0, 0, 0, 0), (.getfield 90, 12, 5, 0, 0), (.iconst 1, 0, 0, 0, 0), (.if_icmp .eq 11, 0, 0, 0, 0)] = true := by decide +kernel
theorem ck_M_frostLine_30 : ia_cks 12 5 false prog_14_method_19_code 30 [(.aload_n 0, 0, 0, 0, 0), (.getfield 90, 12, 5, 0, 0), (.iconst 5, 0, 0, 0, 0), (.if_icmp .ne 85, 0, 0, 0, 0)] = true := by decide +kernel
theorem ck_M_frostLine_120 : ia_cks 12 5 false prog_14_method_19_code 120 [(.aload_n 0, 0, 0, 0, 0), (.getfield 17, 12, 10, 3, 3), (.iconst 3, 0, 0, 0, 0), (.iload_n 2, 0, 0, 0, 0), (.bipush 12, 0, 0, 0, 0), (.if_icmp .ge 7, 0, 0, 0, 0)] = true := by decide +kernel
theorem ck_M_frostLine_135 : ia_cks 12 5 false prog_14_method_19_code 135 [(.bipush 12, 0, 0, 0, 0), (.iastore, 0, 0, 0, 0)] = true := by decide +kernel
theorem ck_M_frostLine_131 : ia_cks 12 5 false prog_14_method_19_code 131 [(.iload_n 2, 0, 0, 0, 0), (.goto 5, 0, 0, 0, 0)] = true := by decide +kernel
theorem ck_M_frostLine_137 : ia_cks 12 5 false prog_14_method_19_code 137 [(.iastore, 0, 0, 0, 0)] = true := by decide +kernel
theorem dc_M_frostLine_79 : decode prog_14_method_19_code 79 = .ok (.invokevirtual 127, 3) := by decide +kernel
theorem dc_M_frostLine_72 : decode prog_14_method_19_code 72 = .ok (.invokevirtual 124, 3) := by decide +kernel
theorem dc_M_frostLine_50 : decode prog_14_method_19_code 50 = .ok (.invokevirtual 120, 3) := by decide +kernel
theorem dc_M_frostLine_138 : decode prog_14_method_19_code 138 = .ok (.return_, 1) := by decide +kernel
def j_M_frostLine_112 (kr : Int32 → Int32 → ia_H → Option ia_H) (k120 : Int32 → ia_H → Option ia_H) (x2 : Int32) (h : ia_H) : Option ia_H := kr 0 (x2 + 1) h
theorem tj_M_frostLine_112 {w : ia_O0} {d N1 W1 : Nat} {K : ia_K} (hK : ia_isK (d + 5) mm_M_frostLine N1 W1 K) {h1 : ia_H} (hret : ∀ (pc : Nat) (lv : ia_L), ia_ret mm_M_frostLine pc none → K pc lv (none : Option ia_V).toList h1) {kr : Int32 → Int32 → ia_H → Option ia_H} {k120 : Int32 → ia_H → Option ia_H} (hkr : ∀ (x1 : Int32) (x2 : Int32) (h : ia_H), gd_ w h → kr x1 x2 h = some h1 → K 11 [some (.inr (.inr 417)), some (.inl x1), some (.inl x2), none, none] [] h) (hk120 : ∀ (x2 : Int32) (h : ia_H), gd_ w h → k120 x2 h = some h1 → K 120 [some (.inr (.inr 417)), none, some (.inl x2), none, none] [] h) : ∀ (x2 : Int32) (h : ia_H), gd_ w h → j_M_frostLine_112 kr k120 x2 h = some h1 → K 112 [some (.inr (.inr 417)), none, some (.inl x2), none, none] [] h := by
  intro x2 h hg hm
  unfold j_M_frostLine_112 at hm
  refine ia_go hK ck_M_frostLine_112 ?_
  show K 11 [some (.inr (.inr 417)), some (.inl 0), some (.inl (x2 + 1)), none, none] [] h
  exact hkr 0 (x2 + 1) h hg hm
theorem gj_M_frostLine_112 {w : ia_O0} {h1 : ia_H} {kr : Int32 → Int32 → ia_H → Option ia_H} {k120 : Int32 → ia_H → Option ia_H} (hkr : ∀ (x1 : Int32) (x2 : Int32) (h : ia_H), gd_ w h → kr x1 x2 h = some h1 → gd_ w h1) (hk120 : ∀ (x2 : Int32) (h : ia_H), gd_ w h → k120 x2 h = some h1 → gd_ w h1) : ∀ (x2 : Int32) (h : ia_H), gd_ w h → j_M_frostLine_112 kr k120 x2 h = some h1 → gd_ w h1 := by
  intro x2 h hg hm
  unfold j_M_frostLine_112 at hm
  exact hkr 0 (x2 + 1) h hg hm
def j_M_frostLine_75 (kr : Int32 → Int32 → ia_H → Option ia_H) (k120 : Int32 → ia_H → Option ia_H) (x2 : Int32) (x3 : Int32) (h : ia_H) : Option ia_H := (f_M_numbered 0 20 h).bind fun v1 => (if 12 ≤ x2 then (j_M_frostLine_112 kr k120 x2 v1.2) else (if x3 = 0 then (ia_gd (ia_ib (224 + x2) 260) (j_M_frostLine_112 kr k120 x2 (ia_wI v1.2 420 ((224 + x2).toNatClampNeg) v1.1))) else (ia_gd (ia_ib (224 + x2) 260) (j_M_frostLine_112 kr k120 x2 (ia_wI v1.2 420 ((224 + x2).toNatClampNeg) (-v1.1))))))
theorem tj_M_frostLine_75 {w : ia_O0} {d N1 W1 : Nat} {K : ia_K} (hK : ia_isK (d + 5) mm_M_frostLine N1 W1 K) {h1 : ia_H} (hret : ∀ (pc : Nat) (lv : ia_L), ia_ret mm_M_frostLine pc none → K pc lv (none : Option ia_V).toList h1) {kr : Int32 → Int32 → ia_H → Option ia_H} {k120 : Int32 → ia_H → Option ia_H} (hkr : ∀ (x1 : Int32) (x2 : Int32) (h : ia_H), gd_ w h → kr x1 x2 h = some h1 → K 11 [some (.inr (.inr 417)), some (.inl x1), some (.inl x2), none, none] [] h) (hk120 : ∀ (x2 : Int32) (h : ia_H), gd_ w h → k120 x2 h = some h1 → K 120 [some (.inr (.inr 417)), none, some (.inl x2), none, none] [] h) : ∀ (x2 : Int32) (x3 : Int32) (h : ia_H), gd_ w h → j_M_frostLine_75 kr k120 x2 x3 h = some h1 → K 75 [some (.inr (.inr 417)), none, some (.inl x2), some (.inl x3), none] [] h := by
  intro x2 x3 h hg hm
  unfold j_M_frostLine_75 at hm
  refine ia_go hK ck_M_frostLine_75 ?_
  show K 79 [some (.inr (.inr 417)), none, some (.inl x2), some (.inl x3), none] [.inl 20, .inl 0, .inr (.inr 417)] h
  obtain ⟨v1, hv1, hm⟩ := ia_bnd hm
  have ev1 := t_M_numbered (d + 0) hg hv1
  have gv1 := g_M_numbered hg hv1
  refine ia_cV hK mk_M_numbered lk_12_127 dc_M_frostLine_79 417 [.inl 0, .inl 20] [] rfl rfl (Nat.le_of_ble_eq_true rfl) (by decide) rfl (gk_12 hg pk_417) ev1 (gd_nm hg gv1) ?_
  show K 82 [some (.inr (.inr 417)), none, some (.inl x2), some (.inl x3), none] [.inl v1.1] v1.2
  refine ia_go hK ck_M_frostLine_82 ⟨fun c => ?_, fun c => ?_⟩
  · replace hm := ia_ifp hm c
    show K 112 [some (.inr (.inr 417)), none, some (.inl x2), some (.inl x3), some (.inl v1.1)] [] v1.2
    refine ia_fg hK (lv' := [some (.inr (.inr 417)), none, some (.inl x2), none, none]) ⟨rfl, rfl, trivial⟩ ?_
    exact tj_M_frostLine_112 hK hret hkr hk120 x2 v1.2 gv1 hm
  · replace hm := ia_ifn hm c
    show K 90 [some (.inr (.inr 417)), none, some (.inl x2), some (.inl x3), some (.inl v1.1)] [] v1.2
    refine ia_go hK ck_M_frostLine_90 ⟨gk_12 gv1 pk_417, gr_12_10 gv1 pk_417, fun c => ?_, fun c => ?_⟩
    · replace hm := ia_ifp hm c
      show K 109 [some (.inr (.inr 417)), none, some (.inl x2), some (.inl x3), some (.inl v1.1)] [.inl (224 + x2), .inr (.inr 420)] v1.2
      obtain ⟨c2, hm⟩ := ia_gd_some hm
      refine ia_go hK ck_M_frostLine_109 ⟨ga_s100 gv1 (ka_12_10 pk_417) c2, ?_⟩
      show K 112 [some (.inr (.inr 417)), none, some (.inl x2), some (.inl x3), some (.inl v1.1)] [] (ia_wI v1.2 420 ((224 + x2).toNatClampNeg) v1.1)
      refine ia_fg hK (lv' := [some (.inr (.inr 417)), none, some (.inl x2), none, none]) ⟨rfl, rfl, trivial⟩ ?_
      exact tj_M_frostLine_112 hK hret hkr hk120 x2 (ia_wI v1.2 420 ((224 + x2).toNatClampNeg) v1.1) (gd_wI gv1 (kx_100 (ka_12_10 pk_417))) hm
    · replace hm := ia_ifn hm c
      show K 103 [some (.inr (.inr 417)), none, some (.inl x2), some (.inl x3), some (.inl v1.1)] [.inl (224 + x2), .inr (.inr 420)] v1.2
      refine ia_go hK ck_M_frostLine_103 ?_
      show K 111 [some (.inr (.inr 417)), none, some (.inl x2), some (.inl x3), some (.inl v1.1)] [.inl (-v1.1), .inl (224 + x2), .inr (.inr 420)] v1.2
      obtain ⟨c3, hm⟩ := ia_gd_some hm
      refine ia_go hK ck_M_frostLine_111 ⟨ga_s100 gv1 (ka_12_10 pk_417) c3, ?_⟩
      show K 112 [some (.inr (.inr 417)), none, some (.inl x2), some (.inl x3), some (.inl v1.1)] [] (ia_wI v1.2 420 ((224 + x2).toNatClampNeg) (-v1.1))
      refine ia_fg hK (lv' := [some (.inr (.inr 417)), none, some (.inl x2), none, none]) ⟨rfl, rfl, trivial⟩ ?_
      exact tj_M_frostLine_112 hK hret hkr hk120 x2 (ia_wI v1.2 420 ((224 + x2).toNatClampNeg) (-v1.1)) (gd_wI gv1 (kx_100 (ka_12_10 pk_417))) hm
theorem gj_M_frostLine_75 {w : ia_O0} {h1 : ia_H} {kr : Int32 → Int32 → ia_H → Option ia_H} {k120 : Int32 → ia_H → Option ia_H} (hkr : ∀ (x1 : Int32) (x2 : Int32) (h : ia_H), gd_ w h → kr x1 x2 h = some h1 → gd_ w h1) (hk120 : ∀ (x2 : Int32) (h : ia_H), gd_ w h → k120 x2 h = some h1 → gd_ w h1) : ∀ (x2 : Int32) (x3 : Int32) (h : ia_H), gd_ w h → j_M_frostLine_75 kr k120 x2 x3 h = some h1 → gd_ w h1 := by
  intro x2 x3 h hg hm
  unfold j_M_frostLine_75 at hm
  obtain ⟨v1, hv1, hm⟩ := ia_bnd hm
  have gv1 := g_M_numbered hg hv1
  by_cases c : 12 ≤ x2
  · replace hm := ia_ifp hm c
    exact gj_M_frostLine_112 hkr hk120 x2 v1.2 gv1 hm
  · replace hm := ia_ifn hm c
    by_cases c : x3 = 0
    · replace hm := ia_ifp hm c
      obtain ⟨c2, hm⟩ := ia_gd_some hm
      exact gj_M_frostLine_112 hkr hk120 x2 (ia_wI v1.2 420 ((224 + x2).toNatClampNeg) v1.1) (gd_wI gv1 (kx_100 (ka_12_10 pk_417))) hm
    · replace hm := ia_ifn hm c
      obtain ⟨c3, hm⟩ := ia_gd_some hm
      exact gj_M_frostLine_112 hkr hk120 x2 (ia_wI v1.2 420 ((224 + x2).toNatClampNeg) (-v1.1)) (gd_wI gv1 (kx_100 (ka_12_10 pk_417))) hm
def j_M_frostLine_66 (kr : Int32 → Int32 → ia_H → Option ia_H) (k120 : Int32 → ia_H → Option ia_H) (x2 : Int32) (s0 : Int32) (h : ia_H) : Option ia_H := if s0 = 0 then (j_M_frostLine_75 kr k120 x2 s0 h) else ((f_M_advance h).bind fun v4 => (j_M_frostLine_75 kr k120 x2 s0 v4))
theorem tj_M_frostLine_66 {w : ia_O0} {d N1 W1 : Nat} {K : ia_K} (hK : ia_isK (d + 5) mm_M_frostLine N1 W1 K) {h1 : ia_H} (hret : ∀ (pc : Nat) (lv : ia_L), ia_ret mm_M_frostLine pc none → K pc lv (none : Option ia_V).toList h1) {kr : Int32 → Int32 → ia_H → Option ia_H} {k120 : Int32 → ia_H → Option ia_H} (hkr : ∀ (x1 : Int32) (x2 : Int32) (h : ia_H), gd_ w h → kr x1 x2 h = some h1 → K 11 [some (.inr (.inr 417)), some (.inl x1), some (.inl x2), none, none] [] h) (hk120 : ∀ (x2 : Int32) (h : ia_H), gd_ w h → k120 x2 h = some h1 → K 120 [some (.inr (.inr 417)), none, some (.inl x2), none, none] [] h) : ∀ (x2 : Int32) (s0 : Int32) (h : ia_H), gd_ w h → j_M_frostLine_66 kr k120 x2 s0 h = some h1 → K 66 [some (.inr (.inr 417)), none, some (.inl x2), none, none] [.inl s0] h := by
  intro x2 s0 h hg hm
  unfold j_M_frostLine_66 at hm
  refine ia_go hK ck_M_frostLine_66 ⟨fun c => ?_, fun c => ?_⟩
  · replace hm := ia_ifp hm c
    show K 75 [some (.inr (.inr 417)), none, some (.inl x2), some (.inl s0), none] [] h
    exact tj_M_frostLine_75 hK hret hkr hk120 x2 s0 h hg hm
  · replace hm := ia_ifn hm c
    show K 71 [some (.inr (.inr 417)), none, some (.inl x2), some (.inl s0), none] [] h
    refine ia_go hK ck_M_frostLine_71 ?_
    show K 72 [some (.inr (.inr 417)), none, some (.inl x2), some (.inl s0), none] [.inr (.inr 417)] h
    obtain ⟨v4, hv4, hm⟩ := ia_bnd hm
    have ev4 := t_M_advance (d + 1) hg hv4
    have gv4 := g_M_advance hg hv4
    refine ia_cV hK mk_M_advance lk_12_124 dc_M_frostLine_72 417 [] [] rfl rfl (Nat.le_of_ble_eq_true rfl) (by decide) rfl (gk_12 hg pk_417) ev4 (gd_nm hg gv4) ?_
    show K 75 [some (.inr (.inr 417)), none, some (.inl x2), some (.inl s0), none] [] v4
    exact tj_M_frostLine_75 hK hret hkr hk120 x2 s0 v4 gv4 hm
theorem gj_M_frostLine_66 {w : ia_O0} {h1 : ia_H} {kr : Int32 → Int32 → ia_H → Option ia_H} {k120 : Int32 → ia_H → Option ia_H} (hkr : ∀ (x1 : Int32) (x2 : Int32) (h : ia_H), gd_ w h → kr x1 x2 h = some h1 → gd_ w h1) (hk120 : ∀ (x2 : Int32) (h : ia_H), gd_ w h → k120 x2 h = some h1 → gd_ w h1) : ∀ (x2 : Int32) (s0 : Int32) (h : ia_H), gd_ w h → j_M_frostLine_66 kr k120 x2 s0 h = some h1 → gd_ w h1 := by
  intro x2 s0 h hg hm
  unfold j_M_frostLine_66 at hm
  by_cases c : s0 = 0
  · replace hm := ia_ifp hm c
    exact gj_M_frostLine_75 hkr hk120 x2 s0 h hg hm
  · replace hm := ia_ifn hm c
    obtain ⟨v4, hv4, hm⟩ := ia_bnd hm
    have gv4 := g_M_advance hg hv4
    exact gj_M_frostLine_75 hkr hk120 x2 s0 v4 gv4 hm
def j_M_frostLine_53 (kr : Int32 → Int32 → ia_H → Option ia_H) (k120 : Int32 → ia_H → Option ia_H) (x2 : Int32) (h : ia_H) : Option ia_H := if (ia_i h 417 5) = 5 then (j_M_frostLine_66 kr k120 x2 1 h) else (j_M_frostLine_66 kr k120 x2 0 h)
theorem tj_M_frostLine_53 {w : ia_O0} {d N1 W1 : Nat} {K : ia_K} (hK : ia_isK (d + 5) mm_M_frostLine N1 W1 K) {h1 : ia_H} (hret : ∀ (pc : Nat) (lv : ia_L), ia_ret mm_M_frostLine pc none → K pc lv (none : Option ia_V).toList h1) {kr : Int32 → Int32 → ia_H → Option ia_H} {k120 : Int32 → ia_H → Option ia_H} (hkr : ∀ (x1 : Int32) (x2 : Int32) (h : ia_H), gd_ w h → kr x1 x2 h = some h1 → K 11 [some (.inr (.inr 417)), some (.inl x1), some (.inl x2), none, none] [] h) (hk120 : ∀ (x2 : Int32) (h : ia_H), gd_ w h → k120 x2 h = some h1 → K 120 [some (.inr (.inr 417)), none, some (.inl x2), none, none] [] h) : ∀ (x2 : Int32) (h : ia_H), gd_ w h → j_M_frostLine_53 kr k120 x2 h = some h1 → K 53 [some (.inr (.inr 417)), none, some (.inl x2), none, none] [] h := by
  intro x2 h hg hm
  unfold j_M_frostLine_53 at hm
  refine ia_go hK ck_M_frostLine_53 ⟨gk_12 hg pk_417, fun c => ?_, fun c => ?_⟩
  · replace hm := ia_ifn hm c
    show K 65 [some (.inr (.inr 417)), none, some (.inl x2), none, none] [] h
    refine ia_go hK ck_M_frostLine_65 ?_
    show K 66 [some (.inr (.inr 417)), none, some (.inl x2), none, none] [.inl 0] h
    exact tj_M_frostLine_66 hK hret hkr hk120 x2 0 h hg hm
  · replace hm := ia_ifp hm c
    show K 61 [some (.inr (.inr 417)), none, some (.inl x2), none, none] [] h
    refine ia_go hK ck_M_frostLine_61 ?_
    show K 66 [some (.inr (.inr 417)), none, some (.inl x2), none, none] [.inl 1] h
    exact tj_M_frostLine_66 hK hret hkr hk120 x2 1 h hg hm
theorem gj_M_frostLine_53 {w : ia_O0} {h1 : ia_H} {kr : Int32 → Int32 → ia_H → Option ia_H} {k120 : Int32 → ia_H → Option ia_H} (hkr : ∀ (x1 : Int32) (x2 : Int32) (h : ia_H), gd_ w h → kr x1 x2 h = some h1 → gd_ w h1) (hk120 : ∀ (x2 : Int32) (h : ia_H), gd_ w h → k120 x2 h = some h1 → gd_ w h1) : ∀ (x2 : Int32) (h : ia_H), gd_ w h → j_M_frostLine_53 kr k120 x2 h = some h1 → gd_ w h1 := by
  intro x2 h hg hm
  unfold j_M_frostLine_53 at hm
  by_cases c : (ia_i h 417 5) = 5
  · replace hm := ia_ifp hm c
    exact gj_M_frostLine_66 hkr hk120 x2 1 h hg hm
  · replace hm := ia_ifn hm c
    exact gj_M_frostLine_66 hkr hk120 x2 0 h hg hm
def j_M_frostLine_38 (kr : Int32 → Int32 → ia_H → Option ia_H) (k120 : Int32 → ia_H → Option ia_H) (x2 : Int32) (h : ia_H) : Option ia_H := if x2 < 12 then (j_M_frostLine_53 kr k120 x2 h) else ((f_M_also 3 (ia_i h 417 4) h).bind fun v5 => (j_M_frostLine_53 kr k120 x2 v5))
theorem tj_M_frostLine_38 {w : ia_O0} {d N1 W1 : Nat} {K : ia_K} (hK : ia_isK (d + 5) mm_M_frostLine N1 W1 K) {h1 : ia_H} (hret : ∀ (pc : Nat) (lv : ia_L), ia_ret mm_M_frostLine pc none → K pc lv (none : Option ia_V).toList h1) {kr : Int32 → Int32 → ia_H → Option ia_H} {k120 : Int32 → ia_H → Option ia_H} (hkr : ∀ (x1 : Int32) (x2 : Int32) (h : ia_H), gd_ w h → kr x1 x2 h = some h1 → K 11 [some (.inr (.inr 417)), some (.inl x1), some (.inl x2), none, none] [] h) (hk120 : ∀ (x2 : Int32) (h : ia_H), gd_ w h → k120 x2 h = some h1 → K 120 [some (.inr (.inr 417)), none, some (.inl x2), none, none] [] h) : ∀ (x2 : Int32) (h : ia_H), gd_ w h → j_M_frostLine_38 kr k120 x2 h = some h1 → K 38 [some (.inr (.inr 417)), none, some (.inl x2), none, none] [] h := by
  intro x2 h hg hm
  unfold j_M_frostLine_38 at hm
  refine ia_go hK ck_M_frostLine_38 ⟨fun c => ?_, fun c => ?_⟩
  · replace hm := ia_ifp hm c
    show K 53 [some (.inr (.inr 417)), none, some (.inl x2), none, none] [] h
    exact tj_M_frostLine_53 hK hret hkr hk120 x2 h hg hm
  · replace hm := ia_ifn hm c
    show K 44 [some (.inr (.inr 417)), none, some (.inl x2), none, none] [] h
    refine ia_go hK ck_M_frostLine_44 ⟨gk_12 hg pk_417, ?_⟩
    show K 50 [some (.inr (.inr 417)), none, some (.inl x2), none, none] [.inl (ia_i h 417 4), .inl 3, .inr (.inr 417)] h
    obtain ⟨v5, hv5, hm⟩ := ia_bnd hm
    have ev5 := t_M_also (d + 4) hg hv5
    have gv5 := g_M_also hg hv5
    refine ia_cV hK mk_M_also lk_12_120 dc_M_frostLine_50 417 [.inl 3, .inl (ia_i h 417 4)] [] rfl rfl (Nat.le_of_ble_eq_true rfl) (by decide) rfl (gk_12 hg pk_417) ev5 (gd_nm hg gv5) ?_
    show K 53 [some (.inr (.inr 417)), none, some (.inl x2), none, none] [] v5
    exact tj_M_frostLine_53 hK hret hkr hk120 x2 v5 gv5 hm
theorem gj_M_frostLine_38 {w : ia_O0} {h1 : ia_H} {kr : Int32 → Int32 → ia_H → Option ia_H} {k120 : Int32 → ia_H → Option ia_H} (hkr : ∀ (x1 : Int32) (x2 : Int32) (h : ia_H), gd_ w h → kr x1 x2 h = some h1 → gd_ w h1) (hk120 : ∀ (x2 : Int32) (h : ia_H), gd_ w h → k120 x2 h = some h1 → gd_ w h1) : ∀ (x2 : Int32) (h : ia_H), gd_ w h → j_M_frostLine_38 kr k120 x2 h = some h1 → gd_ w h1 := by
  intro x2 h hg hm
  unfold j_M_frostLine_38 at hm
  by_cases c : x2 < 12
  · replace hm := ia_ifp hm c
    exact gj_M_frostLine_53 hkr hk120 x2 h hg hm
  · replace hm := ia_ifn hm c
    obtain ⟨v5, hv5, hm⟩ := ia_bnd hm
    have gv5 := g_M_also hg hv5
    exact gj_M_frostLine_53 hkr hk120 x2 v5 gv5 hm
def l_M_frostLine_11 (k120 : Int32 → ia_H → Option ia_H) (n : Nat) (x1 : Int32) (x2 : Int32) (h : ia_H) : Option ia_H := match n with
  | 0 => none
  | n + 1 => if (ia_i h 417 8) = 0 then (if x1 = 0 then (if (ia_i h 417 5) = 1 then (j_M_frostLine_38 (l_M_frostLine_11 k120 n) k120 x2 h) else (if (ia_i h 417 5) = 5 then (j_M_frostLine_38 (l_M_frostLine_11 k120 n) k120 x2 h) else (k120 x2 h))) else (j_M_frostLine_38 (l_M_frostLine_11 k120 n) k120 x2 h)) else (k120 x2 h)
theorem tl_M_frostLine_11 {w : ia_O0} {d N1 W1 : Nat} {K : ia_K} (hK : ia_isK (d + 5) mm_M_frostLine N1 W1 K) {h1 : ia_H} (hret : ∀ (pc : Nat) (lv : ia_L), ia_ret mm_M_frostLine pc none → K pc lv (none : Option ia_V).toList h1) {k120 : Int32 → ia_H → Option ia_H} (hk120 : ∀ (x2 : Int32) (h : ia_H), gd_ w h → k120 x2 h = some h1 → K 120 [some (.inr (.inr 417)), none, some (.inl x2), none, none] [] h) : ∀ (n : Nat) (x1 : Int32) (x2 : Int32) (h : ia_H), gd_ w h → l_M_frostLine_11 k120 n x1 x2 h = some h1 → K 11 [some (.inr (.inr 417)), some (.inl x1), some (.inl x2), none, none] [] h := by
  intro n
  induction n with
  | zero =>
    intro x1 x2 h hg hm
    cases (show (none : Option ia_H) = some _ from hm)
  | succ n ih =>
    intro x1 x2 h hg hm
    rw [l_M_frostLine_11] at hm
    refine ia_go hK ck_M_frostLine_11 ⟨gk_12 hg pk_417, fun c => ?_, fun c => ?_⟩
    · replace hm := ia_ifn hm c
      show K 120 [some (.inr (.inr 417)), some (.inl x1), some (.inl x2), none, none] [] h
      refine ia_fg hK (lv' := [some (.inr (.inr 417)), none, some (.inl x2), none, none]) ⟨rfl, rfl, trivial⟩ ?_
      exact hk120 x2 h hg hm
    · replace hm := ia_ifp hm c
      show K 18 [some (.inr (.inr 417)), some (.inl x1), some (.inl x2), none, none] [] h
      refine ia_go hK ck_M_frostLine_18 ⟨fun c => ?_, fun c => ?_⟩
      · replace hm := ia_ifn hm c
        show K 38 [some (.inr (.inr 417)), some (.inl x1), some (.inl x2), none, none] [] h
        refine ia_fg hK (lv' := [some (.inr (.inr 417)), none, some (.inl x2), none, none]) ⟨rfl, rfl, trivial⟩ ?_
        exact tj_M_frostLine_38 hK hret ih hk120 x2 h hg hm
      · replace hm := ia_ifp hm c
        show K 22 [some (.inr (.inr 417)), some (.inl x1), some (.inl x2), none, none] [] h
        refine ia_go hK ck_M_frostLine_22 ⟨gk_12 hg pk_417, fun c => ?_, fun c => ?_⟩
        · replace hm := ia_ifp hm c
          show K 38 [some (.inr (.inr 417)), some (.inl x1), some (.inl x2), none, none] [] h
          refine ia_fg hK (lv' := [some (.inr (.inr 417)), none, some (.inl x2), none, none]) ⟨rfl, rfl, trivial⟩ ?_
          exact tj_M_frostLine_38 hK hret ih hk120 x2 h hg hm
        · replace hm := ia_ifn hm c
          show K 30 [some (.inr (.inr 417)), some (.inl x1), some (.inl x2), none, none] [] h
          refine ia_go hK ck_M_frostLine_30 ⟨gk_12 hg pk_417, fun c => ?_, fun c => ?_⟩
          · replace hm := ia_ifn hm c
            show K 120 [some (.inr (.inr 417)), some (.inl x1), some (.inl x2), none, none] [] h
            refine ia_fg hK (lv' := [some (.inr (.inr 417)), none, some (.inl x2), none, none]) ⟨rfl, rfl, trivial⟩ ?_
            exact hk120 x2 h hg hm
          · replace hm := ia_ifp hm c
            show K 38 [some (.inr (.inr 417)), some (.inl x1), some (.inl x2), none, none] [] h
            refine ia_fg hK (lv' := [some (.inr (.inr 417)), none, some (.inl x2), none, none]) ⟨rfl, rfl, trivial⟩ ?_
            exact tj_M_frostLine_38 hK hret ih hk120 x2 h hg hm
theorem gl_M_frostLine_11 {w : ia_O0} {h1 : ia_H} {k120 : Int32 → ia_H → Option ia_H} (hk120 : ∀ (x2 : Int32) (h : ia_H), gd_ w h → k120 x2 h = some h1 → gd_ w h1) : ∀ (n : Nat) (x1 : Int32) (x2 : Int32) (h : ia_H), gd_ w h → l_M_frostLine_11 k120 n x1 x2 h = some h1 → gd_ w h1 := by
  intro n
  induction n with
  | zero =>
    intro x1 x2 h hg hm
    cases (show (none : Option ia_H) = some _ from hm)
  | succ n ih =>
    intro x1 x2 h hg hm
    rw [l_M_frostLine_11] at hm
    by_cases c : (ia_i h 417 8) = 0
    · replace hm := ia_ifp hm c
      by_cases c : x1 = 0
      · replace hm := ia_ifp hm c
        by_cases c : (ia_i h 417 5) = 1
        · replace hm := ia_ifp hm c
          exact gj_M_frostLine_38 ih hk120 x2 h hg hm
        · replace hm := ia_ifn hm c
          by_cases c : (ia_i h 417 5) = 5
          · replace hm := ia_ifp hm c
            exact gj_M_frostLine_38 ih hk120 x2 h hg hm
          · replace hm := ia_ifn hm c
            exact hk120 x2 h hg hm
      · replace hm := ia_ifn hm c
        exact gj_M_frostLine_38 ih hk120 x2 h hg hm
    · replace hm := ia_ifn hm c
      exact hk120 x2 h hg hm
def j_M_frostLine_120 (x2 : Int32) (h : ia_H) : Option ia_H := if 12 ≤ x2 then (some (ia_wI h 420 3 12)) else (some (ia_wI h 420 3 x2))
theorem tj_M_frostLine_120 {w : ia_O0} {d N1 W1 : Nat} {K : ia_K} (hK : ia_isK (d + 5) mm_M_frostLine N1 W1 K) {h1 : ia_H} (hret : ∀ (pc : Nat) (lv : ia_L), ia_ret mm_M_frostLine pc none → K pc lv (none : Option ia_V).toList h1) : ∀ (x2 : Int32) (h : ia_H), gd_ w h → j_M_frostLine_120 x2 h = some h1 → K 120 [some (.inr (.inr 417)), none, some (.inl x2), none, none] [] h := by
  intro x2 h hg hm
  unfold j_M_frostLine_120 at hm
  refine ia_go hK ck_M_frostLine_120 ⟨gk_12 hg pk_417, gr_12_10 hg pk_417, fun c => ?_, fun c => ?_⟩
  · replace hm := ia_ifp hm c
    show K 135 [some (.inr (.inr 417)), none, some (.inl x2), none, none] [.inl 3, .inr (.inr 420)] h
    refine ia_go hK ck_M_frostLine_135 ⟨ga_s100 hg (ka_12_10 pk_417) (by decide), ?_⟩
    show K 138 [some (.inr (.inr 417)), none, some (.inl x2), none, none] [] (ia_wI h 420 3 12)
    obtain rfl := Option.some.inj hm
    exact hret 138 _ dc_M_frostLine_138
  · replace hm := ia_ifn hm c
    show K 131 [some (.inr (.inr 417)), none, some (.inl x2), none, none] [.inl 3, .inr (.inr 420)] h
    refine ia_go hK ck_M_frostLine_131 ?_
    show K 137 [some (.inr (.inr 417)), none, some (.inl x2), none, none] [.inl x2, .inl 3, .inr (.inr 420)] h
    refine ia_go hK ck_M_frostLine_137 ⟨ga_s100 hg (ka_12_10 pk_417) (by decide), ?_⟩
    show K 138 [some (.inr (.inr 417)), none, some (.inl x2), none, none] [] (ia_wI h 420 3 x2)
    obtain rfl := Option.some.inj hm
    exact hret 138 _ dc_M_frostLine_138
theorem gj_M_frostLine_120 {w : ia_O0} {h1 : ia_H} : ∀ (x2 : Int32) (h : ia_H), gd_ w h → j_M_frostLine_120 x2 h = some h1 → gd_ w h1 := by
  intro x2 h hg hm
  unfold j_M_frostLine_120 at hm
  by_cases c : 12 ≤ x2
  · replace hm := ia_ifp hm c
    obtain rfl := Option.some.inj hm
    exact (gd_wI hg (kx_100 (ka_12_10 pk_417)))
  · replace hm := ia_ifn hm c
    obtain rfl := Option.some.inj hm
    exact (gd_wI hg (kx_100 (ka_12_10 pk_417)))
def f_M_frostLine (h : ia_H) : Option ia_H := l_M_frostLine_11 (fun x2 h => j_M_frostLine_120 x2 h) fu_ 1 0 (ia_wI h 420 3 0)
theorem g_M_frostLine {w : ia_O0} {h : ia_H} (hg : gd_ w h) {q : ia_H} (hm : f_M_frostLine h = some q) : gd_ w q := by
  obtain ⟨h1, e1⟩ : ∃ x, x = q := ⟨_, rfl⟩
  subst e1
  unfold f_M_frostLine at hm
  refine gl_M_frostLine_11 ?_ fu_ 1 0 (ia_wI h 420 3 0) (gd_wI hg (kx_100 (ka_12_10 pk_417))) hm
  · intro x2 h hg hm
    exact gj_M_frostLine_120 x2 h hg hm
theorem t_M_frostLine {w : ia_O0} (d : Nat) {h : ia_H} (hg : gd_ w h) {q : ia_H} (hm : f_M_frostLine h = some q) : ia_Ev (d + 5) mm_M_frostLine [.inr (.inr 417)] h none q := by
  have gq := g_M_frostLine hg hm
  refine ia_Ev_intro ok_M_frostLine (gd_le hg gq).1 (gd_le hg gq).2 (Nat.le_of_ble_eq_true rfl) (fun K hK hret => ?_)
  obtain ⟨h1, e1⟩ : ∃ x, x = q := ⟨_, rfl⟩
  subst e1
  show K 0 [some (.inr (.inr 417)), none, none, none, none] [] h
  unfold f_M_frostLine at hm
  refine ia_go hK ck_M_frostLine_0 ⟨gk_12 hg pk_417, gr_12_10 hg pk_417, ga_s100 hg (ka_12_10 pk_417) (by decide), ?_⟩
  show K 11 [some (.inr (.inr 417)), some (.inl 1), some (.inl 0), none, none] [] (ia_wI h 420 3 0)
  refine tl_M_frostLine_11 hK hret ?_ fu_ 1 0 (ia_wI h 420 3 0) (gd_wI hg (kx_100 (ka_12_10 pk_417))) hm
  · intro x2 h hg hm
    exact tj_M_frostLine_120 hK hret x2 h hg hm
