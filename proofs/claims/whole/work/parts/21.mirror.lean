def mm_Re_least : ia_M := (⟨"IceStreet$Reader", "least", "(C)I"⟩, prog_8_method_17_code, 1, (some .int), 7, false)
theorem ok_Re_least : ia_mok mm_Re_least := ⟨by decide +kernel, by decide +kernel, by decide +kernel, by decide +kernel⟩
theorem mk_Re_least : ia_mkn mm_Re_least 0 1 := ⟨ia_tb_in (List.mem_of_getElem? (i := 904) (by decide +kernel)) rfl, ia_tb_in (List.mem_of_getElem? (i := 139) (by decide +kernel)) rfl, by decide +kernel, by decide +kernel, ia_tb_in (List.mem_of_getElem? (i := 903) (by decide +kernel)) rfl⟩
theorem ck_Re_least_0 : ia_cks 7 1 false prog_8_method_17_code 0 [(.iload_n 0, 0, 0, 0, 0), (.bipush 122, 0, 0, 0, 0), (.if_icmp .ne 7, 0, 0, 0, 0)] = true := by decide +kernel
theorem ck_Re_least_10 : ia_cks 7 1 false prog_8_method_17_code 10 [(.iload_n 0, 0, 0, 0, 0), (.bipush 112, 0, 0, 0, 0), (.if_icmp .ne 7, 0, 0, 0, 0)] = true := by decide +kernel
theorem ck_Re_least_20 : ia_cks 7 1 false prog_8_method_17_code 20 [(.iconst 0, 0, 0, 0, 0)] = true := by decide +kernel
theorem ck_Re_least_16 : ia_cks 7 1 false prog_8_method_17_code 16 [(.iconst 1, 0, 0, 0, 0), (.goto 4, 0, 0, 0, 0)] = true := by decide +kernel
theorem ck_Re_least_6 : ia_cks 7 1 false prog_8_method_17_code 6 [(.iconst 2, 0, 0, 0, 0), (.goto 14, 0, 0, 0, 0)] = true := by decide +kernel
theorem dc_Re_least_21 : decode prog_8_method_17_code 21 = .ok (.ireturn, 1) := by decide +kernel
def f_Re_least (x0 : Int32) (h : ia_H) : Option Int32 := if x0 = 122 then (some 2) else (if x0 = 112 then (some 1) else (some 0))
theorem t_Re_least (d : Nat) {x0 : Int32} {h : ia_H} (hg : gd_ h) {r : Int32} (hm : f_Re_least x0 h = some r) : ia_Ev (d + 0) mm_Re_least [.inl x0] h (some (.inl r)) h := by
  refine ia_Ev_intro ok_Re_least (Nat.le_refl _) (Nat.le_refl _) (Nat.le_of_ble_eq_true rfl) (fun K hK hret => ?_)
  show K 0 [some (.inl x0)] [] h
  unfold f_Re_least at hm
  refine ia_go hK ck_Re_least_0 ⟨fun c => ?_, fun c => ?_⟩
  · replace hm := ia_ifn hm c
    show K 10 [some (.inl x0)] [] h
    refine ia_go hK ck_Re_least_10 ⟨fun c => ?_, fun c => ?_⟩
    · replace hm := ia_ifn hm c
      show K 20 [some (.inl x0)] [] h
      refine ia_go hK ck_Re_least_20 ?_
      show K 21 [some (.inl x0)] [.inl 0] h
      cases hm
      exact hret 21 _ dc_Re_least_21
    · replace hm := ia_ifp hm c
      show K 16 [some (.inl x0)] [] h
      refine ia_go hK ck_Re_least_16 ?_
      show K 21 [some (.inl x0)] [.inl 1] h
      cases hm
      exact hret 21 _ dc_Re_least_21
  · replace hm := ia_ifp hm c
    show K 6 [some (.inl x0)] [] h
    refine ia_go hK ck_Re_least_6 ?_
    show K 21 [some (.inl x0)] [.inl 2] h
    cases hm
    exact hret 21 _ dc_Re_least_21
def mm_Re_greatest : ia_M := (⟨"IceStreet$Reader", "greatest", "(C)I"⟩, prog_8_method_18_code, 1, (some .int), 7, false)
theorem ok_Re_greatest : ia_mok mm_Re_greatest := ⟨by decide +kernel, by decide +kernel, by decide +kernel, by decide +kernel⟩
theorem mk_Re_greatest : ia_mkn mm_Re_greatest 0 1 := ⟨ia_tb_in (List.mem_of_getElem? (i := 907) (by decide +kernel)) rfl, ia_tb_in (List.mem_of_getElem? (i := 139) (by decide +kernel)) rfl, by decide +kernel, by decide +kernel, ia_tb_in (List.mem_of_getElem? (i := 906) (by decide +kernel)) rfl⟩
theorem ck_Re_greatest_0 : ia_cks 7 1 false prog_8_method_18_code 0 [(.iload_n 0, 0, 0, 0, 0), (.bipush 99, 0, 0, 0, 0), (.if_icmp .eq 9, 0, 0, 0, 0)] = true := by decide +kernel
theorem ck_Re_greatest_12 : ia_cks 7 1 false prog_8_method_18_code 12 [(.bipush 35, 0, 0, 0, 0)] = true := by decide +kernel
theorem ck_Re_greatest_6 : ia_cks 7 1 false prog_8_method_18_code 6 [(.iload_n 0, 0, 0, 0, 0), (.bipush 111, 0, 0, 0, 0), (.if_icmp .ne 6, 0, 0, 0, 0)] = true := by decide +kernel
theorem ck_Re_greatest_15 : ia_cks 7 1 false prog_8_method_18_code 15 [(.iload_n 0, 0, 0, 0, 0), (.bipush 115, 0, 0, 0, 0), (.if_icmp .ne 5, 0, 0, 0, 0)] = true := by decide +kernel
theorem ck_Re_greatest_23 : ia_cks 7 1 false prog_8_method_18_code 23 [(.iload_n 0, 0, 0, 0, 0), (.bipush 102, 0, 0, 0, 0), (.if_icmp .ne 6, 0, 0, 0, 0)] = true := by decide +kernel
theorem ck_Re_greatest_32 : ia_cks 7 1 false prog_8_method_18_code 32 [(.iload_n 0, 0, 0, 0, 0), (.bipush 122, 0, 0, 0, 0), (.if_icmp .ne 8, 0, 0, 0, 0)] = true := by decide +kernel
theorem ck_Re_greatest_43 : ia_cks 7 1 false prog_8_method_18_code 43 [(.iload_n 0, 0, 0, 0, 0), (.bipush 110, 0, 0, 0, 0), (.if_icmp .ne 8, 0, 0, 0, 0)] = true := by decide +kernel
theorem ck_Re_greatest_54 : ia_cks 7 1 false prog_8_method_18_code 54 [(.iload_n 0, 0, 0, 0, 0), (.bipush 104, 0, 0, 0, 0), (.if_icmp .ne 8, 0, 0, 0, 0)] = true := by decide +kernel
theorem ck_Re_greatest_65 : ia_cks 7 1 false prog_8_method_18_code 65 [(.bipush 99, 0, 0, 0, 0)] = true := by decide +kernel
theorem ck_Re_greatest_60 : ia_cks 7 1 false prog_8_method_18_code 60 [(.bipush 10, 0, 0, 0, 0), (.goto 5, 0, 0, 0, 0)] = true := by decide +kernel
theorem ck_Re_greatest_49 : ia_cks 7 1 false prog_8_method_18_code 49 [(.bipush 9, 0, 0, 0, 0), (.goto 16, 0, 0, 0, 0)] = true := by decide +kernel
theorem ck_Re_greatest_38 : ia_cks 7 1 false prog_8_method_18_code 38 [(.bipush 6, 0, 0, 0, 0), (.goto 27, 0, 0, 0, 0)] = true := by decide +kernel
theorem ck_Re_greatest_29 : ia_cks 7 1 false prog_8_method_18_code 29 [(.bipush 20, 0, 0, 0, 0)] = true := by decide +kernel
theorem ck_Re_greatest_21 : ia_cks 7 1 false prog_8_method_18_code 21 [(.iconst 5, 0, 0, 0, 0)] = true := by decide +kernel
theorem dc_Re_greatest_14 : decode prog_8_method_18_code 14 = .ok (.ireturn, 1) := by decide +kernel
theorem dc_Re_greatest_67 : decode prog_8_method_18_code 67 = .ok (.ireturn, 1) := by decide +kernel
theorem dc_Re_greatest_31 : decode prog_8_method_18_code 31 = .ok (.ireturn, 1) := by decide +kernel
theorem dc_Re_greatest_22 : decode prog_8_method_18_code 22 = .ok (.ireturn, 1) := by decide +kernel
def f_Re_greatest (x0 : Int32) (h : ia_H) : Option Int32 := if x0 = 99 then (some 35) else (if x0 = 111 then (some 35) else (if x0 = 115 then (some 5) else (if x0 = 102 then (some 20) else (if x0 = 122 then (some 6) else (if x0 = 110 then (some 9) else (if x0 = 104 then (some 10) else (some 99)))))))
theorem t_Re_greatest (d : Nat) {x0 : Int32} {h : ia_H} (hg : gd_ h) {r : Int32} (hm : f_Re_greatest x0 h = some r) : ia_Ev (d + 0) mm_Re_greatest [.inl x0] h (some (.inl r)) h := by
  refine ia_Ev_intro ok_Re_greatest (Nat.le_refl _) (Nat.le_refl _) (Nat.le_of_ble_eq_true rfl) (fun K hK hret => ?_)
  show K 0 [some (.inl x0)] [] h
  unfold f_Re_greatest at hm
  refine ia_go hK ck_Re_greatest_0 ⟨fun c => ?_, fun c => ?_⟩
  · replace hm := ia_ifp hm c
    show K 12 [some (.inl x0)] [] h
    refine ia_go hK ck_Re_greatest_12 ?_
    show K 14 [some (.inl x0)] [.inl 35] h
    cases hm
    exact hret 14 _ dc_Re_greatest_14
  · replace hm := ia_ifn hm c
    show K 6 [some (.inl x0)] [] h
    refine ia_go hK ck_Re_greatest_6 ⟨fun c => ?_, fun c => ?_⟩
    · replace hm := ia_ifn hm c
      show K 15 [some (.inl x0)] [] h
      refine ia_go hK ck_Re_greatest_15 ⟨fun c => ?_, fun c => ?_⟩
      · replace hm := ia_ifn hm c
        show K 23 [some (.inl x0)] [] h
        refine ia_go hK ck_Re_greatest_23 ⟨fun c => ?_, fun c => ?_⟩
        · replace hm := ia_ifn hm c
          show K 32 [some (.inl x0)] [] h
          refine ia_go hK ck_Re_greatest_32 ⟨fun c => ?_, fun c => ?_⟩
          · replace hm := ia_ifn hm c
            show K 43 [some (.inl x0)] [] h
            refine ia_go hK ck_Re_greatest_43 ⟨fun c => ?_, fun c => ?_⟩
            · replace hm := ia_ifn hm c
              show K 54 [some (.inl x0)] [] h
              refine ia_go hK ck_Re_greatest_54 ⟨fun c => ?_, fun c => ?_⟩
              · replace hm := ia_ifn hm c
                show K 65 [some (.inl x0)] [] h
                refine ia_go hK ck_Re_greatest_65 ?_
                show K 67 [some (.inl x0)] [.inl 99] h
                cases hm
                exact hret 67 _ dc_Re_greatest_67
              · replace hm := ia_ifp hm c
                show K 60 [some (.inl x0)] [] h
                refine ia_go hK ck_Re_greatest_60 ?_
                show K 67 [some (.inl x0)] [.inl 10] h
                cases hm
                exact hret 67 _ dc_Re_greatest_67
            · replace hm := ia_ifp hm c
              show K 49 [some (.inl x0)] [] h
              refine ia_go hK ck_Re_greatest_49 ?_
              show K 67 [some (.inl x0)] [.inl 9] h
              cases hm
              exact hret 67 _ dc_Re_greatest_67
          · replace hm := ia_ifp hm c
            show K 38 [some (.inl x0)] [] h
            refine ia_go hK ck_Re_greatest_38 ?_
            show K 67 [some (.inl x0)] [.inl 6] h
            cases hm
            exact hret 67 _ dc_Re_greatest_67
        · replace hm := ia_ifp hm c
          show K 29 [some (.inl x0)] [] h
          refine ia_go hK ck_Re_greatest_29 ?_
          show K 31 [some (.inl x0)] [.inl 20] h
          cases hm
          exact hret 31 _ dc_Re_greatest_31
      · replace hm := ia_ifp hm c
        show K 21 [some (.inl x0)] [] h
        refine ia_go hK ck_Re_greatest_21 ?_
        show K 22 [some (.inl x0)] [.inl 5] h
        cases hm
        exact hret 22 _ dc_Re_greatest_22
    · replace hm := ia_ifp hm c
      show K 12 [some (.inl x0)] [] h
      refine ia_go hK ck_Re_greatest_12 ?_
      show K 14 [some (.inl x0)] [.inl 35] h
      cases hm
      exact hret 14 _ dc_Re_greatest_14
def mm_I_bit : ia_M := (⟨"IceStreet", "bit", "(I)J"⟩, prog_1_method_45_code, 1, (some .long), 0, false)
theorem ok_I_bit : ia_mok mm_I_bit := ⟨by decide +kernel, by decide +kernel, by decide +kernel, by decide +kernel⟩
theorem mk_I_bit : ia_mkn mm_I_bit 0 1 := ⟨ia_tb_in (List.mem_of_getElem? (i := 914) (by decide +kernel)) rfl, ia_tb_in (List.mem_of_getElem? (i := 133) (by decide +kernel)) rfl, by decide +kernel, by decide +kernel, ia_tb_in (List.mem_of_getElem? (i := 913) (by decide +kernel)) rfl⟩
theorem ck_I_bit_0 : ia_cks 0 1 false prog_1_method_45_code 0 [(.lconst 1, 0, 0, 0, 0), (.iload_n 0, 0, 0, 0, 0), (.lshl, 0, 0, 0, 0)] = true := by decide +kernel
theorem dc_I_bit_3 : decode prog_1_method_45_code 3 = .ok (.lreturn, 1) := by decide +kernel
def f_I_bit (x0 : Int32) (h : ia_H) : Option Int64 := some (1 <<< (x0.toInt64 &&& 63))
theorem t_I_bit (d : Nat) {x0 : Int32} {h : ia_H} (hg : gd_ h) {r : Int64} (hm : f_I_bit x0 h = some r) : ia_Ev (d + 0) mm_I_bit [.inl x0] h (some (.inr (.inl r))) h := by
  refine ia_Ev_intro ok_I_bit (Nat.le_refl _) (Nat.le_refl _) (Nat.le_of_ble_eq_true rfl) (fun K hK hret => ?_)
  show K 0 [some (.inl x0)] [] h
  unfold f_I_bit at hm
  refine ia_go hK ck_I_bit_0 ?_
  show K 3 [some (.inl x0)] [.inr (.inl (1 <<< (x0.toInt64 &&& 63)))] h
  cases hm
  exact hret 3 _ dc_I_bit_3
def mm_La_addFrost : ia_M := (⟨"IceStreet$Lake", "addFrost", "(I)V"⟩, prog_4_method_8_code, 2, none, 3, false)
theorem ok_La_addFrost : ia_mok mm_La_addFrost := ⟨by decide +kernel, by decide +kernel, by decide +kernel, by decide +kernel⟩
theorem mk_La_addFrost : ia_mkn mm_La_addFrost 1 1 := ⟨ia_tb_in (List.mem_of_getElem? (i := 918) (by decide +kernel)) rfl, ia_tb_in (List.mem_of_getElem? (i := 135) (by decide +kernel)) rfl, by decide +kernel, by decide +kernel, ⟨ia_tb_in (List.mem_of_getElem? (i := 916) (by decide +kernel)) rfl, ia_tb_in (List.mem_of_getElem? (i := 917) (by decide +kernel)) rfl⟩⟩
theorem ck_La_addFrost_0 : ia_cks 3 2 false prog_4_method_8_code 0 [(.aload_n 0, 0, 0, 0, 0), (.getfield 75, 3, 10, 0, 0), (.bipush 12, 0, 0, 0, 0), (.if_icmp .ge 20, 0, 0, 0, 0)] = true := by decide +kernel
theorem ck_La_addFrost_9 : ia_cks 3 2 false prog_4_method_8_code 9 [(.aload_n 0, 0, 0, 0, 0), (.getfield 25, 3, 9, 3, 5), (.aload_n 0, 0, 0, 0, 0), (.dup, 0, 0, 0, 0), (.getfield 75, 3, 10, 0, 0), (.dup_x1, 0, 0, 0, 0), (.iconst 1, 0, 0, 0, 0), (.iadd, 0, 0, 0, 0), (.putfield 75, 3, 10, 0, 0), (.iload_n 1, 0, 0, 0, 0), (.iastore, 0, 0, 0, 0)] = true := by decide +kernel
theorem dc_La_addFrost_26 : decode prog_4_method_8_code 26 = .ok (.return_, 1) := by decide +kernel
def f_La_addFrost (a0 : Nat) (x1 : Int32) (h : ia_H) : Option ia_H := if 12 ≤ (ia_i h a0 10) then (some h) else (ia_gd (ia_ib (ia_i h a0 10) 12) (some (ia_wI (ia_wI h a0 10 ((ia_i h a0 10) + 1)) (a0 + 5) ((ia_i h a0 10).toNatClampNeg) x1)))
theorem g_La_addFrost {a0 : Nat} {x1 : Int32} {h : ia_H} (hg : gd_ h) (p0 : (kd_D a0).1 = 3) {q : ia_H} (hm : f_La_addFrost a0 x1 h = some q) : gd_ q := by
  obtain ⟨h1, e1⟩ : ∃ x, x = q := ⟨_, rfl⟩
  subst e1
  unfold f_La_addFrost at hm
  by_cases c : 12 ≤ (ia_i h a0 10)
  · replace hm := ia_ifp hm c
    cases hm
    exact hg
  · replace hm := ia_ifn hm c
    obtain ⟨c1, hm⟩ := ia_gd_some hm
    cases hm
    exact (gd_wI (gd_wI hg))
theorem t_La_addFrost (d : Nat) {a0 : Nat} {x1 : Int32} {h : ia_H} (hg : gd_ h) (p0 : (kd_D a0).1 = 3) {q : ia_H} (hm : f_La_addFrost a0 x1 h = some q) : ia_Ev (d + 0) mm_La_addFrost [.inr (.inr a0), .inl x1] h none q := by
  have gq := g_La_addFrost hg p0 hm
  refine ia_Ev_intro ok_La_addFrost (gd_le hg gq).1 (gd_le hg gq).2 (Nat.le_of_ble_eq_true rfl) (fun K hK hret => ?_)
  obtain ⟨h1, e1⟩ : ∃ x, x = q := ⟨_, rfl⟩
  subst e1
  show K 0 [some (.inr (.inr a0)), some (.inl x1)] [] h
  unfold f_La_addFrost at hm
  refine ia_go hK ck_La_addFrost_0 ⟨gk_3 hg p0, fun c => ?_, fun c => ?_⟩
  · replace hm := ia_ifp hm c
    show K 26 [some (.inr (.inr a0)), some (.inl x1)] [] h
    cases hm
    exact hret 26 _ dc_La_addFrost_26
  · replace hm := ia_ifn hm c
    show K 9 [some (.inr (.inr a0)), some (.inl x1)] [] h
    obtain ⟨c1, hm⟩ := ia_gd_some hm
    refine ia_go hK ck_La_addFrost_9 ⟨gk_3 hg p0, gr_3_9 hg p0, gk_3 hg p0, gk_3 hg p0, ga_s100 (gd_wI hg) (ka_3_9 p0) c1, ?_⟩
    show K 26 [some (.inr (.inr a0)), some (.inl x1)] [] (ia_wI (ia_wI h a0 10 ((ia_i h a0 10) + 1)) (a0 + 5) ((ia_i h a0 10).toNatClampNeg) x1)
    cases hm
    exact hret 26 _ dc_La_addFrost_26
def mm_Re_tellNumber : ia_M := (⟨"IceStreet$Reader", "tellNumber", "(ICI)V"⟩, prog_8_method_22_code, 4, none, 7, false)
theorem ok_Re_tellNumber : ia_mok mm_Re_tellNumber := ⟨by decide +kernel, by decide +kernel, by decide +kernel, by decide +kernel⟩
theorem mk_Re_tellNumber : ia_mkn mm_Re_tellNumber 1 3 := ⟨ia_tb_in (List.mem_of_getElem? (i := 911) (by decide +kernel)) rfl, ia_tb_in (List.mem_of_getElem? (i := 139) (by decide +kernel)) rfl, by decide +kernel, by decide +kernel, ⟨ia_tb_in (List.mem_of_getElem? (i := 910) (by decide +kernel)) rfl, ia_tb_in (List.mem_of_getElem? (i := 16) (by decide +kernel)) rfl⟩⟩
theorem ck_Re_tellNumber_0 : ia_cks 7 4 false prog_8_method_22_code 0 [(.aload_n 0, 0, 0, 0, 0), (.getfield 50, 7, 8, 0, 0), (.ifCond .ne 31, 0, 0, 0, 0)] = true := by decide +kernel
theorem ck_Re_tellNumber_35 : ia_cks 7 4 false prog_8_method_22_code 35 [(.iload_n 1, 0, 0, 0, 0), (.bipush 6, 0, 0, 0, 0), (.if_icmp .ne 14, 0, 0, 0, 0)] = true := by decide +kernel
theorem ck_Re_tellNumber_52 : ia_cks 7 4 false prog_8_method_22_code 52 [(.iload_n 1, 0, 0, 0, 0), (.bipush 8, 0, 0, 0, 0), (.if_icmp .ne 22, 0, 0, 0, 0)] = true := by decide +kernel
theorem ck_Re_tellNumber_77 : ia_cks 7 4 false prog_8_method_22_code 77 [(.iload_n 1, 0, 0, 0, 0), (.bipush 15, 0, 0, 0, 0), (.if_icmp .ne 19, 0, 0, 0, 0)] = true := by decide +kernel
theorem ck_Re_tellNumber_83 : ia_cks 7 4 false prog_8_method_22_code 83 [(.aload_n 0, 0, 0, 0, 0), (.getfield 21, 7, 1, 3, 13), (.dup, 0, 0, 0, 0), (.getfield 262, 4, 7, 1, 0), (.iload_n 3, 0, 0, 0, 0)] = true := by decide +kernel
theorem ck_Re_tellNumber_95 : ia_cks 7 4 false prog_8_method_22_code 95 [(.lor, 0, 0, 0, 0), (.putfield 262, 4, 7, 1, 0)] = true := by decide +kernel
theorem ck_Re_tellNumber_58 : ia_cks 7 4 false prog_8_method_22_code 58 [(.aload_n 0, 0, 0, 0, 0), (.getfield 12, 7, 0, 3, 1), (.dup, 0, 0, 0, 0), (.getfield 260, 3, 7, 1, 0), (.iload_n 3, 0, 0, 0, 0)] = true := by decide +kernel
theorem ck_Re_tellNumber_70 : ia_cks 7 4 false prog_8_method_22_code 70 [(.lor, 0, 0, 0, 0), (.putfield 260, 3, 7, 1, 0), (.goto 25, 0, 0, 0, 0)] = true := by decide +kernel
theorem ck_Re_tellNumber_41 : ia_cks 7 4 false prog_8_method_22_code 41 [(.aload_n 0, 0, 0, 0, 0), (.getfield 12, 7, 0, 3, 1), (.iload_n 3, 0, 0, 0, 0)] = true := by decide +kernel
theorem ck_Re_tellNumber_49 : ia_cks 7 4 false prog_8_method_22_code 49 [(.goto 50, 0, 0, 0, 0)] = true := by decide +kernel
theorem ck_Re_tellNumber_7 : ia_cks 7 4 false prog_8_method_22_code 7 [(.iload_n 2, 0, 0, 0, 0), (.bipush 99, 0, 0, 0, 0), (.if_icmp .eq 9, 0, 0, 0, 0)] = true := by decide +kernel
theorem ck_Re_tellNumber_19 : ia_cks 7 4 false prog_8_method_22_code 19 [(.aload_n 0, 0, 0, 0, 0), (.getfield 12, 7, 0, 3, 1), (.dup, 0, 0, 0, 0), (.getfield 249, 3, 8, 1, 0), (.iload_n 3, 0, 0, 0, 0)] = true := by decide +kernel
theorem ck_Re_tellNumber_31 : ia_cks 7 4 false prog_8_method_22_code 31 [(.lor, 0, 0, 0, 0), (.putfield 249, 3, 8, 1, 0)] = true := by decide +kernel
theorem ck_Re_tellNumber_13 : ia_cks 7 4 false prog_8_method_22_code 13 [(.iload_n 2, 0, 0, 0, 0), (.bipush 111, 0, 0, 0, 0), (.if_icmp .ne 19, 0, 0, 0, 0)] = true := by decide +kernel
theorem dc_Re_tellNumber_99 : decode prog_8_method_22_code 99 = .ok (.return_, 1) := by decide +kernel
theorem dc_Re_tellNumber_92 : decode prog_8_method_22_code 92 = .ok (.invokestatic 253, 3) := by decide +kernel
theorem dc_Re_tellNumber_67 : decode prog_8_method_22_code 67 = .ok (.invokestatic 253, 3) := by decide +kernel
theorem dc_Re_tellNumber_46 : decode prog_8_method_22_code 46 = .ok (.invokevirtual 257, 3) := by decide +kernel
theorem dc_Re_tellNumber_28 : decode prog_8_method_22_code 28 = .ok (.invokestatic 253, 3) := by decide +kernel
def j_Re_tellNumber_35 (x1 : Int32) (x2 : Int32) (x3 : Int32) (h : ia_H) : Option ia_H := if x1 = 6 then ((f_La_addFrost 280 x3 h).bind fun v3 => (some v3)) else (if x1 = 8 then ((f_I_bit x3 h).bind fun v2 => (some (ia_wL h 280 7 ((ia_l h 280 7) ||| v2)))) else (if x1 = 15 then ((f_I_bit x3 h).bind fun v1 => (some (ia_wL h 292 7 ((ia_l h 292 7) ||| v1)))) else (some h)))
theorem tj_Re_tellNumber_35 {d N1 W1 : Nat} {K : ia_K} (hK : ia_isK (d + 1) mm_Re_tellNumber N1 W1 K) {x1 : Int32} {x2 : Int32} {x3 : Int32} {h1 : ia_H} (hret : ∀ (pc : Nat) (lv : ia_L), ia_ret mm_Re_tellNumber pc none → K pc lv (none : Option ia_V).toList h1) : ∀ (h : ia_H), gd_ h → j_Re_tellNumber_35 x1 x2 x3 h = some h1 → K 35 [some (.inr (.inr 279)), some (.inl x1), none, some (.inl x3)] [] h := by
  intro h hg hm
  unfold j_Re_tellNumber_35 at hm
  refine ia_go hK ck_Re_tellNumber_35 ⟨fun c => ?_, fun c => ?_⟩
  · replace hm := ia_ifn hm c
    show K 52 [some (.inr (.inr 279)), some (.inl x1), none, some (.inl x3)] [] h
    refine ia_go hK ck_Re_tellNumber_52 ⟨fun c => ?_, fun c => ?_⟩
    · replace hm := ia_ifn hm c
      show K 77 [some (.inr (.inr 279)), some (.inl x1), none, some (.inl x3)] [] h
      refine ia_go hK ck_Re_tellNumber_77 ⟨fun c => ?_, fun c => ?_⟩
      · replace hm := ia_ifn hm c
        show K 99 [some (.inr (.inr 279)), some (.inl x1), none, some (.inl x3)] [] h
        cases hm
        exact hret 99 _ dc_Re_tellNumber_99
      · replace hm := ia_ifp hm c
        show K 83 [some (.inr (.inr 279)), some (.inl x1), none, some (.inl x3)] [] h
        refine ia_go hK ck_Re_tellNumber_83 ⟨gk_7 hg pk_279, gr_7_1 hg pk_279, gk_4 hg (ka_7_1 pk_279), ?_⟩
        show K 92 [some (.inr (.inr 279)), some (.inl x1), none, some (.inl x3)] [.inl x3, .inr (.inl (ia_l h 292 7)), .inr (.inr 292)] h
        obtain ⟨v1, hv1, hm⟩ := ia_bnd hm
        have ev1 := t_I_bit (d + 0) hg hv1
        refine ia_cS hK mk_I_bit lk_7_253 dc_Re_tellNumber_92 [.inl x3] [.inr (.inl (ia_l h 292 7)), .inr (.inr 292)] rfl rfl (Nat.le_of_ble_eq_true rfl) ev1 ⟨rfl, rfl⟩ ?_
        show K 95 [some (.inr (.inr 279)), some (.inl x1), none, some (.inl x3)] [.inr (.inl v1), .inr (.inl (ia_l h 292 7)), .inr (.inr 292)] h
        refine ia_go hK ck_Re_tellNumber_95 ⟨gk_4 hg (ka_7_1 pk_279), ?_⟩
        show K 99 [some (.inr (.inr 279)), some (.inl x1), none, some (.inl x3)] [] (ia_wL h 292 7 ((ia_l h 292 7) ||| v1))
        cases hm
        exact hret 99 _ dc_Re_tellNumber_99
    · replace hm := ia_ifp hm c
      show K 58 [some (.inr (.inr 279)), some (.inl x1), none, some (.inl x3)] [] h
      refine ia_go hK ck_Re_tellNumber_58 ⟨gk_7 hg pk_279, gr_7_0 hg pk_279, gk_3 hg (ka_7_0 pk_279), ?_⟩
      show K 67 [some (.inr (.inr 279)), some (.inl x1), none, some (.inl x3)] [.inl x3, .inr (.inl (ia_l h 280 7)), .inr (.inr 280)] h
      obtain ⟨v2, hv2, hm⟩ := ia_bnd hm
      have ev2 := t_I_bit (d + 0) hg hv2
      refine ia_cS hK mk_I_bit lk_7_253 dc_Re_tellNumber_67 [.inl x3] [.inr (.inl (ia_l h 280 7)), .inr (.inr 280)] rfl rfl (Nat.le_of_ble_eq_true rfl) ev2 ⟨rfl, rfl⟩ ?_
      show K 70 [some (.inr (.inr 279)), some (.inl x1), none, some (.inl x3)] [.inr (.inl v2), .inr (.inl (ia_l h 280 7)), .inr (.inr 280)] h
      refine ia_go hK ck_Re_tellNumber_70 ⟨gk_3 hg (ka_7_0 pk_279), ?_⟩
      show K 99 [some (.inr (.inr 279)), some (.inl x1), none, some (.inl x3)] [] (ia_wL h 280 7 ((ia_l h 280 7) ||| v2))
      cases hm
      exact hret 99 _ dc_Re_tellNumber_99
  · replace hm := ia_ifp hm c
    show K 41 [some (.inr (.inr 279)), some (.inl x1), none, some (.inl x3)] [] h
    refine ia_go hK ck_Re_tellNumber_41 ⟨gk_7 hg pk_279, gr_7_0 hg pk_279, ?_⟩
    show K 46 [some (.inr (.inr 279)), some (.inl x1), none, some (.inl x3)] [.inl x3, .inr (.inr 280)] h
    obtain ⟨v3, hv3, hm⟩ := ia_bnd hm
    have ev3 := t_La_addFrost (d + 0) hg (ka_7_0 pk_279) hv3
    have gv3 := g_La_addFrost hg (ka_7_0 pk_279) hv3
    refine ia_cV hK mk_La_addFrost lk_7_257 dc_Re_tellNumber_46 280 [.inl x3] [] rfl rfl (Nat.le_of_ble_eq_true rfl) (by decide) rfl (gk_3 hg (ka_7_0 pk_279)) ev3 (gd_nm hg gv3) ?_
    show K 49 [some (.inr (.inr 279)), some (.inl x1), none, some (.inl x3)] [] v3
    refine ia_go hK ck_Re_tellNumber_49 ?_
    show K 99 [some (.inr (.inr 279)), some (.inl x1), none, some (.inl x3)] [] v3
    cases hm
    exact hret 99 _ dc_Re_tellNumber_99
theorem gj_Re_tellNumber_35 {x1 : Int32} {x2 : Int32} {x3 : Int32} {h1 : ia_H} : ∀ (h : ia_H), gd_ h → j_Re_tellNumber_35 x1 x2 x3 h = some h1 → gd_ h1 := by
  intro h hg hm
  unfold j_Re_tellNumber_35 at hm
  by_cases c : x1 = 6
  · replace hm := ia_ifp hm c
    obtain ⟨v3, hv3, hm⟩ := ia_bnd hm
    have gv3 := g_La_addFrost hg (ka_7_0 pk_279) hv3
    cases hm
    exact gv3
  · replace hm := ia_ifn hm c
    by_cases c : x1 = 8
    · replace hm := ia_ifp hm c
      obtain ⟨v2, hv2, hm⟩ := ia_bnd hm
      cases hm
      exact (gd_wL hg)
    · replace hm := ia_ifn hm c
      by_cases c : x1 = 15
      · replace hm := ia_ifp hm c
        obtain ⟨v1, hv1, hm⟩ := ia_bnd hm
        cases hm
        exact (gd_wL hg)
      · replace hm := ia_ifn hm c
        cases hm
        exact hg
def j_Re_tellNumber_19 (x1 : Int32) (x2 : Int32) (x3 : Int32) (h : ia_H) : Option ia_H := (f_I_bit x3 h).bind fun v4 => (j_Re_tellNumber_35 x1 x2 x3 (ia_wL h 280 8 ((ia_l h 280 8) ||| v4)))
theorem tj_Re_tellNumber_19 {d N1 W1 : Nat} {K : ia_K} (hK : ia_isK (d + 1) mm_Re_tellNumber N1 W1 K) {x1 : Int32} {x2 : Int32} {x3 : Int32} {h1 : ia_H} (hret : ∀ (pc : Nat) (lv : ia_L), ia_ret mm_Re_tellNumber pc none → K pc lv (none : Option ia_V).toList h1) : ∀ (h : ia_H), gd_ h → j_Re_tellNumber_19 x1 x2 x3 h = some h1 → K 19 [some (.inr (.inr 279)), some (.inl x1), none, some (.inl x3)] [] h := by
  intro h hg hm
  unfold j_Re_tellNumber_19 at hm
  refine ia_go hK ck_Re_tellNumber_19 ⟨gk_7 hg pk_279, gr_7_0 hg pk_279, gk_3 hg (ka_7_0 pk_279), ?_⟩
  show K 28 [some (.inr (.inr 279)), some (.inl x1), none, some (.inl x3)] [.inl x3, .inr (.inl (ia_l h 280 8)), .inr (.inr 280)] h
  obtain ⟨v4, hv4, hm⟩ := ia_bnd hm
  have ev4 := t_I_bit (d + 0) hg hv4
  refine ia_cS hK mk_I_bit lk_7_253 dc_Re_tellNumber_28 [.inl x3] [.inr (.inl (ia_l h 280 8)), .inr (.inr 280)] rfl rfl (Nat.le_of_ble_eq_true rfl) ev4 ⟨rfl, rfl⟩ ?_
  show K 31 [some (.inr (.inr 279)), some (.inl x1), none, some (.inl x3)] [.inr (.inl v4), .inr (.inl (ia_l h 280 8)), .inr (.inr 280)] h
  refine ia_go hK ck_Re_tellNumber_31 ⟨gk_3 hg (ka_7_0 pk_279), ?_⟩
  show K 35 [some (.inr (.inr 279)), some (.inl x1), none, some (.inl x3)] [] (ia_wL h 280 8 ((ia_l h 280 8) ||| v4))
  exact tj_Re_tellNumber_35 hK hret (ia_wL h 280 8 ((ia_l h 280 8) ||| v4)) (gd_wL hg) hm
theorem gj_Re_tellNumber_19 {x1 : Int32} {x2 : Int32} {x3 : Int32} {h1 : ia_H} : ∀ (h : ia_H), gd_ h → j_Re_tellNumber_19 x1 x2 x3 h = some h1 → gd_ h1 := by
  intro h hg hm
  unfold j_Re_tellNumber_19 at hm
  obtain ⟨v4, hv4, hm⟩ := ia_bnd hm
  exact gj_Re_tellNumber_35 (ia_wL h 280 8 ((ia_l h 280 8) ||| v4)) (gd_wL hg) hm
def f_Re_tellNumber (x1 : Int32) (x2 : Int32) (x3 : Int32) (h : ia_H) : Option ia_H := if (ia_i h 279 8) = 0 then (if x2 = 99 then (j_Re_tellNumber_19 x1 x2 x3 h) else (if x2 = 111 then (j_Re_tellNumber_19 x1 x2 x3 h) else (j_Re_tellNumber_35 x1 x2 x3 h))) else (j_Re_tellNumber_35 x1 x2 x3 h)
theorem g_Re_tellNumber {x1 : Int32} {x2 : Int32} {x3 : Int32} {h : ia_H} (hg : gd_ h) {q : ia_H} (hm : f_Re_tellNumber x1 x2 x3 h = some q) : gd_ q := by
  obtain ⟨h1, e1⟩ : ∃ x, x = q := ⟨_, rfl⟩
  subst e1
  unfold f_Re_tellNumber at hm
  by_cases c : (ia_i h 279 8) = 0
  · replace hm := ia_ifp hm c
    by_cases c : x2 = 99
    · replace hm := ia_ifp hm c
      exact gj_Re_tellNumber_19 h hg hm
    · replace hm := ia_ifn hm c
      by_cases c : x2 = 111
      · replace hm := ia_ifp hm c
        exact gj_Re_tellNumber_19 h hg hm
      · replace hm := ia_ifn hm c
        exact gj_Re_tellNumber_35 h hg hm
  · replace hm := ia_ifn hm c
    exact gj_Re_tellNumber_35 h hg hm
theorem t_Re_tellNumber (d : Nat) {x1 : Int32} {x2 : Int32} {x3 : Int32} {h : ia_H} (hg : gd_ h) {q : ia_H} (hm : f_Re_tellNumber x1 x2 x3 h = some q) : ia_Ev (d + 1) mm_Re_tellNumber [.inr (.inr 279), .inl x1, .inl x2, .inl x3] h none q := by
  have gq := g_Re_tellNumber hg hm
  refine ia_Ev_intro ok_Re_tellNumber (gd_le hg gq).1 (gd_le hg gq).2 (Nat.le_of_ble_eq_true rfl) (fun K hK hret => ?_)
  obtain ⟨h1, e1⟩ : ∃ x, x = q := ⟨_, rfl⟩
  subst e1
  show K 0 [some (.inr (.inr 279)), some (.inl x1), some (.inl x2), some (.inl x3)] [] h
  unfold f_Re_tellNumber at hm
  refine ia_go hK ck_Re_tellNumber_0 ⟨gk_7 hg pk_279, fun c => ?_, fun c => ?_⟩
  · replace hm := ia_ifn hm c
    show K 35 [some (.inr (.inr 279)), some (.inl x1), some (.inl x2), some (.inl x3)] [] h
    refine ia_fg hK (lv' := [some (.inr (.inr 279)), some (.inl x1), none, some (.inl x3)]) ⟨rfl, rfl, rfl, trivial⟩ ?_
    exact tj_Re_tellNumber_35 hK hret h hg hm
  · replace hm := ia_ifp hm c
    show K 7 [some (.inr (.inr 279)), some (.inl x1), some (.inl x2), some (.inl x3)] [] h
    refine ia_go hK ck_Re_tellNumber_7 ⟨fun c => ?_, fun c => ?_⟩
    · replace hm := ia_ifp hm c
      show K 19 [some (.inr (.inr 279)), some (.inl x1), some (.inl x2), some (.inl x3)] [] h
      refine ia_fg hK (lv' := [some (.inr (.inr 279)), some (.inl x1), none, some (.inl x3)]) ⟨rfl, rfl, rfl, trivial⟩ ?_
      exact tj_Re_tellNumber_19 hK hret h hg hm
    · replace hm := ia_ifn hm c
      show K 13 [some (.inr (.inr 279)), some (.inl x1), some (.inl x2), some (.inl x3)] [] h
      refine ia_go hK ck_Re_tellNumber_13 ⟨fun c => ?_, fun c => ?_⟩
      · replace hm := ia_ifn hm c
        show K 35 [some (.inr (.inr 279)), some (.inl x1), some (.inl x2), some (.inl x3)] [] h
        refine ia_fg hK (lv' := [some (.inr (.inr 279)), some (.inl x1), none, some (.inl x3)]) ⟨rfl, rfl, rfl, trivial⟩ ?_
        exact tj_Re_tellNumber_35 hK hret h hg hm
      · replace hm := ia_ifp hm c
        show K 19 [some (.inr (.inr 279)), some (.inl x1), some (.inl x2), some (.inl x3)] [] h
        refine ia_fg hK (lv' := [some (.inr (.inr 279)), some (.inl x1), none, some (.inl x3)]) ⟨rfl, rfl, rfl, trivial⟩ ?_
        exact tj_Re_tellNumber_19 hK hret h hg hm
def mm_Re_readNumber : ia_M := (⟨"IceStreet$Reader", "readNumber", "(ICI)Z"⟩, prog_8_method_21_code, 7, (some .boolean), 7, false)
theorem ok_Re_readNumber : ia_mok mm_Re_readNumber := ⟨by decide +kernel, by decide +kernel, by decide +kernel, by decide +kernel⟩
theorem mk_Re_readNumber : ia_mkn mm_Re_readNumber 1 3 := ⟨ia_tb_in (List.mem_of_getElem? (i := 901) (by decide +kernel)) rfl, ia_tb_in (List.mem_of_getElem? (i := 139) (by decide +kernel)) rfl, by decide +kernel, by decide +kernel, ⟨ia_tb_in (List.mem_of_getElem? (i := 900) (by decide +kernel)) rfl, ia_tb_in (List.mem_of_getElem? (i := 15) (by decide +kernel)) rfl⟩⟩
theorem ck_Re_readNumber_0 : ia_cks 7 7 false prog_8_method_21_code 0 [(.iload_n 1, 0, 0, 0, 0), (.bipush 6, 0, 0, 0, 0), (.if_icmp .ne 13, 0, 0, 0, 0)] = true := by decide +kernel
theorem ck_Re_readNumber_16 : ia_cks 7 7 false prog_8_method_21_code 16 [(.iconst 0, 0, 0, 0, 0)] = true := by decide +kernel
theorem ck_Re_readNumber_17 : ia_cks 7 7 false prog_8_method_21_code 17 [(.istore 4, 0, 0, 0, 0), (.iload_n 2, 0, 0, 0, 0), (.bipush 102, 0, 0, 0, 0), (.if_icmp .ne 15, 0, 0, 0, 0)] = true := by decide +kernel
theorem ck_Re_readNumber_37 : ia_cks 7 7 false prog_8_method_21_code 37 [(.iconst 0, 0, 0, 0, 0)] = true := by decide +kernel
theorem ck_Re_readNumber_38 : ia_cks 7 7 false prog_8_method_21_code 38 [(.istore 5, 0, 0, 0, 0), (.iload 5, 0, 0, 0, 0), (.ifCond .eq 21, 0, 0, 0, 0)] = true := by decide +kernel
theorem ck_Re_readNumber_63 : ia_cks 7 7 false prog_8_method_21_code 63 [(.aload_n 0, 0, 0, 0, 0), (.getfield 59, 7, 9, 0, 0), (.iconst 2, 0, 0, 0, 0), (.if_icmp .eq 8, 0, 0, 0, 0)] = true := by decide +kernel
theorem ck_Re_readNumber_76 : ia_cks 7 7 false prog_8_method_21_code 76 [(.iload_n 2, 0, 0, 0, 0), (.bipush 111, 0, 0, 0, 0), (.if_icmp .ne 35, 0, 0, 0, 0)] = true := by decide +kernel
theorem ck_Re_readNumber_114 : ia_cks 7 7 false prog_8_method_21_code 114 [(.iconst 0, 0, 0, 0, 0)] = true := by decide +kernel
theorem ck_Re_readNumber_115 : ia_cks 7 7 false prog_8_method_21_code 115 [(.istore 6, 0, 0, 0, 0), (.aload_n 0, 0, 0, 0, 0), (.getfield 115, 7, 10, 0, 0), (.iload_n 2, 0, 0, 0, 0)] = true := by decide +kernel
theorem ck_Re_readNumber_125 : ia_cks 7 7 false prog_8_method_21_code 125 [(.if_icmp .lt 19, 0, 0, 0, 0)] = true := by decide +kernel
theorem ck_Re_readNumber_144 : ia_cks 7 7 false prog_8_method_21_code 144 [(.aload_n 0, 0, 0, 0, 0), (.iconst 2, 0, 0, 0, 0), (.aload_n 0, 0, 0, 0, 0), (.getfield 99, 7, 11, 0, 0)] = true := by decide +kernel
theorem ck_Re_readNumber_153 : ia_cks 7 7 false prog_8_method_21_code 153 [(.iload 4, 0, 0, 0, 0), (.ifCond .eq 12, 0, 0, 0, 0)] = true := by decide +kernel
theorem ck_Re_readNumber_167 : ia_cks 7 7 false prog_8_method_21_code 167 [(.iload_n 3, 0, 0, 0, 0), (.aload_n 0, 0, 0, 0, 0), (.getfield 32, 7, 5, 3, 22), (.arraylength, 0, 0, 0, 0)] = true := by decide +kernel
theorem ck_Re_readNumber_173 : ia_cks 7 7 false prog_8_method_21_code 173 [(.if_icmp .ge 13, 0, 0, 0, 0)] = true := by decide +kernel
theorem ck_Re_readNumber_186 : ia_cks 7 7 false prog_8_method_21_code 186 [(.aload_n 0, 0, 0, 0, 0), (.getfield 66, 7, 3, 0, 0), (.ifCond .ne 26, 0, 0, 0, 0)] = true := by decide +kernel
theorem ck_Re_readNumber_216 : ia_cks 7 7 false prog_8_method_21_code 216 [(.aload_n 0, 0, 0, 0, 0)] = true := by decide +kernel
theorem ck_Re_readNumber_220 : ia_cks 7 7 false prog_8_method_21_code 220 [(.iconst 1, 0, 0, 0, 0)] = true := by decide +kernel
theorem ck_Re_readNumber_193 : ia_cks 7 7 false prog_8_method_21_code 193 [(.aload_n 0, 0, 0, 0, 0), (.iload_n 1, 0, 0, 0, 0), (.iload_n 2, 0, 0, 0, 0), (.iload 5, 0, 0, 0, 0), (.ifCond .eq 11, 0, 0, 0, 0)] = true := by decide +kernel
theorem ck_Re_readNumber_209 : ia_cks 7 7 false prog_8_method_21_code 209 [(.aload_n 0, 0, 0, 0, 0), (.getfield 115, 7, 10, 0, 0)] = true := by decide +kernel
theorem ck_Re_readNumber_201 : ia_cks 7 7 false prog_8_method_21_code 201 [(.aload_n 0, 0, 0, 0, 0), (.getfield 115, 7, 10, 0, 0), (.ineg, 0, 0, 0, 0), (.goto 7, 0, 0, 0, 0)] = true := by decide +kernel
theorem ck_Re_readNumber_176 : ia_cks 7 7 false prog_8_method_21_code 176 [(.aload_n 0, 0, 0, 0, 0), (.getfield 32, 7, 5, 3, 22), (.iload_n 3, 0, 0, 0, 0), (.aload_n 0, 0, 0, 0, 0), (.getfield 115, 7, 10, 0, 0), (.iastore, 0, 0, 0, 0)] = true := by decide +kernel
theorem ck_Re_readNumber_158 : ia_cks 7 7 false prog_8_method_21_code 158 [(.aload_n 0, 0, 0, 0, 0), (.iconst 3, 0, 0, 0, 0), (.aload_n 0, 0, 0, 0, 0), (.getfield 99, 7, 11, 0, 0)] = true := by decide +kernel
theorem ck_Re_readNumber_128 : ia_cks 7 7 false prog_8_method_21_code 128 [(.aload_n 0, 0, 0, 0, 0), (.getfield 115, 7, 10, 0, 0), (.iload_n 2, 0, 0, 0, 0)] = true := by decide +kernel
theorem ck_Re_readNumber_136 : ia_cks 7 7 false prog_8_method_21_code 136 [(.if_icmp .gt 8, 0, 0, 0, 0)] = true := by decide +kernel
theorem ck_Re_readNumber_139 : ia_cks 7 7 false prog_8_method_21_code 139 [(.iload 6, 0, 0, 0, 0), (.ifCond .eq 12, 0, 0, 0, 0)] = true := by decide +kernel
theorem ck_Re_readNumber_82 : ia_cks 7 7 false prog_8_method_21_code 82 [(.iload_n 3, 0, 0, 0, 0), (.ifCond .le 31, 0, 0, 0, 0)] = true := by decide +kernel
theorem ck_Re_readNumber_86 : ia_cks 7 7 false prog_8_method_21_code 86 [(.iload_n 3, 0, 0, 0, 0), (.aload_n 0, 0, 0, 0, 0), (.getfield 32, 7, 5, 3, 22), (.arraylength, 0, 0, 0, 0)] = true := by decide +kernel
theorem ck_Re_readNumber_92 : ia_cks 7 7 false prog_8_method_21_code 92 [(.if_icmp .gt 22, 0, 0, 0, 0)] = true := by decide +kernel
theorem ck_Re_readNumber_95 : ia_cks 7 7 false prog_8_method_21_code 95 [(.aload_n 0, 0, 0, 0, 0), (.getfield 115, 7, 10, 0, 0), (.aload_n 0, 0, 0, 0, 0), (.getfield 32, 7, 5, 3, 22), (.iload_n 3, 0, 0, 0, 0), (.iconst 1, 0, 0, 0, 0), (.isub, 0, 0, 0, 0), (.iaload, 0, 0, 0, 0), (.if_icmp .ne 7, 0, 0, 0, 0)] = true := by decide +kernel
theorem ck_Re_readNumber_110 : ia_cks 7 7 false prog_8_method_21_code 110 [(.iconst 1, 0, 0, 0, 0), (.goto 4, 0, 0, 0, 0)] = true := by decide +kernel
theorem ck_Re_readNumber_71 : ia_cks 7 7 false prog_8_method_21_code 71 [(.aload_n 0, 0, 0, 0, 0)] = true := by decide +kernel
theorem ck_Re_readNumber_45 : ia_cks 7 7 false prog_8_method_21_code 45 [(.iload 4, 0, 0, 0, 0), (.ifCond .eq 12, 0, 0, 0, 0)] = true := by decide +kernel
theorem ck_Re_readNumber_59 : ia_cks 7 7 false prog_8_method_21_code 59 [(.aload_n 0, 0, 0, 0, 0)] = true := by decide +kernel
theorem ck_Re_readNumber_50 : ia_cks 7 7 false prog_8_method_21_code 50 [(.aload_n 0, 0, 0, 0, 0), (.iconst 3, 0, 0, 0, 0), (.aload_n 0, 0, 0, 0, 0), (.getfield 99, 7, 11, 0, 0)] = true := by decide +kernel
theorem ck_Re_readNumber_25 : ia_cks 7 7 false prog_8_method_21_code 25 [(.aload_n 0, 0, 0, 0, 0), (.getfield 59, 7, 9, 0, 0), (.iconst 3, 0, 0, 0, 0), (.if_icmp .ne 7, 0, 0, 0, 0)] = true := by decide +kernel
theorem ck_Re_readNumber_33 : ia_cks 7 7 false prog_8_method_21_code 33 [(.iconst 1, 0, 0, 0, 0), (.goto 4, 0, 0, 0, 0)] = true := by decide +kernel
theorem ck_Re_readNumber_6 : ia_cks 7 7 false prog_8_method_21_code 6 [(.iload_n 3, 0, 0, 0, 0), (.bipush 12, 0, 0, 0, 0), (.if_icmp .lt 7, 0, 0, 0, 0)] = true := by decide +kernel
theorem ck_Re_readNumber_12 : ia_cks 7 7 false prog_8_method_21_code 12 [(.iconst 1, 0, 0, 0, 0), (.goto 4, 0, 0, 0, 0)] = true := by decide +kernel
theorem dc_Re_readNumber_122 : decode prog_8_method_21_code 122 = .ok (.invokestatic 239, 3) := by decide +kernel
theorem dc_Re_readNumber_150 : decode prog_8_method_21_code 150 = .ok (.invokevirtual 72, 3) := by decide +kernel
theorem dc_Re_readNumber_217 : decode prog_8_method_21_code 217 = .ok (.invokevirtual 56, 3) := by decide +kernel
theorem dc_Re_readNumber_221 : decode prog_8_method_21_code 221 = .ok (.ireturn, 1) := by decide +kernel
theorem dc_Re_readNumber_213 : decode prog_8_method_21_code 213 = .ok (.invokevirtual 245, 3) := by decide +kernel
theorem dc_Re_readNumber_164 : decode prog_8_method_21_code 164 = .ok (.invokevirtual 72, 3) := by decide +kernel
theorem dc_Re_readNumber_133 : decode prog_8_method_21_code 133 = .ok (.invokestatic 242, 3) := by decide +kernel
theorem dc_Re_readNumber_72 : decode prog_8_method_21_code 72 = .ok (.invokevirtual 122, 3) := by decide +kernel
theorem dc_Re_readNumber_75 : decode prog_8_method_21_code 75 = .ok (.ireturn, 1) := by decide +kernel
theorem dc_Re_readNumber_60 : decode prog_8_method_21_code 60 = .ok (.invokevirtual 56, 3) := by decide +kernel
theorem dc_Re_readNumber_56 : decode prog_8_method_21_code 56 = .ok (.invokevirtual 72, 3) := by decide +kernel
def j_Re_readNumber_216 (x1 : Int32) (x2 : Int32) (x3 : Int32) (h : ia_H) : Option (Int32 × ia_H) := (f_Re_advance h).bind fun v3 => (some (1, v3))
theorem tj_Re_readNumber_216 {d N1 W1 : Nat} {K : ia_K} (hK : ia_isK (d + 3) mm_Re_readNumber N1 W1 K) {x1 : Int32} {x2 : Int32} {x3 : Int32} {r : Int32} {h1 : ia_H} (hret : ∀ (pc : Nat) (lv : ia_L), ia_ret mm_Re_readNumber pc (some (.inl r)) → K pc lv ((some (.inl r)) : Option ia_V).toList h1) : ∀ (h : ia_H), gd_ h → j_Re_readNumber_216 x1 x2 x3 h = some (r, h1) → K 216 [some (.inr (.inr 279)), none, none, none, none, none, none] [] h := by
  intro h hg hm
  unfold j_Re_readNumber_216 at hm
  refine ia_go hK ck_Re_readNumber_216 ?_
  show K 217 [some (.inr (.inr 279)), none, none, none, none, none, none] [.inr (.inr 279)] h
  obtain ⟨v3, hv3, hm⟩ := ia_bnd hm
  have ev3 := t_Re_advance (d + 0) hg hv3
  have gv3 := g_Re_advance hg hv3
  refine ia_cV hK mk_Re_advance lk_7_56 dc_Re_readNumber_217 279 [] [] rfl rfl (Nat.le_of_ble_eq_true rfl) (by decide) rfl (gk_7 hg pk_279) ev3 (gd_nm hg gv3) ?_
  show K 220 [some (.inr (.inr 279)), none, none, none, none, none, none] [] v3
  refine ia_go hK ck_Re_readNumber_220 ?_
  show K 221 [some (.inr (.inr 279)), none, none, none, none, none, none] [.inl 1] v3
  cases hm
  exact hret 221 _ ⟨Or.inr rfl, dc_Re_readNumber_221⟩
theorem gj_Re_readNumber_216 {x1 : Int32} {x2 : Int32} {x3 : Int32} {r : Int32} {h1 : ia_H} : ∀ (h : ia_H), gd_ h → j_Re_readNumber_216 x1 x2 x3 h = some (r, h1) → gd_ h1 := by
  intro h hg hm
  unfold j_Re_readNumber_216 at hm
  obtain ⟨v3, hv3, hm⟩ := ia_bnd hm
  have gv3 := g_Re_advance hg hv3
  cases hm
  exact gv3
def j_Re_readNumber_213 (x1 : Int32) (x2 : Int32) (x3 : Int32) (s1 : Int32) (s2 : Int32) (s3 : Int32) (h : ia_H) : Option (Int32 × ia_H) := (f_Re_tellNumber s1 s2 s3 h).bind fun v4 => (j_Re_readNumber_216 x1 x2 x3 v4)
theorem tj_Re_readNumber_213 {d N1 W1 : Nat} {K : ia_K} (hK : ia_isK (d + 3) mm_Re_readNumber N1 W1 K) {x1 : Int32} {x2 : Int32} {x3 : Int32} {r : Int32} {h1 : ia_H} (hret : ∀ (pc : Nat) (lv : ia_L), ia_ret mm_Re_readNumber pc (some (.inl r)) → K pc lv ((some (.inl r)) : Option ia_V).toList h1) : ∀ (s1 : Int32) (s2 : Int32) (s3 : Int32) (h : ia_H), gd_ h → j_Re_readNumber_213 x1 x2 x3 s1 s2 s3 h = some (r, h1) → K 213 [some (.inr (.inr 279)), none, none, none, none, none, none] [.inl s3, .inl s2, .inl s1, .inr (.inr 279)] h := by
  intro s1 s2 s3 h hg hm
  unfold j_Re_readNumber_213 at hm
  obtain ⟨v4, hv4, hm⟩ := ia_bnd hm
  have ev4 := t_Re_tellNumber (d + 1) hg hv4
  have gv4 := g_Re_tellNumber hg hv4
  refine ia_cV hK mk_Re_tellNumber lk_7_245 dc_Re_readNumber_213 279 [.inl s1, .inl s2, .inl s3] [] rfl rfl (Nat.le_of_ble_eq_true rfl) (by decide) rfl (gk_7 hg pk_279) ev4 (gd_nm hg gv4) ?_
  show K 216 [some (.inr (.inr 279)), none, none, none, none, none, none] [] v4
  exact tj_Re_readNumber_216 hK hret v4 gv4 hm
theorem gj_Re_readNumber_213 {x1 : Int32} {x2 : Int32} {x3 : Int32} {r : Int32} {h1 : ia_H} : ∀ (s1 : Int32) (s2 : Int32) (s3 : Int32) (h : ia_H), gd_ h → j_Re_readNumber_213 x1 x2 x3 s1 s2 s3 h = some (r, h1) → gd_ h1 := by
  intro s1 s2 s3 h hg hm
  unfold j_Re_readNumber_213 at hm
  obtain ⟨v4, hv4, hm⟩ := ia_bnd hm
  have gv4 := g_Re_tellNumber hg hv4
  exact gj_Re_readNumber_216 v4 gv4 hm
def j_Re_readNumber_186 (x1 : Int32) (x2 : Int32) (x3 : Int32) (x5 : Int32) (h : ia_H) : Option (Int32 × ia_H) := if (ia_i h 279 3) = 0 then (if x5 = 0 then (j_Re_readNumber_213 x1 x2 x3 x1 x2 (ia_i h 279 10) h) else (j_Re_readNumber_213 x1 x2 x3 x1 x2 (-(ia_i h 279 10)) h)) else (j_Re_readNumber_216 x1 x2 x3 h)
theorem tj_Re_readNumber_186 {d N1 W1 : Nat} {K : ia_K} (hK : ia_isK (d + 3) mm_Re_readNumber N1 W1 K) {x1 : Int32} {x2 : Int32} {x3 : Int32} {r : Int32} {h1 : ia_H} (hret : ∀ (pc : Nat) (lv : ia_L), ia_ret mm_Re_readNumber pc (some (.inl r)) → K pc lv ((some (.inl r)) : Option ia_V).toList h1) : ∀ (x5 : Int32) (h : ia_H), gd_ h → j_Re_readNumber_186 x1 x2 x3 x5 h = some (r, h1) → K 186 [some (.inr (.inr 279)), some (.inl x1), some (.inl x2), none, none, some (.inl x5), none] [] h := by
  intro x5 h hg hm
  unfold j_Re_readNumber_186 at hm
  refine ia_go hK ck_Re_readNumber_186 ⟨gk_7 hg pk_279, fun c => ?_, fun c => ?_⟩
  · replace hm := ia_ifn hm c
    show K 216 [some (.inr (.inr 279)), some (.inl x1), some (.inl x2), none, none, some (.inl x5), none] [] h
    refine ia_fg hK (lv' := [some (.inr (.inr 279)), none, none, none, none, none, none]) ⟨rfl, trivial⟩ ?_
    exact tj_Re_readNumber_216 hK hret h hg hm
  · replace hm := ia_ifp hm c
    show K 193 [some (.inr (.inr 279)), some (.inl x1), some (.inl x2), none, none, some (.inl x5), none] [] h
    refine ia_go hK ck_Re_readNumber_193 ⟨fun c => ?_, fun c => ?_⟩
    · replace hm := ia_ifp hm c
      show K 209 [some (.inr (.inr 279)), some (.inl x1), some (.inl x2), none, none, some (.inl x5), none] [.inl x2, .inl x1, .inr (.inr 279)] h
      refine ia_go hK ck_Re_readNumber_209 ⟨gk_7 hg pk_279, ?_⟩
      show K 213 [some (.inr (.inr 279)), some (.inl x1), some (.inl x2), none, none, some (.inl x5), none] [.inl (ia_i h 279 10), .inl x2, .inl x1, .inr (.inr 279)] h
      refine ia_fg hK (lv' := [some (.inr (.inr 279)), none, none, none, none, none, none]) ⟨rfl, trivial⟩ ?_
      exact tj_Re_readNumber_213 hK hret x1 x2 (ia_i h 279 10) h hg hm
    · replace hm := ia_ifn hm c
      show K 201 [some (.inr (.inr 279)), some (.inl x1), some (.inl x2), none, none, some (.inl x5), none] [.inl x2, .inl x1, .inr (.inr 279)] h
      refine ia_go hK ck_Re_readNumber_201 ⟨gk_7 hg pk_279, ?_⟩
      show K 213 [some (.inr (.inr 279)), some (.inl x1), some (.inl x2), none, none, some (.inl x5), none] [.inl (-(ia_i h 279 10)), .inl x2, .inl x1, .inr (.inr 279)] h
      refine ia_fg hK (lv' := [some (.inr (.inr 279)), none, none, none, none, none, none]) ⟨rfl, trivial⟩ ?_
      exact tj_Re_readNumber_213 hK hret x1 x2 (-(ia_i h 279 10)) h hg hm
theorem gj_Re_readNumber_186 {x1 : Int32} {x2 : Int32} {x3 : Int32} {r : Int32} {h1 : ia_H} : ∀ (x5 : Int32) (h : ia_H), gd_ h → j_Re_readNumber_186 x1 x2 x3 x5 h = some (r, h1) → gd_ h1 := by
  intro x5 h hg hm
  unfold j_Re_readNumber_186 at hm
  by_cases c : (ia_i h 279 3) = 0
  · replace hm := ia_ifp hm c
    by_cases c : x5 = 0
    · replace hm := ia_ifp hm c
      exact gj_Re_readNumber_213 x1 x2 (ia_i h 279 10) h hg hm
    · replace hm := ia_ifn hm c
      exact gj_Re_readNumber_213 x1 x2 (-(ia_i h 279 10)) h hg hm
  · replace hm := ia_ifn hm c
    exact gj_Re_readNumber_216 h hg hm
def j_Re_readNumber_167 (x1 : Int32) (x2 : Int32) (x3 : Int32) (x5 : Int32) (h : ia_H) : Option (Int32 × ia_H) := if (Int32.ofNat 4) ≤ x3 then (j_Re_readNumber_186 x1 x2 x3 x5 h) else (ia_gd (ia_ib x3 4) (j_Re_readNumber_186 x1 x2 x3 x5 (ia_wI h 301 ((x3).toNatClampNeg) (ia_i h 279 10))))
theorem tj_Re_readNumber_167 {d N1 W1 : Nat} {K : ia_K} (hK : ia_isK (d + 3) mm_Re_readNumber N1 W1 K) {x1 : Int32} {x2 : Int32} {x3 : Int32} {r : Int32} {h1 : ia_H} (hret : ∀ (pc : Nat) (lv : ia_L), ia_ret mm_Re_readNumber pc (some (.inl r)) → K pc lv ((some (.inl r)) : Option ia_V).toList h1) : ∀ (x5 : Int32) (h : ia_H), gd_ h → j_Re_readNumber_167 x1 x2 x3 x5 h = some (r, h1) → K 167 [some (.inr (.inr 279)), some (.inl x1), some (.inl x2), some (.inl x3), none, some (.inl x5), none] [] h := by
  intro x5 h hg hm
  unfold j_Re_readNumber_167 at hm
  refine ia_go hK ck_Re_readNumber_167 ⟨gk_7 hg pk_279, gr_7_5 hg pk_279, ga_len hg (ka_7_5 pk_279) ⟨by decide, by decide⟩, ?_⟩
  show K 173 [some (.inr (.inr 279)), some (.inl x1), some (.inl x2), some (.inl x3), none, some (.inl x5), none] [.inl (Int32.ofNat (ia_k h 301).2), .inl x3] h
  rw [ga_ln hg (ka_7_5 pk_279) ⟨by decide, by decide⟩]
  refine ia_go hK ck_Re_readNumber_173 ⟨fun c => ?_, fun c => ?_⟩
  · replace hm := ia_ifp hm c
    show K 186 [some (.inr (.inr 279)), some (.inl x1), some (.inl x2), some (.inl x3), none, some (.inl x5), none] [] h
    refine ia_fg hK (lv' := [some (.inr (.inr 279)), some (.inl x1), some (.inl x2), none, none, some (.inl x5), none]) ⟨rfl, rfl, rfl, rfl, trivial⟩ ?_
    exact tj_Re_readNumber_186 hK hret x5 h hg hm
  · replace hm := ia_ifn hm c
    show K 176 [some (.inr (.inr 279)), some (.inl x1), some (.inl x2), some (.inl x3), none, some (.inl x5), none] [] h
    obtain ⟨c5, hm⟩ := ia_gd_some hm
    refine ia_go hK ck_Re_readNumber_176 ⟨gk_7 hg pk_279, gr_7_5 hg pk_279, gk_7 hg pk_279, ga_s100 hg (ka_7_5 pk_279) c5, ?_⟩
    show K 186 [some (.inr (.inr 279)), some (.inl x1), some (.inl x2), some (.inl x3), none, some (.inl x5), none] [] (ia_wI h 301 ((x3).toNatClampNeg) (ia_i h 279 10))
    refine ia_fg hK (lv' := [some (.inr (.inr 279)), some (.inl x1), some (.inl x2), none, none, some (.inl x5), none]) ⟨rfl, rfl, rfl, rfl, trivial⟩ ?_
    exact tj_Re_readNumber_186 hK hret x5 (ia_wI h 301 ((x3).toNatClampNeg) (ia_i h 279 10)) (gd_wI hg) hm
theorem gj_Re_readNumber_167 {x1 : Int32} {x2 : Int32} {x3 : Int32} {r : Int32} {h1 : ia_H} : ∀ (x5 : Int32) (h : ia_H), gd_ h → j_Re_readNumber_167 x1 x2 x3 x5 h = some (r, h1) → gd_ h1 := by
  intro x5 h hg hm
  unfold j_Re_readNumber_167 at hm
  by_cases c : (Int32.ofNat 4) ≤ x3
  · replace hm := ia_ifp hm c
    exact gj_Re_readNumber_186 x5 h hg hm
  · replace hm := ia_ifn hm c
    obtain ⟨c5, hm⟩ := ia_gd_some hm
    exact gj_Re_readNumber_186 x5 (ia_wI h 301 ((x3).toNatClampNeg) (ia_i h 279 10)) (gd_wI hg) hm
def j_Re_readNumber_153 (x1 : Int32) (x2 : Int32) (x3 : Int32) (x4 : Int32) (x5 : Int32) (h : ia_H) : Option (Int32 × ia_H) := if x4 = 0 then (j_Re_readNumber_167 x1 x2 x3 x5 h) else ((f_Re_note 3 (ia_i h 279 11) h).bind fun v6 => (j_Re_readNumber_167 x1 x2 x3 x5 v6))
theorem tj_Re_readNumber_153 {d N1 W1 : Nat} {K : ia_K} (hK : ia_isK (d + 3) mm_Re_readNumber N1 W1 K) {x1 : Int32} {x2 : Int32} {x3 : Int32} {r : Int32} {h1 : ia_H} (hret : ∀ (pc : Nat) (lv : ia_L), ia_ret mm_Re_readNumber pc (some (.inl r)) → K pc lv ((some (.inl r)) : Option ia_V).toList h1) : ∀ (x4 : Int32) (x5 : Int32) (h : ia_H), gd_ h → j_Re_readNumber_153 x1 x2 x3 x4 x5 h = some (r, h1) → K 153 [some (.inr (.inr 279)), some (.inl x1), some (.inl x2), some (.inl x3), some (.inl x4), some (.inl x5), none] [] h := by
  intro x4 x5 h hg hm
  unfold j_Re_readNumber_153 at hm
  refine ia_go hK ck_Re_readNumber_153 ⟨fun c => ?_, fun c => ?_⟩
  · replace hm := ia_ifp hm c
    show K 167 [some (.inr (.inr 279)), some (.inl x1), some (.inl x2), some (.inl x3), some (.inl x4), some (.inl x5), none] [] h
    refine ia_fg hK (lv' := [some (.inr (.inr 279)), some (.inl x1), some (.inl x2), some (.inl x3), none, some (.inl x5), none]) ⟨rfl, rfl, rfl, rfl, rfl, trivial⟩ ?_
    exact tj_Re_readNumber_167 hK hret x5 h hg hm
  · replace hm := ia_ifn hm c
    show K 158 [some (.inr (.inr 279)), some (.inl x1), some (.inl x2), some (.inl x3), some (.inl x4), some (.inl x5), none] [] h
    refine ia_go hK ck_Re_readNumber_158 ⟨gk_7 hg pk_279, ?_⟩
    show K 164 [some (.inr (.inr 279)), some (.inl x1), some (.inl x2), some (.inl x3), some (.inl x4), some (.inl x5), none] [.inl (ia_i h 279 11), .inl 3, .inr (.inr 279)] h
    obtain ⟨v6, hv6, hm⟩ := ia_bnd hm
    have ev6 := t_Re_note (d + 2) hg hv6
    have gv6 := g_Re_note hg hv6
    refine ia_cV hK mk_Re_note lk_7_72 dc_Re_readNumber_164 279 [.inl 3, .inl (ia_i h 279 11)] [] rfl rfl (Nat.le_of_ble_eq_true rfl) (by decide) rfl (gk_7 hg pk_279) ev6 (gd_nm hg gv6) ?_
    show K 167 [some (.inr (.inr 279)), some (.inl x1), some (.inl x2), some (.inl x3), some (.inl x4), some (.inl x5), none] [] v6
    refine ia_fg hK (lv' := [some (.inr (.inr 279)), some (.inl x1), some (.inl x2), some (.inl x3), none, some (.inl x5), none]) ⟨rfl, rfl, rfl, rfl, rfl, trivial⟩ ?_
    exact tj_Re_readNumber_167 hK hret x5 v6 gv6 hm
theorem gj_Re_readNumber_153 {x1 : Int32} {x2 : Int32} {x3 : Int32} {r : Int32} {h1 : ia_H} : ∀ (x4 : Int32) (x5 : Int32) (h : ia_H), gd_ h → j_Re_readNumber_153 x1 x2 x3 x4 x5 h = some (r, h1) → gd_ h1 := by
  intro x4 x5 h hg hm
  unfold j_Re_readNumber_153 at hm
  by_cases c : x4 = 0
  · replace hm := ia_ifp hm c
    exact gj_Re_readNumber_167 x5 h hg hm
  · replace hm := ia_ifn hm c
    obtain ⟨v6, hv6, hm⟩ := ia_bnd hm
    have gv6 := g_Re_note hg hv6
    exact gj_Re_readNumber_167 x5 v6 gv6 hm
def j_Re_readNumber_144 (x1 : Int32) (x2 : Int32) (x3 : Int32) (x4 : Int32) (x5 : Int32) (h : ia_H) : Option (Int32 × ia_H) := (f_Re_note 2 (ia_i h 279 11) h).bind fun v2 => (j_Re_readNumber_153 x1 x2 x3 x4 x5 v2)
theorem tj_Re_readNumber_144 {d N1 W1 : Nat} {K : ia_K} (hK : ia_isK (d + 3) mm_Re_readNumber N1 W1 K) {x1 : Int32} {x2 : Int32} {x3 : Int32} {r : Int32} {h1 : ia_H} (hret : ∀ (pc : Nat) (lv : ia_L), ia_ret mm_Re_readNumber pc (some (.inl r)) → K pc lv ((some (.inl r)) : Option ia_V).toList h1) : ∀ (x4 : Int32) (x5 : Int32) (h : ia_H), gd_ h → j_Re_readNumber_144 x1 x2 x3 x4 x5 h = some (r, h1) → K 144 [some (.inr (.inr 279)), some (.inl x1), some (.inl x2), some (.inl x3), some (.inl x4), some (.inl x5), none] [] h := by
  intro x4 x5 h hg hm
  unfold j_Re_readNumber_144 at hm
  refine ia_go hK ck_Re_readNumber_144 ⟨gk_7 hg pk_279, ?_⟩
  show K 150 [some (.inr (.inr 279)), some (.inl x1), some (.inl x2), some (.inl x3), some (.inl x4), some (.inl x5), none] [.inl (ia_i h 279 11), .inl 2, .inr (.inr 279)] h
  obtain ⟨v2, hv2, hm⟩ := ia_bnd hm
  have ev2 := t_Re_note (d + 2) hg hv2
  have gv2 := g_Re_note hg hv2
  refine ia_cV hK mk_Re_note lk_7_72 dc_Re_readNumber_150 279 [.inl 2, .inl (ia_i h 279 11)] [] rfl rfl (Nat.le_of_ble_eq_true rfl) (by decide) rfl (gk_7 hg pk_279) ev2 (gd_nm hg gv2) ?_
  show K 153 [some (.inr (.inr 279)), some (.inl x1), some (.inl x2), some (.inl x3), some (.inl x4), some (.inl x5), none] [] v2
  exact tj_Re_readNumber_153 hK hret x4 x5 v2 gv2 hm
theorem gj_Re_readNumber_144 {x1 : Int32} {x2 : Int32} {x3 : Int32} {r : Int32} {h1 : ia_H} : ∀ (x4 : Int32) (x5 : Int32) (h : ia_H), gd_ h → j_Re_readNumber_144 x1 x2 x3 x4 x5 h = some (r, h1) → gd_ h1 := by
  intro x4 x5 h hg hm
  unfold j_Re_readNumber_144 at hm
  obtain ⟨v2, hv2, hm⟩ := ia_bnd hm
  have gv2 := g_Re_note hg hv2
  exact gj_Re_readNumber_153 x4 x5 v2 gv2 hm
def j_Re_readNumber_115 (x1 : Int32) (x2 : Int32) (x3 : Int32) (x4 : Int32) (x5 : Int32) (s0 : Int32) (h : ia_H) : Option (Int32 × ia_H) := (f_Re_least x2 h).bind fun v1 => (if (ia_i h 279 10) < v1 then (j_Re_readNumber_144 x1 x2 x3 x4 x5 h) else ((f_Re_greatest x2 h).bind fun v7 => (if v7 < (ia_i h 279 10) then (j_Re_readNumber_144 x1 x2 x3 x4 x5 h) else (if s0 = 0 then (j_Re_readNumber_153 x1 x2 x3 x4 x5 h) else (j_Re_readNumber_144 x1 x2 x3 x4 x5 h)))))
theorem tj_Re_readNumber_115 {d N1 W1 : Nat} {K : ia_K} (hK : ia_isK (d + 3) mm_Re_readNumber N1 W1 K) {x1 : Int32} {x2 : Int32} {x3 : Int32} {r : Int32} {h1 : ia_H} (hret : ∀ (pc : Nat) (lv : ia_L), ia_ret mm_Re_readNumber pc (some (.inl r)) → K pc lv ((some (.inl r)) : Option ia_V).toList h1) : ∀ (x4 : Int32) (x5 : Int32) (s0 : Int32) (h : ia_H), gd_ h → j_Re_readNumber_115 x1 x2 x3 x4 x5 s0 h = some (r, h1) → K 115 [some (.inr (.inr 279)), some (.inl x1), some (.inl x2), some (.inl x3), some (.inl x4), some (.inl x5), none] [.inl s0] h := by
  intro x4 x5 s0 h hg hm
  unfold j_Re_readNumber_115 at hm
  refine ia_go hK ck_Re_readNumber_115 ⟨gk_7 hg pk_279, ?_⟩
  show K 122 [some (.inr (.inr 279)), some (.inl x1), some (.inl x2), some (.inl x3), some (.inl x4), some (.inl x5), some (.inl s0)] [.inl x2, .inl (ia_i h 279 10)] h
  obtain ⟨v1, hv1, hm⟩ := ia_bnd hm
  have ev1 := t_Re_least (d + 2) hg hv1
  refine ia_cS hK mk_Re_least lk_7_239 dc_Re_readNumber_122 [.inl x2] [.inl (ia_i h 279 10)] rfl rfl (Nat.le_of_ble_eq_true rfl) ev1 ⟨rfl, rfl⟩ ?_
  show K 125 [some (.inr (.inr 279)), some (.inl x1), some (.inl x2), some (.inl x3), some (.inl x4), some (.inl x5), some (.inl s0)] [.inl v1, .inl (ia_i h 279 10)] h
  refine ia_go hK ck_Re_readNumber_125 ⟨fun c => ?_, fun c => ?_⟩
  · replace hm := ia_ifp hm c
    show K 144 [some (.inr (.inr 279)), some (.inl x1), some (.inl x2), some (.inl x3), some (.inl x4), some (.inl x5), some (.inl s0)] [] h
    refine ia_fg hK (lv' := [some (.inr (.inr 279)), some (.inl x1), some (.inl x2), some (.inl x3), some (.inl x4), some (.inl x5), none]) ⟨rfl, rfl, rfl, rfl, rfl, rfl, trivial⟩ ?_
    exact tj_Re_readNumber_144 hK hret x4 x5 h hg hm
  · replace hm := ia_ifn hm c
    show K 128 [some (.inr (.inr 279)), some (.inl x1), some (.inl x2), some (.inl x3), some (.inl x4), some (.inl x5), some (.inl s0)] [] h
    refine ia_go hK ck_Re_readNumber_128 ⟨gk_7 hg pk_279, ?_⟩
    show K 133 [some (.inr (.inr 279)), some (.inl x1), some (.inl x2), some (.inl x3), some (.inl x4), some (.inl x5), some (.inl s0)] [.inl x2, .inl (ia_i h 279 10)] h
    obtain ⟨v7, hv7, hm⟩ := ia_bnd hm
    have ev7 := t_Re_greatest (d + 2) hg hv7
    refine ia_cS hK mk_Re_greatest lk_7_242 dc_Re_readNumber_133 [.inl x2] [.inl (ia_i h 279 10)] rfl rfl (Nat.le_of_ble_eq_true rfl) ev7 ⟨rfl, rfl⟩ ?_
    show K 136 [some (.inr (.inr 279)), some (.inl x1), some (.inl x2), some (.inl x3), some (.inl x4), some (.inl x5), some (.inl s0)] [.inl v7, .inl (ia_i h 279 10)] h
    refine ia_go hK ck_Re_readNumber_136 ⟨fun c => ?_, fun c => ?_⟩
    · replace hm := ia_ifp hm c
      show K 144 [some (.inr (.inr 279)), some (.inl x1), some (.inl x2), some (.inl x3), some (.inl x4), some (.inl x5), some (.inl s0)] [] h
      refine ia_fg hK (lv' := [some (.inr (.inr 279)), some (.inl x1), some (.inl x2), some (.inl x3), some (.inl x4), some (.inl x5), none]) ⟨rfl, rfl, rfl, rfl, rfl, rfl, trivial⟩ ?_
      exact tj_Re_readNumber_144 hK hret x4 x5 h hg hm
    · replace hm := ia_ifn hm c
      show K 139 [some (.inr (.inr 279)), some (.inl x1), some (.inl x2), some (.inl x3), some (.inl x4), some (.inl x5), some (.inl s0)] [] h
      refine ia_go hK ck_Re_readNumber_139 ⟨fun c => ?_, fun c => ?_⟩
      · replace hm := ia_ifp hm c
        show K 153 [some (.inr (.inr 279)), some (.inl x1), some (.inl x2), some (.inl x3), some (.inl x4), some (.inl x5), some (.inl s0)] [] h
        refine ia_fg hK (lv' := [some (.inr (.inr 279)), some (.inl x1), some (.inl x2), some (.inl x3), some (.inl x4), some (.inl x5), none]) ⟨rfl, rfl, rfl, rfl, rfl, rfl, trivial⟩ ?_
        exact tj_Re_readNumber_153 hK hret x4 x5 h hg hm
      · replace hm := ia_ifn hm c
        show K 144 [some (.inr (.inr 279)), some (.inl x1), some (.inl x2), some (.inl x3), some (.inl x4), some (.inl x5), some (.inl s0)] [] h
        refine ia_fg hK (lv' := [some (.inr (.inr 279)), some (.inl x1), some (.inl x2), some (.inl x3), some (.inl x4), some (.inl x5), none]) ⟨rfl, rfl, rfl, rfl, rfl, rfl, trivial⟩ ?_
        exact tj_Re_readNumber_144 hK hret x4 x5 h hg hm
theorem gj_Re_readNumber_115 {x1 : Int32} {x2 : Int32} {x3 : Int32} {r : Int32} {h1 : ia_H} : ∀ (x4 : Int32) (x5 : Int32) (s0 : Int32) (h : ia_H), gd_ h → j_Re_readNumber_115 x1 x2 x3 x4 x5 s0 h = some (r, h1) → gd_ h1 := by
  intro x4 x5 s0 h hg hm
  unfold j_Re_readNumber_115 at hm
  obtain ⟨v1, hv1, hm⟩ := ia_bnd hm
  by_cases c : (ia_i h 279 10) < v1
  · replace hm := ia_ifp hm c
    exact gj_Re_readNumber_144 x4 x5 h hg hm
  · replace hm := ia_ifn hm c
    obtain ⟨v7, hv7, hm⟩ := ia_bnd hm
    by_cases c : v7 < (ia_i h 279 10)
    · replace hm := ia_ifp hm c
      exact gj_Re_readNumber_144 x4 x5 h hg hm
    · replace hm := ia_ifn hm c
      by_cases c : s0 = 0
      · replace hm := ia_ifp hm c
        exact gj_Re_readNumber_153 x4 x5 h hg hm
      · replace hm := ia_ifn hm c
        exact gj_Re_readNumber_144 x4 x5 h hg hm
def j_Re_readNumber_63 (x1 : Int32) (x2 : Int32) (x3 : Int32) (x4 : Int32) (x5 : Int32) (h : ia_H) : Option (Int32 × ia_H) := if (ia_i h 279 9) = 2 then (if x2 = 111 then (if x3 ≤ 0 then (j_Re_readNumber_115 x1 x2 x3 x4 x5 0 h) else (if (Int32.ofNat 4) < x3 then (j_Re_readNumber_115 x1 x2 x3 x4 x5 0 h) else (ia_gd (ia_ib (x3 - 1) 4) (if (ia_i h 279 10) = (ia_i h 301 ((x3 - 1).toNatClampNeg)) then (j_Re_readNumber_115 x1 x2 x3 x4 x5 1 h) else (j_Re_readNumber_115 x1 x2 x3 x4 x5 0 h))))) else (j_Re_readNumber_115 x1 x2 x3 x4 x5 0 h)) else ((f_Re_refuse h).bind fun v9 => (ia_gd (ia_z1 v9.1) (some (v9.1, v9.2))))
theorem tj_Re_readNumber_63 {d N1 W1 : Nat} {K : ia_K} (hK : ia_isK (d + 3) mm_Re_readNumber N1 W1 K) {x1 : Int32} {x2 : Int32} {x3 : Int32} {r : Int32} {h1 : ia_H} (hret : ∀ (pc : Nat) (lv : ia_L), ia_ret mm_Re_readNumber pc (some (.inl r)) → K pc lv ((some (.inl r)) : Option ia_V).toList h1) : ∀ (x4 : Int32) (x5 : Int32) (h : ia_H), gd_ h → j_Re_readNumber_63 x1 x2 x3 x4 x5 h = some (r, h1) → K 63 [some (.inr (.inr 279)), some (.inl x1), some (.inl x2), some (.inl x3), some (.inl x4), some (.inl x5), none] [] h := by
  intro x4 x5 h hg hm
  unfold j_Re_readNumber_63 at hm
  refine ia_go hK ck_Re_readNumber_63 ⟨gk_7 hg pk_279, fun c => ?_, fun c => ?_⟩
  · replace hm := ia_ifp hm c
    show K 76 [some (.inr (.inr 279)), some (.inl x1), some (.inl x2), some (.inl x3), some (.inl x4), some (.inl x5), none] [] h
    refine ia_go hK ck_Re_readNumber_76 ⟨fun c => ?_, fun c => ?_⟩
    · replace hm := ia_ifn hm c
      show K 114 [some (.inr (.inr 279)), some (.inl x1), some (.inl x2), some (.inl x3), some (.inl x4), some (.inl x5), none] [] h
      refine ia_go hK ck_Re_readNumber_114 ?_
      show K 115 [some (.inr (.inr 279)), some (.inl x1), some (.inl x2), some (.inl x3), some (.inl x4), some (.inl x5), none] [.inl 0] h
      exact tj_Re_readNumber_115 hK hret x4 x5 0 h hg hm
    · replace hm := ia_ifp hm c
      show K 82 [some (.inr (.inr 279)), some (.inl x1), some (.inl x2), some (.inl x3), some (.inl x4), some (.inl x5), none] [] h
      refine ia_go hK ck_Re_readNumber_82 ⟨fun c => ?_, fun c => ?_⟩
      · replace hm := ia_ifp hm c
        show K 114 [some (.inr (.inr 279)), some (.inl x1), some (.inl x2), some (.inl x3), some (.inl x4), some (.inl x5), none] [] h
        refine ia_go hK ck_Re_readNumber_114 ?_
        show K 115 [some (.inr (.inr 279)), some (.inl x1), some (.inl x2), some (.inl x3), some (.inl x4), some (.inl x5), none] [.inl 0] h
        exact tj_Re_readNumber_115 hK hret x4 x5 0 h hg hm
      · replace hm := ia_ifn hm c
        show K 86 [some (.inr (.inr 279)), some (.inl x1), some (.inl x2), some (.inl x3), some (.inl x4), some (.inl x5), none] [] h
        refine ia_go hK ck_Re_readNumber_86 ⟨gk_7 hg pk_279, gr_7_5 hg pk_279, ga_len hg (ka_7_5 pk_279) ⟨by decide, by decide⟩, ?_⟩
        show K 92 [some (.inr (.inr 279)), some (.inl x1), some (.inl x2), some (.inl x3), some (.inl x4), some (.inl x5), none] [.inl (Int32.ofNat (ia_k h 301).2), .inl x3] h
        rw [ga_ln hg (ka_7_5 pk_279) ⟨by decide, by decide⟩]
        refine ia_go hK ck_Re_readNumber_92 ⟨fun c => ?_, fun c => ?_⟩
        · replace hm := ia_ifp hm c
          show K 114 [some (.inr (.inr 279)), some (.inl x1), some (.inl x2), some (.inl x3), some (.inl x4), some (.inl x5), none] [] h
          refine ia_go hK ck_Re_readNumber_114 ?_
          show K 115 [some (.inr (.inr 279)), some (.inl x1), some (.inl x2), some (.inl x3), some (.inl x4), some (.inl x5), none] [.inl 0] h
          exact tj_Re_readNumber_115 hK hret x4 x5 0 h hg hm
        · replace hm := ia_ifn hm c
          show K 95 [some (.inr (.inr 279)), some (.inl x1), some (.inl x2), some (.inl x3), some (.inl x4), some (.inl x5), none] [] h
          obtain ⟨c8, hm⟩ := ia_gd_some hm
          refine ia_go hK ck_Re_readNumber_95 ⟨gk_7 hg pk_279, gk_7 hg pk_279, gr_7_5 hg pk_279, ga_i100 hg (ka_7_5 pk_279) c8, fun c => ?_, fun c => ?_⟩
          · replace hm := ia_ifn hm c
            show K 114 [some (.inr (.inr 279)), some (.inl x1), some (.inl x2), some (.inl x3), some (.inl x4), some (.inl x5), none] [] h
            refine ia_go hK ck_Re_readNumber_114 ?_
            show K 115 [some (.inr (.inr 279)), some (.inl x1), some (.inl x2), some (.inl x3), some (.inl x4), some (.inl x5), none] [.inl 0] h
            exact tj_Re_readNumber_115 hK hret x4 x5 0 h hg hm
          · replace hm := ia_ifp hm c
            show K 110 [some (.inr (.inr 279)), some (.inl x1), some (.inl x2), some (.inl x3), some (.inl x4), some (.inl x5), none] [] h
            refine ia_go hK ck_Re_readNumber_110 ?_
            show K 115 [some (.inr (.inr 279)), some (.inl x1), some (.inl x2), some (.inl x3), some (.inl x4), some (.inl x5), none] [.inl 1] h
            exact tj_Re_readNumber_115 hK hret x4 x5 1 h hg hm
  · replace hm := ia_ifn hm c
    show K 71 [some (.inr (.inr 279)), some (.inl x1), some (.inl x2), some (.inl x3), some (.inl x4), some (.inl x5), none] [] h
    refine ia_go hK ck_Re_readNumber_71 ?_
    show K 72 [some (.inr (.inr 279)), some (.inl x1), some (.inl x2), some (.inl x3), some (.inl x4), some (.inl x5), none] [.inr (.inr 279)] h
    obtain ⟨v9, hv9, hm⟩ := ia_bnd hm
    have ev9 := t_Re_refuse (d + 2) hg hv9
    have gv9 := g_Re_refuse hg hv9
    refine ia_cV hK mk_Re_refuse lk_7_122 dc_Re_readNumber_72 279 [] [] rfl rfl (Nat.le_of_ble_eq_true rfl) (by decide) rfl (gk_7 hg pk_279) ev9 (gd_nm hg gv9) ?_
    show K 75 [some (.inr (.inr 279)), some (.inl x1), some (.inl x2), some (.inl x3), some (.inl x4), some (.inl x5), none] [.inl v9.1] v9.2
    obtain ⟨c10, hm⟩ := ia_gd_some hm
    cases hm
    exact hret 75 _ ⟨ia_z1_spec c10, dc_Re_readNumber_75⟩
theorem gj_Re_readNumber_63 {x1 : Int32} {x2 : Int32} {x3 : Int32} {r : Int32} {h1 : ia_H} : ∀ (x4 : Int32) (x5 : Int32) (h : ia_H), gd_ h → j_Re_readNumber_63 x1 x2 x3 x4 x5 h = some (r, h1) → gd_ h1 := by
  intro x4 x5 h hg hm
  unfold j_Re_readNumber_63 at hm
  by_cases c : (ia_i h 279 9) = 2
  · replace hm := ia_ifp hm c
    by_cases c : x2 = 111
    · replace hm := ia_ifp hm c
      by_cases c : x3 ≤ 0
      · replace hm := ia_ifp hm c
        exact gj_Re_readNumber_115 x4 x5 0 h hg hm
      · replace hm := ia_ifn hm c
        by_cases c : (Int32.ofNat 4) < x3
        · replace hm := ia_ifp hm c
          exact gj_Re_readNumber_115 x4 x5 0 h hg hm
        · replace hm := ia_ifn hm c
          obtain ⟨c8, hm⟩ := ia_gd_some hm
          by_cases c : (ia_i h 279 10) = (ia_i h 301 ((x3 - 1).toNatClampNeg))
          · replace hm := ia_ifp hm c
            exact gj_Re_readNumber_115 x4 x5 1 h hg hm
          · replace hm := ia_ifn hm c
            exact gj_Re_readNumber_115 x4 x5 0 h hg hm
    · replace hm := ia_ifn hm c
      exact gj_Re_readNumber_115 x4 x5 0 h hg hm
  · replace hm := ia_ifn hm c
    obtain ⟨v9, hv9, hm⟩ := ia_bnd hm
    have gv9 := g_Re_refuse hg hv9
    obtain ⟨c10, hm⟩ := ia_gd_some hm
    cases hm
    exact gv9
def j_Re_readNumber_59 (x1 : Int32) (x2 : Int32) (x3 : Int32) (x4 : Int32) (x5 : Int32) (h : ia_H) : Option (Int32 × ia_H) := (f_Re_advance h).bind fun v11 => (j_Re_readNumber_63 x1 x2 x3 x4 x5 v11)
theorem tj_Re_readNumber_59 {d N1 W1 : Nat} {K : ia_K} (hK : ia_isK (d + 3) mm_Re_readNumber N1 W1 K) {x1 : Int32} {x2 : Int32} {x3 : Int32} {r : Int32} {h1 : ia_H} (hret : ∀ (pc : Nat) (lv : ia_L), ia_ret mm_Re_readNumber pc (some (.inl r)) → K pc lv ((some (.inl r)) : Option ia_V).toList h1) : ∀ (x4 : Int32) (x5 : Int32) (h : ia_H), gd_ h → j_Re_readNumber_59 x1 x2 x3 x4 x5 h = some (r, h1) → K 59 [some (.inr (.inr 279)), some (.inl x1), some (.inl x2), some (.inl x3), some (.inl x4), some (.inl x5), none] [] h := by
  intro x4 x5 h hg hm
  unfold j_Re_readNumber_59 at hm
  refine ia_go hK ck_Re_readNumber_59 ?_
  show K 60 [some (.inr (.inr 279)), some (.inl x1), some (.inl x2), some (.inl x3), some (.inl x4), some (.inl x5), none] [.inr (.inr 279)] h
  obtain ⟨v11, hv11, hm⟩ := ia_bnd hm
  have ev11 := t_Re_advance (d + 0) hg hv11
  have gv11 := g_Re_advance hg hv11
  refine ia_cV hK mk_Re_advance lk_7_56 dc_Re_readNumber_60 279 [] [] rfl rfl (Nat.le_of_ble_eq_true rfl) (by decide) rfl (gk_7 hg pk_279) ev11 (gd_nm hg gv11) ?_
  show K 63 [some (.inr (.inr 279)), some (.inl x1), some (.inl x2), some (.inl x3), some (.inl x4), some (.inl x5), none] [] v11
  exact tj_Re_readNumber_63 hK hret x4 x5 v11 gv11 hm
theorem gj_Re_readNumber_59 {x1 : Int32} {x2 : Int32} {x3 : Int32} {r : Int32} {h1 : ia_H} : ∀ (x4 : Int32) (x5 : Int32) (h : ia_H), gd_ h → j_Re_readNumber_59 x1 x2 x3 x4 x5 h = some (r, h1) → gd_ h1 := by
  intro x4 x5 h hg hm
  unfold j_Re_readNumber_59 at hm
  obtain ⟨v11, hv11, hm⟩ := ia_bnd hm
  have gv11 := g_Re_advance hg hv11
  exact gj_Re_readNumber_63 x4 x5 v11 gv11 hm
def j_Re_readNumber_38 (x1 : Int32) (x2 : Int32) (x3 : Int32) (x4 : Int32) (s0 : Int32) (h : ia_H) : Option (Int32 × ia_H) := if s0 = 0 then (j_Re_readNumber_63 x1 x2 x3 x4 s0 h) else (if x4 = 0 then (j_Re_readNumber_59 x1 x2 x3 x4 s0 h) else ((f_Re_note 3 (ia_i h 279 11) h).bind fun v12 => (j_Re_readNumber_59 x1 x2 x3 x4 s0 v12)))
theorem tj_Re_readNumber_38 {d N1 W1 : Nat} {K : ia_K} (hK : ia_isK (d + 3) mm_Re_readNumber N1 W1 K) {x1 : Int32} {x2 : Int32} {x3 : Int32} {r : Int32} {h1 : ia_H} (hret : ∀ (pc : Nat) (lv : ia_L), ia_ret mm_Re_readNumber pc (some (.inl r)) → K pc lv ((some (.inl r)) : Option ia_V).toList h1) : ∀ (x4 : Int32) (s0 : Int32) (h : ia_H), gd_ h → j_Re_readNumber_38 x1 x2 x3 x4 s0 h = some (r, h1) → K 38 [some (.inr (.inr 279)), some (.inl x1), some (.inl x2), some (.inl x3), some (.inl x4), none, none] [.inl s0] h := by
  intro x4 s0 h hg hm
  unfold j_Re_readNumber_38 at hm
  refine ia_go hK ck_Re_readNumber_38 ⟨fun c => ?_, fun c => ?_⟩
  · replace hm := ia_ifp hm c
    show K 63 [some (.inr (.inr 279)), some (.inl x1), some (.inl x2), some (.inl x3), some (.inl x4), some (.inl s0), none] [] h
    exact tj_Re_readNumber_63 hK hret x4 s0 h hg hm
  · replace hm := ia_ifn hm c
    show K 45 [some (.inr (.inr 279)), some (.inl x1), some (.inl x2), some (.inl x3), some (.inl x4), some (.inl s0), none] [] h
    refine ia_go hK ck_Re_readNumber_45 ⟨fun c => ?_, fun c => ?_⟩
    · replace hm := ia_ifp hm c
      show K 59 [some (.inr (.inr 279)), some (.inl x1), some (.inl x2), some (.inl x3), some (.inl x4), some (.inl s0), none] [] h
      exact tj_Re_readNumber_59 hK hret x4 s0 h hg hm
    · replace hm := ia_ifn hm c
      show K 50 [some (.inr (.inr 279)), some (.inl x1), some (.inl x2), some (.inl x3), some (.inl x4), some (.inl s0), none] [] h
      refine ia_go hK ck_Re_readNumber_50 ⟨gk_7 hg pk_279, ?_⟩
      show K 56 [some (.inr (.inr 279)), some (.inl x1), some (.inl x2), some (.inl x3), some (.inl x4), some (.inl s0), none] [.inl (ia_i h 279 11), .inl 3, .inr (.inr 279)] h
      obtain ⟨v12, hv12, hm⟩ := ia_bnd hm
      have ev12 := t_Re_note (d + 2) hg hv12
      have gv12 := g_Re_note hg hv12
      refine ia_cV hK mk_Re_note lk_7_72 dc_Re_readNumber_56 279 [.inl 3, .inl (ia_i h 279 11)] [] rfl rfl (Nat.le_of_ble_eq_true rfl) (by decide) rfl (gk_7 hg pk_279) ev12 (gd_nm hg gv12) ?_
      show K 59 [some (.inr (.inr 279)), some (.inl x1), some (.inl x2), some (.inl x3), some (.inl x4), some (.inl s0), none] [] v12
      exact tj_Re_readNumber_59 hK hret x4 s0 v12 gv12 hm
theorem gj_Re_readNumber_38 {x1 : Int32} {x2 : Int32} {x3 : Int32} {r : Int32} {h1 : ia_H} : ∀ (x4 : Int32) (s0 : Int32) (h : ia_H), gd_ h → j_Re_readNumber_38 x1 x2 x3 x4 s0 h = some (r, h1) → gd_ h1 := by
  intro x4 s0 h hg hm
  unfold j_Re_readNumber_38 at hm
  by_cases c : s0 = 0
  · replace hm := ia_ifp hm c
    exact gj_Re_readNumber_63 x4 s0 h hg hm
  · replace hm := ia_ifn hm c
    by_cases c : x4 = 0
    · replace hm := ia_ifp hm c
      exact gj_Re_readNumber_59 x4 s0 h hg hm
    · replace hm := ia_ifn hm c
      obtain ⟨v12, hv12, hm⟩ := ia_bnd hm
      have gv12 := g_Re_note hg hv12
      exact gj_Re_readNumber_59 x4 s0 v12 gv12 hm
def j_Re_readNumber_17 (x1 : Int32) (x2 : Int32) (x3 : Int32) (s0 : Int32) (h : ia_H) : Option (Int32 × ia_H) := if x2 = 102 then (if (ia_i h 279 9) = 3 then (j_Re_readNumber_38 x1 x2 x3 s0 1 h) else (j_Re_readNumber_38 x1 x2 x3 s0 0 h)) else (j_Re_readNumber_38 x1 x2 x3 s0 0 h)
theorem tj_Re_readNumber_17 {d N1 W1 : Nat} {K : ia_K} (hK : ia_isK (d + 3) mm_Re_readNumber N1 W1 K) {x1 : Int32} {x2 : Int32} {x3 : Int32} {r : Int32} {h1 : ia_H} (hret : ∀ (pc : Nat) (lv : ia_L), ia_ret mm_Re_readNumber pc (some (.inl r)) → K pc lv ((some (.inl r)) : Option ia_V).toList h1) : ∀ (s0 : Int32) (h : ia_H), gd_ h → j_Re_readNumber_17 x1 x2 x3 s0 h = some (r, h1) → K 17 [some (.inr (.inr 279)), some (.inl x1), some (.inl x2), some (.inl x3), none, none, none] [.inl s0] h := by
  intro s0 h hg hm
  unfold j_Re_readNumber_17 at hm
  refine ia_go hK ck_Re_readNumber_17 ⟨fun c => ?_, fun c => ?_⟩
  · replace hm := ia_ifn hm c
    show K 37 [some (.inr (.inr 279)), some (.inl x1), some (.inl x2), some (.inl x3), some (.inl s0), none, none] [] h
    refine ia_go hK ck_Re_readNumber_37 ?_
    show K 38 [some (.inr (.inr 279)), some (.inl x1), some (.inl x2), some (.inl x3), some (.inl s0), none, none] [.inl 0] h
    exact tj_Re_readNumber_38 hK hret s0 0 h hg hm
  · replace hm := ia_ifp hm c
    show K 25 [some (.inr (.inr 279)), some (.inl x1), some (.inl x2), some (.inl x3), some (.inl s0), none, none] [] h
    refine ia_go hK ck_Re_readNumber_25 ⟨gk_7 hg pk_279, fun c => ?_, fun c => ?_⟩
    · replace hm := ia_ifn hm c
      show K 37 [some (.inr (.inr 279)), some (.inl x1), some (.inl x2), some (.inl x3), some (.inl s0), none, none] [] h
      refine ia_go hK ck_Re_readNumber_37 ?_
      show K 38 [some (.inr (.inr 279)), some (.inl x1), some (.inl x2), some (.inl x3), some (.inl s0), none, none] [.inl 0] h
      exact tj_Re_readNumber_38 hK hret s0 0 h hg hm
    · replace hm := ia_ifp hm c
      show K 33 [some (.inr (.inr 279)), some (.inl x1), some (.inl x2), some (.inl x3), some (.inl s0), none, none] [] h
      refine ia_go hK ck_Re_readNumber_33 ?_
      show K 38 [some (.inr (.inr 279)), some (.inl x1), some (.inl x2), some (.inl x3), some (.inl s0), none, none] [.inl 1] h
      exact tj_Re_readNumber_38 hK hret s0 1 h hg hm
theorem gj_Re_readNumber_17 {x1 : Int32} {x2 : Int32} {x3 : Int32} {r : Int32} {h1 : ia_H} : ∀ (s0 : Int32) (h : ia_H), gd_ h → j_Re_readNumber_17 x1 x2 x3 s0 h = some (r, h1) → gd_ h1 := by
  intro s0 h hg hm
  unfold j_Re_readNumber_17 at hm
  by_cases c : x2 = 102
  · replace hm := ia_ifp hm c
    by_cases c : (ia_i h 279 9) = 3
    · replace hm := ia_ifp hm c
      exact gj_Re_readNumber_38 s0 1 h hg hm
    · replace hm := ia_ifn hm c
      exact gj_Re_readNumber_38 s0 0 h hg hm
  · replace hm := ia_ifn hm c
    exact gj_Re_readNumber_38 s0 0 h hg hm
def f_Re_readNumber (x1 : Int32) (x2 : Int32) (x3 : Int32) (h : ia_H) : Option (Int32 × ia_H) := if x1 = 6 then (if x3 < 12 then (j_Re_readNumber_17 x1 x2 x3 0 h) else (j_Re_readNumber_17 x1 x2 x3 1 h)) else (j_Re_readNumber_17 x1 x2 x3 0 h)
theorem g_Re_readNumber {x1 : Int32} {x2 : Int32} {x3 : Int32} {h : ia_H} (hg : gd_ h) {q : (Int32 × ia_H)} (hm : f_Re_readNumber x1 x2 x3 h = some q) : gd_ q.2 := by
  obtain ⟨r, h1⟩ := q
  unfold f_Re_readNumber at hm
  by_cases c : x1 = 6
  · replace hm := ia_ifp hm c
    by_cases c : x3 < 12
    · replace hm := ia_ifp hm c
      exact gj_Re_readNumber_17 0 h hg hm
    · replace hm := ia_ifn hm c
      exact gj_Re_readNumber_17 1 h hg hm
  · replace hm := ia_ifn hm c
    exact gj_Re_readNumber_17 0 h hg hm
theorem t_Re_readNumber (d : Nat) {x1 : Int32} {x2 : Int32} {x3 : Int32} {h : ia_H} (hg : gd_ h) {q : (Int32 × ia_H)} (hm : f_Re_readNumber x1 x2 x3 h = some q) : ia_Ev (d + 3) mm_Re_readNumber [.inr (.inr 279), .inl x1, .inl x2, .inl x3] h (some (.inl q.1)) q.2 := by
  have gq := g_Re_readNumber hg hm
  refine ia_Ev_intro ok_Re_readNumber (gd_le hg gq).1 (gd_le hg gq).2 (Nat.le_of_ble_eq_true rfl) (fun K hK hret => ?_)
  obtain ⟨r, h1⟩ := q
  show K 0 [some (.inr (.inr 279)), some (.inl x1), some (.inl x2), some (.inl x3), none, none, none] [] h
  unfold f_Re_readNumber at hm
  refine ia_go hK ck_Re_readNumber_0 ⟨fun c => ?_, fun c => ?_⟩
  · replace hm := ia_ifn hm c
    show K 16 [some (.inr (.inr 279)), some (.inl x1), some (.inl x2), some (.inl x3), none, none, none] [] h
    refine ia_go hK ck_Re_readNumber_16 ?_
    show K 17 [some (.inr (.inr 279)), some (.inl x1), some (.inl x2), some (.inl x3), none, none, none] [.inl 0] h
    exact tj_Re_readNumber_17 hK hret 0 h hg hm
  · replace hm := ia_ifp hm c
    show K 6 [some (.inr (.inr 279)), some (.inl x1), some (.inl x2), some (.inl x3), none, none, none] [] h
    refine ia_go hK ck_Re_readNumber_6 ⟨fun c => ?_, fun c => ?_⟩
    · replace hm := ia_ifp hm c
      show K 16 [some (.inr (.inr 279)), some (.inl x1), some (.inl x2), some (.inl x3), none, none, none] [] h
      refine ia_go hK ck_Re_readNumber_16 ?_
      show K 17 [some (.inr (.inr 279)), some (.inl x1), some (.inl x2), some (.inl x3), none, none, none] [.inl 0] h
      exact tj_Re_readNumber_17 hK hret 0 h hg hm
    · replace hm := ia_ifn hm c
      show K 12 [some (.inr (.inr 279)), some (.inl x1), some (.inl x2), some (.inl x3), none, none, none] [] h
      refine ia_go hK ck_Re_readNumber_12 ?_
      show K 17 [some (.inr (.inr 279)), some (.inl x1), some (.inl x2), some (.inl x3), none, none, none] [.inl 1] h
      exact tj_Re_readNumber_17 hK hret 1 h hg hm
def mm_Re_hasMore : ia_M := (⟨"IceStreet$Reader", "hasMore", "(I)Z"⟩, prog_8_method_16_code, 1, (some .boolean), 7, false)
theorem ok_Re_hasMore : ia_mok mm_Re_hasMore := ⟨by decide +kernel, by decide +kernel, by decide +kernel, by decide +kernel⟩
theorem mk_Re_hasMore : ia_mkn mm_Re_hasMore 0 1 := ⟨ia_tb_in (List.mem_of_getElem? (i := 921) (by decide +kernel)) rfl, ia_tb_in (List.mem_of_getElem? (i := 139) (by decide +kernel)) rfl, by decide +kernel, by decide +kernel, ia_tb_in (List.mem_of_getElem? (i := 920) (by decide +kernel)) rfl⟩
theorem ck_Re_hasMore_0 : ia_cks 7 1 false prog_8_method_16_code 0 [(.iload_n 0, 0, 0, 0, 0), (.bipush 6, 0, 0, 0, 0), (.if_icmp .eq 15, 0, 0, 0, 0)] = true := by decide +kernel
theorem ck_Re_hasMore_18 : ia_cks 7 1 false prog_8_method_16_code 18 [(.iconst 1, 0, 0, 0, 0), (.goto 4, 0, 0, 0, 0)] = true := by decide +kernel
theorem ck_Re_hasMore_6 : ia_cks 7 1 false prog_8_method_16_code 6 [(.iload_n 0, 0, 0, 0, 0), (.bipush 8, 0, 0, 0, 0), (.if_icmp .eq 9, 0, 0, 0, 0)] = true := by decide +kernel
theorem ck_Re_hasMore_12 : ia_cks 7 1 false prog_8_method_16_code 12 [(.iload_n 0, 0, 0, 0, 0), (.bipush 15, 0, 0, 0, 0), (.if_icmp .ne 7, 0, 0, 0, 0)] = true := by decide +kernel
theorem ck_Re_hasMore_22 : ia_cks 7 1 false prog_8_method_16_code 22 [(.iconst 0, 0, 0, 0, 0)] = true := by decide +kernel
theorem dc_Re_hasMore_23 : decode prog_8_method_16_code 23 = .ok (.ireturn, 1) := by decide +kernel
def f_Re_hasMore (x0 : Int32) (h : ia_H) : Option Int32 := if x0 = 6 then (some 1) else (if x0 = 8 then (some 1) else (if x0 = 15 then (some 1) else (some 0)))
theorem t_Re_hasMore (d : Nat) {x0 : Int32} {h : ia_H} (hg : gd_ h) {r : Int32} (hm : f_Re_hasMore x0 h = some r) : ia_Ev (d + 0) mm_Re_hasMore [.inl x0] h (some (.inl r)) h := by
  refine ia_Ev_intro ok_Re_hasMore (Nat.le_refl _) (Nat.le_refl _) (Nat.le_of_ble_eq_true rfl) (fun K hK hret => ?_)
  show K 0 [some (.inl x0)] [] h
  unfold f_Re_hasMore at hm
  refine ia_go hK ck_Re_hasMore_0 ⟨fun c => ?_, fun c => ?_⟩
  · replace hm := ia_ifp hm c
    show K 18 [some (.inl x0)] [] h
    refine ia_go hK ck_Re_hasMore_18 ?_
    show K 23 [some (.inl x0)] [.inl 1] h
    cases hm
    exact hret 23 _ ⟨Or.inr rfl, dc_Re_hasMore_23⟩
  · replace hm := ia_ifn hm c
    show K 6 [some (.inl x0)] [] h
    refine ia_go hK ck_Re_hasMore_6 ⟨fun c => ?_, fun c => ?_⟩
    · replace hm := ia_ifp hm c
      show K 18 [some (.inl x0)] [] h
      refine ia_go hK ck_Re_hasMore_18 ?_
      show K 23 [some (.inl x0)] [.inl 1] h
      cases hm
      exact hret 23 _ ⟨Or.inr rfl, dc_Re_hasMore_23⟩
    · replace hm := ia_ifn hm c
      show K 12 [some (.inl x0)] [] h
      refine ia_go hK ck_Re_hasMore_12 ⟨fun c => ?_, fun c => ?_⟩
      · replace hm := ia_ifn hm c
        show K 22 [some (.inl x0)] [] h
        refine ia_go hK ck_Re_hasMore_22 ?_
        show K 23 [some (.inl x0)] [.inl 0] h
        cases hm
        exact hret 23 _ ⟨Or.inl rfl, dc_Re_hasMore_23⟩
      · replace hm := ia_ifp hm c
        show K 18 [some (.inl x0)] [] h
        refine ia_go hK ck_Re_hasMore_18 ?_
        show K 23 [some (.inl x0)] [.inl 1] h
        cases hm
        exact hret 23 _ ⟨Or.inr rfl, dc_Re_hasMore_23⟩
def mm_La_crackBetween : ia_M := (⟨"IceStreet$Lake", "crackBetween", "(II)V"⟩, prog_4_method_6_code, 3, none, 3, false)
theorem ok_La_crackBetween : ia_mok mm_La_crackBetween := ⟨by decide +kernel, by decide +kernel, by decide +kernel, by decide +kernel⟩
theorem mk_La_crackBetween : ia_mkn mm_La_crackBetween 1 2 := ⟨ia_tb_in (List.mem_of_getElem? (i := 934) (by decide +kernel)) rfl, ia_tb_in (List.mem_of_getElem? (i := 135) (by decide +kernel)) rfl, by decide +kernel, by decide +kernel, ⟨ia_tb_in (List.mem_of_getElem? (i := 932) (by decide +kernel)) rfl, ia_tb_in (List.mem_of_getElem? (i := 933) (by decide +kernel)) rfl⟩⟩
theorem ck_La_crackBetween_0 : ia_cks 3 3 false prog_4_method_6_code 0 [(.aload_n 0, 0, 0, 0, 0), (.getfield 21, 3, 6, 3, 4), (.iload_n 1, 0, 0, 0, 0), (.dup2, 0, 0, 0, 0), (.laload, 0, 0, 0, 0), (.iload_n 2, 0, 0, 0, 0)] = true := by decide +kernel
theorem ck_La_crackBetween_11 : ia_cks 3 3 false prog_4_method_6_code 11 [(.lor, 0, 0, 0, 0), (.lastore, 0, 0, 0, 0), (.aload_n 0, 0, 0, 0, 0), (.getfield 21, 3, 6, 3, 4), (.iload_n 2, 0, 0, 0, 0), (.dup2, 0, 0, 0, 0), (.laload, 0, 0, 0, 0), (.iload_n 1, 0, 0, 0, 0)] = true := by decide +kernel
theorem ck_La_crackBetween_24 : ia_cks 3 3 false prog_4_method_6_code 24 [(.lor, 0, 0, 0, 0), (.lastore, 0, 0, 0, 0)] = true := by decide +kernel
theorem dc_La_crackBetween_8 : decode prog_4_method_6_code 8 = .ok (.invokestatic 90, 3) := by decide +kernel
theorem dc_La_crackBetween_21 : decode prog_4_method_6_code 21 = .ok (.invokestatic 90, 3) := by decide +kernel
theorem dc_La_crackBetween_26 : decode prog_4_method_6_code 26 = .ok (.return_, 1) := by decide +kernel
def f_La_crackBetween (a0 : Nat) (x1 : Int32) (x2 : Int32) (h : ia_H) : Option ia_H := ia_gd (ia_ib x1 36) ((f_I_bit x2 h).bind fun v2 => (ia_gd (ia_ib x1 36) (ia_gd (ia_ib x2 36) ((f_I_bit x1 (ia_wL h (a0 + 4) ((x1).toNatClampNeg) ((ia_l h (a0 + 4) ((x1).toNatClampNeg)) ||| v2))).bind fun v5 => (ia_gd (ia_ib x2 36) (some (ia_wL (ia_wL h (a0 + 4) ((x1).toNatClampNeg) ((ia_l h (a0 + 4) ((x1).toNatClampNeg)) ||| v2)) (a0 + 4) ((x2).toNatClampNeg) ((ia_l (ia_wL h (a0 + 4) ((x1).toNatClampNeg) ((ia_l h (a0 + 4) ((x1).toNatClampNeg)) ||| v2)) (a0 + 4) ((x2).toNatClampNeg)) ||| v5))))))))
theorem g_La_crackBetween {a0 : Nat} {x1 : Int32} {x2 : Int32} {h : ia_H} (hg : gd_ h) (p0 : (kd_D a0).1 = 3) {q : ia_H} (hm : f_La_crackBetween a0 x1 x2 h = some q) : gd_ q := by
  obtain ⟨h1, e1⟩ : ∃ x, x = q := ⟨_, rfl⟩
  subst e1
  unfold f_La_crackBetween at hm
  obtain ⟨c1, hm⟩ := ia_gd_some hm
  obtain ⟨v2, hv2, hm⟩ := ia_bnd hm
  obtain ⟨c3, hm⟩ := ia_gd_some hm
  obtain ⟨c4, hm⟩ := ia_gd_some hm
  obtain ⟨v5, hv5, hm⟩ := ia_bnd hm
  obtain ⟨c6, hm⟩ := ia_gd_some hm
  cases hm
  exact (gd_wL (gd_wL hg))
theorem t_La_crackBetween (d : Nat) {a0 : Nat} {x1 : Int32} {x2 : Int32} {h : ia_H} (hg : gd_ h) (p0 : (kd_D a0).1 = 3) {q : ia_H} (hm : f_La_crackBetween a0 x1 x2 h = some q) : ia_Ev (d + 1) mm_La_crackBetween [.inr (.inr a0), .inl x1, .inl x2] h none q := by
  have gq := g_La_crackBetween hg p0 hm
  refine ia_Ev_intro ok_La_crackBetween (gd_le hg gq).1 (gd_le hg gq).2 (Nat.le_of_ble_eq_true rfl) (fun K hK hret => ?_)
  obtain ⟨h1, e1⟩ : ∃ x, x = q := ⟨_, rfl⟩
  subst e1
  show K 0 [some (.inr (.inr a0)), some (.inl x1), some (.inl x2)] [] h
  unfold f_La_crackBetween at hm
  obtain ⟨c1, hm⟩ := ia_gd_some hm
  refine ia_go hK ck_La_crackBetween_0 ⟨gk_3 hg p0, gr_3_6 hg p0, ga_s103 hg (ka_3_6 p0) c1, ?_⟩
  show K 8 [some (.inr (.inr a0)), some (.inl x1), some (.inl x2)] [.inl x2, .inr (.inl (ia_l h (a0 + 4) ((x1).toNatClampNeg))), .inl x1, .inr (.inr (a0 + 4))] h
  obtain ⟨v2, hv2, hm⟩ := ia_bnd hm
  have ev2 := t_I_bit (d + 0) hg hv2
  refine ia_cS hK mk_I_bit lk_3_90 dc_La_crackBetween_8 [.inl x2] [.inr (.inl (ia_l h (a0 + 4) ((x1).toNatClampNeg))), .inl x1, .inr (.inr (a0 + 4))] rfl rfl (Nat.le_of_ble_eq_true rfl) ev2 ⟨rfl, rfl⟩ ?_
  show K 11 [some (.inr (.inr a0)), some (.inl x1), some (.inl x2)] [.inr (.inl v2), .inr (.inl (ia_l h (a0 + 4) ((x1).toNatClampNeg))), .inl x1, .inr (.inr (a0 + 4))] h
  obtain ⟨c3, hm⟩ := ia_gd_some hm
  obtain ⟨c4, hm⟩ := ia_gd_some hm
  refine ia_go hK ck_La_crackBetween_11 ⟨ga_s103 hg (ka_3_6 p0) c3, gk_3 (gd_wL hg) p0, gr_3_6 (gd_wL hg) p0, ga_s103 (gd_wL hg) (ka_3_6 p0) c4, ?_⟩
  show K 21 [some (.inr (.inr a0)), some (.inl x1), some (.inl x2)] [.inl x1, .inr (.inl (ia_l (ia_wL h (a0 + 4) ((x1).toNatClampNeg) ((ia_l h (a0 + 4) ((x1).toNatClampNeg)) ||| v2)) (a0 + 4) ((x2).toNatClampNeg))), .inl x2, .inr (.inr (a0 + 4))] (ia_wL h (a0 + 4) ((x1).toNatClampNeg) ((ia_l h (a0 + 4) ((x1).toNatClampNeg)) ||| v2))
  obtain ⟨v5, hv5, hm⟩ := ia_bnd hm
  have ev5 := t_I_bit (d + 0) (gd_wL hg) hv5
  refine ia_cS hK mk_I_bit lk_3_90 dc_La_crackBetween_21 [.inl x1] [.inr (.inl (ia_l (ia_wL h (a0 + 4) ((x1).toNatClampNeg) ((ia_l h (a0 + 4) ((x1).toNatClampNeg)) ||| v2)) (a0 + 4) ((x2).toNatClampNeg))), .inl x2, .inr (.inr (a0 + 4))] rfl rfl (Nat.le_of_ble_eq_true rfl) ev5 ⟨rfl, rfl⟩ ?_
  show K 24 [some (.inr (.inr a0)), some (.inl x1), some (.inl x2)] [.inr (.inl v5), .inr (.inl (ia_l (ia_wL h (a0 + 4) ((x1).toNatClampNeg) ((ia_l h (a0 + 4) ((x1).toNatClampNeg)) ||| v2)) (a0 + 4) ((x2).toNatClampNeg))), .inl x2, .inr (.inr (a0 + 4))] (ia_wL h (a0 + 4) ((x1).toNatClampNeg) ((ia_l h (a0 + 4) ((x1).toNatClampNeg)) ||| v2))
  obtain ⟨c6, hm⟩ := ia_gd_some hm
  refine ia_go hK ck_La_crackBetween_24 ⟨ga_s103 (gd_wL hg) (ka_3_6 p0) c6, ?_⟩
  show K 26 [some (.inr (.inr a0)), some (.inl x1), some (.inl x2)] [] (ia_wL (ia_wL h (a0 + 4) ((x1).toNatClampNeg) ((ia_l h (a0 + 4) ((x1).toNatClampNeg)) ||| v2)) (a0 + 4) ((x2).toNatClampNeg) ((ia_l (ia_wL h (a0 + 4) ((x1).toNatClampNeg) ((ia_l h (a0 + 4) ((x1).toNatClampNeg)) ||| v2)) (a0 + 4) ((x2).toNatClampNeg)) ||| v5))
  cases hm
  exact hret 26 _ dc_La_crackBetween_26
def mm_La_addShop : ia_M := (⟨"IceStreet$Lake", "addShop", "(IIII)V"⟩, prog_4_method_7_code, 5, none, 3, false)
theorem ok_La_addShop : ia_mok mm_La_addShop := ⟨by decide +kernel, by decide +kernel, by decide +kernel, by decide +kernel⟩
theorem mk_La_addShop : ia_mkn mm_La_addShop 1 4 := ⟨ia_tb_in (List.mem_of_getElem? (i := 939) (by decide +kernel)) rfl, ia_tb_in (List.mem_of_getElem? (i := 135) (by decide +kernel)) rfl, by decide +kernel, by decide +kernel, ⟨ia_tb_in (List.mem_of_getElem? (i := 937) (by decide +kernel)) rfl, ia_tb_in (List.mem_of_getElem? (i := 938) (by decide +kernel)) rfl⟩⟩
theorem ck_La_addShop_0 : ia_cks 3 5 false prog_4_method_7_code 0 [(.aload_n 0, 0, 0, 0, 0), (.getfield 78, 3, 11, 0, 0), (.bipush 6, 0, 0, 0, 0), (.if_icmp .ge 54, 0, 0, 0, 0)] = true := by decide +kernel
theorem ck_La_addShop_9 : ia_cks 3 5 false prog_4_method_7_code 9 [(.aload_n 0, 0, 0, 0, 0), (.getfield 28, 3, 12, 3, 6), (.aload_n 0, 0, 0, 0, 0), (.getfield 78, 3, 11, 0, 0), (.iload_n 1, 0, 0, 0, 0), (.iastore, 0, 0, 0, 0), (.aload_n 0, 0, 0, 0, 0), (.getfield 31, 3, 13, 3, 7), (.aload_n 0, 0, 0, 0, 0), (.getfield 78, 3, 11, 0, 0), (.iload_n 2, 0, 0, 0, 0), (.iastore, 0, 0, 0, 0), (.aload_n 0, 0, 0, 0, 0), (.getfield 34, 3, 14, 3, 8), (.aload_n 0, 0, 0, 0, 0), (.getfield 78, 3, 11, 0, 0), (.iload_n 3, 0, 0, 0, 0), (.iastore, 0, 0, 0, 0), (.aload_n 0, 0, 0, 0, 0), (.getfield 37, 3, 15, 3, 9), (.aload_n 0, 0, 0, 0, 0), (.getfield 78, 3, 11, 0, 0), (.iload 4, 0, 0, 0, 0), (.iastore, 0, 0, 0, 0), (.aload_n 0, 0, 0, 0, 0), (.dup, 0, 0, 0, 0), (.getfield 78, 3, 11, 0, 0), (.iconst 1, 0, 0, 0, 0), (.iadd, 0, 0, 0, 0), (.putfield 78, 3, 11, 0, 0)] = true := by decide +kernel
theorem dc_La_addShop_60 : decode prog_4_method_7_code 60 = .ok (.return_, 1) := by decide +kernel
def f_La_addShop (a0 : Nat) (x1 : Int32) (x2 : Int32) (x3 : Int32) (x4 : Int32) (h : ia_H) : Option ia_H := if 6 ≤ (ia_i h a0 11) then (some h) else (ia_gd (ia_ib (ia_i h a0 11) 6) (ia_gd (ia_ib (ia_i (ia_wI h (a0 + 6) ((ia_i h a0 11).toNatClampNeg) x1) a0 11) 6) (ia_gd (ia_ib (ia_i (ia_wI (ia_wI h (a0 + 6) ((ia_i h a0 11).toNatClampNeg) x1) (a0 + 7) ((ia_i (ia_wI h (a0 + 6) ((ia_i h a0 11).toNatClampNeg) x1) a0 11).toNatClampNeg) x2) a0 11) 6) (ia_gd (ia_ib (ia_i (ia_wI (ia_wI (ia_wI h (a0 + 6) ((ia_i h a0 11).toNatClampNeg) x1) (a0 + 7) ((ia_i (ia_wI h (a0 + 6) ((ia_i h a0 11).toNatClampNeg) x1) a0 11).toNatClampNeg) x2) (a0 + 8) ((ia_i (ia_wI (ia_wI h (a0 + 6) ((ia_i h a0 11).toNatClampNeg) x1) (a0 + 7) ((ia_i (ia_wI h (a0 + 6) ((ia_i h a0 11).toNatClampNeg) x1) a0 11).toNatClampNeg) x2) a0 11).toNatClampNeg) x3) a0 11) 6) (some (ia_wI (ia_wI (ia_wI (ia_wI (ia_wI h (a0 + 6) ((ia_i h a0 11).toNatClampNeg) x1) (a0 + 7) ((ia_i (ia_wI h (a0 + 6) ((ia_i h a0 11).toNatClampNeg) x1) a0 11).toNatClampNeg) x2) (a0 + 8) ((ia_i (ia_wI (ia_wI h (a0 + 6) ((ia_i h a0 11).toNatClampNeg) x1) (a0 + 7) ((ia_i (ia_wI h (a0 + 6) ((ia_i h a0 11).toNatClampNeg) x1) a0 11).toNatClampNeg) x2) a0 11).toNatClampNeg) x3) (a0 + 9) ((ia_i (ia_wI (ia_wI (ia_wI h (a0 + 6) ((ia_i h a0 11).toNatClampNeg) x1) (a0 + 7) ((ia_i (ia_wI h (a0 + 6) ((ia_i h a0 11).toNatClampNeg) x1) a0 11).toNatClampNeg) x2) (a0 + 8) ((ia_i (ia_wI (ia_wI h (a0 + 6) ((ia_i h a0 11).toNatClampNeg) x1) (a0 + 7) ((ia_i (ia_wI h (a0 + 6) ((ia_i h a0 11).toNatClampNeg) x1) a0 11).toNatClampNeg) x2) a0 11).toNatClampNeg) x3) a0 11).toNatClampNeg) x4) a0 11 ((ia_i (ia_wI (ia_wI (ia_wI (ia_wI h (a0 + 6) ((ia_i h a0 11).toNatClampNeg) x1) (a0 + 7) ((ia_i (ia_wI h (a0 + 6) ((ia_i h a0 11).toNatClampNeg) x1) a0 11).toNatClampNeg) x2) (a0 + 8) ((ia_i (ia_wI (ia_wI h (a0 + 6) ((ia_i h a0 11).toNatClampNeg) x1) (a0 + 7) ((ia_i (ia_wI h (a0 + 6) ((ia_i h a0 11).toNatClampNeg) x1) a0 11).toNatClampNeg) x2) a0 11).toNatClampNeg) x3) (a0 + 9) ((ia_i (ia_wI (ia_wI (ia_wI h (a0 + 6) ((ia_i h a0 11).toNatClampNeg) x1) (a0 + 7) ((ia_i (ia_wI h (a0 + 6) ((ia_i h a0 11).toNatClampNeg) x1) a0 11).toNatClampNeg) x2) (a0 + 8) ((ia_i (ia_wI (ia_wI h (a0 + 6) ((ia_i h a0 11).toNatClampNeg) x1) (a0 + 7) ((ia_i (ia_wI h (a0 + 6) ((ia_i h a0 11).toNatClampNeg) x1) a0 11).toNatClampNeg) x2) a0 11).toNatClampNeg) x3) a0 11).toNatClampNeg) x4) a0 11) + 1)))))))
theorem g_La_addShop {a0 : Nat} {x1 : Int32} {x2 : Int32} {x3 : Int32} {x4 : Int32} {h : ia_H} (hg : gd_ h) (p0 : (kd_D a0).1 = 3) {q : ia_H} (hm : f_La_addShop a0 x1 x2 x3 x4 h = some q) : gd_ q := by
  obtain ⟨h1, e1⟩ : ∃ x, x = q := ⟨_, rfl⟩
  subst e1
  unfold f_La_addShop at hm
  by_cases c : 6 ≤ (ia_i h a0 11)
  · replace hm := ia_ifp hm c
    cases hm
    exact hg
  · replace hm := ia_ifn hm c
    obtain ⟨c1, hm⟩ := ia_gd_some hm
    obtain ⟨c2, hm⟩ := ia_gd_some hm
    obtain ⟨c3, hm⟩ := ia_gd_some hm
    obtain ⟨c4, hm⟩ := ia_gd_some hm
    cases hm
    exact (gd_wI (gd_wI (gd_wI (gd_wI (gd_wI hg)))))
theorem t_La_addShop (d : Nat) {a0 : Nat} {x1 : Int32} {x2 : Int32} {x3 : Int32} {x4 : Int32} {h : ia_H} (hg : gd_ h) (p0 : (kd_D a0).1 = 3) {q : ia_H} (hm : f_La_addShop a0 x1 x2 x3 x4 h = some q) : ia_Ev (d + 0) mm_La_addShop [.inr (.inr a0), .inl x1, .inl x2, .inl x3, .inl x4] h none q := by
  have gq := g_La_addShop hg p0 hm
  refine ia_Ev_intro ok_La_addShop (gd_le hg gq).1 (gd_le hg gq).2 (Nat.le_of_ble_eq_true rfl) (fun K hK hret => ?_)
  obtain ⟨h1, e1⟩ : ∃ x, x = q := ⟨_, rfl⟩
  subst e1
  show K 0 [some (.inr (.inr a0)), some (.inl x1), some (.inl x2), some (.inl x3), some (.inl x4)] [] h
  unfold f_La_addShop at hm
  refine ia_go hK ck_La_addShop_0 ⟨gk_3 hg p0, fun c => ?_, fun c => ?_⟩
  · replace hm := ia_ifp hm c
    show K 60 [some (.inr (.inr a0)), some (.inl x1), some (.inl x2), some (.inl x3), some (.inl x4)] [] h
    cases hm
    exact hret 60 _ dc_La_addShop_60
  · replace hm := ia_ifn hm c
    show K 9 [some (.inr (.inr a0)), some (.inl x1), some (.inl x2), some (.inl x3), some (.inl x4)] [] h
    obtain ⟨c1, hm⟩ := ia_gd_some hm
    obtain ⟨c2, hm⟩ := ia_gd_some hm
    obtain ⟨c3, hm⟩ := ia_gd_some hm
    obtain ⟨c4, hm⟩ := ia_gd_some hm
    refine ia_go hK ck_La_addShop_9 ⟨gk_3 hg p0, gr_3_12 hg p0, gk_3 hg p0, ga_s100 hg (ka_3_12 p0) c1, gk_3 (gd_wI hg) p0, gr_3_13 (gd_wI hg) p0, gk_3 (gd_wI hg) p0, ga_s100 (gd_wI hg) (ka_3_13 p0) c2, gk_3 (gd_wI (gd_wI hg)) p0, gr_3_14 (gd_wI (gd_wI hg)) p0, gk_3 (gd_wI (gd_wI hg)) p0, ga_s100 (gd_wI (gd_wI hg)) (ka_3_14 p0) c3, gk_3 (gd_wI (gd_wI (gd_wI hg))) p0, gr_3_15 (gd_wI (gd_wI (gd_wI hg))) p0, gk_3 (gd_wI (gd_wI (gd_wI hg))) p0, ga_s100 (gd_wI (gd_wI (gd_wI hg))) (ka_3_15 p0) c4, gk_3 (gd_wI (gd_wI (gd_wI (gd_wI hg)))) p0, gk_3 (gd_wI (gd_wI (gd_wI (gd_wI hg)))) p0, ?_⟩
    show K 60 [some (.inr (.inr a0)), some (.inl x1), some (.inl x2), some (.inl x3), some (.inl x4)] [] (ia_wI (ia_wI (ia_wI (ia_wI (ia_wI h (a0 + 6) ((ia_i h a0 11).toNatClampNeg) x1) (a0 + 7) ((ia_i (ia_wI h (a0 + 6) ((ia_i h a0 11).toNatClampNeg) x1) a0 11).toNatClampNeg) x2) (a0 + 8) ((ia_i (ia_wI (ia_wI h (a0 + 6) ((ia_i h a0 11).toNatClampNeg) x1) (a0 + 7) ((ia_i (ia_wI h (a0 + 6) ((ia_i h a0 11).toNatClampNeg) x1) a0 11).toNatClampNeg) x2) a0 11).toNatClampNeg) x3) (a0 + 9) ((ia_i (ia_wI (ia_wI (ia_wI h (a0 + 6) ((ia_i h a0 11).toNatClampNeg) x1) (a0 + 7) ((ia_i (ia_wI h (a0 + 6) ((ia_i h a0 11).toNatClampNeg) x1) a0 11).toNatClampNeg) x2) (a0 + 8) ((ia_i (ia_wI (ia_wI h (a0 + 6) ((ia_i h a0 11).toNatClampNeg) x1) (a0 + 7) ((ia_i (ia_wI h (a0 + 6) ((ia_i h a0 11).toNatClampNeg) x1) a0 11).toNatClampNeg) x2) a0 11).toNatClampNeg) x3) a0 11).toNatClampNeg) x4) a0 11 ((ia_i (ia_wI (ia_wI (ia_wI (ia_wI h (a0 + 6) ((ia_i h a0 11).toNatClampNeg) x1) (a0 + 7) ((ia_i (ia_wI h (a0 + 6) ((ia_i h a0 11).toNatClampNeg) x1) a0 11).toNatClampNeg) x2) (a0 + 8) ((ia_i (ia_wI (ia_wI h (a0 + 6) ((ia_i h a0 11).toNatClampNeg) x1) (a0 + 7) ((ia_i (ia_wI h (a0 + 6) ((ia_i h a0 11).toNatClampNeg) x1) a0 11).toNatClampNeg) x2) a0 11).toNatClampNeg) x3) (a0 + 9) ((ia_i (ia_wI (ia_wI (ia_wI h (a0 + 6) ((ia_i h a0 11).toNatClampNeg) x1) (a0 + 7) ((ia_i (ia_wI h (a0 + 6) ((ia_i h a0 11).toNatClampNeg) x1) a0 11).toNatClampNeg) x2) (a0 + 8) ((ia_i (ia_wI (ia_wI h (a0 + 6) ((ia_i h a0 11).toNatClampNeg) x1) (a0 + 7) ((ia_i (ia_wI h (a0 + 6) ((ia_i h a0 11).toNatClampNeg) x1) a0 11).toNatClampNeg) x2) a0 11).toNatClampNeg) x3) a0 11).toNatClampNeg) x4) a0 11) + 1))
    cases hm
    exact hret 60 _ dc_La_addShop_60
def mm_Re_tellLake : ia_M := (⟨"IceStreet$Reader", "tellLake", "(I)V"⟩, prog_8_method_24_code, 4, none, 7, false)
theorem ok_Re_tellLake : ia_mok mm_Re_tellLake := ⟨by decide +kernel, by decide +kernel, by decide +kernel, by decide +kernel⟩
theorem mk_Re_tellLake : ia_mkn mm_Re_tellLake 1 1 := ⟨ia_tb_in (List.mem_of_getElem? (i := 929) (by decide +kernel)) rfl, ia_tb_in (List.mem_of_getElem? (i := 139) (by decide +kernel)) rfl, by decide +kernel, by decide +kernel, ⟨ia_tb_in (List.mem_of_getElem? (i := 928) (by decide +kernel)) rfl, ia_tb_in (List.mem_of_getElem? (i := 18) (by decide +kernel)) rfl⟩⟩
theorem ck_Re_tellLake_0 : ia_cks 7 4 false prog_8_method_24_code 0 [(.aload_n 0, 0, 0, 0, 0), (.getfield 32, 7, 5, 3, 22), (.iconst 0, 0, 0, 0, 0), (.iaload, 0, 0, 0, 0), (.istore_n 2, 0, 0, 0, 0), (.aload_n 0, 0, 0, 0, 0), (.getfield 32, 7, 5, 3, 22), (.iconst 1, 0, 0, 0, 0), (.iaload, 0, 0, 0, 0), (.istore_n 3, 0, 0, 0, 0), (.iload_n 1, 0, 0, 0, 0), (.tableswitch 172 0 9 #[53, 72, 86, 99, 112, 125, 172, 137, 172, 148], 0, 0, 0, 0)] = true := by decide +kernel
theorem ck_Re_tellLake_68 : ia_cks 7 4 false prog_8_method_24_code 68 [(.aload_n 0, 0, 0, 0, 0), (.getfield 12, 7, 0, 3, 1), (.iload_n 2, 0, 0, 0, 0), (.putfield 275, 3, 0, 0, 0), (.aload_n 0, 0, 0, 0, 0), (.getfield 12, 7, 0, 3, 1), (.iload_n 3, 0, 0, 0, 0), (.putfield 278, 3, 1, 0, 0), (.goto 103, 0, 0, 0, 0)] = true := by decide +kernel
theorem ck_Re_tellLake_87 : ia_cks 7 4 false prog_8_method_24_code 87 [(.aload_n 0, 0, 0, 0, 0), (.getfield 12, 7, 0, 3, 1), (.getfield 281, 3, 3, 3, 1), (.iload_n 2, 0, 0, 0, 0)] = true := by decide +kernel
theorem ck_Re_tellLake_98 : ia_cks 7 4 false prog_8_method_24_code 98 [(.goto 89, 0, 0, 0, 0)] = true := by decide +kernel
theorem ck_Re_tellLake_101 : ia_cks 7 4 false prog_8_method_24_code 101 [(.aload_n 0, 0, 0, 0, 0), (.getfield 12, 7, 0, 3, 1), (.getfield 281, 3, 3, 3, 1), (.iload_n 2, 0, 0, 0, 0), (.iload_n 3, 0, 0, 0, 0), (.iastore, 0, 0, 0, 0), (.goto 76, 0, 0, 0, 0)] = true := by decide +kernel
theorem ck_Re_tellLake_114 : ia_cks 7 4 false prog_8_method_24_code 114 [(.aload_n 0, 0, 0, 0, 0), (.getfield 12, 7, 0, 3, 1), (.getfield 290, 3, 4, 3, 2), (.iload_n 2, 0, 0, 0, 0), (.iload_n 3, 0, 0, 0, 0), (.iastore, 0, 0, 0, 0), (.goto 63, 0, 0, 0, 0)] = true := by decide +kernel
theorem ck_Re_tellLake_127 : ia_cks 7 4 false prog_8_method_24_code 127 [(.aload_n 0, 0, 0, 0, 0), (.getfield 12, 7, 0, 3, 1), (.getfield 292, 3, 5, 3, 3), (.iload_n 2, 0, 0, 0, 0), (.iload_n 3, 0, 0, 0, 0), (.iastore, 0, 0, 0, 0), (.goto 50, 0, 0, 0, 0)] = true := by decide +kernel
theorem ck_Re_tellLake_140 : ia_cks 7 4 false prog_8_method_24_code 140 [(.aload_n 0, 0, 0, 0, 0), (.getfield 12, 7, 0, 3, 1), (.iload_n 2, 0, 0, 0, 0), (.iload_n 3, 0, 0, 0, 0)] = true := by decide +kernel
theorem ck_Re_tellLake_149 : ia_cks 7 4 false prog_8_method_24_code 149 [(.goto 38, 0, 0, 0, 0)] = true := by decide +kernel
theorem ck_Re_tellLake_152 : ia_cks 7 4 false prog_8_method_24_code 152 [(.aload_n 0, 0, 0, 0, 0), (.getfield 12, 7, 0, 3, 1), (.iload_n 2, 0, 0, 0, 0), (.putfield 297, 3, 2, 0, 0), (.goto 27, 0, 0, 0, 0)] = true := by decide +kernel
theorem ck_Re_tellLake_163 : ia_cks 7 4 false prog_8_method_24_code 163 [(.aload_n 0, 0, 0, 0, 0), (.getfield 12, 7, 0, 3, 1), (.iload_n 2, 0, 0, 0, 0), (.iload_n 3, 0, 0, 0, 0), (.aload_n 0, 0, 0, 0, 0), (.getfield 32, 7, 5, 3, 22), (.iconst 2, 0, 0, 0, 0), (.iaload, 0, 0, 0, 0), (.aload_n 0, 0, 0, 0, 0), (.getfield 32, 7, 5, 3, 22), (.iconst 3, 0, 0, 0, 0), (.iaload, 0, 0, 0, 0)] = true := by decide +kernel
theorem ck_Re_tellLake_184 : ia_cks 7 4 false prog_8_method_24_code 184 [(.goto 3, 0, 0, 0, 0)] = true := by decide +kernel
theorem dc_Re_tellLake_187 : decode prog_8_method_24_code 187 = .ok (.return_, 1) := by decide +kernel
theorem dc_Re_tellLake_95 : decode prog_8_method_24_code 95 = .ok (.invokestatic 284, 3) := by decide +kernel
theorem dc_Re_tellLake_146 : decode prog_8_method_24_code 146 = .ok (.invokevirtual 294, 3) := by decide +kernel
theorem dc_Re_tellLake_181 : decode prog_8_method_24_code 181 = .ok (.invokevirtual 299, 3) := by decide +kernel
def f_Re_tellLake (x1 : Int32) (h : ia_H) : Option ia_H := if x1 = 0 then (some (ia_wI (ia_wI h 280 0 (ia_i h 301 0)) 280 1 (ia_i h 301 1))) else if x1 = 1 then ((f_Ar_fill 281 (ia_i h 301 0) h).bind fun v2 => (some v2)) else if x1 = 2 then (ia_gd (ia_ib (ia_i h 301 0) 36) (some (ia_wI h 281 ((ia_i h 301 0).toNatClampNeg) (ia_i h 301 1)))) else if x1 = 3 then (ia_gd (ia_ib (ia_i h 301 0) 36) (some (ia_wI h 282 ((ia_i h 301 0).toNatClampNeg) (ia_i h 301 1)))) else if x1 = 4 then (ia_gd (ia_ib (ia_i h 301 0) 36) (some (ia_wI h 283 ((ia_i h 301 0).toNatClampNeg) (ia_i h 301 1)))) else if x1 = 5 then ((f_La_crackBetween 280 (ia_i h 301 0) (ia_i h 301 1) h).bind fun v10 => (some v10)) else if x1 = 6 then (some h) else if x1 = 7 then (some (ia_wI h 280 2 (ia_i h 301 0))) else if x1 = 8 then (some h) else if x1 = 9 then ((f_La_addShop 280 (ia_i h 301 0) (ia_i h 301 1) (ia_i h 301 2) (ia_i h 301 3) h).bind fun v15 => (some v15)) else (some h)
theorem g_Re_tellLake {x1 : Int32} {h : ia_H} (hg : gd_ h) {q : ia_H} (hm : f_Re_tellLake x1 h = some q) : gd_ q := by
  obtain ⟨h1, e1⟩ : ∃ x, x = q := ⟨_, rfl⟩
  subst e1
  unfold f_Re_tellLake at hm
  by_cases c1 : x1 = 0
  · replace hm := ia_ifp hm c1
    cases hm
    exact (gd_wI (gd_wI hg))
  · replace hm := ia_ifn hm c1
    by_cases c3 : x1 = 1
    · replace hm := ia_ifp hm c3
      obtain ⟨v2, hv2, hm⟩ := ia_bnd hm
      have gv2 := g_Ar_fill hg (congrArg Prod.fst (ka_3_3 (ka_7_0 pk_279))) hv2
      cases hm
      exact gv2
    · replace hm := ia_ifn hm c3
      by_cases c5 : x1 = 2
      · replace hm := ia_ifp hm c5
        obtain ⟨c4, hm⟩ := ia_gd_some hm
        cases hm
        exact (gd_wI hg)
      · replace hm := ia_ifn hm c5
        by_cases c7 : x1 = 3
        · replace hm := ia_ifp hm c7
          obtain ⟨c6, hm⟩ := ia_gd_some hm
          cases hm
          exact (gd_wI hg)
        · replace hm := ia_ifn hm c7
          by_cases c9 : x1 = 4
          · replace hm := ia_ifp hm c9
            obtain ⟨c8, hm⟩ := ia_gd_some hm
            cases hm
            exact (gd_wI hg)
          · replace hm := ia_ifn hm c9
            by_cases c11 : x1 = 5
            · replace hm := ia_ifp hm c11
              obtain ⟨v10, hv10, hm⟩ := ia_bnd hm
              have gv10 := g_La_crackBetween hg (ka_7_0 pk_279) hv10
              cases hm
              exact gv10
            · replace hm := ia_ifn hm c11
              by_cases c12 : x1 = 6
              · replace hm := ia_ifp hm c12
                cases hm
                exact hg
              · replace hm := ia_ifn hm c12
                by_cases c13 : x1 = 7
                · replace hm := ia_ifp hm c13
                  cases hm
                  exact (gd_wI hg)
                · replace hm := ia_ifn hm c13
                  by_cases c14 : x1 = 8
                  · replace hm := ia_ifp hm c14
                    cases hm
                    exact hg
                  · replace hm := ia_ifn hm c14
                    by_cases c16 : x1 = 9
                    · replace hm := ia_ifp hm c16
                      obtain ⟨v15, hv15, hm⟩ := ia_bnd hm
                      have gv15 := g_La_addShop hg (ka_7_0 pk_279) hv15
                      cases hm
                      exact gv15
                    · replace hm := ia_ifn hm c16
                      cases hm
                      exact hg
theorem t_Re_tellLake (d : Nat) {x1 : Int32} {h : ia_H} (hg : gd_ h) {q : ia_H} (hm : f_Re_tellLake x1 h = some q) : ia_Ev (d + 2) mm_Re_tellLake [.inr (.inr 279), .inl x1] h none q := by
  have gq := g_Re_tellLake hg hm
  refine ia_Ev_intro ok_Re_tellLake (gd_le hg gq).1 (gd_le hg gq).2 (Nat.le_of_ble_eq_true rfl) (fun K hK hret => ?_)
  obtain ⟨h1, e1⟩ : ∃ x, x = q := ⟨_, rfl⟩
  subst e1
  show K 0 [some (.inr (.inr 279)), some (.inl x1), none, none] [] h
  unfold f_Re_tellLake at hm
  refine ia_go hK ck_Re_tellLake_0 ⟨gk_7 hg pk_279, gr_7_5 hg pk_279, ga_i100 hg (ka_7_5 pk_279) (by decide), gk_7 hg pk_279, gr_7_5 hg pk_279, ga_i100 hg (ka_7_5 pk_279) (by decide), ?_⟩
  show K (ia_tsw 15 172 0 9 #[53, 72, 86, 99, 112, 125, 172, 137, 172, 148] x1) [some (.inr (.inr 279)), some (.inl x1), some (.inl (ia_i h 301 0)), some (.inl (ia_i h 301 1))] [] h
  by_cases c1 : x1 = 0
  · replace hm := ia_ifp hm c1
    rw [show ia_tsw 15 172 0 9 #[53, 72, 86, 99, 112, 125, 172, 137, 172, 148] x1 = 68 from by rw [c1]; decide]
    refine ia_go hK ck_Re_tellLake_68 ⟨gk_7 hg pk_279, gr_7_0 hg pk_279, gk_3 hg (ka_7_0 pk_279), gk_7 (gd_wI hg) pk_279, gr_7_0 (gd_wI hg) pk_279, gk_3 (gd_wI hg) (ka_7_0 pk_279), ?_⟩
    show K 187 [some (.inr (.inr 279)), some (.inl x1), some (.inl (ia_i h 301 0)), some (.inl (ia_i h 301 1))] [] (ia_wI (ia_wI h 280 0 (ia_i h 301 0)) 280 1 (ia_i h 301 1))
    cases hm
    exact hret 187 _ dc_Re_tellLake_187
  · replace hm := ia_ifn hm c1
    by_cases c3 : x1 = 1
    · replace hm := ia_ifp hm c3
      rw [show ia_tsw 15 172 0 9 #[53, 72, 86, 99, 112, 125, 172, 137, 172, 148] x1 = 87 from by rw [c3]; decide]
      refine ia_go hK ck_Re_tellLake_87 ⟨gk_7 hg pk_279, gr_7_0 hg pk_279, gk_3 hg (ka_7_0 pk_279), gr_3_3 hg (ka_7_0 pk_279), ?_⟩
      show K 95 [some (.inr (.inr 279)), some (.inl x1), some (.inl (ia_i h 301 0)), some (.inl (ia_i h 301 1))] [.inl (ia_i h 301 0), .inr (.inr 281)] h
      obtain ⟨v2, hv2, hm⟩ := ia_bnd hm
      have ev2 := t_Ar_fill (d + 1) hg (congrArg Prod.fst (ka_3_3 (ka_7_0 pk_279))) hv2
      have gv2 := g_Ar_fill hg (congrArg Prod.fst (ka_3_3 (ka_7_0 pk_279))) hv2
      refine ia_cS hK mk_Ar_fill lk_7_284 dc_Re_tellLake_95 [.inr (.inr 281), .inl (ia_i h 301 0)] [] rfl rfl (Nat.le_of_ble_eq_true rfl) ev2 (gd_nm hg gv2) ?_
      show K 98 [some (.inr (.inr 279)), some (.inl x1), some (.inl (ia_i h 301 0)), some (.inl (ia_i h 301 1))] [] v2
      refine ia_go hK ck_Re_tellLake_98 ?_
      show K 187 [some (.inr (.inr 279)), some (.inl x1), some (.inl (ia_i h 301 0)), some (.inl (ia_i h 301 1))] [] v2
      cases hm
      exact hret 187 _ dc_Re_tellLake_187
    · replace hm := ia_ifn hm c3
      by_cases c5 : x1 = 2
      · replace hm := ia_ifp hm c5
        rw [show ia_tsw 15 172 0 9 #[53, 72, 86, 99, 112, 125, 172, 137, 172, 148] x1 = 101 from by rw [c5]; decide]
        obtain ⟨c4, hm⟩ := ia_gd_some hm
        refine ia_go hK ck_Re_tellLake_101 ⟨gk_7 hg pk_279, gr_7_0 hg pk_279, gk_3 hg (ka_7_0 pk_279), gr_3_3 hg (ka_7_0 pk_279), ga_s100 hg (ka_3_3 (ka_7_0 pk_279)) c4, ?_⟩
        show K 187 [some (.inr (.inr 279)), some (.inl x1), some (.inl (ia_i h 301 0)), some (.inl (ia_i h 301 1))] [] (ia_wI h 281 ((ia_i h 301 0).toNatClampNeg) (ia_i h 301 1))
        cases hm
        exact hret 187 _ dc_Re_tellLake_187
      · replace hm := ia_ifn hm c5
        by_cases c7 : x1 = 3
        · replace hm := ia_ifp hm c7
          rw [show ia_tsw 15 172 0 9 #[53, 72, 86, 99, 112, 125, 172, 137, 172, 148] x1 = 114 from by rw [c7]; decide]
          obtain ⟨c6, hm⟩ := ia_gd_some hm
          refine ia_go hK ck_Re_tellLake_114 ⟨gk_7 hg pk_279, gr_7_0 hg pk_279, gk_3 hg (ka_7_0 pk_279), gr_3_4 hg (ka_7_0 pk_279), ga_s100 hg (ka_3_4 (ka_7_0 pk_279)) c6, ?_⟩
          show K 187 [some (.inr (.inr 279)), some (.inl x1), some (.inl (ia_i h 301 0)), some (.inl (ia_i h 301 1))] [] (ia_wI h 282 ((ia_i h 301 0).toNatClampNeg) (ia_i h 301 1))
          cases hm
          exact hret 187 _ dc_Re_tellLake_187
        · replace hm := ia_ifn hm c7
          by_cases c9 : x1 = 4
          · replace hm := ia_ifp hm c9
            rw [show ia_tsw 15 172 0 9 #[53, 72, 86, 99, 112, 125, 172, 137, 172, 148] x1 = 127 from by rw [c9]; decide]
            obtain ⟨c8, hm⟩ := ia_gd_some hm
            refine ia_go hK ck_Re_tellLake_127 ⟨gk_7 hg pk_279, gr_7_0 hg pk_279, gk_3 hg (ka_7_0 pk_279), gr_3_5 hg (ka_7_0 pk_279), ga_s100 hg (ka_3_5 (ka_7_0 pk_279)) c8, ?_⟩
            show K 187 [some (.inr (.inr 279)), some (.inl x1), some (.inl (ia_i h 301 0)), some (.inl (ia_i h 301 1))] [] (ia_wI h 283 ((ia_i h 301 0).toNatClampNeg) (ia_i h 301 1))
            cases hm
            exact hret 187 _ dc_Re_tellLake_187
          · replace hm := ia_ifn hm c9
            by_cases c11 : x1 = 5
            · replace hm := ia_ifp hm c11
              rw [show ia_tsw 15 172 0 9 #[53, 72, 86, 99, 112, 125, 172, 137, 172, 148] x1 = 140 from by rw [c11]; decide]
              refine ia_go hK ck_Re_tellLake_140 ⟨gk_7 hg pk_279, gr_7_0 hg pk_279, ?_⟩
              show K 146 [some (.inr (.inr 279)), some (.inl x1), some (.inl (ia_i h 301 0)), some (.inl (ia_i h 301 1))] [.inl (ia_i h 301 1), .inl (ia_i h 301 0), .inr (.inr 280)] h
              obtain ⟨v10, hv10, hm⟩ := ia_bnd hm
              have ev10 := t_La_crackBetween (d + 0) hg (ka_7_0 pk_279) hv10
              have gv10 := g_La_crackBetween hg (ka_7_0 pk_279) hv10
              refine ia_cV hK mk_La_crackBetween lk_7_294 dc_Re_tellLake_146 280 [.inl (ia_i h 301 0), .inl (ia_i h 301 1)] [] rfl rfl (Nat.le_of_ble_eq_true rfl) (by decide) rfl (gk_3 hg (ka_7_0 pk_279)) ev10 (gd_nm hg gv10) ?_
              show K 149 [some (.inr (.inr 279)), some (.inl x1), some (.inl (ia_i h 301 0)), some (.inl (ia_i h 301 1))] [] v10
              refine ia_go hK ck_Re_tellLake_149 ?_
              show K 187 [some (.inr (.inr 279)), some (.inl x1), some (.inl (ia_i h 301 0)), some (.inl (ia_i h 301 1))] [] v10
              cases hm
              exact hret 187 _ dc_Re_tellLake_187
            · replace hm := ia_ifn hm c11
              by_cases c12 : x1 = 6
              · replace hm := ia_ifp hm c12
                rw [show ia_tsw 15 172 0 9 #[53, 72, 86, 99, 112, 125, 172, 137, 172, 148] x1 = 187 from by rw [c12]; decide]
                cases hm
                exact hret 187 _ dc_Re_tellLake_187
              · replace hm := ia_ifn hm c12
                by_cases c13 : x1 = 7
                · replace hm := ia_ifp hm c13
                  rw [show ia_tsw 15 172 0 9 #[53, 72, 86, 99, 112, 125, 172, 137, 172, 148] x1 = 152 from by rw [c13]; decide]
                  refine ia_go hK ck_Re_tellLake_152 ⟨gk_7 hg pk_279, gr_7_0 hg pk_279, gk_3 hg (ka_7_0 pk_279), ?_⟩
                  show K 187 [some (.inr (.inr 279)), some (.inl x1), some (.inl (ia_i h 301 0)), some (.inl (ia_i h 301 1))] [] (ia_wI h 280 2 (ia_i h 301 0))
                  cases hm
                  exact hret 187 _ dc_Re_tellLake_187
                · replace hm := ia_ifn hm c13
                  by_cases c14 : x1 = 8
                  · replace hm := ia_ifp hm c14
                    rw [show ia_tsw 15 172 0 9 #[53, 72, 86, 99, 112, 125, 172, 137, 172, 148] x1 = 187 from by rw [c14]; decide]
                    cases hm
                    exact hret 187 _ dc_Re_tellLake_187
                  · replace hm := ia_ifn hm c14
                    by_cases c16 : x1 = 9
                    · replace hm := ia_ifp hm c16
                      rw [show ia_tsw 15 172 0 9 #[53, 72, 86, 99, 112, 125, 172, 137, 172, 148] x1 = 163 from by rw [c16]; decide]
                      refine ia_go hK ck_Re_tellLake_163 ⟨gk_7 hg pk_279, gr_7_0 hg pk_279, gk_7 hg pk_279, gr_7_5 hg pk_279, ga_i100 hg (ka_7_5 pk_279) (by decide), gk_7 hg pk_279, gr_7_5 hg pk_279, ga_i100 hg (ka_7_5 pk_279) (by decide), ?_⟩
                      show K 181 [some (.inr (.inr 279)), some (.inl x1), some (.inl (ia_i h 301 0)), some (.inl (ia_i h 301 1))] [.inl (ia_i h 301 3), .inl (ia_i h 301 2), .inl (ia_i h 301 1), .inl (ia_i h 301 0), .inr (.inr 280)] h
                      obtain ⟨v15, hv15, hm⟩ := ia_bnd hm
                      have ev15 := t_La_addShop (d + 1) hg (ka_7_0 pk_279) hv15
                      have gv15 := g_La_addShop hg (ka_7_0 pk_279) hv15
                      refine ia_cV hK mk_La_addShop lk_7_299 dc_Re_tellLake_181 280 [.inl (ia_i h 301 0), .inl (ia_i h 301 1), .inl (ia_i h 301 2), .inl (ia_i h 301 3)] [] rfl rfl (Nat.le_of_ble_eq_true rfl) (by decide) rfl (gk_3 hg (ka_7_0 pk_279)) ev15 (gd_nm hg gv15) ?_
                      show K 184 [some (.inr (.inr 279)), some (.inl x1), some (.inl (ia_i h 301 0)), some (.inl (ia_i h 301 1))] [] v15
                      refine ia_go hK ck_Re_tellLake_184 ?_
                      show K 187 [some (.inr (.inr 279)), some (.inl x1), some (.inl (ia_i h 301 0)), some (.inl (ia_i h 301 1))] [] v15
                      cases hm
                      exact hret 187 _ dc_Re_tellLake_187
                    · replace hm := ia_ifn hm c16
                      rw [show ia_tsw 15 172 0 9 #[53, 72, 86, 99, 112, 125, 172, 137, 172, 148] x1 = 187 from (ia_tsw_d (fun k h1 h2 => by
                          rcases (show k = 0 ∨ k = 1 ∨ k = 2 ∨ k = 3 ∨ k = 4 ∨ k = 5 ∨ k = 6 ∨ k = 7 ∨ k = 8 ∨ k = 9 by omega) with rfl | rfl | rfl | rfl | rfl | rfl | rfl | rfl | rfl | rfl
                          · exact c1
                          · exact c3
                          · exact c5
                          · exact c7
                          · exact c9
                          · exact c11
                          · exact c12
                          · exact c13
                          · exact c14
                          · exact c16
                          )).trans (by decide)]
                      cases hm
                      exact hret 187 _ dc_Re_tellLake_187
def mm_Lw_addLane : ia_M := (⟨"IceStreet$Law", "addLane", "(II)V"⟩, prog_5_method_4_code, 3, none, 4, false)
theorem ok_Lw_addLane : ia_mok mm_Lw_addLane := ⟨by decide +kernel, by decide +kernel, by decide +kernel, by decide +kernel⟩
theorem mk_Lw_addLane : ia_mkn mm_Lw_addLane 1 2 := ⟨ia_tb_in (List.mem_of_getElem? (i := 947) (by decide +kernel)) rfl, ia_tb_in (List.mem_of_getElem? (i := 137) (by decide +kernel)) rfl, by decide +kernel, by decide +kernel, ⟨ia_tb_in (List.mem_of_getElem? (i := 945) (by decide +kernel)) rfl, ia_tb_in (List.mem_of_getElem? (i := 946) (by decide +kernel)) rfl⟩⟩
theorem ck_Lw_addLane_0 : ia_cks 4 3 false prog_5_method_4_code 0 [(.aload_n 0, 0, 0, 0, 0), (.getfield 38, 4, 4, 0, 0), (.bipush 12, 0, 0, 0, 0), (.if_icmp .ge 46, 0, 0, 0, 0)] = true := by decide +kernel
theorem ck_Lw_addLane_9 : ia_cks 4 3 false prog_5_method_4_code 9 [(.aload_n 0, 0, 0, 0, 0), (.getfield 9, 4, 5, 3, 1), (.aload_n 0, 0, 0, 0, 0), (.getfield 38, 4, 4, 0, 0), (.iload_n 1, 0, 0, 0, 0), (.iastore, 0, 0, 0, 0), (.aload_n 0, 0, 0, 0, 0), (.getfield 15, 4, 6, 3, 2), (.aload_n 0, 0, 0, 0, 0), (.getfield 38, 4, 4, 0, 0), (.iload_n 2, 0, 0, 0, 0), (.iastore, 0, 0, 0, 0), (.aload_n 0, 0, 0, 0, 0), (.dup, 0, 0, 0, 0), (.getfield 38, 4, 4, 0, 0), (.iconst 1, 0, 0, 0, 0), (.iadd, 0, 0, 0, 0), (.putfield 38, 4, 4, 0, 0), (.aload_n 0, 0, 0, 0, 0), (.getfield 18, 4, 8, 3, 3), (.iload_n 2, 0, 0, 0, 0), (.dup2, 0, 0, 0, 0), (.laload, 0, 0, 0, 0), (.iload_n 1, 0, 0, 0, 0)] = true := by decide +kernel
theorem ck_Lw_addLane_50 : ia_cks 4 3 false prog_5_method_4_code 50 [(.lor, 0, 0, 0, 0), (.lastore, 0, 0, 0, 0)] = true := by decide +kernel
theorem dc_Lw_addLane_52 : decode prog_5_method_4_code 52 = .ok (.return_, 1) := by decide +kernel
theorem dc_Lw_addLane_47 : decode prog_5_method_4_code 47 = .ok (.invokestatic 57, 3) := by decide +kernel
def f_Lw_addLane (a0 : Nat) (x1 : Int32) (x2 : Int32) (h : ia_H) : Option ia_H := if 12 ≤ (ia_i h a0 4) then (some h) else (ia_gd (ia_ib (ia_i h a0 4) 12) (ia_gd (ia_ib (ia_i (ia_wI h (a0 + 1) ((ia_i h a0 4).toNatClampNeg) x1) a0 4) 12) (ia_gd (ia_ib x2 36) ((f_I_bit x1 (ia_wI (ia_wI (ia_wI h (a0 + 1) ((ia_i h a0 4).toNatClampNeg) x1) (a0 + 2) ((ia_i (ia_wI h (a0 + 1) ((ia_i h a0 4).toNatClampNeg) x1) a0 4).toNatClampNeg) x2) a0 4 ((ia_i (ia_wI (ia_wI h (a0 + 1) ((ia_i h a0 4).toNatClampNeg) x1) (a0 + 2) ((ia_i (ia_wI h (a0 + 1) ((ia_i h a0 4).toNatClampNeg) x1) a0 4).toNatClampNeg) x2) a0 4) + 1))).bind fun v4 => (ia_gd (ia_ib x2 36) (some (ia_wL (ia_wI (ia_wI (ia_wI h (a0 + 1) ((ia_i h a0 4).toNatClampNeg) x1) (a0 + 2) ((ia_i (ia_wI h (a0 + 1) ((ia_i h a0 4).toNatClampNeg) x1) a0 4).toNatClampNeg) x2) a0 4 ((ia_i (ia_wI (ia_wI h (a0 + 1) ((ia_i h a0 4).toNatClampNeg) x1) (a0 + 2) ((ia_i (ia_wI h (a0 + 1) ((ia_i h a0 4).toNatClampNeg) x1) a0 4).toNatClampNeg) x2) a0 4) + 1)) (a0 + 3) ((x2).toNatClampNeg) ((ia_l (ia_wI (ia_wI (ia_wI h (a0 + 1) ((ia_i h a0 4).toNatClampNeg) x1) (a0 + 2) ((ia_i (ia_wI h (a0 + 1) ((ia_i h a0 4).toNatClampNeg) x1) a0 4).toNatClampNeg) x2) a0 4 ((ia_i (ia_wI (ia_wI h (a0 + 1) ((ia_i h a0 4).toNatClampNeg) x1) (a0 + 2) ((ia_i (ia_wI h (a0 + 1) ((ia_i h a0 4).toNatClampNeg) x1) a0 4).toNatClampNeg) x2) a0 4) + 1)) (a0 + 3) ((x2).toNatClampNeg)) ||| v4))))))))
theorem g_Lw_addLane {a0 : Nat} {x1 : Int32} {x2 : Int32} {h : ia_H} (hg : gd_ h) (p0 : (kd_D a0).1 = 4) {q : ia_H} (hm : f_Lw_addLane a0 x1 x2 h = some q) : gd_ q := by
  obtain ⟨h1, e1⟩ : ∃ x, x = q := ⟨_, rfl⟩
  subst e1
  unfold f_Lw_addLane at hm
  by_cases c : 12 ≤ (ia_i h a0 4)
  · replace hm := ia_ifp hm c
    cases hm
    exact hg
  · replace hm := ia_ifn hm c
    obtain ⟨c1, hm⟩ := ia_gd_some hm
    obtain ⟨c2, hm⟩ := ia_gd_some hm
    obtain ⟨c3, hm⟩ := ia_gd_some hm
    obtain ⟨v4, hv4, hm⟩ := ia_bnd hm
    obtain ⟨c5, hm⟩ := ia_gd_some hm
    cases hm
    exact (gd_wL (gd_wI (gd_wI (gd_wI hg))))
theorem t_Lw_addLane (d : Nat) {a0 : Nat} {x1 : Int32} {x2 : Int32} {h : ia_H} (hg : gd_ h) (p0 : (kd_D a0).1 = 4) {q : ia_H} (hm : f_Lw_addLane a0 x1 x2 h = some q) : ia_Ev (d + 1) mm_Lw_addLane [.inr (.inr a0), .inl x1, .inl x2] h none q := by
  have gq := g_Lw_addLane hg p0 hm
  refine ia_Ev_intro ok_Lw_addLane (gd_le hg gq).1 (gd_le hg gq).2 (Nat.le_of_ble_eq_true rfl) (fun K hK hret => ?_)
  obtain ⟨h1, e1⟩ : ∃ x, x = q := ⟨_, rfl⟩
  subst e1
  show K 0 [some (.inr (.inr a0)), some (.inl x1), some (.inl x2)] [] h
  unfold f_Lw_addLane at hm
  refine ia_go hK ck_Lw_addLane_0 ⟨gk_4 hg p0, fun c => ?_, fun c => ?_⟩
  · replace hm := ia_ifp hm c
    show K 52 [some (.inr (.inr a0)), some (.inl x1), some (.inl x2)] [] h
    cases hm
    exact hret 52 _ dc_Lw_addLane_52
  · replace hm := ia_ifn hm c
    show K 9 [some (.inr (.inr a0)), some (.inl x1), some (.inl x2)] [] h
    obtain ⟨c1, hm⟩ := ia_gd_some hm
    obtain ⟨c2, hm⟩ := ia_gd_some hm
    obtain ⟨c3, hm⟩ := ia_gd_some hm
    refine ia_go hK ck_Lw_addLane_9 ⟨gk_4 hg p0, gr_4_5 hg p0, gk_4 hg p0, ga_s100 hg (ka_4_5 p0) c1, gk_4 (gd_wI hg) p0, gr_4_6 (gd_wI hg) p0, gk_4 (gd_wI hg) p0, ga_s100 (gd_wI hg) (ka_4_6 p0) c2, gk_4 (gd_wI (gd_wI hg)) p0, gk_4 (gd_wI (gd_wI hg)) p0, gk_4 (gd_wI (gd_wI (gd_wI hg))) p0, gr_4_8 (gd_wI (gd_wI (gd_wI hg))) p0, ga_s103 (gd_wI (gd_wI (gd_wI hg))) (ka_4_8 p0) c3, ?_⟩
    show K 47 [some (.inr (.inr a0)), some (.inl x1), some (.inl x2)] [.inl x1, .inr (.inl (ia_l (ia_wI (ia_wI (ia_wI h (a0 + 1) ((ia_i h a0 4).toNatClampNeg) x1) (a0 + 2) ((ia_i (ia_wI h (a0 + 1) ((ia_i h a0 4).toNatClampNeg) x1) a0 4).toNatClampNeg) x2) a0 4 ((ia_i (ia_wI (ia_wI h (a0 + 1) ((ia_i h a0 4).toNatClampNeg) x1) (a0 + 2) ((ia_i (ia_wI h (a0 + 1) ((ia_i h a0 4).toNatClampNeg) x1) a0 4).toNatClampNeg) x2) a0 4) + 1)) (a0 + 3) ((x2).toNatClampNeg))), .inl x2, .inr (.inr (a0 + 3))] (ia_wI (ia_wI (ia_wI h (a0 + 1) ((ia_i h a0 4).toNatClampNeg) x1) (a0 + 2) ((ia_i (ia_wI h (a0 + 1) ((ia_i h a0 4).toNatClampNeg) x1) a0 4).toNatClampNeg) x2) a0 4 ((ia_i (ia_wI (ia_wI h (a0 + 1) ((ia_i h a0 4).toNatClampNeg) x1) (a0 + 2) ((ia_i (ia_wI h (a0 + 1) ((ia_i h a0 4).toNatClampNeg) x1) a0 4).toNatClampNeg) x2) a0 4) + 1))
    obtain ⟨v4, hv4, hm⟩ := ia_bnd hm
    have ev4 := t_I_bit (d + 0) (gd_wI (gd_wI (gd_wI hg))) hv4
    refine ia_cS hK mk_I_bit lk_4_57 dc_Lw_addLane_47 [.inl x1] [.inr (.inl (ia_l (ia_wI (ia_wI (ia_wI h (a0 + 1) ((ia_i h a0 4).toNatClampNeg) x1) (a0 + 2) ((ia_i (ia_wI h (a0 + 1) ((ia_i h a0 4).toNatClampNeg) x1) a0 4).toNatClampNeg) x2) a0 4 ((ia_i (ia_wI (ia_wI h (a0 + 1) ((ia_i h a0 4).toNatClampNeg) x1) (a0 + 2) ((ia_i (ia_wI h (a0 + 1) ((ia_i h a0 4).toNatClampNeg) x1) a0 4).toNatClampNeg) x2) a0 4) + 1)) (a0 + 3) ((x2).toNatClampNeg))), .inl x2, .inr (.inr (a0 + 3))] rfl rfl (Nat.le_of_ble_eq_true rfl) ev4 ⟨rfl, rfl⟩ ?_
    show K 50 [some (.inr (.inr a0)), some (.inl x1), some (.inl x2)] [.inr (.inl v4), .inr (.inl (ia_l (ia_wI (ia_wI (ia_wI h (a0 + 1) ((ia_i h a0 4).toNatClampNeg) x1) (a0 + 2) ((ia_i (ia_wI h (a0 + 1) ((ia_i h a0 4).toNatClampNeg) x1) a0 4).toNatClampNeg) x2) a0 4 ((ia_i (ia_wI (ia_wI h (a0 + 1) ((ia_i h a0 4).toNatClampNeg) x1) (a0 + 2) ((ia_i (ia_wI h (a0 + 1) ((ia_i h a0 4).toNatClampNeg) x1) a0 4).toNatClampNeg) x2) a0 4) + 1)) (a0 + 3) ((x2).toNatClampNeg))), .inl x2, .inr (.inr (a0 + 3))] (ia_wI (ia_wI (ia_wI h (a0 + 1) ((ia_i h a0 4).toNatClampNeg) x1) (a0 + 2) ((ia_i (ia_wI h (a0 + 1) ((ia_i h a0 4).toNatClampNeg) x1) a0 4).toNatClampNeg) x2) a0 4 ((ia_i (ia_wI (ia_wI h (a0 + 1) ((ia_i h a0 4).toNatClampNeg) x1) (a0 + 2) ((ia_i (ia_wI h (a0 + 1) ((ia_i h a0 4).toNatClampNeg) x1) a0 4).toNatClampNeg) x2) a0 4) + 1))
    obtain ⟨c5, hm⟩ := ia_gd_some hm
    refine ia_go hK ck_Lw_addLane_50 ⟨ga_s103 (gd_wI (gd_wI (gd_wI hg))) (ka_4_8 p0) c5, ?_⟩
    show K 52 [some (.inr (.inr a0)), some (.inl x1), some (.inl x2)] [] (ia_wL (ia_wI (ia_wI (ia_wI h (a0 + 1) ((ia_i h a0 4).toNatClampNeg) x1) (a0 + 2) ((ia_i (ia_wI h (a0 + 1) ((ia_i h a0 4).toNatClampNeg) x1) a0 4).toNatClampNeg) x2) a0 4 ((ia_i (ia_wI (ia_wI h (a0 + 1) ((ia_i h a0 4).toNatClampNeg) x1) (a0 + 2) ((ia_i (ia_wI h (a0 + 1) ((ia_i h a0 4).toNatClampNeg) x1) a0 4).toNatClampNeg) x2) a0 4) + 1)) (a0 + 3) ((x2).toNatClampNeg) ((ia_l (ia_wI (ia_wI (ia_wI h (a0 + 1) ((ia_i h a0 4).toNatClampNeg) x1) (a0 + 2) ((ia_i (ia_wI h (a0 + 1) ((ia_i h a0 4).toNatClampNeg) x1) a0 4).toNatClampNeg) x2) a0 4 ((ia_i (ia_wI (ia_wI h (a0 + 1) ((ia_i h a0 4).toNatClampNeg) x1) (a0 + 2) ((ia_i (ia_wI h (a0 + 1) ((ia_i h a0 4).toNatClampNeg) x1) a0 4).toNatClampNeg) x2) a0 4) + 1)) (a0 + 3) ((x2).toNatClampNeg)) ||| v4))
    cases hm
    exact hret 52 _ dc_Lw_addLane_52
def mm_Re_tellLaw : ia_M := (⟨"IceStreet$Reader", "tellLaw", "(I)V"⟩, prog_8_method_25_code, 2, none, 7, false)
theorem ok_Re_tellLaw : ia_mok mm_Re_tellLaw := ⟨by decide +kernel, by decide +kernel, by decide +kernel, by decide +kernel⟩
theorem mk_Re_tellLaw : ia_mkn mm_Re_tellLaw 1 1 := ⟨ia_tb_in (List.mem_of_getElem? (i := 943) (by decide +kernel)) rfl, ia_tb_in (List.mem_of_getElem? (i := 139) (by decide +kernel)) rfl, by decide +kernel, by decide +kernel, ⟨ia_tb_in (List.mem_of_getElem? (i := 942) (by decide +kernel)) rfl, ia_tb_in (List.mem_of_getElem? (i := 19) (by decide +kernel)) rfl⟩⟩
theorem ck_Re_tellLaw_0 : ia_cks 7 2 false prog_8_method_25_code 0 [(.iload_n 1, 0, 0, 0, 0), (.tableswitch 121 10 14 #[35, 51, 67, 83, 99], 0, 0, 0, 0)] = true := by decide +kernel
theorem ck_Re_tellLaw_36 : ia_cks 7 2 false prog_8_method_25_code 36 [(.aload_n 0, 0, 0, 0, 0), (.getfield 21, 7, 1, 3, 13), (.aload_n 0, 0, 0, 0, 0), (.getfield 32, 7, 5, 3, 22), (.iconst 0, 0, 0, 0, 0), (.iaload, 0, 0, 0, 0), (.putfield 302, 4, 0, 0, 0), (.goto 73, 0, 0, 0, 0)] = true := by decide +kernel
theorem ck_Re_tellLaw_52 : ia_cks 7 2 false prog_8_method_25_code 52 [(.aload_n 0, 0, 0, 0, 0), (.getfield 21, 7, 1, 3, 13), (.aload_n 0, 0, 0, 0, 0), (.getfield 32, 7, 5, 3, 22), (.iconst 0, 0, 0, 0, 0), (.iaload, 0, 0, 0, 0), (.putfield 304, 4, 1, 0, 0), (.goto 57, 0, 0, 0, 0)] = true := by decide +kernel
theorem ck_Re_tellLaw_68 : ia_cks 7 2 false prog_8_method_25_code 68 [(.aload_n 0, 0, 0, 0, 0), (.getfield 21, 7, 1, 3, 13), (.aload_n 0, 0, 0, 0, 0), (.getfield 32, 7, 5, 3, 22), (.iconst 0, 0, 0, 0, 0), (.iaload, 0, 0, 0, 0), (.putfield 306, 4, 2, 0, 0), (.goto 41, 0, 0, 0, 0)] = true := by decide +kernel
theorem ck_Re_tellLaw_84 : ia_cks 7 2 false prog_8_method_25_code 84 [(.aload_n 0, 0, 0, 0, 0), (.getfield 21, 7, 1, 3, 13), (.aload_n 0, 0, 0, 0, 0), (.getfield 32, 7, 5, 3, 22), (.iconst 0, 0, 0, 0, 0), (.iaload, 0, 0, 0, 0), (.putfield 308, 4, 3, 0, 0), (.goto 25, 0, 0, 0, 0)] = true := by decide +kernel
theorem ck_Re_tellLaw_100 : ia_cks 7 2 false prog_8_method_25_code 100 [(.aload_n 0, 0, 0, 0, 0), (.getfield 21, 7, 1, 3, 13), (.aload_n 0, 0, 0, 0, 0), (.getfield 32, 7, 5, 3, 22), (.iconst 0, 0, 0, 0, 0), (.iaload, 0, 0, 0, 0), (.aload_n 0, 0, 0, 0, 0), (.getfield 32, 7, 5, 3, 22), (.iconst 1, 0, 0, 0, 0), (.iaload, 0, 0, 0, 0)] = true := by decide +kernel
theorem ck_Re_tellLaw_119 : ia_cks 7 2 false prog_8_method_25_code 119 [(.goto 3, 0, 0, 0, 0)] = true := by decide +kernel
theorem dc_Re_tellLaw_122 : decode prog_8_method_25_code 122 = .ok (.return_, 1) := by decide +kernel
theorem dc_Re_tellLaw_116 : decode prog_8_method_25_code 116 = .ok (.invokevirtual 310, 3) := by decide +kernel
def f_Re_tellLaw (x1 : Int32) (h : ia_H) : Option ia_H := if x1 = 10 then (some (ia_wI h 292 0 (ia_i h 301 0))) else if x1 = 11 then (some (ia_wI h 292 1 (ia_i h 301 0))) else if x1 = 12 then (some (ia_wI h 292 2 (ia_i h 301 0))) else if x1 = 13 then (some (ia_wI h 292 3 (ia_i h 301 0))) else if x1 = 14 then ((f_Lw_addLane 292 (ia_i h 301 0) (ia_i h 301 1) h).bind fun v5 => (some v5)) else (some h)
theorem g_Re_tellLaw {x1 : Int32} {h : ia_H} (hg : gd_ h) {q : ia_H} (hm : f_Re_tellLaw x1 h = some q) : gd_ q := by
  obtain ⟨h1, e1⟩ : ∃ x, x = q := ⟨_, rfl⟩
  subst e1
  unfold f_Re_tellLaw at hm
  by_cases c1 : x1 = 10
  · replace hm := ia_ifp hm c1
    cases hm
    exact (gd_wI hg)
  · replace hm := ia_ifn hm c1
    by_cases c2 : x1 = 11
    · replace hm := ia_ifp hm c2
      cases hm
      exact (gd_wI hg)
    · replace hm := ia_ifn hm c2
      by_cases c3 : x1 = 12
      · replace hm := ia_ifp hm c3
        cases hm
        exact (gd_wI hg)
      · replace hm := ia_ifn hm c3
        by_cases c4 : x1 = 13
        · replace hm := ia_ifp hm c4
          cases hm
          exact (gd_wI hg)
        · replace hm := ia_ifn hm c4
          by_cases c6 : x1 = 14
          · replace hm := ia_ifp hm c6
            obtain ⟨v5, hv5, hm⟩ := ia_bnd hm
            have gv5 := g_Lw_addLane hg (ka_7_1 pk_279) hv5
            cases hm
            exact gv5
          · replace hm := ia_ifn hm c6
            cases hm
            exact hg
theorem t_Re_tellLaw (d : Nat) {x1 : Int32} {h : ia_H} (hg : gd_ h) {q : ia_H} (hm : f_Re_tellLaw x1 h = some q) : ia_Ev (d + 2) mm_Re_tellLaw [.inr (.inr 279), .inl x1] h none q := by
  have gq := g_Re_tellLaw hg hm
  refine ia_Ev_intro ok_Re_tellLaw (gd_le hg gq).1 (gd_le hg gq).2 (Nat.le_of_ble_eq_true rfl) (fun K hK hret => ?_)
  obtain ⟨h1, e1⟩ : ∃ x, x = q := ⟨_, rfl⟩
  subst e1
  show K 0 [some (.inr (.inr 279)), some (.inl x1)] [] h
  unfold f_Re_tellLaw at hm
  refine ia_go hK ck_Re_tellLaw_0 ?_
  show K (ia_tsw 1 121 10 14 #[35, 51, 67, 83, 99] x1) [some (.inr (.inr 279)), some (.inl x1)] [] h
  by_cases c1 : x1 = 10
  · replace hm := ia_ifp hm c1
    rw [show ia_tsw 1 121 10 14 #[35, 51, 67, 83, 99] x1 = 36 from by rw [c1]; decide]
    refine ia_go hK ck_Re_tellLaw_36 ⟨gk_7 hg pk_279, gr_7_1 hg pk_279, gk_7 hg pk_279, gr_7_5 hg pk_279, ga_i100 hg (ka_7_5 pk_279) (by decide), gk_4 hg (ka_7_1 pk_279), ?_⟩
    show K 122 [some (.inr (.inr 279)), some (.inl x1)] [] (ia_wI h 292 0 (ia_i h 301 0))
    cases hm
    exact hret 122 _ dc_Re_tellLaw_122
  · replace hm := ia_ifn hm c1
    by_cases c2 : x1 = 11
    · replace hm := ia_ifp hm c2
      rw [show ia_tsw 1 121 10 14 #[35, 51, 67, 83, 99] x1 = 52 from by rw [c2]; decide]
      refine ia_go hK ck_Re_tellLaw_52 ⟨gk_7 hg pk_279, gr_7_1 hg pk_279, gk_7 hg pk_279, gr_7_5 hg pk_279, ga_i100 hg (ka_7_5 pk_279) (by decide), gk_4 hg (ka_7_1 pk_279), ?_⟩
      show K 122 [some (.inr (.inr 279)), some (.inl x1)] [] (ia_wI h 292 1 (ia_i h 301 0))
      cases hm
      exact hret 122 _ dc_Re_tellLaw_122
    · replace hm := ia_ifn hm c2
      by_cases c3 : x1 = 12
      · replace hm := ia_ifp hm c3
        rw [show ia_tsw 1 121 10 14 #[35, 51, 67, 83, 99] x1 = 68 from by rw [c3]; decide]
        refine ia_go hK ck_Re_tellLaw_68 ⟨gk_7 hg pk_279, gr_7_1 hg pk_279, gk_7 hg pk_279, gr_7_5 hg pk_279, ga_i100 hg (ka_7_5 pk_279) (by decide), gk_4 hg (ka_7_1 pk_279), ?_⟩
        show K 122 [some (.inr (.inr 279)), some (.inl x1)] [] (ia_wI h 292 2 (ia_i h 301 0))
        cases hm
        exact hret 122 _ dc_Re_tellLaw_122
      · replace hm := ia_ifn hm c3
        by_cases c4 : x1 = 13
        · replace hm := ia_ifp hm c4
          rw [show ia_tsw 1 121 10 14 #[35, 51, 67, 83, 99] x1 = 84 from by rw [c4]; decide]
          refine ia_go hK ck_Re_tellLaw_84 ⟨gk_7 hg pk_279, gr_7_1 hg pk_279, gk_7 hg pk_279, gr_7_5 hg pk_279, ga_i100 hg (ka_7_5 pk_279) (by decide), gk_4 hg (ka_7_1 pk_279), ?_⟩
          show K 122 [some (.inr (.inr 279)), some (.inl x1)] [] (ia_wI h 292 3 (ia_i h 301 0))
          cases hm
          exact hret 122 _ dc_Re_tellLaw_122
        · replace hm := ia_ifn hm c4
          by_cases c6 : x1 = 14
          · replace hm := ia_ifp hm c6
            rw [show ia_tsw 1 121 10 14 #[35, 51, 67, 83, 99] x1 = 100 from by rw [c6]; decide]
            refine ia_go hK ck_Re_tellLaw_100 ⟨gk_7 hg pk_279, gr_7_1 hg pk_279, gk_7 hg pk_279, gr_7_5 hg pk_279, ga_i100 hg (ka_7_5 pk_279) (by decide), gk_7 hg pk_279, gr_7_5 hg pk_279, ga_i100 hg (ka_7_5 pk_279) (by decide), ?_⟩
            show K 116 [some (.inr (.inr 279)), some (.inl x1)] [.inl (ia_i h 301 1), .inl (ia_i h 301 0), .inr (.inr 292)] h
            obtain ⟨v5, hv5, hm⟩ := ia_bnd hm
            have ev5 := t_Lw_addLane (d + 0) hg (ka_7_1 pk_279) hv5
            have gv5 := g_Lw_addLane hg (ka_7_1 pk_279) hv5
            refine ia_cV hK mk_Lw_addLane lk_7_310 dc_Re_tellLaw_116 292 [.inl (ia_i h 301 0), .inl (ia_i h 301 1)] [] rfl rfl (Nat.le_of_ble_eq_true rfl) (by decide) rfl (gk_4 hg (ka_7_1 pk_279)) ev5 (gd_nm hg gv5) ?_
            show K 119 [some (.inr (.inr 279)), some (.inl x1)] [] v5
            refine ia_go hK ck_Re_tellLaw_119 ?_
            show K 122 [some (.inr (.inr 279)), some (.inl x1)] [] v5
            cases hm
            exact hret 122 _ dc_Re_tellLaw_122
          · replace hm := ia_ifn hm c6
            rw [show ia_tsw 1 121 10 14 #[35, 51, 67, 83, 99] x1 = 122 from (ia_tsw_d (fun k h1 h2 => by
                rcases (show k = 10 ∨ k = 11 ∨ k = 12 ∨ k = 13 ∨ k = 14 by omega) with rfl | rfl | rfl | rfl | rfl
                · exact c1
                · exact c2
                · exact c3
                · exact c4
                · exact c6
                )).trans (by decide)]
            cases hm
            exact hret 122 _ dc_Re_tellLaw_122
def mm_Pl_addAct : ia_M := (⟨"IceStreet$Plan", "addAct", "(IIII)V"⟩, prog_7_method_3_code, 5, none, 6, false)
theorem ok_Pl_addAct : ia_mok mm_Pl_addAct := ⟨by decide +kernel, by decide +kernel, by decide +kernel, by decide +kernel⟩
theorem mk_Pl_addAct : ia_mkn mm_Pl_addAct 1 4 := ⟨ia_tb_in (List.mem_of_getElem? (i := 952) (by decide +kernel)) rfl, ia_tb_in (List.mem_of_getElem? (i := 138) (by decide +kernel)) rfl, by decide +kernel, by decide +kernel, ⟨ia_tb_in (List.mem_of_getElem? (i := 950) (by decide +kernel)) rfl, ia_tb_in (List.mem_of_getElem? (i := 951) (by decide +kernel)) rfl⟩⟩
theorem ck_Pl_addAct_0 : ia_cks 6 5 false prog_7_method_3_code 0 [(.aload_n 0, 0, 0, 0, 0), (.getfield 24, 6, 0, 0, 0), (.bipush 30, 0, 0, 0, 0), (.if_icmp .ge 54, 0, 0, 0, 0)] = true := by decide +kernel
theorem ck_Pl_addAct_9 : ia_cks 6 5 false prog_7_method_3_code 9 [(.aload_n 0, 0, 0, 0, 0), (.getfield 9, 6, 1, 3, 1), (.aload_n 0, 0, 0, 0, 0), (.getfield 24, 6, 0, 0, 0), (.iload_n 1, 0, 0, 0, 0), (.iastore, 0, 0, 0, 0), (.aload_n 0, 0, 0, 0, 0), (.getfield 15, 6, 2, 3, 2), (.aload_n 0, 0, 0, 0, 0), (.getfield 24, 6, 0, 0, 0), (.iload_n 2, 0, 0, 0, 0), (.iastore, 0, 0, 0, 0), (.aload_n 0, 0, 0, 0, 0), (.getfield 18, 6, 3, 3, 3), (.aload_n 0, 0, 0, 0, 0), (.getfield 24, 6, 0, 0, 0), (.iload_n 3, 0, 0, 0, 0), (.iastore, 0, 0, 0, 0), (.aload_n 0, 0, 0, 0, 0), (.getfield 21, 6, 4, 3, 4), (.aload_n 0, 0, 0, 0, 0), (.getfield 24, 6, 0, 0, 0), (.iload 4, 0, 0, 0, 0), (.iastore, 0, 0, 0, 0), (.aload_n 0, 0, 0, 0, 0), (.dup, 0, 0, 0, 0), (.getfield 24, 6, 0, 0, 0), (.iconst 1, 0, 0, 0, 0), (.iadd, 0, 0, 0, 0), (.putfield 24, 6, 0, 0, 0)] = true := by decide +kernel
theorem dc_Pl_addAct_60 : decode prog_7_method_3_code 60 = .ok (.return_, 1) := by decide +kernel
def f_Pl_addAct (a0 : Nat) (x1 : Int32) (x2 : Int32) (x3 : Int32) (x4 : Int32) (h : ia_H) : Option ia_H := if 30 ≤ (ia_i h a0 0) then (some h) else (ia_gd (ia_ib (ia_i h a0 0) 30) (ia_gd (ia_ib (ia_i (ia_wI h (a0 + 1) ((ia_i h a0 0).toNatClampNeg) x1) a0 0) 30) (ia_gd (ia_ib (ia_i (ia_wI (ia_wI h (a0 + 1) ((ia_i h a0 0).toNatClampNeg) x1) (a0 + 2) ((ia_i (ia_wI h (a0 + 1) ((ia_i h a0 0).toNatClampNeg) x1) a0 0).toNatClampNeg) x2) a0 0) 30) (ia_gd (ia_ib (ia_i (ia_wI (ia_wI (ia_wI h (a0 + 1) ((ia_i h a0 0).toNatClampNeg) x1) (a0 + 2) ((ia_i (ia_wI h (a0 + 1) ((ia_i h a0 0).toNatClampNeg) x1) a0 0).toNatClampNeg) x2) (a0 + 3) ((ia_i (ia_wI (ia_wI h (a0 + 1) ((ia_i h a0 0).toNatClampNeg) x1) (a0 + 2) ((ia_i (ia_wI h (a0 + 1) ((ia_i h a0 0).toNatClampNeg) x1) a0 0).toNatClampNeg) x2) a0 0).toNatClampNeg) x3) a0 0) 30) (some (ia_wI (ia_wI (ia_wI (ia_wI (ia_wI h (a0 + 1) ((ia_i h a0 0).toNatClampNeg) x1) (a0 + 2) ((ia_i (ia_wI h (a0 + 1) ((ia_i h a0 0).toNatClampNeg) x1) a0 0).toNatClampNeg) x2) (a0 + 3) ((ia_i (ia_wI (ia_wI h (a0 + 1) ((ia_i h a0 0).toNatClampNeg) x1) (a0 + 2) ((ia_i (ia_wI h (a0 + 1) ((ia_i h a0 0).toNatClampNeg) x1) a0 0).toNatClampNeg) x2) a0 0).toNatClampNeg) x3) (a0 + 4) ((ia_i (ia_wI (ia_wI (ia_wI h (a0 + 1) ((ia_i h a0 0).toNatClampNeg) x1) (a0 + 2) ((ia_i (ia_wI h (a0 + 1) ((ia_i h a0 0).toNatClampNeg) x1) a0 0).toNatClampNeg) x2) (a0 + 3) ((ia_i (ia_wI (ia_wI h (a0 + 1) ((ia_i h a0 0).toNatClampNeg) x1) (a0 + 2) ((ia_i (ia_wI h (a0 + 1) ((ia_i h a0 0).toNatClampNeg) x1) a0 0).toNatClampNeg) x2) a0 0).toNatClampNeg) x3) a0 0).toNatClampNeg) x4) a0 0 ((ia_i (ia_wI (ia_wI (ia_wI (ia_wI h (a0 + 1) ((ia_i h a0 0).toNatClampNeg) x1) (a0 + 2) ((ia_i (ia_wI h (a0 + 1) ((ia_i h a0 0).toNatClampNeg) x1) a0 0).toNatClampNeg) x2) (a0 + 3) ((ia_i (ia_wI (ia_wI h (a0 + 1) ((ia_i h a0 0).toNatClampNeg) x1) (a0 + 2) ((ia_i (ia_wI h (a0 + 1) ((ia_i h a0 0).toNatClampNeg) x1) a0 0).toNatClampNeg) x2) a0 0).toNatClampNeg) x3) (a0 + 4) ((ia_i (ia_wI (ia_wI (ia_wI h (a0 + 1) ((ia_i h a0 0).toNatClampNeg) x1) (a0 + 2) ((ia_i (ia_wI h (a0 + 1) ((ia_i h a0 0).toNatClampNeg) x1) a0 0).toNatClampNeg) x2) (a0 + 3) ((ia_i (ia_wI (ia_wI h (a0 + 1) ((ia_i h a0 0).toNatClampNeg) x1) (a0 + 2) ((ia_i (ia_wI h (a0 + 1) ((ia_i h a0 0).toNatClampNeg) x1) a0 0).toNatClampNeg) x2) a0 0).toNatClampNeg) x3) a0 0).toNatClampNeg) x4) a0 0) + 1)))))))
theorem g_Pl_addAct {a0 : Nat} {x1 : Int32} {x2 : Int32} {x3 : Int32} {x4 : Int32} {h : ia_H} (hg : gd_ h) (p0 : (kd_D a0).1 = 6) {q : ia_H} (hm : f_Pl_addAct a0 x1 x2 x3 x4 h = some q) : gd_ q := by
  obtain ⟨h1, e1⟩ : ∃ x, x = q := ⟨_, rfl⟩
  subst e1
  unfold f_Pl_addAct at hm
  by_cases c : 30 ≤ (ia_i h a0 0)
  · replace hm := ia_ifp hm c
    cases hm
    exact hg
  · replace hm := ia_ifn hm c
    obtain ⟨c1, hm⟩ := ia_gd_some hm
    obtain ⟨c2, hm⟩ := ia_gd_some hm
    obtain ⟨c3, hm⟩ := ia_gd_some hm
    obtain ⟨c4, hm⟩ := ia_gd_some hm
    cases hm
    exact (gd_wI (gd_wI (gd_wI (gd_wI (gd_wI hg)))))
theorem t_Pl_addAct (d : Nat) {a0 : Nat} {x1 : Int32} {x2 : Int32} {x3 : Int32} {x4 : Int32} {h : ia_H} (hg : gd_ h) (p0 : (kd_D a0).1 = 6) {q : ia_H} (hm : f_Pl_addAct a0 x1 x2 x3 x4 h = some q) : ia_Ev (d + 0) mm_Pl_addAct [.inr (.inr a0), .inl x1, .inl x2, .inl x3, .inl x4] h none q := by
  have gq := g_Pl_addAct hg p0 hm
  refine ia_Ev_intro ok_Pl_addAct (gd_le hg gq).1 (gd_le hg gq).2 (Nat.le_of_ble_eq_true rfl) (fun K hK hret => ?_)
  obtain ⟨h1, e1⟩ : ∃ x, x = q := ⟨_, rfl⟩
  subst e1
  show K 0 [some (.inr (.inr a0)), some (.inl x1), some (.inl x2), some (.inl x3), some (.inl x4)] [] h
  unfold f_Pl_addAct at hm
  refine ia_go hK ck_Pl_addAct_0 ⟨gk_6 hg p0, fun c => ?_, fun c => ?_⟩
  · replace hm := ia_ifp hm c
    show K 60 [some (.inr (.inr a0)), some (.inl x1), some (.inl x2), some (.inl x3), some (.inl x4)] [] h
    cases hm
    exact hret 60 _ dc_Pl_addAct_60
  · replace hm := ia_ifn hm c
    show K 9 [some (.inr (.inr a0)), some (.inl x1), some (.inl x2), some (.inl x3), some (.inl x4)] [] h
    obtain ⟨c1, hm⟩ := ia_gd_some hm
    obtain ⟨c2, hm⟩ := ia_gd_some hm
    obtain ⟨c3, hm⟩ := ia_gd_some hm
    obtain ⟨c4, hm⟩ := ia_gd_some hm
    refine ia_go hK ck_Pl_addAct_9 ⟨gk_6 hg p0, gr_6_1 hg p0, gk_6 hg p0, ga_s100 hg (ka_6_1 p0) c1, gk_6 (gd_wI hg) p0, gr_6_2 (gd_wI hg) p0, gk_6 (gd_wI hg) p0, ga_s100 (gd_wI hg) (ka_6_2 p0) c2, gk_6 (gd_wI (gd_wI hg)) p0, gr_6_3 (gd_wI (gd_wI hg)) p0, gk_6 (gd_wI (gd_wI hg)) p0, ga_s100 (gd_wI (gd_wI hg)) (ka_6_3 p0) c3, gk_6 (gd_wI (gd_wI (gd_wI hg))) p0, gr_6_4 (gd_wI (gd_wI (gd_wI hg))) p0, gk_6 (gd_wI (gd_wI (gd_wI hg))) p0, ga_s100 (gd_wI (gd_wI (gd_wI hg))) (ka_6_4 p0) c4, gk_6 (gd_wI (gd_wI (gd_wI (gd_wI hg)))) p0, gk_6 (gd_wI (gd_wI (gd_wI (gd_wI hg)))) p0, ?_⟩
    show K 60 [some (.inr (.inr a0)), some (.inl x1), some (.inl x2), some (.inl x3), some (.inl x4)] [] (ia_wI (ia_wI (ia_wI (ia_wI (ia_wI h (a0 + 1) ((ia_i h a0 0).toNatClampNeg) x1) (a0 + 2) ((ia_i (ia_wI h (a0 + 1) ((ia_i h a0 0).toNatClampNeg) x1) a0 0).toNatClampNeg) x2) (a0 + 3) ((ia_i (ia_wI (ia_wI h (a0 + 1) ((ia_i h a0 0).toNatClampNeg) x1) (a0 + 2) ((ia_i (ia_wI h (a0 + 1) ((ia_i h a0 0).toNatClampNeg) x1) a0 0).toNatClampNeg) x2) a0 0).toNatClampNeg) x3) (a0 + 4) ((ia_i (ia_wI (ia_wI (ia_wI h (a0 + 1) ((ia_i h a0 0).toNatClampNeg) x1) (a0 + 2) ((ia_i (ia_wI h (a0 + 1) ((ia_i h a0 0).toNatClampNeg) x1) a0 0).toNatClampNeg) x2) (a0 + 3) ((ia_i (ia_wI (ia_wI h (a0 + 1) ((ia_i h a0 0).toNatClampNeg) x1) (a0 + 2) ((ia_i (ia_wI h (a0 + 1) ((ia_i h a0 0).toNatClampNeg) x1) a0 0).toNatClampNeg) x2) a0 0).toNatClampNeg) x3) a0 0).toNatClampNeg) x4) a0 0 ((ia_i (ia_wI (ia_wI (ia_wI (ia_wI h (a0 + 1) ((ia_i h a0 0).toNatClampNeg) x1) (a0 + 2) ((ia_i (ia_wI h (a0 + 1) ((ia_i h a0 0).toNatClampNeg) x1) a0 0).toNatClampNeg) x2) (a0 + 3) ((ia_i (ia_wI (ia_wI h (a0 + 1) ((ia_i h a0 0).toNatClampNeg) x1) (a0 + 2) ((ia_i (ia_wI h (a0 + 1) ((ia_i h a0 0).toNatClampNeg) x1) a0 0).toNatClampNeg) x2) a0 0).toNatClampNeg) x3) (a0 + 4) ((ia_i (ia_wI (ia_wI (ia_wI h (a0 + 1) ((ia_i h a0 0).toNatClampNeg) x1) (a0 + 2) ((ia_i (ia_wI h (a0 + 1) ((ia_i h a0 0).toNatClampNeg) x1) a0 0).toNatClampNeg) x2) (a0 + 3) ((ia_i (ia_wI (ia_wI h (a0 + 1) ((ia_i h a0 0).toNatClampNeg) x1) (a0 + 2) ((ia_i (ia_wI h (a0 + 1) ((ia_i h a0 0).toNatClampNeg) x1) a0 0).toNatClampNeg) x2) a0 0).toNatClampNeg) x3) a0 0).toNatClampNeg) x4) a0 0) + 1))
    cases hm
    exact hret 60 _ dc_Pl_addAct_60
def mm_La_cells : ia_M := (⟨"IceStreet$Lake", "cells", "()I"⟩, prog_4_method_4_code, 1, (some .int), 3, false)
theorem ok_La_cells : ia_mok mm_La_cells := ⟨by decide +kernel, by decide +kernel, by decide +kernel, by decide +kernel⟩
theorem mk_La_cells : ia_mkn mm_La_cells 1 0 := ⟨ia_tb_in (List.mem_of_getElem? (i := 960) (by decide +kernel)) rfl, ia_tb_in (List.mem_of_getElem? (i := 135) (by decide +kernel)) rfl, by decide +kernel, by decide +kernel, ⟨ia_tb_in (List.mem_of_getElem? (i := 958) (by decide +kernel)) rfl, ia_tb_in (List.mem_of_getElem? (i := 959) (by decide +kernel)) rfl⟩⟩
theorem ck_La_cells_0 : ia_cks 3 1 false prog_4_method_4_code 0 [(.aload_n 0, 0, 0, 0, 0), (.getfield 49, 3, 0, 0, 0), (.aload_n 0, 0, 0, 0, 0), (.getfield 53, 3, 1, 0, 0), (.imul, 0, 0, 0, 0)] = true := by decide +kernel
theorem dc_La_cells_9 : decode prog_4_method_4_code 9 = .ok (.ireturn, 1) := by decide +kernel
def f_La_cells (a0 : Nat) (h : ia_H) : Option Int32 := some ((ia_i h a0 0) * (ia_i h a0 1))
theorem t_La_cells (d : Nat) {a0 : Nat} {h : ia_H} (hg : gd_ h) (p0 : (kd_D a0).1 = 3) {r : Int32} (hm : f_La_cells a0 h = some r) : ia_Ev (d + 0) mm_La_cells [.inr (.inr a0)] h (some (.inl r)) h := by
  refine ia_Ev_intro ok_La_cells (Nat.le_refl _) (Nat.le_refl _) (Nat.le_of_ble_eq_true rfl) (fun K hK hret => ?_)
  show K 0 [some (.inr (.inr a0))] [] h
  unfold f_La_cells at hm
  refine ia_go hK ck_La_cells_0 ⟨gk_3 hg p0, gk_3 hg p0, ?_⟩
  show K 9 [some (.inr (.inr a0))] [.inl ((ia_i h a0 0) * (ia_i h a0 1))] h
  cases hm
  exact hret 9 _ dc_La_cells_9
def mm_La_steps : ia_M := (⟨"IceStreet$Lake", "steps", "(II)I"⟩, prog_4_method_9_code, 4, (some .int), 3, false)
theorem ok_La_steps : ia_mok mm_La_steps := ⟨by decide +kernel, by decide +kernel, by decide +kernel, by decide +kernel⟩
theorem mk_La_steps : ia_mkn mm_La_steps 1 2 := ⟨ia_tb_in (List.mem_of_getElem? (i := 964) (by decide +kernel)) rfl, ia_tb_in (List.mem_of_getElem? (i := 135) (by decide +kernel)) rfl, by decide +kernel, by decide +kernel, ⟨ia_tb_in (List.mem_of_getElem? (i := 962) (by decide +kernel)) rfl, ia_tb_in (List.mem_of_getElem? (i := 963) (by decide +kernel)) rfl⟩⟩
theorem ck_La_steps_0 : ia_cks 3 4 false prog_4_method_9_code 0 [(.aload_n 0, 0, 0, 0, 0), (.getfield 49, 3, 0, 0, 0), (.iconst 1, 0, 0, 0, 0), (.if_icmp .ge 7, 0, 0, 0, 0)] = true := by decide +kernel
theorem ck_La_steps_12 : ia_cks 3 4 false prog_4_method_9_code 12 [(.aload_n 0, 0, 0, 0, 0), (.getfield 49, 3, 0, 0, 0)] = true := by decide +kernel
theorem ck_La_steps_16 : ia_cks 3 4 false prog_4_method_9_code 16 [(.istore_n 3, 0, 0, 0, 0), (.iload_n 1, 0, 0, 0, 0), (.iload_n 3, 0, 0, 0, 0), (.irem, 0, 0, 0, 0), (.iload_n 2, 0, 0, 0, 0), (.iload_n 3, 0, 0, 0, 0), (.irem, 0, 0, 0, 0), (.isub, 0, 0, 0, 0)] = true := by decide +kernel
theorem ck_La_steps_27 : ia_cks 3 4 false prog_4_method_9_code 27 [(.iload_n 1, 0, 0, 0, 0), (.iload_n 3, 0, 0, 0, 0), (.idiv, 0, 0, 0, 0), (.iload_n 2, 0, 0, 0, 0), (.iload_n 3, 0, 0, 0, 0), (.idiv, 0, 0, 0, 0), (.isub, 0, 0, 0, 0)] = true := by decide +kernel
theorem ck_La_steps_37 : ia_cks 3 4 false prog_4_method_9_code 37 [(.iadd, 0, 0, 0, 0)] = true := by decide +kernel
theorem ck_La_steps_8 : ia_cks 3 4 false prog_4_method_9_code 8 [(.iconst 1, 0, 0, 0, 0), (.goto 7, 0, 0, 0, 0)] = true := by decide +kernel
theorem dc_La_steps_24 : decode prog_4_method_9_code 24 = .ok (.invokestatic 94, 3) := by decide +kernel
theorem dc_La_steps_34 : decode prog_4_method_9_code 34 = .ok (.invokestatic 94, 3) := by decide +kernel
theorem dc_La_steps_38 : decode prog_4_method_9_code 38 = .ok (.ireturn, 1) := by decide +kernel
def j_La_steps_16 (a0 : Nat) (x1 : Int32) (x2 : Int32) (h : ia_H) (s0 : Int32) : Option Int32 := ia_gd (ia_nz s0) (ia_gd (ia_nz s0) (ia_gd (ia_nz s0) (ia_gd (ia_nz s0) (some ((ia_abs ((x1 - x1 / s0 * s0) - (x2 - x2 / s0 * s0))) + (ia_abs ((x1 / s0) - (x2 / s0))))))))
theorem tj_La_steps_16 {d N1 W1 : Nat} {K : ia_K} (hK : ia_isK (d + 0) mm_La_steps N1 W1 K) {a0 : Nat} {x1 : Int32} {x2 : Int32} {h : ia_H} (hg : gd_ h) (p0 : (kd_D a0).1 = 3) {r : Int32} (hret : ∀ (pc : Nat) (lv : ia_L), ia_ret mm_La_steps pc (some (.inl r)) → K pc lv ((some (.inl r)) : Option ia_V).toList h) : ∀ (s0 : Int32), j_La_steps_16 a0 x1 x2 h s0 = some r → K 16 [none, some (.inl x1), some (.inl x2), none] [.inl s0] h := by
  intro s0 hm
  unfold j_La_steps_16 at hm
  obtain ⟨c1, hm⟩ := ia_gd_some hm
  obtain ⟨c2, hm⟩ := ia_gd_some hm
  refine ia_go hK ck_La_steps_16 ⟨ia_nz_spec c1, ia_nz_spec c2, ?_⟩
  show K 24 [none, some (.inl x1), some (.inl x2), some (.inl s0)] [.inl ((x1 - x1 / s0 * s0) - (x2 - x2 / s0 * s0))] h
  refine ia_mabs hK (ia_tb_in (List.mem_of_getElem? (i := 965) (by decide +kernel)) rfl) dc_La_steps_24 (Nat.le_of_ble_eq_true rfl) ?_
  show K 27 [none, some (.inl x1), some (.inl x2), some (.inl s0)] [.inl (ia_abs ((x1 - x1 / s0 * s0) - (x2 - x2 / s0 * s0)))] h
  obtain ⟨c3, hm⟩ := ia_gd_some hm
  obtain ⟨c4, hm⟩ := ia_gd_some hm
  refine ia_go hK ck_La_steps_27 ⟨ia_nz_spec c3, ia_nz_spec c4, ?_⟩
  show K 34 [none, some (.inl x1), some (.inl x2), some (.inl s0)] [.inl ((x1 / s0) - (x2 / s0)), .inl (ia_abs ((x1 - x1 / s0 * s0) - (x2 - x2 / s0 * s0)))] h
  refine ia_mabs hK (ia_tb_in (List.mem_of_getElem? (i := 965) (by decide +kernel)) rfl) dc_La_steps_34 (Nat.le_of_ble_eq_true rfl) ?_
  show K 37 [none, some (.inl x1), some (.inl x2), some (.inl s0)] [.inl (ia_abs ((x1 / s0) - (x2 / s0))), .inl (ia_abs ((x1 - x1 / s0 * s0) - (x2 - x2 / s0 * s0)))] h
  refine ia_go hK ck_La_steps_37 ?_
  show K 38 [none, some (.inl x1), some (.inl x2), some (.inl s0)] [.inl ((ia_abs ((x1 - x1 / s0 * s0) - (x2 - x2 / s0 * s0))) + (ia_abs ((x1 / s0) - (x2 / s0))))] h
  cases hm
  exact hret 38 _ dc_La_steps_38
def f_La_steps (a0 : Nat) (x1 : Int32) (x2 : Int32) (h : ia_H) : Option Int32 := if 1 ≤ (ia_i h a0 0) then (j_La_steps_16 a0 x1 x2 h (ia_i h a0 0)) else (j_La_steps_16 a0 x1 x2 h 1)
theorem t_La_steps (d : Nat) {a0 : Nat} {x1 : Int32} {x2 : Int32} {h : ia_H} (hg : gd_ h) (p0 : (kd_D a0).1 = 3) {r : Int32} (hm : f_La_steps a0 x1 x2 h = some r) : ia_Ev (d + 0) mm_La_steps [.inr (.inr a0), .inl x1, .inl x2] h (some (.inl r)) h := by
  refine ia_Ev_intro ok_La_steps (Nat.le_refl _) (Nat.le_refl _) (Nat.le_of_ble_eq_true rfl) (fun K hK hret => ?_)
  show K 0 [some (.inr (.inr a0)), some (.inl x1), some (.inl x2), none] [] h
  unfold f_La_steps at hm
  refine ia_go hK ck_La_steps_0 ⟨gk_3 hg p0, fun c => ?_, fun c => ?_⟩
  · replace hm := ia_ifp hm c
    show K 12 [some (.inr (.inr a0)), some (.inl x1), some (.inl x2), none] [] h
    refine ia_go hK ck_La_steps_12 ⟨gk_3 hg p0, ?_⟩
    show K 16 [some (.inr (.inr a0)), some (.inl x1), some (.inl x2), none] [.inl (ia_i h a0 0)] h
    refine ia_fg hK (lv' := [none, some (.inl x1), some (.inl x2), none]) ⟨rfl, rfl, trivial⟩ ?_
    exact tj_La_steps_16 hK hg p0 hret (ia_i h a0 0) hm
  · replace hm := ia_ifn hm c
    show K 8 [some (.inr (.inr a0)), some (.inl x1), some (.inl x2), none] [] h
    refine ia_go hK ck_La_steps_8 ?_
    show K 16 [some (.inr (.inr a0)), some (.inl x1), some (.inl x2), none] [.inl 1] h
    refine ia_fg hK (lv' := [none, some (.inl x1), some (.inl x2), none]) ⟨rfl, rfl, trivial⟩ ?_
    exact tj_La_steps_16 hK hg p0 hret 1 hm
def mm_La_isAmiss : ia_M := (⟨"IceStreet$Lake", "isAmiss", "()Z"⟩, prog_4_method_11_code, 3, (some .boolean), 3, false)
theorem ok_La_isAmiss : ia_mok mm_La_isAmiss := ⟨by decide +kernel, by decide +kernel, by decide +kernel, by decide +kernel⟩
theorem mk_La_isAmiss : ia_mkn mm_La_isAmiss 1 0 := ⟨ia_tb_in (List.mem_of_getElem? (i := 956) (by decide +kernel)) rfl, ia_tb_in (List.mem_of_getElem? (i := 135) (by decide +kernel)) rfl, by decide +kernel, by decide +kernel, ⟨ia_tb_in (List.mem_of_getElem? (i := 954) (by decide +kernel)) rfl, ia_tb_in (List.mem_of_getElem? (i := 955) (by decide +kernel)) rfl⟩⟩
theorem ck_La_isAmiss_0 : ia_cks 3 3 false prog_4_method_11_code 0 [(.aload_n 0, 0, 0, 0, 0), (.getfield 72, 3, 8, 1, 0), (.aload_n 0, 0, 0, 0, 0)] = true := by decide +kernel
theorem ck_La_isAmiss_8 : ia_cks 3 3 false prog_4_method_11_code 8 [(.lushr, 0, 0, 0, 0), (.lconst 0, 0, 0, 0, 0), (.lcmp, 0, 0, 0, 0), (.ifCond .eq 5, 0, 0, 0, 0)] = true := by decide +kernel
theorem ck_La_isAmiss_16 : ia_cks 3 3 false prog_4_method_11_code 16 [(.iconst 0, 0, 0, 0, 0), (.istore_n 1, 0, 0, 0, 0)] = true := by decide +kernel
theorem ck_La_isAmiss_18 : ia_cks 3 3 false prog_4_method_11_code 18 [(.iload_n 1, 0, 0, 0, 0), (.bipush 36, 0, 0, 0, 0), (.if_icmp .ge 47, 0, 0, 0, 0)] = true := by decide +kernel
theorem ck_La_isAmiss_24 : ia_cks 3 3 false prog_4_method_11_code 24 [(.iconst 0, 0, 0, 0, 0), (.istore_n 2, 0, 0, 0, 0)] = true := by decide +kernel
theorem ck_La_isAmiss_26 : ia_cks 3 3 false prog_4_method_11_code 26 [(.iload_n 2, 0, 0, 0, 0), (.iload_n 1, 0, 0, 0, 0), (.if_icmp .ge 34, 0, 0, 0, 0)] = true := by decide +kernel
theorem ck_La_isAmiss_31 : ia_cks 3 3 false prog_4_method_11_code 31 [(.aload_n 0, 0, 0, 0, 0), (.getfield 21, 3, 6, 3, 4), (.iload_n 1, 0, 0, 0, 0), (.laload, 0, 0, 0, 0), (.iload_n 2, 0, 0, 0, 0)] = true := by decide +kernel
theorem ck_La_isAmiss_41 : ia_cks 3 3 false prog_4_method_11_code 41 [(.ifCond .eq 15, 0, 0, 0, 0)] = true := by decide +kernel
theorem ck_La_isAmiss_56 : ia_cks 3 3 false prog_4_method_11_code 56 [(.iinc 2 1, 0, 0, 0, 0), (.goto (-33), 0, 0, 0, 0)] = true := by decide +kernel
theorem ck_La_isAmiss_44 : ia_cks 3 3 false prog_4_method_11_code 44 [(.aload_n 0, 0, 0, 0, 0), (.iload_n 1, 0, 0, 0, 0), (.iload_n 2, 0, 0, 0, 0)] = true := by decide +kernel
theorem ck_La_isAmiss_50 : ia_cks 3 3 false prog_4_method_11_code 50 [(.iconst 1, 0, 0, 0, 0), (.if_icmp .eq 5, 0, 0, 0, 0)] = true := by decide +kernel
theorem ck_La_isAmiss_62 : ia_cks 3 3 false prog_4_method_11_code 62 [(.iinc 1 1, 0, 0, 0, 0), (.goto (-47), 0, 0, 0, 0)] = true := by decide +kernel
theorem ck_La_isAmiss_54 : ia_cks 3 3 false prog_4_method_11_code 54 [(.iconst 1, 0, 0, 0, 0)] = true := by decide +kernel
theorem ck_La_isAmiss_68 : ia_cks 3 3 false prog_4_method_11_code 68 [(.iconst 0, 0, 0, 0, 0), (.istore_n 1, 0, 0, 0, 0)] = true := by decide +kernel
theorem ck_La_isAmiss_70 : ia_cks 3 3 false prog_4_method_11_code 70 [(.iload_n 1, 0, 0, 0, 0), (.aload_n 0, 0, 0, 0, 0), (.getfield 78, 3, 11, 0, 0), (.if_icmp .ge 39, 0, 0, 0, 0)] = true := by decide +kernel
theorem ck_La_isAmiss_78 : ia_cks 3 3 false prog_4_method_11_code 78 [(.iconst 0, 0, 0, 0, 0), (.istore_n 2, 0, 0, 0, 0)] = true := by decide +kernel
theorem ck_La_isAmiss_80 : ia_cks 3 3 false prog_4_method_11_code 80 [(.iload_n 2, 0, 0, 0, 0), (.iload_n 1, 0, 0, 0, 0), (.if_icmp .ge 26, 0, 0, 0, 0)] = true := by decide +kernel
theorem ck_La_isAmiss_85 : ia_cks 3 3 false prog_4_method_11_code 85 [(.aload_n 0, 0, 0, 0, 0), (.getfield 28, 3, 12, 3, 6), (.iload_n 1, 0, 0, 0, 0), (.iaload, 0, 0, 0, 0), (.aload_n 0, 0, 0, 0, 0), (.getfield 28, 3, 12, 3, 6), (.iload_n 2, 0, 0, 0, 0), (.iaload, 0, 0, 0, 0), (.if_icmp .ne 5, 0, 0, 0, 0)] = true := by decide +kernel
theorem ck_La_isAmiss_102 : ia_cks 3 3 false prog_4_method_11_code 102 [(.iinc 2 1, 0, 0, 0, 0), (.goto (-25), 0, 0, 0, 0)] = true := by decide +kernel
theorem ck_La_isAmiss_108 : ia_cks 3 3 false prog_4_method_11_code 108 [(.iinc 1 1, 0, 0, 0, 0), (.goto (-41), 0, 0, 0, 0)] = true := by decide +kernel
theorem ck_La_isAmiss_100 : ia_cks 3 3 false prog_4_method_11_code 100 [(.iconst 1, 0, 0, 0, 0)] = true := by decide +kernel
theorem ck_La_isAmiss_114 : ia_cks 3 3 false prog_4_method_11_code 114 [(.iconst 0, 0, 0, 0, 0)] = true := by decide +kernel
theorem ck_La_isAmiss_14 : ia_cks 3 3 false prog_4_method_11_code 14 [(.iconst 1, 0, 0, 0, 0)] = true := by decide +kernel
theorem dc_La_isAmiss_5 : decode prog_4_method_11_code 5 = .ok (.invokevirtual 100, 3) := by decide +kernel
theorem dc_La_isAmiss_38 : decode prog_4_method_11_code 38 = .ok (.invokestatic 104, 3) := by decide +kernel
theorem dc_La_isAmiss_47 : decode prog_4_method_11_code 47 = .ok (.invokevirtual 108, 3) := by decide +kernel
theorem dc_La_isAmiss_55 : decode prog_4_method_11_code 55 = .ok (.ireturn, 1) := by decide +kernel
theorem dc_La_isAmiss_101 : decode prog_4_method_11_code 101 = .ok (.ireturn, 1) := by decide +kernel
theorem dc_La_isAmiss_115 : decode prog_4_method_11_code 115 = .ok (.ireturn, 1) := by decide +kernel
theorem dc_La_isAmiss_15 : decode prog_4_method_11_code 15 = .ok (.ireturn, 1) := by decide +kernel
def l_La_isAmiss_26 (a0 : Nat) (h : ia_H) (k54 : Option Int32) (k62 : Int32 → Option Int32) (n : Nat) (x1 : Int32) (x2 : Int32) : Option Int32 := match n with
  | 0 => none
  | n + 1 => if x1 ≤ x2 then (k62 x1) else (ia_gd (ia_ib x1 36) ((f_I_hasBit (ia_l h (a0 + 4) ((x1).toNatClampNeg)) x2 h).bind fun v3 => (if v3 = 0 then (l_La_isAmiss_26 a0 h k54 k62 n x1 (x2 + 1)) else ((f_La_steps a0 x1 x2 h).bind fun v4 => (if v4 = 1 then (l_La_isAmiss_26 a0 h k54 k62 n x1 (x2 + 1)) else k54)))))
theorem tl_La_isAmiss_26 {d N1 W1 : Nat} {K : ia_K} (hK : ia_isK (d + 1) mm_La_isAmiss N1 W1 K) {a0 : Nat} {h : ia_H} (hg : gd_ h) (p0 : (kd_D a0).1 = 3) {r : Int32} (hret : ∀ (pc : Nat) (lv : ia_L), ia_ret mm_La_isAmiss pc (some (.inl r)) → K pc lv ((some (.inl r)) : Option ia_V).toList h) {k54 : Option Int32} {k62 : Int32 → Option Int32} (hk54 : k54 = some r → K 54 [none, none, none] [] h) (hk62 : ∀ (x1 : Int32), k62 x1 = some r → K 62 [some (.inr (.inr a0)), some (.inl x1), none] [] h) : ∀ (n : Nat) (x1 : Int32) (x2 : Int32), l_La_isAmiss_26 a0 h k54 k62 n x1 x2 = some r → K 26 [some (.inr (.inr a0)), some (.inl x1), some (.inl x2)] [] h := by
  intro n
  induction n with
  | zero =>
    intro x1 x2 hm
    cases (show (none : Option Int32) = some _ from hm)
  | succ n ih =>
    intro x1 x2 hm
    rw [l_La_isAmiss_26] at hm
    refine ia_go hK ck_La_isAmiss_26 ⟨fun c => ?_, fun c => ?_⟩
    · replace hm := ia_ifp hm c
      show K 62 [some (.inr (.inr a0)), some (.inl x1), some (.inl x2)] [] h
      refine ia_fg hK (lv' := [some (.inr (.inr a0)), some (.inl x1), none]) ⟨rfl, rfl, trivial⟩ ?_
      exact hk62 x1 hm
    · replace hm := ia_ifn hm c
      show K 31 [some (.inr (.inr a0)), some (.inl x1), some (.inl x2)] [] h
      obtain ⟨c2, hm⟩ := ia_gd_some hm
      refine ia_go hK ck_La_isAmiss_31 ⟨gk_3 hg p0, gr_3_6 hg p0, ga_s103 hg (ka_3_6 p0) c2, ?_⟩
      show K 38 [some (.inr (.inr a0)), some (.inl x1), some (.inl x2)] [.inl x2, .inr (.inl (ia_l h (a0 + 4) ((x1).toNatClampNeg)))] h
      obtain ⟨v3, hv3, hm⟩ := ia_bnd hm
      have ev3 := t_I_hasBit (d + 0) hg hv3
      refine ia_cS hK mk_I_hasBit lk_3_104 dc_La_isAmiss_38 [.inr (.inl (ia_l h (a0 + 4) ((x1).toNatClampNeg))), .inl x2] [] rfl rfl (Nat.le_of_ble_eq_true rfl) ev3 ⟨rfl, rfl⟩ ?_
      show K 41 [some (.inr (.inr a0)), some (.inl x1), some (.inl x2)] [.inl v3] h
      refine ia_go hK ck_La_isAmiss_41 ⟨fun c => ?_, fun c => ?_⟩
      · replace hm := ia_ifp hm c
        show K 56 [some (.inr (.inr a0)), some (.inl x1), some (.inl x2)] [] h
        refine ia_go hK ck_La_isAmiss_56 ?_
        show K 26 [some (.inr (.inr a0)), some (.inl x1), some (.inl (x2 + 1))] [] h
        exact ih x1 (x2 + 1) hm
      · replace hm := ia_ifn hm c
        show K 44 [some (.inr (.inr a0)), some (.inl x1), some (.inl x2)] [] h
        refine ia_go hK ck_La_isAmiss_44 ?_
        show K 47 [some (.inr (.inr a0)), some (.inl x1), some (.inl x2)] [.inl x2, .inl x1, .inr (.inr a0)] h
        obtain ⟨v4, hv4, hm⟩ := ia_bnd hm
        have ev4 := t_La_steps (d + 0) hg p0 hv4
        refine ia_cV hK mk_La_steps lk_3_108 dc_La_isAmiss_47 a0 [.inl x1, .inl x2] [] rfl rfl (Nat.le_of_ble_eq_true rfl) (by decide) rfl (gk_3 hg p0) ev4 ⟨rfl, rfl⟩ ?_
        show K 50 [some (.inr (.inr a0)), some (.inl x1), some (.inl x2)] [.inl v4] h
        refine ia_go hK ck_La_isAmiss_50 ⟨fun c => ?_, fun c => ?_⟩
        · replace hm := ia_ifp hm c
          show K 56 [some (.inr (.inr a0)), some (.inl x1), some (.inl x2)] [] h
          refine ia_go hK ck_La_isAmiss_56 ?_
          show K 26 [some (.inr (.inr a0)), some (.inl x1), some (.inl (x2 + 1))] [] h
          exact ih x1 (x2 + 1) hm
        · replace hm := ia_ifn hm c
          show K 54 [some (.inr (.inr a0)), some (.inl x1), some (.inl x2)] [] h
          refine ia_fg hK (lv' := [none, none, none]) trivial ?_
          exact hk54 hm
def l_La_isAmiss_18 (a0 : Nat) (h : ia_H) (k54 : Option Int32) (k68 : Option Int32) (n : Nat) (x1 : Int32) : Option Int32 := match n with
  | 0 => none
  | n + 1 => if 36 ≤ x1 then k68 else (l_La_isAmiss_26 a0 h k54 (fun x1 => l_La_isAmiss_18 a0 h k54 k68 n (x1 + 1)) fu_ x1 0)
theorem tl_La_isAmiss_18 {d N1 W1 : Nat} {K : ia_K} (hK : ia_isK (d + 1) mm_La_isAmiss N1 W1 K) {a0 : Nat} {h : ia_H} (hg : gd_ h) (p0 : (kd_D a0).1 = 3) {r : Int32} (hret : ∀ (pc : Nat) (lv : ia_L), ia_ret mm_La_isAmiss pc (some (.inl r)) → K pc lv ((some (.inl r)) : Option ia_V).toList h) {k54 : Option Int32} {k68 : Option Int32} (hk54 : k54 = some r → K 54 [none, none, none] [] h) (hk68 : k68 = some r → K 68 [some (.inr (.inr a0)), none, none] [] h) : ∀ (n : Nat) (x1 : Int32), l_La_isAmiss_18 a0 h k54 k68 n x1 = some r → K 18 [some (.inr (.inr a0)), some (.inl x1), none] [] h := by
  intro n
  induction n with
  | zero =>
    intro x1 hm
    cases (show (none : Option Int32) = some _ from hm)
  | succ n ih =>
    intro x1 hm
    rw [l_La_isAmiss_18] at hm
    refine ia_go hK ck_La_isAmiss_18 ⟨fun c => ?_, fun c => ?_⟩
    · replace hm := ia_ifp hm c
      show K 68 [some (.inr (.inr a0)), some (.inl x1), none] [] h
      refine ia_fg hK (lv' := [some (.inr (.inr a0)), none, none]) ⟨rfl, trivial⟩ ?_
      exact hk68 hm
    · replace hm := ia_ifn hm c
      show K 24 [some (.inr (.inr a0)), some (.inl x1), none] [] h
      refine ia_go hK ck_La_isAmiss_24 ?_
      show K 26 [some (.inr (.inr a0)), some (.inl x1), some (.inl 0)] [] h
      refine tl_La_isAmiss_26 hK hg p0 hret ?_ ?_ fu_ x1 0 hm
      · exact hk54
      · intro x1 hm
        refine ia_go hK ck_La_isAmiss_62 ?_
        show K 18 [some (.inr (.inr a0)), some (.inl (x1 + 1)), none] [] h
        exact ih (x1 + 1) hm
def l_La_isAmiss_80 (a0 : Nat) (h : ia_H) (k100 : Option Int32) (k108 : Int32 → Option Int32) (n : Nat) (x1 : Int32) (x2 : Int32) : Option Int32 := match n with
  | 0 => none
  | n + 1 => if x1 ≤ x2 then (k108 x1) else (ia_gd (ia_ib x1 6) (ia_gd (ia_ib x2 6) (if (ia_i h (a0 + 6) ((x1).toNatClampNeg)) = (ia_i h (a0 + 6) ((x2).toNatClampNeg)) then k100 else (l_La_isAmiss_80 a0 h k100 k108 n x1 (x2 + 1)))))
theorem tl_La_isAmiss_80 {d N1 W1 : Nat} {K : ia_K} (hK : ia_isK (d + 1) mm_La_isAmiss N1 W1 K) {a0 : Nat} {h : ia_H} (hg : gd_ h) (p0 : (kd_D a0).1 = 3) {r : Int32} (hret : ∀ (pc : Nat) (lv : ia_L), ia_ret mm_La_isAmiss pc (some (.inl r)) → K pc lv ((some (.inl r)) : Option ia_V).toList h) {k100 : Option Int32} {k108 : Int32 → Option Int32} (hk100 : k100 = some r → K 100 [none, none, none] [] h) (hk108 : ∀ (x1 : Int32), k108 x1 = some r → K 108 [some (.inr (.inr a0)), some (.inl x1), none] [] h) : ∀ (n : Nat) (x1 : Int32) (x2 : Int32), l_La_isAmiss_80 a0 h k100 k108 n x1 x2 = some r → K 80 [some (.inr (.inr a0)), some (.inl x1), some (.inl x2)] [] h := by
  intro n
  induction n with
  | zero =>
    intro x1 x2 hm
    cases (show (none : Option Int32) = some _ from hm)
  | succ n ih =>
    intro x1 x2 hm
    rw [l_La_isAmiss_80] at hm
    refine ia_go hK ck_La_isAmiss_80 ⟨fun c => ?_, fun c => ?_⟩
    · replace hm := ia_ifp hm c
      show K 108 [some (.inr (.inr a0)), some (.inl x1), some (.inl x2)] [] h
      refine ia_fg hK (lv' := [some (.inr (.inr a0)), some (.inl x1), none]) ⟨rfl, rfl, trivial⟩ ?_
      exact hk108 x1 hm
    · replace hm := ia_ifn hm c
      show K 85 [some (.inr (.inr a0)), some (.inl x1), some (.inl x2)] [] h
      obtain ⟨c5, hm⟩ := ia_gd_some hm
      obtain ⟨c6, hm⟩ := ia_gd_some hm
      refine ia_go hK ck_La_isAmiss_85 ⟨gk_3 hg p0, gr_3_12 hg p0, ga_i100 hg (ka_3_12 p0) c5, gk_3 hg p0, gr_3_12 hg p0, ga_i100 hg (ka_3_12 p0) c6, fun c => ?_, fun c => ?_⟩
      · replace hm := ia_ifn hm c
        show K 102 [some (.inr (.inr a0)), some (.inl x1), some (.inl x2)] [] h
        refine ia_go hK ck_La_isAmiss_102 ?_
        show K 80 [some (.inr (.inr a0)), some (.inl x1), some (.inl (x2 + 1))] [] h
        exact ih x1 (x2 + 1) hm
      · replace hm := ia_ifp hm c
        show K 100 [some (.inr (.inr a0)), some (.inl x1), some (.inl x2)] [] h
        refine ia_fg hK (lv' := [none, none, none]) trivial ?_
        exact hk100 hm
def l_La_isAmiss_70 (a0 : Nat) (h : ia_H) (k100 : Option Int32) (k114 : Option Int32) (n : Nat) (x1 : Int32) : Option Int32 := match n with
  | 0 => none
  | n + 1 => if (ia_i h a0 11) ≤ x1 then k114 else (l_La_isAmiss_80 a0 h k100 (fun x1 => l_La_isAmiss_70 a0 h k100 k114 n (x1 + 1)) fu_ x1 0)
theorem tl_La_isAmiss_70 {d N1 W1 : Nat} {K : ia_K} (hK : ia_isK (d + 1) mm_La_isAmiss N1 W1 K) {a0 : Nat} {h : ia_H} (hg : gd_ h) (p0 : (kd_D a0).1 = 3) {r : Int32} (hret : ∀ (pc : Nat) (lv : ia_L), ia_ret mm_La_isAmiss pc (some (.inl r)) → K pc lv ((some (.inl r)) : Option ia_V).toList h) {k100 : Option Int32} {k114 : Option Int32} (hk100 : k100 = some r → K 100 [none, none, none] [] h) (hk114 : k114 = some r → K 114 [none, none, none] [] h) : ∀ (n : Nat) (x1 : Int32), l_La_isAmiss_70 a0 h k100 k114 n x1 = some r → K 70 [some (.inr (.inr a0)), some (.inl x1), none] [] h := by
  intro n
  induction n with
  | zero =>
    intro x1 hm
    cases (show (none : Option Int32) = some _ from hm)
  | succ n ih =>
    intro x1 hm
    rw [l_La_isAmiss_70] at hm
    refine ia_go hK ck_La_isAmiss_70 ⟨gk_3 hg p0, fun c => ?_, fun c => ?_⟩
    · replace hm := ia_ifp hm c
      show K 114 [some (.inr (.inr a0)), some (.inl x1), none] [] h
      refine ia_fg hK (lv' := [none, none, none]) trivial ?_
      exact hk114 hm
    · replace hm := ia_ifn hm c
      show K 78 [some (.inr (.inr a0)), some (.inl x1), none] [] h
      refine ia_go hK ck_La_isAmiss_78 ?_
      show K 80 [some (.inr (.inr a0)), some (.inl x1), some (.inl 0)] [] h
      refine tl_La_isAmiss_80 hK hg p0 hret ?_ ?_ fu_ x1 0 hm
      · exact hk100
      · intro x1 hm
        refine ia_go hK ck_La_isAmiss_108 ?_
        show K 70 [some (.inr (.inr a0)), some (.inl (x1 + 1)), none] [] h
        exact ih (x1 + 1) hm
def f_La_isAmiss (a0 : Nat) (h : ia_H) : Option Int32 := (f_La_cells a0 h).bind fun v1 => (if (lg_cmp (((ia_l h a0 8).toUInt64 >>> (v1.toInt64.toUInt64 &&& Int64.toUInt64 63)).toInt64) 0) = 0 then (l_La_isAmiss_18 a0 h (some 1) (l_La_isAmiss_70 a0 h (some 1) (some 0) fu_ 0) fu_ 0) else (some 1))
theorem t_La_isAmiss (d : Nat) {a0 : Nat} {h : ia_H} (hg : gd_ h) (p0 : (kd_D a0).1 = 3) {r : Int32} (hm : f_La_isAmiss a0 h = some r) : ia_Ev (d + 1) mm_La_isAmiss [.inr (.inr a0)] h (some (.inl r)) h := by
  refine ia_Ev_intro ok_La_isAmiss (Nat.le_refl _) (Nat.le_refl _) (Nat.le_of_ble_eq_true rfl) (fun K hK hret => ?_)
  show K 0 [some (.inr (.inr a0)), none, none] [] h
  unfold f_La_isAmiss at hm
  refine ia_go hK ck_La_isAmiss_0 ⟨gk_3 hg p0, ?_⟩
  show K 5 [some (.inr (.inr a0)), none, none] [.inr (.inr a0), .inr (.inl (ia_l h a0 8))] h
  obtain ⟨v1, hv1, hm⟩ := ia_bnd hm
  have ev1 := t_La_cells (d + 0) hg p0 hv1
  refine ia_cV hK mk_La_cells lk_3_100 dc_La_isAmiss_5 a0 [] [.inr (.inl (ia_l h a0 8))] rfl rfl (Nat.le_of_ble_eq_true rfl) (by decide) rfl (gk_3 hg p0) ev1 ⟨rfl, rfl⟩ ?_
  show K 8 [some (.inr (.inr a0)), none, none] [.inl v1, .inr (.inl (ia_l h a0 8))] h
  refine ia_go hK ck_La_isAmiss_8 ⟨fun c => ?_, fun c => ?_⟩
  · replace hm := ia_ifp hm c
    show K 16 [some (.inr (.inr a0)), none, none] [] h
    refine ia_go hK ck_La_isAmiss_16 ?_
    show K 18 [some (.inr (.inr a0)), some (.inl 0), none] [] h
    refine tl_La_isAmiss_18 hK hg p0 hret ?_ ?_ fu_ 0 hm
    · intro hm
      refine ia_go hK ck_La_isAmiss_54 ?_
      show K 55 [none, none, none] [.inl 1] h
      cases hm
      exact hret 55 _ ⟨Or.inr rfl, dc_La_isAmiss_55⟩
    · intro hm
      refine ia_go hK ck_La_isAmiss_68 ?_
      show K 70 [some (.inr (.inr a0)), some (.inl 0), none] [] h
      refine tl_La_isAmiss_70 hK hg p0 hret ?_ ?_ fu_ 0 hm
      · intro hm
        refine ia_go hK ck_La_isAmiss_100 ?_
        show K 101 [none, none, none] [.inl 1] h
        cases hm
        exact hret 101 _ ⟨Or.inr rfl, dc_La_isAmiss_101⟩
      · intro hm
        refine ia_go hK ck_La_isAmiss_114 ?_
        show K 115 [none, none, none] [.inl 0] h
        cases hm
        exact hret 115 _ ⟨Or.inl rfl, dc_La_isAmiss_115⟩
  · replace hm := ia_ifn hm c
    show K 14 [some (.inr (.inr a0)), none, none] [] h
    refine ia_go hK ck_La_isAmiss_14 ?_
    show K 15 [some (.inr (.inr a0)), none, none] [.inl 1] h
    cases hm
    exact hret 15 _ ⟨Or.inr rfl, dc_La_isAmiss_15⟩
