/-! String constants: the methods -/
def sx_P2 (g : ia_G) (b n : Nat) (f : Nat → Int32) (U : State) : Prop := va_T .byte b n (fun j => .int (f j)) (ia_A g) U U.heap ∧ va_Zq "jdk/internal/util/Preconditions" "SIOOBE_FORMATTER" "Ljava/util/function/BiFunction;" (ia_A g) U U.heap
theorem sx_P2_move {g : ia_G} {a n : Nat} {f : Nat → Int32} {s U : State} (hv : s.vm.Alike U.vm) (hq : ∀ q : Nat, q < s.heap.size → ¬ ia_A g q → U.heap[q]? = s.heap[q]?) (h : sx_P2 g a n f s) : sx_P2 g a n f U := ⟨(h.1.moved hv).kept hq, (h.2.moved hv).kept hq⟩
theorem sx_blind2 {g : ia_G} {a n : Nat} {f : Nat → Int32} {as : List Value} : FrameBlind (va_Pc as (sx_P2 g a n f)) := by
  intro b U fr mk q
  exact ⟨q.1, sx_P2_move (s := U) (U := U.calling fr mk b) (Vm.Alike.refl U.vm) (fun _ _ _ => rfl) q.2⟩
section Sy
variable {p : Program} {l : Launch} {e : Env} {R : Room} {s : State} {m : MethodId} {args : Array Value} {below : List Frame} {meth : Method} {co : Code} {Q : State → Prop} {pc : Nat} {H : Heap} {locs : List Loc} {cells slots : Nat} {ls : Array Slot} {cc : ByteArray} {own : String} {nL : Nat}
theorem sx_cS {d n idx : Nat} {M' : ia_M} {As rest : List Value} {v : Option Value} {Pc : Array Value → State → Prop} (S : CallFix p m co cc nL s args ia_tb own) (hm : ia_mkn M' 0 n) (hl : Cond.methodLink own idx M'.1 ∈ ia_tb) (hd : decode cc pc = .ok (.invokestatic idx, 3)) (hMet : Met l M'.1 (ia_ws M') (ia_rm d 0 0) Pc (sx_Q v) 0 0 (fun _ => False)) (hpre : PreS s H Pc As) (hn : As.length = n) (hls : ls.size = nL) (hw : (rest.map fun v => v.category).sum ≤ 8) (hR1 : d + 2 ≤ R.frames) (hR2 : 64 * (d + 2) ≤ R.locals) (hc : cells ≤ R.cells ∧ slots ≤ R.slots)
    (kk : W p l e R s m args below meth co H locs cells slots Q (F0 m (pc + 3) ls (v.toList ++ rest))) : W p l e R s m args below meth co H locs cells slots Q (F0 m pc ls (As.reverse ++ rest)) := by
  obtain ⟨m1, m2, m3, m4, m5⟩ := hm
  have hroom : (ia_rm d 0 0).frames + 1 ≤ R.frames ∧ 8 + (M'.2.2.1 + 11) + (ia_rm d 0 0).locals ≤ R.locals := by
    simp only [ia_rm]
    omega
  exact sx_after (va_runS S hMet (va_cwS n S.2.2.2.2 (fun w hw => by
        rcases List.mem_append.mp hw with q | q
        · simp only [List.mem_cons, List.not_mem_nil, or_false] at q
          rcases q with rfl | rfl | rfl
          · exact ia_goodT hl
          · exact ia_goodT m5
          · exact ia_goodT m2
        · exact ia_goodW m1 w q) rfl rfl rfl m3 hroom) hpre rfl hn hls rfl (lv_room hw) hd ⟨hc.1, hc.2⟩) kk
theorem sx_cV {d n idx b : Nat} {M' : ia_M} {As rest : List Value} {v : Option Value} {Pc : Array Value → State → Prop} (S : CallFix p m co cc nL s args ia_tb own) (hm : ia_mkn M' 1 n) (hl : Cond.methodLink own idx M'.1 ∈ ia_tb) (hd : decode cc pc = .ok (.invokevirtual idx, 3)) (hMet : Met l M'.1 (ia_ws M') (ia_rm d 0 0) Pc (sx_Q v) 0 0 (fun _ => False)) (hpre : PreV s H M'.1.cls b Pc As) (hn : As.length = n) (hls : ls.size = nL) (hw : (rest.map fun v => v.category).sum ≤ 8) (hR1 : d + 2 ≤ R.frames) (hR2 : 64 * (d + 2) ≤ R.locals) (hc : cells ≤ R.cells ∧ slots ≤ R.slots)
    (kk : W p l e R s m args below meth co H locs cells slots Q (F0 m (pc + 3) ls (v.toList ++ rest))) : W p l e R s m args below meth co H locs cells slots Q (F0 m pc ls (As.reverse ++ .ref b :: rest)) := by
  obtain ⟨m1, m2, m3, m4, m5, m6⟩ := hm
  have hroom : (ia_rm d 0 0).frames + 1 ≤ R.frames ∧ 8 + (M'.2.2.1 + 11) + (ia_rm d 0 0).locals ≤ R.locals := by
    simp only [ia_rm]
    omega
  exact sx_after (va_runV S hMet (cwV n S.2.2.2.2 (fun w hw => by
        rcases List.mem_append.mp hw with q | q
        · simp only [List.mem_cons, List.not_mem_nil, or_false] at q
          rcases q with rfl | rfl | rfl | rfl
          · exact ia_goodT hl
          · exact ia_goodT m5
          · exact ia_goodT m6
          · exact ia_goodT m2
        · exact ia_goodW m1 w q) rfl rfl rfl ⟨rfl, m3⟩ hroom) hpre rfl hn hls rfl (lv_room hw) hd ⟨hc.1, hc.2⟩) kk
end Sy
theorem d_s_coder_0 : decode prog_17_method_152_code 0 = .ok (.getstatic 38, 3) := by decide +kernel
theorem d_s_coder_3 : decode prog_17_method_152_code 3 = .ok (.ifCond .eq 10, 3) := by decide +kernel
theorem d_s_coder_6 : decode prog_17_method_152_code 6 = .ok (.aload_n 0, 1) := by decide +kernel
theorem d_s_coder_7 : decode prog_17_method_152_code 7 = .ok (.getfield 15, 3) := by decide +kernel
theorem d_s_coder_10 : decode prog_17_method_152_code 10 = .ok (.goto 4, 3) := by decide +kernel
theorem d_s_coder_13 : decode prog_17_method_152_code 13 = .ok (.iconst 1, 1) := by decide +kernel
theorem d_s_coder_14 : decode prog_17_method_152_code 14 = .ok (.ireturn, 1) := by decide +kernel
theorem d_s_lat_0 : decode prog_17_method_154_code 0 = .ok (.getstatic 38, 3) := by decide +kernel
theorem d_s_lat_3 : decode prog_17_method_154_code 3 = .ok (.ifCond .eq 14, 3) := by decide +kernel
theorem d_s_lat_6 : decode prog_17_method_154_code 6 = .ok (.aload_n 0, 1) := by decide +kernel
theorem d_s_lat_7 : decode prog_17_method_154_code 7 = .ok (.getfield 15, 3) := by decide +kernel
theorem d_s_lat_10 : decode prog_17_method_154_code 10 = .ok (.ifCond .ne 7, 3) := by decide +kernel
theorem d_s_lat_13 : decode prog_17_method_154_code 13 = .ok (.iconst 1, 1) := by decide +kernel
theorem d_s_lat_14 : decode prog_17_method_154_code 14 = .ok (.goto 4, 3) := by decide +kernel
theorem d_s_lat_17 : decode prog_17_method_154_code 17 = .ok (.iconst 0, 1) := by decide +kernel
theorem d_s_lat_18 : decode prog_17_method_154_code 18 = .ok (.ireturn, 1) := by decide +kernel
theorem d_s_len_0 : decode prog_17_method_54_code 0 = .ok (.aload_n 0, 1) := by decide +kernel
theorem d_s_len_1 : decode prog_17_method_54_code 1 = .ok (.getfield 9, 3) := by decide +kernel
theorem d_s_len_4 : decode prog_17_method_54_code 4 = .ok (.arraylength, 1) := by decide +kernel
theorem d_s_len_5 : decode prog_17_method_54_code 5 = .ok (.aload_n 0, 1) := by decide +kernel
theorem d_s_len_6 : decode prog_17_method_54_code 6 = .ok (.invokevirtual 335, 3) := by decide +kernel
theorem d_s_len_9 : decode prog_17_method_54_code 9 = .ok (.ishr, 1) := by decide +kernel
theorem d_s_len_10 : decode prog_17_method_54_code 10 = .ok (.ireturn, 1) := by decide +kernel
theorem d_s_at_0 : decode prog_17_method_56_code 0 = .ok (.aload_n 0, 1) := by decide +kernel
theorem d_s_at_1 : decode prog_17_method_56_code 1 = .ok (.invokevirtual 492, 3) := by decide +kernel
theorem d_s_at_4 : decode prog_17_method_56_code 4 = .ok (.ifCond .eq 12, 3) := by decide +kernel
theorem d_s_at_7 : decode prog_17_method_56_code 7 = .ok (.aload_n 0, 1) := by decide +kernel
theorem d_s_at_8 : decode prog_17_method_56_code 8 = .ok (.getfield 9, 3) := by decide +kernel
theorem d_s_at_11 : decode prog_17_method_56_code 11 = .ok (.iload_n 1, 1) := by decide +kernel
theorem d_s_at_12 : decode prog_17_method_56_code 12 = .ok (.invokestatic 495, 3) := by decide +kernel
theorem d_s_at_15 : decode prog_17_method_56_code 15 = .ok (.ireturn, 1) := by decide +kernel
theorem d_s_at_16 : decode prog_17_method_56_code 16 = .ok (.aload_n 0, 1) := by decide +kernel
theorem d_s_at_17 : decode prog_17_method_56_code 17 = .ok (.getfield 9, 3) := by decide +kernel
theorem d_s_at_20 : decode prog_17_method_56_code 20 = .ok (.iload_n 1, 1) := by decide +kernel
theorem d_s_at_21 : decode prog_17_method_56_code 21 = .ok (.invokestatic 498, 3) := by decide +kernel
theorem d_s_at_24 : decode prog_17_method_56_code 24 = .ok (.ireturn, 1) := by decide +kernel
theorem d_s_lat1_0 : decode prog_18_method_2_code 0 = .ok (.iload_n 1, 1) := by decide +kernel
theorem d_s_lat1_1 : decode prog_18_method_2_code 1 = .ok (.aload_n 0, 1) := by decide +kernel
theorem d_s_lat1_2 : decode prog_18_method_2_code 2 = .ok (.arraylength, 1) := by decide +kernel
theorem d_s_lat1_3 : decode prog_18_method_2_code 3 = .ok (.invokestatic 9, 3) := by decide +kernel
theorem d_s_lat1_6 : decode prog_18_method_2_code 6 = .ok (.aload_n 0, 1) := by decide +kernel
theorem d_s_lat1_7 : decode prog_18_method_2_code 7 = .ok (.iload_n 1, 1) := by decide +kernel
theorem d_s_lat1_8 : decode prog_18_method_2_code 8 = .ok (.baload, 1) := by decide +kernel
theorem d_s_lat1_9 : decode prog_18_method_2_code 9 = .ok (.sipush 255, 3) := by decide +kernel
theorem d_s_lat1_12 : decode prog_18_method_2_code 12 = .ok (.iand, 1) := by decide +kernel
theorem d_s_lat1_13 : decode prog_18_method_2_code 13 = .ok (.i2c, 1) := by decide +kernel
theorem d_s_lat1_14 : decode prog_18_method_2_code 14 = .ok (.ireturn, 1) := by decide +kernel
theorem d_s_ci_0 : decode prog_17_method_155_code 0 = .ok (.iload_n 0, 1) := by decide +kernel
theorem d_s_ci_1 : decode prog_17_method_155_code 1 = .ok (.iload_n 1, 1) := by decide +kernel
theorem d_s_ci_2 : decode prog_17_method_155_code 2 = .ok (.getstatic 1053, 3) := by decide +kernel
theorem d_s_ci_5 : decode prog_17_method_155_code 5 = .ok (.invokestatic 1059, 3) := by decide +kernel
theorem d_s_ci_8 : decode prog_17_method_155_code 8 = .ok (.pop, 1) := by decide +kernel
theorem d_s_ci_9 : decode prog_17_method_155_code 9 = .ok (.return_, 1) := by decide +kernel
theorem d_s_pci_0 : decode prog_22_method_11_code 0 = .ok (.iload_n 0, 1) := by decide +kernel
theorem d_s_pci_1 : decode prog_22_method_11_code 1 = .ok (.ifCond .lt 8, 3) := by decide +kernel
theorem d_s_pci_4 : decode prog_22_method_11_code 4 = .ok (.iload_n 0, 1) := by decide +kernel
theorem d_s_pci_5 : decode prog_22_method_11_code 5 = .ok (.iload_n 1, 1) := by decide +kernel
theorem d_s_pci_6 : decode prog_22_method_11_code 6 = .ok (.if_icmp .lt 10, 3) := by decide +kernel
theorem d_s_pci_9 : decode prog_22_method_11_code 9 = .ok (.aload_n 2, 1) := by decide +kernel
theorem d_s_pci_10 : decode prog_22_method_11_code 10 = .ok (.iload_n 0, 1) := by decide +kernel
theorem d_s_pci_11 : decode prog_22_method_11_code 11 = .ok (.iload_n 1, 1) := by decide +kernel
theorem d_s_pci_12 : decode prog_22_method_11_code 12 = .ok (.invokestatic 95, 3) := by decide +kernel
theorem d_s_pci_15 : decode prog_22_method_11_code 15 = .ok (.athrow, 1) := by decide +kernel
theorem d_s_pci_16 : decode prog_22_method_11_code 16 = .ok (.iload_n 0, 1) := by decide +kernel
theorem d_s_pci_17 : decode prog_22_method_11_code 17 = .ok (.ireturn, 1) := by decide +kernel
theorem t_s_coder (l : Launch) (g : ia_G) (a n : Nat) (f : Nat → Int32) : Met l mm_s_coder.1 (ia_ws mm_s_coder) (ia_rm 0 0 0) (va_Pc [.ref a] (sx_P g a n f)) (sx_Q (some (.int 0))) 0 0 (fun _ => False) := by
  refine Met.ofW (cc := prog_17_method_152_code) (maxL := 1) (ret := some .byte) (by decide) rfl ?_
  intro p e s m args below meth c s₁ B hml hv
  obtain ⟨rfl, hP⟩ := hv
  have hx := B.exec
  have hb := B.bytes
  have hts0 := atoms_spec (ws := ia_ws mm_s_coder) B.pre
  have hts : ∀ w ∈ ia_tb, w.before ([.ref a] : List Value).toArray s = true := fun w q => hts0 w (List.mem_cons_of_mem _ q)
  have hown : s.vm.findClass "java/lang/String" = some m.cls := findClass_of_methodNamed B.named
  have hlocks := B.notSynchronized
  have hl := lv_entry ([.ref a]) (n := 1) (Nat.le_of_ble_eq_true rfl)
  rw [lg_entry_eq]
  generalize (lg_sl ([.ref a]) ++ List.replicate (1 - (lg_sl ([.ref a])).length) Slot.unset).toArray = ls at hl ⊢
  have hS : va_S (ia_A g) s.heap s.heap [] := va_S.rf
  obtain ⟨a1, a2, ⟨b, a3, a4⟩, a5, a6⟩ := hP
  refine va_gets hx hb a5 hS hown (hts (.fieldLink "java/lang/String" 38 "java/lang/String" "COMPACT_STRINGS" "Z") (sx_w (by decide +kernel) rfl)) (fun _ q => q) d_s_coder_0 ?_
  refine lv_if_eq (tgt := 13) hx hb d_s_coder_3 (by decide) (fun q => absurd q (by decide)) (fun _ => ?_)
  refine lv_aload_n hx hb d_s_coder_6 rfl (lv_at hl 0 rfl) ?_
  refine vk_getf hx hb a2 hS hown (hts (.fieldLink "java/lang/String" 15 "java/lang/String" "coder" "B") (sx_w (by decide +kernel) rfl)) (fun _ q => q) d_s_coder_7 ?_
  refine lv_goto (tgt := 14) hx hb d_s_coder_10 (by decide) ?_
  exact W.zret (ty := .byte) hx hb B.returns rfl (fun t ht _ => ⟨rfl, ht⟩) (fun q h => by cases h) d_s_coder_14 hlocks
theorem t_s_lat (l : Launch) (g : ia_G) (a n : Nat) (f : Nat → Int32) : Met l mm_s_lat.1 (ia_ws mm_s_lat) (ia_rm 0 0 0) (va_Pc [.ref a] (sx_P g a n f)) (sx_Q (some (.int 1))) 0 0 (fun _ => False) := by
  refine Met.ofW (cc := prog_17_method_154_code) (maxL := 1) (ret := some .boolean) (by decide) rfl ?_
  intro p e s m args below meth c s₁ B hml hv
  obtain ⟨rfl, hP⟩ := hv
  have hx := B.exec
  have hb := B.bytes
  have hts0 := atoms_spec (ws := ia_ws mm_s_lat) B.pre
  have hts : ∀ w ∈ ia_tb, w.before ([.ref a] : List Value).toArray s = true := fun w q => hts0 w (List.mem_cons_of_mem _ q)
  have hown : s.vm.findClass "java/lang/String" = some m.cls := findClass_of_methodNamed B.named
  have hlocks := B.notSynchronized
  have hl := lv_entry ([.ref a]) (n := 1) (Nat.le_of_ble_eq_true rfl)
  rw [lg_entry_eq]
  generalize (lg_sl ([.ref a]) ++ List.replicate (1 - (lg_sl ([.ref a])).length) Slot.unset).toArray = ls at hl ⊢
  have hS : va_S (ia_A g) s.heap s.heap [] := va_S.rf
  obtain ⟨a1, a2, ⟨b, a3, a4⟩, a5, a6⟩ := hP
  refine va_gets hx hb a5 hS hown (hts (.fieldLink "java/lang/String" 38 "java/lang/String" "COMPACT_STRINGS" "Z") (sx_w (by decide +kernel) rfl)) (fun _ q => q) d_s_lat_0 ?_
  refine lv_if_eq (tgt := 17) hx hb d_s_lat_3 (by decide) (fun q => absurd q (by decide)) (fun _ => ?_)
  refine lv_aload_n hx hb d_s_lat_6 rfl (lv_at hl 0 rfl) ?_
  refine vk_getf hx hb a2 hS hown (hts (.fieldLink "java/lang/String" 15 "java/lang/String" "coder" "B") (sx_w (by decide +kernel) rfl)) (fun _ q => q) d_s_lat_7 ?_
  refine lv_if_ne (tgt := 17) hx hb d_s_lat_10 (by decide) (fun q => absurd rfl q) (fun _ => ?_)
  refine lv_iconst (v := 1) hx hb d_s_lat_13 (by decide) ?_
  refine lv_goto (tgt := 18) hx hb d_s_lat_14 (by decide) ?_
  exact W.zret (ty := .boolean) hx hb B.returns rfl (fun t ht _ => ⟨rfl, ht⟩) (fun q h => by cases h) d_s_lat_18 hlocks
theorem t_s_len (l : Launch) (g : ia_G) (a n : Nat) (f : Nat → Int32) : Met l mm_s_len.1 (ia_ws mm_s_len) (ia_rm 1 0 0) (va_Pc [.ref a] (sx_P g a n f)) (sx_Q (some (.int (Int32.ofNat n >>> ((0 : Int32) &&& 31))))) 0 0 (fun _ => False) := by
  refine Met.ofW (cc := prog_17_method_54_code) (maxL := 1) (ret := some .int) (by decide) rfl ?_
  intro p e s m args below meth c s₁ B hml hv
  obtain ⟨rfl, hP⟩ := hv
  have hx := B.exec
  have hb := B.bytes
  have hts0 := atoms_spec (ws := ia_ws mm_s_len) B.pre
  have hts : ∀ w ∈ ia_tb, w.before ([.ref a] : List Value).toArray s = true := fun w q => hts0 w (List.mem_cons_of_mem _ q)
  have hown : s.vm.findClass "java/lang/String" = some m.cls := findClass_of_methodNamed B.named
  have hlocks := B.notSynchronized
  have hl := lv_entry ([.ref a]) (n := 1) (Nat.le_of_ble_eq_true rfl)
  rw [lg_entry_eq]
  generalize (lg_sl ([.ref a]) ++ List.replicate (1 - (lg_sl ([.ref a])).length) Slot.unset).toArray = ls at hl ⊢
  have hS : va_S (ia_A g) s.heap s.heap [] := va_S.rf
  have hP0 := hP
  obtain ⟨a1, a2, ⟨b, a3, a4⟩, a5, a6⟩ := hP
  refine lv_aload_n hx hb d_s_len_0 rfl (lv_at hl 0 rfl) ?_
  refine vk_getf hx hb a3 hS hown (hts (.fieldLink "java/lang/String" 9 "java/lang/String" "value" "[B") (sx_w (by decide +kernel) rfl)) (fun _ q => q) d_s_len_1 ?_
  refine va_tlen hx hb a4 hS rfl d_s_len_4 ?_
  refine lv_aload_n hx hb d_s_len_5 rfl (lv_at hl 0 rfl) ?_
  refine sx_cV (As := []) (rest := [.int (Int32.ofNat n)]) ⟨hx, hb, hml, hown, hts⟩ mk_s_coder (sx_w (by decide +kernel) rfl) d_s_len_6 (t_s_coder l g a n f) ⟨sx_blind, ?_, fun U hU hW => ⟨rfl, sx_P_move hW.alike (fun q _ _ => by rw [hU]) hP0⟩⟩ rfl hl.1 (Nat.le_of_ble_eq_true rfl) (Nat.le_refl _) (Nat.le_refl _) ⟨Nat.le_refl _, Nat.le_refl _⟩ ?_
  · obtain ⟨cell, c1, c2, c3, -⟩ := a1
    exact ⟨cell, c1, c2, c3⟩
  refine lv_ishr hx hb d_s_len_9 ?_
  exact W.iret hx hb B.returns (fun t ht _ => ⟨rfl, ht⟩) (fun q h => by cases h) d_s_len_10 hlocks
theorem t_s_pci (l : Launch) (g : ia_G) (b n : Nat) (f : Nat → Int32) {i k : Int32} {v : Value} (hv : v = .null ∨ ∃ t, v = .ref t) (h0 : ¬ i < 0) (h1 : i < k) : Met l mm_s_pci.1 (ia_ws mm_s_pci) (ia_rm 0 0 0) (va_Pc [.int i, .int k, v] (sx_P2 g b n f)) (sx_Q (some (.int i))) 0 0 (fun _ => False) := by
  have key : ∀ v : Value, v.category = 1 → (lg_sl ([.int i, .int k, v])).length ≤ 3 → Met l mm_s_pci.1 (ia_ws mm_s_pci) (ia_rm 0 0 0) (va_Pc [.int i, .int k, v] (sx_P2 g b n f)) (sx_Q (some (.int i))) 0 0 (fun _ => False) := by
    intro v hc hlen
    refine Met.ofW (cc := prog_22_method_11_code) (maxL := 3) (ret := some .int) (by decide) rfl ?_
    intro p e s m args below meth c s₁ B hml hv
    obtain ⟨rfl, hP⟩ := hv
    have hx := B.exec
    have hb := B.bytes
    have hlocks := B.notSynchronized
    have hl := lv_entry ([.int i, .int k, v]) (n := 3) hlen
    rw [lg_entry_eq]
    generalize (lg_sl ([.int i, .int k, v]) ++ List.replicate (3 - (lg_sl ([.int i, .int k, v])).length) Slot.unset).toArray = ls at hl ⊢
    refine lv_iload_n hx hb d_s_pci_0 rfl (lv_at hl 0 rfl) ?_
    refine lv_if_lt (tgt := 9) hx hb d_s_pci_1 (by decide) (fun q => absurd q h0) (fun _ => ?_)
    refine lv_iload_n hx hb d_s_pci_4 rfl (lv_at hl 0 rfl) ?_
    refine lv_iload_n hx hb d_s_pci_5 rfl (lv_at hl 1 rfl) ?_
    refine lv_icmp_lt (tgt := 16) hx hb d_s_pci_6 (by decide) (fun _ => ?_) (fun q => absurd h1 q)
    refine lv_iload_n hx hb d_s_pci_16 rfl (lv_at hl 0 rfl) ?_
    exact W.iret hx hb B.returns (fun t ht _ => ⟨rfl, ht⟩) (fun q h => by cases h) d_s_pci_17 hlocks
  rcases hv with rfl | ⟨t, rfl⟩
  · exact key _ rfl (Nat.le_of_ble_eq_true rfl)
  · exact key _ rfl (Nat.le_of_ble_eq_true rfl)
theorem t_s_ci (l : Launch) (g : ia_G) (b n : Nat) (f : Nat → Int32) {i k : Int32} (h0 : ¬ i < 0) (h1 : i < k) : Met l mm_s_ci.1 (ia_ws mm_s_ci) (ia_rm 1 0 0) (va_Pc [.int i, .int k] (sx_P2 g b n f)) (sx_Q none) 0 0 (fun _ => False) := by
  refine Met.ofW (cc := prog_17_method_155_code) (maxL := 2) (ret := none) (by decide) rfl ?_
  intro p e s m args below meth c s₁ B hml hv
  obtain ⟨rfl, hP⟩ := hv
  have hx := B.exec
  have hb := B.bytes
  have hts0 := atoms_spec (ws := ia_ws mm_s_ci) B.pre
  have hts : ∀ w ∈ ia_tb, w.before ([.int i, .int k] : List Value).toArray s = true := fun w q => hts0 w (List.mem_cons_of_mem _ q)
  have hown : s.vm.findClass "java/lang/String" = some m.cls := findClass_of_methodNamed B.named
  have hlocks := B.notSynchronized
  have hl := lv_entry ([.int i, .int k]) (n := 2) (Nat.le_of_ble_eq_true rfl)
  rw [lg_entry_eq]
  generalize (lg_sl ([.int i, .int k]) ++ List.replicate (2 - (lg_sl ([.int i, .int k])).length) Slot.unset).toArray = ls at hl ⊢
  have hS : va_S (ia_A g) s.heap s.heap [] := va_S.rf
  refine lv_iload_n hx hb d_s_ci_0 rfl (lv_at hl 0 rfl) ?_
  refine lv_iload_n hx hb d_s_ci_1 rfl (lv_at hl 1 rfl) ?_
  have hz : ∃ v, (v = Value.null ∨ ∃ t, v = .ref t) ∧ va_Z "jdk/internal/util/Preconditions" "SIOOBE_FORMATTER" "Ljava/util/function/BiFunction;" v (ia_A g) s s.heap := by
    rcases hP.2 with q | ⟨t, q⟩
    · exact ⟨_, Or.inl rfl, q⟩
    · exact ⟨_, Or.inr ⟨t, rfl⟩, q⟩
  obtain ⟨v, hv, hz⟩ := hz
  refine va_gets hx hb hz hS hown (hts (.fieldLink "java/lang/String" 1053 "jdk/internal/util/Preconditions" "SIOOBE_FORMATTER" "Ljava/util/function/BiFunction;") (sx_w (by decide +kernel) rfl)) (fun _ q => q) d_s_ci_2 ?_
  refine sx_cS (As := [.int i, .int k, v]) (rest := []) ⟨hx, hb, hml, hown, hts⟩ mk_s_pci (sx_w (by decide +kernel) rfl) d_s_ci_5 (t_s_pci l g b n f hv h0 h1) ⟨sx_blind2, fun U hU hW => ⟨rfl, sx_P2_move hW.alike (fun q _ _ => by rw [hU]) hP⟩⟩ rfl hl.1 (by decide) (Nat.le_refl _) (Nat.le_refl _) ⟨Nat.le_refl _, Nat.le_refl _⟩ ?_
  refine lv_pop hx hb d_s_ci_8 rfl ?_
  exact W.vret hx hb B.returns (fun t ht _ => ⟨rfl, ht⟩) (fun q h => by cases h) d_s_ci_9 hlocks
def ia_ch (x : Int32) : Int32 := ((x &&& 255).toUInt32 % 65536).toInt32
theorem t_s_lat1 (l : Launch) (g : ia_G) (b n : Nat) (f : Nat → Int32) {i : Int32} (hi : vp_in i n) (h1 : i < Int32.ofNat n) (hr : narrow .char (.int (ia_ch (f i.toNatClampNeg))) = .int (ia_ch (f i.toNatClampNeg))) : Met l mm_s_lat1.1 (ia_ws mm_s_lat1) (ia_rm 2 0 0) (va_Pc [.ref b, .int i] (sx_P2 g b n f)) (sx_Q (some (.int (ia_ch (f i.toNatClampNeg))))) 0 0 (fun _ => False) := by
  refine Met.ofW (cc := prog_18_method_2_code) (maxL := 2) (ret := some .char) (by decide) rfl ?_
  intro p e s m args below meth c s₁ B hml hv
  obtain ⟨rfl, hP⟩ := hv
  have hx := B.exec
  have hb := B.bytes
  have hts0 := atoms_spec (ws := ia_ws mm_s_lat1) B.pre
  have hts : ∀ w ∈ ia_tb, w.before ([.ref b, .int i] : List Value).toArray s = true := fun w q => hts0 w (List.mem_cons_of_mem _ q)
  have hown : s.vm.findClass "java/lang/StringLatin1" = some m.cls := findClass_of_methodNamed B.named
  have hlocks := B.notSynchronized
  have hl := lv_entry ([.ref b, .int i]) (n := 2) (Nat.le_of_ble_eq_true rfl)
  rw [lg_entry_eq]
  generalize (lg_sl ([.ref b, .int i]) ++ List.replicate (2 - (lg_sl ([.ref b, .int i])).length) Slot.unset).toArray = ls at hl ⊢
  have hS : va_S (ia_A g) s.heap s.heap [] := va_S.rf
  refine lv_iload_n hx hb d_s_lat1_0 rfl (lv_at hl 1 rfl) ?_
  refine lv_aload_n hx hb d_s_lat1_1 rfl (lv_at hl 0 rfl) ?_
  refine va_tlen hx hb hP.1 hS rfl d_s_lat1_2 ?_
  refine sx_cS (As := [.int i, .int (Int32.ofNat n)]) (rest := []) ⟨hx, hb, hml, hown, hts⟩ mk_s_ci (sx_w (by decide +kernel) rfl) d_s_lat1_3 (t_s_ci l g b n f (fun q => hi (Or.inl q)) h1) ⟨sx_blind2, fun U hU hW => ⟨rfl, sx_P2_move hW.alike (fun q _ _ => by rw [hU]) hP⟩⟩ rfl hl.1 (by decide) (Nat.le_refl _) (Nat.le_refl _) ⟨Nat.le_refl _, Nat.le_refl _⟩ ?_
  refine lv_aload_n hx hb d_s_lat1_6 rfl (lv_at hl 0 rfl) ?_
  refine lv_iload_n hx hb d_s_lat1_7 rfl (lv_at hl 1 rfl) ?_
  refine va_tb hx hb hP.1 hS hi rfl d_s_lat1_8 ?_
  refine lv_sipush (v := 255) hx hb d_s_lat1_9 (by decide) ?_
  refine lv_iand hx hb d_s_lat1_12 ?_
  refine lv_i2c hx hb d_s_lat1_13 rfl ?_
  exact W.zret (ty := .char) hx hb B.returns hr (fun t ht _ => ⟨rfl, ht⟩) (fun q h => by cases h) d_s_lat1_14 hlocks
theorem t_s_at (l : Launch) (g : ia_G) (a n : Nat) (f : Nat → Int32) {i : Int32} (hi : vp_in i n) (h1 : i < Int32.ofNat n) (hr : narrow .char (.int (ia_ch (f i.toNatClampNeg))) = .int (ia_ch (f i.toNatClampNeg))) : Met l mm_s_at.1 (ia_ws mm_s_at) (ia_rm 3 0 0) (va_Pc [.ref a, .int i] (sx_P g a n f)) (sx_Q (some (.int (ia_ch (f i.toNatClampNeg))))) 0 0 (fun _ => False) := by
  refine Met.ofW (cc := prog_17_method_56_code) (maxL := 2) (ret := some .char) (by decide) rfl ?_
  intro p e s m args below meth c s₁ B hml hv
  obtain ⟨rfl, hP⟩ := hv
  have hx := B.exec
  have hb := B.bytes
  have hts0 := atoms_spec (ws := ia_ws mm_s_at) B.pre
  have hts : ∀ w ∈ ia_tb, w.before ([.ref a, .int i] : List Value).toArray s = true := fun w q => hts0 w (List.mem_cons_of_mem _ q)
  have hown : s.vm.findClass "java/lang/String" = some m.cls := findClass_of_methodNamed B.named
  have hlocks := B.notSynchronized
  have hl := lv_entry ([.ref a, .int i]) (n := 2) (Nat.le_of_ble_eq_true rfl)
  rw [lg_entry_eq]
  generalize (lg_sl ([.ref a, .int i]) ++ List.replicate (2 - (lg_sl ([.ref a, .int i])).length) Slot.unset).toArray = ls at hl ⊢
  have hS : va_S (ia_A g) s.heap s.heap [] := va_S.rf
  have hP0 := hP
  obtain ⟨a1, a2, ⟨b, a3, a4⟩, a5, a6⟩ := hP
  refine lv_aload_n hx hb d_s_at_0 rfl (lv_at hl 0 rfl) ?_
  refine sx_cV (As := []) (rest := []) ⟨hx, hb, hml, hown, hts⟩ mk_s_lat (sx_w (by decide +kernel) rfl) d_s_at_1 (t_s_lat l g a n f) ⟨sx_blind, ?_, fun U hU hW => ⟨rfl, sx_P_move hW.alike (fun q _ _ => by rw [hU]) hP0⟩⟩ rfl hl.1 (by decide) (Nat.le_of_ble_eq_true rfl) (Nat.le_of_ble_eq_true rfl) ⟨Nat.le_refl _, Nat.le_refl _⟩ ?_
  · obtain ⟨cell, c1, c2, c3, -⟩ := a1
    exact ⟨cell, c1, c2, c3⟩
  refine lv_if_eq (tgt := 16) hx hb d_s_at_4 (by decide) (fun q => absurd q (by decide)) (fun _ => ?_)
  refine lv_aload_n hx hb d_s_at_7 rfl (lv_at hl 0 rfl) ?_
  refine vk_getf hx hb a3 hS hown (hts (.fieldLink "java/lang/String" 9 "java/lang/String" "value" "[B") (sx_w (by decide +kernel) rfl)) (fun _ q => q) d_s_at_8 ?_
  refine lv_iload_n hx hb d_s_at_11 rfl (lv_at hl 1 rfl) ?_
  refine sx_cS (As := [.ref b, .int i]) (rest := []) ⟨hx, hb, hml, hown, hts⟩ mk_s_lat1 (sx_w (by decide +kernel) rfl) d_s_at_12 (t_s_lat1 l g b n f hi h1 hr) ⟨sx_blind2, fun U hU hW => ⟨rfl, sx_P2_move hW.alike (fun q _ _ => by rw [hU]) ⟨a4, a6⟩⟩⟩ rfl hl.1 (by decide) (Nat.le_refl _) (Nat.le_refl _) ⟨Nat.le_refl _, Nat.le_refl _⟩ ?_
  exact W.zret (ty := .char) hx hb B.returns hr (fun t ht _ => ⟨rfl, ht⟩) (fun q h => by cases h) d_s_at_15 hlocks
/-! the String constants at the small machine: s stands for the constant s - 8 -/
def sl_s (s : Nat) : List Int32 := (ia_strs.getD (s - 8) (0, "", [])).2.2
def sl_n (s : Nat) : Nat := (sl_s s).length
def sl_c (s j : Nat) : Int32 := (sl_s s).getD j 0
theorem sl_ok0 : ∀ i, i < 36 → sl_n (8 + i) < 100 ∧ Int32.ofNat (sl_n (8 + i)) >>> ((0 : Int32) &&& 31) = Int32.ofNat (sl_n (8 + i)) ∧ ∀ j, j < sl_n (8 + i) → ia_ch (sl_c (8 + i) j) = sl_c (8 + i) j ∧ narrow .char (.int (sl_c (8 + i) j)) = .int (sl_c (8 + i) j) := by decide +kernel
theorem sl_at {s : Nat} (h : 8 ≤ s ∧ s < 44) : ia_strs[s - 8]? = some (ia_strs.getD (s - 8) (0, "", [])) := by
  have hl : ia_strs.length = 36 := by decide +kernel
  rw [List.getD_eq_getElem?_getD, List.getElem?_eq_getElem (by rw [hl]; omega)]
  rfl
theorem sl_P {g : ia_G} {U : State} {s : Nat} (h : 8 ≤ s ∧ s < 44) (hX : ia_ex g U) : sx_P g (ia_o g s) (sl_n s) (sl_c s) U ∧ vk_R "IceStreet$Reader" (ia_strs.getD (s - 8) (0, "", [])).1 (ia_strs.getD (s - 8) (0, "", [])).2.1 (ia_o g s) U := by
  obtain ⟨h1, h2, h4, h5, h6, h6b, h7, h8⟩ := hX
  obtain ⟨a1, a2, a3, b, a4, a5⟩ := h7 _ _ (sl_at h)
  rw [show 8 + (s - 8) = s by omega] at a1 a2 a3 a4
  exact ⟨⟨a2, a3, ⟨b, a4, a5⟩, h6, h6b⟩, a1⟩
theorem ia_sldc {d : Nat} {M : ia_M} {N1 W1 : Nat} {K : ia_K} {pc s : Nat} {lv : ia_L} {st : List ia_V} {h : ia_H} (hK : ia_isK d M N1 W1 K) (hs : 8 ≤ s ∧ s < 44) (hO : ia_O M.2.2.2.2.1 = "IceStreet$Reader") (hd : decode M.2.1 pc = .ok (.ldc (ia_strs.getD (s - 8) (0, "", [])).1, 2)) (kk : K (pc + 2) lv (.inr (.inr s) :: st) h) : K pc lv st h := by
  obtain ⟨p, l, e, R, s0, m, args, below, meth, co, g, n0, w0, Q, rfl, G, hX, -⟩ := hK
  intro H locs ls hl hn hP hk hS
  have h1 := kk H locs ls hl hn hP hk hS
  rw [List.map_cons, ia_rv_old (by omega) (by omega)] at h1
  exact va_ldcS G.1 G.2.1 (by rw [← hO]; exact G.2.2.2.1) (sl_P hs hX).2 hd h1
theorem ia_slen {d : Nat} {M : ia_M} {N1 W1 : Nat} {K : ia_K} {pc idx s : Nat} {lv : ia_L} {st : List ia_V} {h : ia_H} (hK : ia_isK (d + 2) M N1 W1 K) (hs : 8 ≤ s ∧ s < 44) (hl : Cond.methodLink (ia_O M.2.2.2.2.1) idx mm_s_len.1 ∈ ia_tb) (hd : decode M.2.1 pc = .ok (.invokevirtual idx, 3)) (hw : ia_wd st ≤ 8) (kk : K (pc + 3) lv (.inl (Int32.ofNat (sl_n s)) :: st) h) : K pc lv (.inr (.inr s) :: st) h := by
  obtain ⟨p, l, e, R, s0, m, args, below, meth, co, g, n0, w0, Q, rfl, G, hX, hR1, hR2, -⟩ := hK
  intro H locs ls hl' hn hP hk hS
  have h1 := kk H locs ls hl' hn hP hk hS
  have hp := (sl_P hs hX).1
  have hq : ∀ q : Nat, q < s0.heap.size → ¬ ia_A g q → H[q]? = s0.heap[q]? := hS.2.1
  rw [List.map_cons, ia_rv_old (by omega) (by omega)]
  have e1 := (sl_ok0 (s - 8) (by omega)).2.1
  rw [show 8 + (s - 8) = s by omega] at e1
  refine sx_cV (d := 1) (As := []) ⟨G.1, G.2.1, G.2.2.1, G.2.2.2.1, G.2.2.2.2.1⟩ mk_s_len hl hd (t_s_len l g (ia_o g s) (sl_n s) (sl_c s)) ⟨sx_blind, ?_, fun U hU hW => ⟨rfl, sx_P_move hW.alike (fun q h1 h2 => by rw [hU]; exact hq q h1 h2) hp⟩⟩ rfl hl'.1 (by rw [ia_wd_eq]; exact hw) (by omega) (by omega) ⟨hn.2.2.2.1, hn.2.2.2.2⟩ ?_
  · obtain ⟨cell, c1, c2, c3, -⟩ := hp.1.kept hq
    exact ⟨cell, c1, c2, c3⟩
  · rw [e1]
    exact h1
theorem ia_scat {d : Nat} {M : ia_M} {N1 W1 : Nat} {K : ia_K} {pc idx s : Nat} {i : Int32} {lv : ia_L} {st : List ia_V} {h : ia_H} (hK : ia_isK (d + 4) M N1 W1 K) (hs : 8 ≤ s ∧ s < 44) (hl : Cond.methodLink (ia_O M.2.2.2.2.1) idx mm_s_at.1 ∈ ia_tb) (hd : decode M.2.1 pc = .ok (.invokevirtual idx, 3)) (hw : ia_wd st ≤ 8) (hi : ia_ib i (sl_n s) = true) (kk : K (pc + 3) lv (.inl (sl_c s i.toNatClampNeg) :: st) h) : K pc lv (.inl i :: .inr (.inr s) :: st) h := by
  obtain ⟨p, l, e, R, s0, m, args, below, meth, co, g, n0, w0, Q, rfl, G, hX, hR1, hR2, -⟩ := hK
  intro H locs ls hl' hn hP hk hS
  have h1 := kk H locs ls hl' hn hP hk hS
  have hp := (sl_P hs hX).1
  have hq : ∀ q : Nat, q < s0.heap.size → ¬ ia_A g q → H[q]? = s0.heap[q]? := hS.2.1
  have hin := ia_ib_in hi
  have hlt : i.toNatClampNeg < sl_n s := Nat.not_le.mp fun q => hin (Or.inr q)
  have e0 := sl_ok0 (s - 8) (by omega)
  rw [show 8 + (s - 8) = s by omega] at e0
  obtain ⟨e1, e2⟩ := e0.2.2 _ hlt
  have hlt2 : i < Int32.ofNat (sl_n s) := by
    have h3 : ¬ i < 0 := fun q => hin (Or.inl q)
    rw [Int32.lt_iff_toInt_lt] at h3 ⊢
    have h4 : (Int32.ofNat (sl_n s)).toInt = (sl_n s : Int) := Int32.toInt_ofNat_of_lt (by omega)
    rw [h4]
    have h5 : (0 : Int32).toInt = 0 := by decide
    rw [h5] at h3
    have h6 : i.toNatClampNeg = i.toInt.toNat := rfl
    omega
  simp only [List.map_cons]
  rw [ia_rv_old (by omega) (by omega)]
  refine sx_cV (d := 3) (As := [.int i]) ⟨G.1, G.2.1, G.2.2.1, G.2.2.2.1, G.2.2.2.2.1⟩ mk_s_at hl hd (t_s_at l g (ia_o g s) (sl_n s) (sl_c s) hin hlt2 (by rw [e1]; exact e2)) ⟨sx_blind, ?_, fun U hU hW => ⟨rfl, sx_P_move hW.alike (fun q h1 h2 => by rw [hU]; exact hq q h1 h2) hp⟩⟩ rfl hl'.1 (by rw [ia_wd_eq]; exact hw) (by omega) (by omega) ⟨hn.2.2.2.1, hn.2.2.2.2⟩ ?_
  · obtain ⟨cell, c1, c2, c3, -⟩ := hp.1.kept hq
    exact ⟨cell, c1, c2, c3⟩
  · rw [e1]
    exact h1
