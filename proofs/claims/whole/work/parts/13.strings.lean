/-! String constants: length and charAt -/
def mm_s_coder : ia_M := (⟨"java/lang/String", "coder", "()B"⟩, prog_17_method_152_code, 1, some .byte, 17, false)
def mm_s_lat : ia_M := (⟨"java/lang/String", "isLatin1", "()Z"⟩, prog_17_method_154_code, 1, some .boolean, 17, false)
def mm_s_len : ia_M := (⟨"java/lang/String", "length", "()I"⟩, prog_17_method_54_code, 1, some .int, 17, false)
def mm_s_at : ia_M := (⟨"java/lang/String", "charAt", "(I)C"⟩, prog_17_method_56_code, 2, some .char, 17, false)
def mm_s_lat1 : ia_M := (⟨"java/lang/StringLatin1", "charAt", "([BI)C"⟩, prog_18_method_2_code, 2, some .char, 18, false)
def mm_s_ci : ia_M := (⟨"java/lang/String", "checkIndex", "(II)V"⟩, prog_17_method_155_code, 2, none, 17, false)
def mm_s_pci : ia_M := (⟨"jdk/internal/util/Preconditions", "checkIndex", "(IILjava/util/function/BiFunction;)I"⟩, prog_22_method_11_code, 3, some .int, 21, false)
/-- a String of n bytes f at a -/
def sx_P (g : ia_G) (a n : Nat) (f : Nat → Int32) (U : State) : Prop := va_O "java/lang/String" a (ia_A g) U U.heap ∧ va_OF "java/lang/String" "coder" "B" (.int 0) a (ia_A g) U U.heap ∧ (∃ b, va_OF "java/lang/String" "value" "[B" (.ref b) a (ia_A g) U U.heap ∧ va_T .byte b n (fun j => .int (f j)) (ia_A g) U U.heap) ∧ va_Z "java/lang/String" "COMPACT_STRINGS" "Z" (.int 1) (ia_A g) U U.heap ∧ va_Zq "jdk/internal/util/Preconditions" "SIOOBE_FORMATTER" "Ljava/util/function/BiFunction;" (ia_A g) U U.heap
theorem sx_P_move {g : ia_G} {a n : Nat} {f : Nat → Int32} {s U : State} (hv : s.vm.Alike U.vm) (hq : ∀ q : Nat, q < s.heap.size → ¬ ia_A g q → U.heap[q]? = s.heap[q]?) (h : sx_P g a n f s) : sx_P g a n f U := by
  obtain ⟨a1, a2, ⟨b, a3, a4⟩, a5, a6⟩ := h
  exact ⟨(a1.moved hv).kept hq, (a2.moved hv).kept hq, ⟨b, (a3.moved hv).kept hq, (a4.moved hv).kept hq⟩, (a5.moved hv).kept hq, (a6.moved hv).kept hq⟩
def sx_Q (v : Option Value) : Array Value → State → Outcome → State → Prop := fun _ st o t => o = .returned v ∧ t.heap = st.heap
theorem sx_blind {g : ia_G} {a n : Nat} {f : Nat → Int32} {as : List Value} : FrameBlind (va_Pc as (sx_P g a n f)) := by
  intro b U fr mk q
  exact ⟨q.1, sx_P_move (s := U) (U := U.calling fr mk b) (Vm.Alike.refl U.vm) (fun _ _ _ => rfl) q.2⟩
section Sx
variable {p : Program} {l : Launch} {e : Env} {R : Room} {s : State} {m : MethodId} {args : Array Value} {below : List Frame} {meth : Method} {co : Code} {Q : State → Prop} {pc : Nat} {H : Heap} {locs : List Loc} {cells slots : Nat} {ls : Array Slot}
/-- behind a call that leaves the heap as it was -/
theorem sx_after {st0 rest : List Value} {a : Array Value} {v : Option Value} (hr : va_Run p l e R s m args below meth co H locs cells slots 0 0 (F0 m pc ls st0) rest (sx_Q v a) (fun _ => False))
    (kk : W p l e R s m args below meth co H locs cells slots Q (F0 m (pc + 3) ls (v.toList ++ rest))) : W p l e R s m args below meth co H locs cells slots Q (F0 m pc ls st0) := by
  intro T hT X
  obtain ⟨v', st₀, t, T', L, h0, X', hL, e1, e2, ⟨hv, hh⟩, st⟩ := hr T hT X
  have hn : L = [] := by
    cases L with
    | nil => rfl
    | cons x _ => exact (hL x List.mem_cons_self).elim
  subst hn
  rw [List.append_nil, Nat.add_zero, Nat.add_zero] at X'
  cases hv
  obtain ⟨t2, a1, b1⟩ := kk T' (by rw [e1, hh, h0]) X'
  exact ⟨t2, st t2 a1, b1⟩
end Sx
theorem sx_mem (i : Nat) {w : Cond} (h : lw_tbl[i]? = some w) (g : goodWord w = true) : w ∈ ia_tb := ia_tb_in (List.mem_of_getElem? h) g
theorem sx_w {w : Cond} (h : decide (w ∈ lw_tbl) = true) (g : goodWord w = true) : w ∈ ia_tb := ia_tb_in (of_decide_eq_true h) g
theorem mk_s_coder : ia_mkn mm_s_coder 1 0 := ⟨sx_w (by decide +kernel) rfl, sx_w (by decide +kernel) rfl, by decide +kernel, by decide +kernel, sx_w (by decide +kernel) rfl, sx_w (by decide +kernel) rfl⟩
theorem mk_s_lat : ia_mkn mm_s_lat 1 0 := ⟨sx_w (by decide +kernel) rfl, sx_w (by decide +kernel) rfl, by decide +kernel, by decide +kernel, sx_w (by decide +kernel) rfl, sx_w (by decide +kernel) rfl⟩
theorem mk_s_len : ia_mkn mm_s_len 1 0 := ⟨sx_w (by decide +kernel) rfl, sx_w (by decide +kernel) rfl, by decide +kernel, by decide +kernel, sx_w (by decide +kernel) rfl, sx_w (by decide +kernel) rfl⟩
theorem mk_s_at : ia_mkn mm_s_at 1 1 := ⟨sx_w (by decide +kernel) rfl, sx_w (by decide +kernel) rfl, by decide +kernel, by decide +kernel, sx_w (by decide +kernel) rfl, sx_w (by decide +kernel) rfl⟩
theorem mk_s_lat1 : ia_mkn mm_s_lat1 0 2 := ⟨sx_w (by decide +kernel) rfl, sx_w (by decide +kernel) rfl, by decide +kernel, by decide +kernel, sx_w (by decide +kernel) rfl⟩
theorem mk_s_ci : ia_mkn mm_s_ci 0 2 := ⟨sx_w (by decide +kernel) rfl, sx_w (by decide +kernel) rfl, by decide +kernel, by decide +kernel, sx_w (by decide +kernel) rfl⟩
theorem mk_s_pci : ia_mkn mm_s_pci 0 3 := ⟨sx_w (by decide +kernel) rfl, sx_w (by decide +kernel) rfl, by decide +kernel, by decide +kernel, sx_w (by decide +kernel) rfl⟩
