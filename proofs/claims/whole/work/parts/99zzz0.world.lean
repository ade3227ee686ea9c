/-! the world at the law's entry -/
theorem sw_inst : ∀ ci, ci < 13 → Cond.instantiable (ia_R ci) (ia_N ci) ∈ lw_tbl := by decide +kernel
theorem sw_cl {args : Array Value} {s : State} (hts : ∀ w ∈ lw_tbl, w.before args s = true) : ∃ D : va_G, ∀ (c : Nat) (q : vw_C), ia_cl[c]? = some q → u_Kn s q.1 q.2.1 q.2.2 (D.1 c) (D.2 c) := by
  have h1 : ∀ ci, ci < 13 → ∃ q : ClassId × (Nat → Nat), u_Kn s (ia_R ci) (ia_T ci) (ia_N ci) q.1 q.2 := fun ci h => by
    obtain ⟨c, i, k⟩ := u_known (ws := ia_tb) (fun w hw => hts w (List.mem_filter.mp hw).1) (ia_in_tb h) (hts _ (sw_inst ci h))
    exact ⟨(c, i), k⟩
  obtain ⟨q0, -⟩ := h1 0 (by decide)
  have hk : ∀ ci, ∃ q : ClassId × (Nat → Nat), ci < 13 → u_Kn s (ia_R ci) (ia_T ci) (ia_N ci) q.1 q.2 := fun ci => by
    by_cases h : ci < 13
    · obtain ⟨q, k⟩ := h1 ci h
      exact ⟨q, fun _ => k⟩
    · exact ⟨q0, fun q => absurd q h⟩
  refine ⟨(fun ci => (Classical.choose (hk ci)).1, fun ci => (Classical.choose (hk ci)).2), fun c q hq => ?_⟩
  rcases Nat.lt_or_ge c 13 with h | h
  · rw [ia_cl_at h] at hq
    obtain rfl := Option.some.inj hq
    exact Classical.choose_spec (hk c) h
  · have : ia_cl[c]? = none := List.getElem?_eq_none (by unfold ia_cl; simpa using h)
    rw [this] at hq
    cases hq
theorem sw_int {args : Array Value} {s : State} (h : (Cond.arrayClass .int).before args s = true) : ∃ cA, ArrOfT s cA .int ∧ va_RA s cA .int := by
  obtain ⟨c, k, comp, h1, h2, h3⟩ := Cond.arrayClass_spec h
  exact ⟨c, fun n z => ⟨fun k h => (by cases h), k, h2, comp, h3⟩, h1⟩
theorem sw_bool {args : Array Value} {s : State} (h : (Cond.arrayClass .boolean).before args s = true) : ∃ cA, ArrOfT s cA .boolean ∧ va_RA s cA .boolean := by
  obtain ⟨c, k, comp, h1, h2, h3⟩ := Cond.arrayClass_spec h
  exact ⟨c, fun n z => ⟨fun k h => (by cases h), k, h2, comp, h3⟩, h1⟩
theorem sw_byte {args : Array Value} {s : State} (h : (Cond.arrayClass .byte).before args s = true) : ∃ cA, ArrOfT s cA .byte ∧ va_RA s cA .byte := by
  obtain ⟨c, k, comp, h1, h2, h3⟩ := Cond.arrayClass_spec h
  exact ⟨c, fun n z => ⟨fun k h => (by cases h), k, h2, comp, h3⟩, h1⟩
theorem sw_long {args : Array Value} {s : State} (h : (Cond.arrayClass .long).before args s = true) : ∃ cA, ArrOfT s cA .long ∧ va_RA s cA .long := by
  obtain ⟨c, k, comp, h1, h2, h3⟩ := Cond.arrayClass_spec h
  exact ⟨c, fun n z => ⟨fun k h => (by cases h), k, h2, comp, h3⟩, h1⟩
theorem sw_obj {args : Array Value} {s : State} {C : String} (h : (Cond.arrayOver (.object C)).before args s = true) : ∃ cA, ArrOfT s cA (.object C) ∧ va_RA s cA (.object C) := by
  obtain ⟨comp, c, k, h1, h2, h3, h4, h5⟩ := Cond.arrayOver_spec h
  exact ⟨c, fun n z => ⟨fun k h => (by cases h), k, h3, comp, h4⟩, k, comp, h3, h4, h1, h5⟩
theorem sw_arr {s : State} (h : ia_AOI s) : ∃ cA, ArrOfT s cA (.array .int) ∧ va_RA s cA (.array .int) := by
  obtain ⟨comp, c, k, h1, h2, h3, h4, h5⟩ := ia_AOI_spec h
  refine ⟨c, fun n z => ⟨fun k h => (by cases h), k, h3, comp, h4⟩, ?_⟩
  show s.vm.findClass ("[" ++ (FieldType.array .int).toString) = some c
  rw [show ("[" ++ (FieldType.array .int).toString : String) = "[[I" from by decide]
  exact h5
theorem sw_K {args : Array Value} {s : State} (hts : ∀ w ∈ lw_tbl, w.before args s = true) (hA : ia_AOI s) : ∃ (D : va_G) (cA : Nat → ClassId), ∀ g : ia_G, ia_D g = D → ia_cA g = cA → va_K (ia_D g) ia_cl (ia_tyl g) s := by
  obtain ⟨D, hD⟩ := sw_cl hts
  obtain ⟨c0, k0⟩ := sw_int (hts (.arrayClass .int) (by decide +kernel))
  obtain ⟨c1, k1⟩ := sw_bool (hts (.arrayClass .boolean) (by decide +kernel))
  obtain ⟨c2, k2⟩ := sw_byte (hts (.arrayClass .byte) (by decide +kernel))
  obtain ⟨c3, k3⟩ := sw_long (hts (.arrayClass .long) (by decide +kernel))
  obtain ⟨c4, k4⟩ := sw_obj (hts (.arrayOver (.object (ia_R 3))) (by decide +kernel))
  obtain ⟨c5, k5⟩ := sw_obj (hts (.arrayOver (.object (ia_R 4))) (by decide +kernel))
  obtain ⟨c6, k6⟩ := sw_obj (hts (.arrayOver (.object (ia_R 6))) (by decide +kernel))
  obtain ⟨c7, k7⟩ := sw_obj (hts (.arrayOver (.object (ia_R 9))) (by decide +kernel))
  obtain ⟨c8, k8⟩ := sw_obj (hts (.arrayOver (.object (ia_R 10))) (by decide +kernel))
  obtain ⟨c9, k9⟩ := sw_arr hA
  refine ⟨D, fun k => if k = 100 then c0 else if k = 101 then c1 else if k = 102 then c2 else if k = 103 then c3 else if k = 107 then c4 else if k = 108 then c5 else if k = 110 then c6 else if k = 113 then c7 else if k = 114 then c8 else c9, fun g e1 e2 => ⟨by rw [e1]; exact hD, fun k q hq => ?_⟩⟩
  unfold ia_tyl at hq
  rw [e2] at hq
  match k, hq with
  | 0, hq => cases hq; exact k0
  | 1, hq => cases hq; exact k1
  | 2, hq => cases hq; exact k2
  | 3, hq => cases hq; exact k3
  | 4, hq => cases hq; exact k4
  | 5, hq => cases hq; exact k5
  | 6, hq => cases hq; exact k6
  | 7, hq => cases hq; exact k7
  | 8, hq => cases hq; exact k8
  | 9, hq => cases hq; exact k9
  | k + 10, hq => simp at hq
/-! String constants, static rows -/
def sw_v (n : Nat) : Term := .field (.string "IceStreet$Reader" n) "java/lang/String" "value" "[B"
def sw_cs (q : Nat × String × List Int32) : List Cond := [.exactly (.string "IceStreet$Reader" q.1) "java/lang/String", .eq (.field (.string "IceStreet$Reader" q.1) "java/lang/String" "coder" "B") (.int 0), .arrayOf (sw_v q.1) .byte, .eq (.length (sw_v q.1)) (.int (Int32.ofNat q.2.2.length))] ++ (List.range q.2.2.length).map fun j => .eq (.elem (sw_v q.1) (.int (Int32.ofNat j))) (.int (q.2.2.getD j 0))
theorem sw_sub : ((flatC (Cond.and given_1 narrow_1)).drop 87).take 252 = ia_strs.flatMap sw_cs := by decide +kernel
theorem sw_in {q : Nat × String × List Int32} {c : Cond} (hq : q ∈ ia_strs) (hc : c ∈ sw_cs q) : c ∈ flatC (Cond.and given_1 narrow_1) := by
  have h : c ∈ ia_strs.flatMap sw_cs := List.mem_flatMap.mpr ⟨q, hq, hc⟩
  rw [← sw_sub] at h
  exact List.mem_of_mem_drop (List.mem_of_mem_take h)
theorem sw_len : ∀ q ∈ ia_strs, q.2.2.length < 2 ^ 31 := by decide +kernel
theorem sw_sr : ∀ q ∈ ia_strs, Cond.stringRef "IceStreet$Reader" q.1 q.2.1 ∈ lw_tbl := by decide +kernel
theorem sw_str {args : Array Value} {s : State} {A : Nat → Prop} (hts : ∀ w ∈ lw_tbl, w.before args s = true) (hs : ∀ c ∈ flatC (Cond.and given_1 narrow_1), c.before args s = true) (hA : ∀ a : Nat, a < s.heap.size → ¬ A a) (q : Nat × String × List Int32) (hq : q ∈ ia_strs) : ∃ a, vk_R "IceStreet$Reader" q.1 q.2.1 a s ∧ va_O "java/lang/String" a A s s.heap ∧ va_OF "java/lang/String" "coder" "B" (.int 0) a A s s.heap ∧ ∃ b, va_OF "java/lang/String" "value" "[B" (.ref b) a A s s.heap ∧ va_T .byte b q.2.2.length (fun j => .int (q.2.2.getD j 0)) A s s.heap := by
  have hc : ∀ c ∈ sw_cs q, c.before args s = true := fun c h => hs c (sw_in hq h)
  have m0 : ∀ c, c ∈ [Cond.exactly (.string "IceStreet$Reader" q.1) "java/lang/String", .eq (.field (.string "IceStreet$Reader" q.1) "java/lang/String" "coder" "B") (.int 0), .arrayOf (sw_v q.1) .byte, .eq (.length (sw_v q.1)) (.int (Int32.ofNat q.2.2.length))] → c.before args s = true := fun c h => hc c (List.mem_append_left _ h)
  have z : ∀ i : Nat, i < 1 → i = 0 := fun i hi => by omega
  obtain ⟨adK, adV, S, E⟩ := vk_Sof (args := args) (s := s) (N := 1) (tm := fun _ => .string "IceStreet$Reader" q.1) (len := [q.2.2.length]) (byt := [q.2.2]) (A := A) (fun i hi => by rw [z i hi]; exact sw_len q hq) (fun i hi => m0 _ List.mem_cons_self) (fun i hi => m0 _ (List.mem_cons_of_mem _ List.mem_cons_self)) (fun i hi => m0 _ (List.mem_cons_of_mem _ (List.mem_cons_of_mem _ List.mem_cons_self))) (fun i hi => by rw [z i hi]; exact m0 _ (List.mem_cons_of_mem _ (List.mem_cons_of_mem _ (List.mem_cons_of_mem _ List.mem_cons_self)))) (fun i hi j hj => by
      rw [z i hi] at hj ⊢
      exact hc _ (List.mem_append_right _ (List.mem_map.mpr ⟨j, List.mem_range.mpr hj, rfl⟩))) (fun i j hi hj h => absurd ((z i hi).trans (z j hj).symm) h) hA
  obtain ⟨s1, s2, s3, s4⟩ := S.1 0 (by decide)
  exact ⟨adK 0, vk_R.of (hts _ (sw_sr q hq)) (E 0 (by decide)), s1, s2, adV 0, s3, s4⟩
theorem sw_most {args : Array Value} {s : State} {A : Nat → Prop} (hts : ∀ w ∈ lw_tbl, w.before args s = true) (hs : ∀ c ∈ flatC (Cond.and given_1 narrow_1), c.before args s = true) (hA : ∀ a : Nat, a < s.heap.size → ¬ A a) : ∃ t : Nat, va_Z "IceStreet" "MOST_OF_SORT" "[I" (.ref t) A s s.heap ∧ va_T .int t 3 (fun j => .int (([2, 2, 3] : List Int32).getD j 0)) A s s.heap := by
  obtain ⟨t, e, T⟩ := va_Tof (args := args) (s := s) (tm := .static "IceStreet" "MOST_OF_SORT" "[I") (ty := .int) (N := 3) (f := fun j => .int (([2, 2, 3] : List Int32).getD j 0)) (A := A) (by decide) (hs (.arrayOf (.static "IceStreet" "MOST_OF_SORT" "[I") .int) (by decide +kernel)) (va_eqt (hs (.eq (.length (.static "IceStreet" "MOST_OF_SORT" "[I")) (.int 3)) (by decide +kernel))) (fun j hj => by
    rcases (show j = 0 ∨ j = 1 ∨ j = 2 by omega) with rfl | rfl | rfl
    · exact va_eqt (hs (.eq (.elem (.static "IceStreet" "MOST_OF_SORT" "[I") (.int 0)) (.int 2)) (by decide +kernel))
    · exact va_eqt (hs (.eq (.elem (.static "IceStreet" "MOST_OF_SORT" "[I") (.int 1)) (.int 2)) (by decide +kernel))
    · exact va_eqt (hs (.eq (.elem (.static "IceStreet" "MOST_OF_SORT" "[I") (.int 2)) (.int 3)) (by decide +kernel))) hA
  exact ⟨t, va_Zref (hts (.laysStatic "IceStreet" "MOST_OF_SORT" "[I") (by decide +kernel)) (hts (.initialized "IceStreet") (by decide +kernel)) e hA, T⟩
theorem sw_lines {args : Array Value} {s : State} {A : Nat → Prop} (hts : ∀ w ∈ lw_tbl, w.before args s = true) (hs : ∀ c ∈ flatC (Cond.and given_1 narrow_1), c.before args s = true) (hA : ∀ a : Nat, a < s.heap.size → ¬ A a) : ∃ t : Nat, va_Z "IceStreet$Reader" "LINES_OF_SORT" "[I" (.ref t) A s s.heap ∧ va_T .int t 4 (fun j => .int (([0, 10, 16, 21] : List Int32).getD j 0)) A s s.heap := by
  obtain ⟨t, e, T⟩ := va_Tof (args := args) (s := s) (tm := .static "IceStreet$Reader" "LINES_OF_SORT" "[I") (ty := .int) (N := 4) (f := fun j => .int (([0, 10, 16, 21] : List Int32).getD j 0)) (A := A) (by decide) (hs (.arrayOf (.static "IceStreet$Reader" "LINES_OF_SORT" "[I") .int) (by decide +kernel)) (va_eqt (hs (.eq (.length (.static "IceStreet$Reader" "LINES_OF_SORT" "[I")) (.int 4)) (by decide +kernel))) (fun j hj => by
    rcases (show j = 0 ∨ j = 1 ∨ j = 2 ∨ j = 3 by omega) with rfl | rfl | rfl | rfl
    · exact va_eqt (hs (.eq (.elem (.static "IceStreet$Reader" "LINES_OF_SORT" "[I") (.int 0)) (.int 0)) (by decide +kernel))
    · exact va_eqt (hs (.eq (.elem (.static "IceStreet$Reader" "LINES_OF_SORT" "[I") (.int 1)) (.int 10)) (by decide +kernel))
    · exact va_eqt (hs (.eq (.elem (.static "IceStreet$Reader" "LINES_OF_SORT" "[I") (.int 2)) (.int 16)) (by decide +kernel))
    · exact va_eqt (hs (.eq (.elem (.static "IceStreet$Reader" "LINES_OF_SORT" "[I") (.int 3)) (.int 21)) (by decide +kernel))) hA
  exact ⟨t, va_Zref (hts (.laysStatic "IceStreet$Reader" "LINES_OF_SORT" "[I") (by decide +kernel)) (hts (.initialized "IceStreet$Reader") (by decide +kernel)) e hA, T⟩
/-! the numbers of the world -/
def sw_ok (L a : Nat) : Nat × Nat := if a = 1 then (100, L) else if a = 2 then (100, 3) else if a = 3 then (100, 4) else (200, 0)
def sw_oi (xs : Nat → Int32) (a j : Nat) : Int32 := if a = 1 then xs j else if a = 2 then ([2, 2, 3] : List Int32).getD j 0 else if a = 3 then ([0, 10, 16, 21] : List Int32).getD j 0 else 0
def sw_o (b t2 t3 : Nat) (ad : Nat → Nat) (a : Nat) : Nat := if a = 1 then b else if a = 2 then t2 else if a = 3 then t3 else ad (a - 8)
theorem sw_str_at {A : Nat → Prop} {s : State} (h : ∀ q ∈ ia_strs, ∃ a, vk_R "IceStreet$Reader" q.1 q.2.1 a s ∧ va_O "java/lang/String" a A s s.heap ∧ va_OF "java/lang/String" "coder" "B" (.int 0) a A s s.heap ∧ ∃ b, va_OF "java/lang/String" "value" "[B" (.ref b) a A s s.heap ∧ va_T .byte b q.2.2.length (fun j => .int (q.2.2.getD j 0)) A s s.heap) : ∃ ad : Nat → Nat, ∀ i q, ia_strs[i]? = some q → vk_R "IceStreet$Reader" q.1 q.2.1 (ad i) s ∧ va_O "java/lang/String" (ad i) A s s.heap ∧ va_OF "java/lang/String" "coder" "B" (.int 0) (ad i) A s s.heap ∧ ∃ b, va_OF "java/lang/String" "value" "[B" (.ref b) (ad i) A s s.heap ∧ va_T .byte b q.2.2.length (fun j => .int (q.2.2.getD j 0)) A s s.heap := by
  have hk : ∀ i : Nat, ∃ a : Nat, ∀ q : Nat × String × List Int32, ia_strs[i]? = some q → vk_R "IceStreet$Reader" q.1 q.2.1 a s ∧ va_O "java/lang/String" a A s s.heap ∧ va_OF "java/lang/String" "coder" "B" (.int 0) a A s s.heap ∧ ∃ b, va_OF "java/lang/String" "value" "[B" (.ref b) a A s s.heap ∧ va_T .byte b q.2.2.length (fun j => .int (q.2.2.getD j 0)) A s s.heap := fun i => by
    cases e : ia_strs[i]? with
    | none => exact ⟨0, fun q hq => by cases hq⟩
    | some r =>
      obtain ⟨a, ha⟩ := h r (List.mem_of_getElem? e)
      exact ⟨a, fun q hq => by obtain rfl := Option.some.inj hq; exact ha⟩
  exact ⟨fun i => Classical.choose (hk i), fun i => Classical.choose_spec (hk i)⟩
theorem sw_nest {w : Cond} (h : ia_isN w = true) : w.onTables = true := by
  cases w <;> first | rfl | cases h
theorem sw_g {args : Array Value} {s : State} {b L : Nat} {xs : Nat → Int32} (hts : ∀ w ∈ lw_tbl, w.before args s = true) (hs : ∀ c ∈ flatC (Cond.and given_1 narrow_1), c.before args s = true) (hX : va_X b L xs s s.heap) (hbl : b < s.heap.size) : ∃ g : ia_G, ia_z g = s.heap.size ∧ ia_o g 1 = b ∧ ia_ok g = sw_ok L ∧ ia_oi g = sw_oi xs ∧ va_K (ia_D g) ia_cl (ia_tyl g) s ∧ ia_old g s ∧ ia_ex g s := by
  have hA : ∀ a : Nat, a < s.heap.size → ¬ (fun q : Nat => s.heap.size ≤ q) a := fun a h => Nat.not_le.mpr h
  have hAOI : ia_AOI s := hts (.arrayOver (.array .int)) (by decide +kernel)
  obtain ⟨D, cA, hK⟩ := sw_K hts hAOI
  obtain ⟨t2, z2, T2⟩ := sw_most (A := fun q : Nat => s.heap.size ≤ q) hts hs hA
  obtain ⟨t3, z3, T3⟩ := sw_lines (A := fun q : Nat => s.heap.size ≤ q) hts hs hA
  obtain ⟨ad, hstr⟩ := sw_str_at (fun q hq => sw_str (A := fun q : Nat => s.heap.size ≤ q) hts hs hA q hq)
  refine ⟨(D, cA, s.heap.size, sw_o b t2 t3 ad, sw_ok L, sw_oi xs), rfl, rfl, rfl, rfl, hK _ rfl rfl, fun a ha => ?_, ?_⟩
  · by_cases a1 : a = 1
    · subst a1
      obtain ⟨scr, h1, h2, h3, h4, h5⟩ := hX
      exact Or.inr ⟨rfl, by decide, ⟨scr, h1, h2, h3, Nat.le_of_eq h4.symm, by rw [h4]; rfl, h5, hA b hbl⟩, hbl⟩
    · by_cases a2 : a = 2
      · subst a2
        exact Or.inr ⟨rfl, by decide, T2, Nat.not_le.mp T2.out⟩
      · by_cases a3 : a = 3
        · subst a3
          exact Or.inr ⟨rfl, by decide, T3, Nat.not_le.mp T3.out⟩
        · refine Or.inl ?_
          show 200 ≤ (sw_ok L a).1
          unfold sw_ok
          rw [if_neg a1, if_neg a2, if_neg a3]
          exact Nat.le_refl 200
  · refine ⟨fun w hw => va_Nw.of (sw_nest (List.mem_filter.mp hw).2) (hts w (List.mem_filter.mp hw).1), fun ci hc => ?_, z2, z3, va_Zof (hts (.laysStatic "java/lang/String" "COMPACT_STRINGS" "Z") (by decide +kernel)) (hts (.initialized "java/lang/String") (by decide +kernel)) (va_eqt (hs (.eq (.static "java/lang/String" "COMPACT_STRINGS" "Z") (.int 1)) (by decide +kernel))) hA, va_Zqof (hts (.laysStatic "jdk/internal/util/Preconditions" "SIOOBE_FORMATTER" "Ljava/util/function/BiFunction;") (by decide +kernel)) (hts (.initialized "jdk/internal/util/Preconditions") (by decide +kernel)) (hs (.isRef (.static "jdk/internal/util/Preconditions" "SIOOBE_FORMATTER" "Ljava/util/function/BiFunction;")) (by decide +kernel)) hA, fun i q hq => ?_, hAOI⟩
    · simp only [List.mem_cons, List.not_mem_nil, or_false] at hc
      rcases hc with rfl | rfl | rfl | rfl | rfl
      · exact va_AO.of (hts (.arrayOver (.object (ia_R 3))) (by decide +kernel))
      · exact va_AO.of (hts (.arrayOver (.object (ia_R 4))) (by decide +kernel))
      · exact va_AO.of (hts (.arrayOver (.object (ia_R 6))) (by decide +kernel))
      · exact va_AO.of (hts (.arrayOver (.object (ia_R 9))) (by decide +kernel))
      · exact va_AO.of (hts (.arrayOver (.object (ia_R 10))) (by decide +kernel))
    · have e : sw_o b t2 t3 ad (8 + i) = ad i := by
        unfold sw_o
        rw [if_neg (by omega), if_neg (by omega), if_neg (by omega), show 8 + i - 8 = i by omega]
      show vk_R _ _ _ (sw_o b t2 t3 ad (8 + i)) s ∧ va_O _ (sw_o b t2 t3 ad (8 + i)) _ s s.heap ∧ va_OF _ _ _ _ (sw_o b t2 t3 ad (8 + i)) _ s s.heap ∧ ∃ b', va_OF _ _ _ _ (sw_o b t2 t3 ad (8 + i)) _ s s.heap ∧ _
      rw [e]
      exact hstr i q hq
/-- the heap at the entry: nothing is made -/
def sw_h (L : Nat) (xs : Nat → Int32) : ia_H := (fun a j => if a < 64 then sw_oi xs a j else 0, fun _ _ => 0, fun _ _ => 0, fun a => if a < 64 then sw_ok L a else (999, 0), 0, 0)
theorem sw_hk {g : ia_G} {L : Nat} {xs : Nat → Int32} (e1 : ia_ok g = sw_ok L) (e2 : ia_oi g = sw_oi xs) : ia_hk g (sw_h L xs) := by
  refine ⟨fun a ha => ⟨?_, ?_⟩, fun a ha => ?_⟩
  · rw [e1]
    show (if a < 64 then sw_ok L a else (999, 0)) = _
    rw [if_pos ha]
  · rw [e2]
    funext j
    show (if a < 64 then sw_oi xs a j else 0) = _
    rw [if_pos ha]
  · have ha : 64 ≤ a := ha
    show (if a < 64 then sw_ok L a else (999, 0)).1 = 999
    rw [if_neg (by omega)]
theorem sw_w {g : ia_G} {L : Nat} {xs : Nat → Int32} : ia_w g (sw_h L xs) = [] := rfl
