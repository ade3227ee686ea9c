/-! new int[n][k] -/
def ma_in (comp : ClassId) (kN : Nat) : Cell := { cls := comp, slots := Array.replicate kN (.int 0) }
def ma_run (a : Addr) (comp : ClassId) (kN : Nat) : Nat → Nat → State → Cell → State
  | 0, _, s, _ => s
  | m + 1, i, s, ce => ma_run a comp kN m (i + 1) ((s.pushCell (ma_in comp kN)).setCell a (ce.setSlot i (.ref s.heap.size))) (ce.setSlot i (.ref s.heap.size))
section Ma
variable {e : Env} {E : CtlPost} {d : Bool} {acts : List Action} {s : State}
theorem ma_make1 {comp c2 : ClassId} {kc : Class} {k : Int32} {Q : Addr → Pre} (hk : s.vm.classes[comp]? = some kc) (hkind : kc.kind = .array c2 .int) (hn : ¬ k < 0) (hlimit : ¬ k.toNatClampNeg > e.platform.arrayLengthLimit) (hheap : ¬ k.toNatClampNeg * componentBytes .int > e.platform.maxHeapBytes) (hcells : s.heap.size < e.platform.maxCells) (hslots : s.slotsUsed + k.toNatClampNeg ≤ e.platform.maxSlots) (hq : ∀ acts', Q s.heap.size d acts' (s.pushCell (ma_in comp k.toNatClampNeg))) : wp (multianewarray.make comp [k]) Q E e d acts s := by
  simp only [multianewarray.make, wp_bind', Jvm.W.ite, hn, if_false, wp_pure', Jvm.W.theClass, hk, Option.some.injEq, exists_eq_left', hkind]
  exact Jvm.W.newArray_of hk hkind hlimit hheap hcells hslots rfl hq
theorem ma_loop {a : Addr} {cA comp c2 : ClassId} {kA kc : Class} {k : Int32} {Q : Pre} (hkind : kc.kind = .array c2 .int) (hkindA : kA.kind = .array comp (.array .int)) (hn : ¬ k < 0) (hlimit : ¬ k.toNatClampNeg > e.platform.arrayLengthLimit) (hheap : ¬ k.toNatClampNeg * componentBytes .int > e.platform.maxHeapBytes) : ∀ (m i : Nat) (d : Bool) (acts : List Action) (s : State) (ce : Cell), s.vm.classes[comp]? = some kc → s.vm.classes[cA]? = some kA → s.heap[a]? = some ce → ce.cls = cA → ce.vm = .none → i + m ≤ ce.slots.size → s.heap.size + m ≤ e.platform.maxCells → s.slotsUsed + m * k.toNatClampNeg ≤ e.platform.maxSlots → (∀ d' acts', Q d' acts' (ma_run a comp k.toNatClampNeg m i s ce)) →
    wp (forIn (List.range' i m) PUnit.unit fun i (_ : PUnit) => (do
      let x ← multianewarray.make comp [k]
      writeLoc a i (Value.ref x)
      Pure.pure (ForInStep.yield PUnit.unit) : Sem (ForInStep PUnit))) (fun _ => Q) E e d acts s
  | 0, i, d, acts, s, ce, _, _, _, _, _, _, _, _, hq => by
    simp only [List.range'_zero, List.forIn_nil, wp_pure']
    exact hq d acts
  | m + 1, i, d, acts, s, ce, h1, h2, h3, h4, h5, h6, h7, h8, hq => by
    rw [Nat.succ_mul] at h8
    simp only [List.range'_succ, List.forIn_cons, wp_bind']
    refine ma_make1 h1 hkind hn hlimit hheap (by omega) (by omega) fun acts' => ?_
    have ha : a < s.heap.size := (Array.getElem?_eq_some_iff.mp h3).1
    have hc : (s.pushCell (ma_in comp k.toNatClampNeg)).heap[a]? = some ce := by
      show (s.heap.push _)[a]? = _
      rw [Array.getElem?_push_lt ha]
      rw [← h3, Array.getElem?_eq_getElem ha]
    simp only [wp_bind', Jvm.W.writeLoc, wp_pure']
    refine ⟨ce, hc, by rw [h5]; decide, by omega, ?_, ?_⟩
    · have h2' : (s.pushCell (ma_in comp k.toNatClampNeg)).vm.classes[cA]? = some kA := h2
      have h2b : s.vm.classes[cA]? = some kA := h2
      simp [State.fitsSlot, State.slotType?, h4, h2b, hkindA, h5, fits]
    · refine ma_loop hkind hkindA hn hlimit hheap m (i + 1) true _ _ (ce.setSlot i (.ref s.heap.size)) h1 h2 ?_ h4 h5 ?_ ?_ ?_ hq
      · show ((s.heap.push _).setIfInBounds a _)[a]? = _
        simp [Nat.lt_succ_of_lt ha]
      · show i + 1 + m ≤ (ce.slots.setIfInBounds i _).size
        simp only [Array.size_setIfInBounds]
        omega
      · show ((s.heap.push _).setIfInBounds a _).size + m ≤ _
        simp only [Array.size_setIfInBounds, Array.size_push]
        omega
      · show s.slotsUsed + (Array.replicate k.toNatClampNeg (Value.int 0)).size + m * k.toNatClampNeg ≤ _
        simp only [Array.size_replicate]
        omega
theorem ma_make2 {cA comp c2 : ClassId} {kA kc : Class} {n k : Int32} {Q : Addr → Pre} (hk : s.vm.classes[cA]? = some kA) (hkind : kA.kind = .array comp (.array .int)) (hkc : s.vm.classes[comp]? = some kc) (hkindc : kc.kind = .array c2 .int) (hn : ¬ n < 0) (hz : ¬ n = 0) (hk0 : ¬ k < 0) (hlimit : ¬ n.toNatClampNeg > e.platform.arrayLengthLimit) (hheap : ¬ n.toNatClampNeg * componentBytes (.array .int) > e.platform.maxHeapBytes) (hlimit2 : ¬ k.toNatClampNeg > e.platform.arrayLengthLimit) (hheap2 : ¬ k.toNatClampNeg * componentBytes .int > e.platform.maxHeapBytes) (hcells : s.heap.size + (1 + n.toNatClampNeg) ≤ e.platform.maxCells) (hslots : s.slotsUsed + (n.toNatClampNeg + n.toNatClampNeg * k.toNatClampNeg) ≤ e.platform.maxSlots) (hq : ∀ d' acts', Q s.heap.size d' acts' (ma_run s.heap.size comp k.toNatClampNeg n.toNatClampNeg 0 (s.pushCell { cls := cA, slots := Array.replicate n.toNatClampNeg Value.null }) { cls := cA, slots := Array.replicate n.toNatClampNeg Value.null })) : wp (multianewarray.make cA [n, k]) Q E e d acts s := by
  rw [multianewarray.make.eq_2]
  simp only [wp_bind', Jvm.W.ite, hn, if_false, wp_pure', Jvm.W.theClass, hk, Option.some.injEq, exists_eq_left', hkind]
  refine Jvm.W.newArray_of hk hkind hlimit hheap (by omega) (by omega) rfl fun acts' => ?_
  simp only [beq_iff_eq, hz, if_false, wp_pure', Std.Legacy.Range.forIn_eq_forIn_range', wp_bind']
  have hsz : ([:n.toNatClampNeg] : Std.Legacy.Range).size = n.toNatClampNeg := by simp [Std.Legacy.Range.size]
  rw [hsz]
  refine ma_loop (cA := cA) (kA := kA) (kc := kc) (c2 := c2) hkindc hkind hk0 hlimit2 hheap2 n.toNatClampNeg 0 d acts' _ { cls := cA, slots := Array.replicate n.toNatClampNeg Value.null } hkc hk ?_ rfl rfl ?_ ?_ ?_ (fun d' acts' => hq d' acts')
  · show (s.heap.push _)[s.heap.size]? = _
    simp
  · simp
  · show (s.heap.push _).size + _ ≤ _
    simp only [Array.size_push]
    omega
  · show s.slotsUsed + (Array.replicate n.toNatClampNeg Value.null).size + _ ≤ _
    simp only [Array.size_replicate]
    omega
end Ma
theorem ma_setTop {a : Addr} {comp : ClassId} {kN : Nat} {f : JFrame} : ∀ (m i : Nat) (s : State) (ce : Cell), ma_run a comp kN m i (s.setTop f) ce = (ma_run a comp kN m i s ce).setTop f
  | 0, _, _, _ => rfl
  | m + 1, i, s, ce => by
    rw [ma_run, ma_run]
    rw [show ((s.setTop f).pushCell (ma_in comp kN)).setCell a (ce.setSlot i (.ref (s.setTop f).heap.size)) = ((s.pushCell (ma_in comp kN)).setCell a (ce.setSlot i (.ref s.heap.size))).setTop f from rfl]
    exact ma_setTop m (i + 1) _ _
theorem ma_heap {a : Addr} {comp : ClassId} {kN : Nat} : ∀ (m i : Nat) (s : State) (ce : Cell), s.heap[a]? = some ce → (ma_run a comp kN m i s ce).vm = s.vm ∧ (ma_run a comp kN m i s ce).heap.size = s.heap.size + m ∧ (∀ q, q < s.heap.size → q ≠ a → (ma_run a comp kN m i s ce).heap[q]? = s.heap[q]?) ∧ (∀ j, j < m → (ma_run a comp kN m i s ce).heap[s.heap.size + j]? = some (ma_in comp kN)) ∧ ∃ F : Cell, (ma_run a comp kN m i s ce).heap[a]? = some F ∧ F.cls = ce.cls ∧ F.vm = ce.vm ∧ F.slots.size = ce.slots.size ∧ (∀ j, j < i → F.slots[j]? = ce.slots[j]?) ∧ ∀ j, j < m → i + j < ce.slots.size → F.slots[i + j]? = some (.ref (s.heap.size + j))
  | 0, i, s, ce, h => ⟨rfl, rfl, fun _ _ _ => rfl, fun j hj => by omega, ce, h, rfl, rfl, rfl, fun _ _ => rfl, fun j hj => by omega⟩
  | m + 1, i, s, ce, h => by
    have ha : a < s.heap.size := (Array.getElem?_eq_some_iff.mp h).1
    have hs : ((s.pushCell (ma_in comp kN)).setCell a (ce.setSlot i (.ref s.heap.size))).heap.size = s.heap.size + 1 := by
      show ((s.heap.push _).setIfInBounds a _).size = _
      simp
    have hc : ((s.pushCell (ma_in comp kN)).setCell a (ce.setSlot i (.ref s.heap.size))).heap[a]? = some (ce.setSlot i (.ref s.heap.size)) := by
      show ((s.heap.push _).setIfInBounds a _)[a]? = _
      simp [Nat.lt_succ_of_lt ha]
    have ho : ∀ q, q ≠ a → ((s.pushCell (ma_in comp kN)).setCell a (ce.setSlot i (.ref s.heap.size))).heap[q]? = (s.heap.push (ma_in comp kN))[q]? := by
      intro q hq
      show ((s.heap.push _).setIfInBounds a _)[q]? = _
      rw [Array.getElem?_setIfInBounds, if_neg (fun w => hq w.symm)]
    obtain ⟨v1, v2, v3, v4, F, f1, f2, f3, f4, f5, f6⟩ := ma_heap (a := a) (comp := comp) (kN := kN) m (i + 1) _ _ hc
    rw [hs] at v2 v4 f6
    rw [ma_run]
    have hz : (ce.setSlot i (.ref s.heap.size)).slots.size = ce.slots.size := by
      show (ce.slots.setIfInBounds i _).size = _
      simp
    refine ⟨v1, by rw [v2]; omega, fun q h1 h2 => ?_, fun j hj => ?_, F, f1, f2, f3, f4.trans hz, fun j hj => ?_, fun j hj hlt => ?_⟩
    · rw [v3 q (by rw [hs]; omega) h2, ho q h2, Array.getElem?_push_lt h1, Array.getElem?_eq_getElem h1]
    · cases j with
      | zero =>
        have hx := (v3 s.heap.size (by rw [hs]; exact Nat.lt_succ_self _) (Nat.ne_of_gt ha)).trans (ho _ (Nat.ne_of_gt ha))
        refine Eq.trans ?_ (hx.trans (by simp))
        rfl
      | succ j =>
        rw [show s.heap.size + (j + 1) = s.heap.size + 1 + j by omega]
        exact v4 j (by omega)
    · rw [f5 j (by omega)]
      show (ce.slots.setIfInBounds i _)[j]? = _
      rw [Array.getElem?_setIfInBounds, if_neg (by omega)]
    · cases j with
      | zero =>
        rw [Nat.add_zero, f5 i (by omega)]
        show (ce.slots.setIfInBounds i _)[i]? = _
        rw [Array.getElem?_setIfInBounds, if_pos rfl, if_pos (by omega)]
        rfl
      | succ j =>
        rw [show i + (j + 1) = i + 1 + j by omega, show s.heap.size + (j + 1) = s.heap.size + 1 + j by omega]
        exact f6 j (by omega) (by rw [hz]; omega)
theorem ma_stand {p : Program} {l : Launch} {e : Env} {R : Room} {s : State} {m0 : MethodId} {args : Array Value} {below : List Frame} {meth : Method} {co : Code} {a : Addr} {comp : ClassId} {kN : Nat} : ∀ (m i : Nat) (T : State) (ce : Cell) (locs : List Loc) (cells slots : Nat), Stand p l e R s m0 args below meth co T locs cells slots → T.heap[a]? = some ce → ∃ L : List Loc, (∀ q ∈ L, q.base = a) ∧ Stand p l e R s m0 args below meth co (ma_run a comp kN m i T ce) (locs ++ L) (cells + m) (slots + m * kN)
  | 0, _, T, ce, locs, cells, slots, X, _ => ⟨[], fun _ h => (by cases h), by rw [List.append_nil, Nat.zero_mul]; exact X⟩
  | m + 1, i, T, ce, locs, cells, slots, X, h => by
    have ha : a < T.heap.size := (Array.getElem?_eq_some_iff.mp h).1
    have hc : (T.pushCell (ma_in comp kN)).heap[a]? = some ce := by
      show (T.heap.push _)[a]? = _
      rw [Array.getElem?_push_lt ha, ← h, Array.getElem?_eq_getElem ha]
    have X2 := (X.pushed (ma_in comp kN)).stored hc i (.ref T.heap.size)
    obtain ⟨L, h1, h2⟩ := ma_stand (a := a) (comp := comp) (kN := kN) m (i + 1) _ (ce.setSlot i (.ref T.heap.size)) _ _ _ X2 (by
      show ((T.heap.push _).setIfInBounds a _)[a]? = _
      simp [Nat.lt_succ_of_lt ha])
    refine ⟨⟨a, i⟩ :: L, fun q hq => ?_, ?_⟩
    · rcases List.mem_cons.mp hq with rfl | hq
      · rfl
      · exact h1 q hq
    · rw [ma_run]
      have e1 : (ma_in comp kN).slots.size = kN := by simp [ma_in]
      rw [e1, List.append_assoc] at h2
      rw [show cells + (m + 1) = cells + 1 + m by omega, show slots + (m + 1) * kN = slots + kN + m * kN by rw [Nat.succ_mul]; omega]
      exact h2
