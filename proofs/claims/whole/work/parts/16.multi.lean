/-! new int[n][k] -/
def ma_in (comp : ClassId) (kN : Nat) : Cell := { cls := comp, slots := Array.replicate kN (.int 0) }
def ma_run (a : Addr) (comp : ClassId) (kN : Nat) : Nat → Nat → State → Cell → State
  | 0, _, s, _ => s
  | m + 1, i, s, ce => ma_run a comp kN m (i + 1) ((s.pushCell (ma_in comp kN)).setCell a (ce.setSlot i (.ref s.heap.size))) (ce.setSlot i (.ref s.heap.size))
section Ma
variable {e : Env} {E : CtlPost} {d : Bool} {acts : List Action} {s : State}
theorem ma_make1 {comp c2 : ClassId} {kc : Class} {k : Int32} {Q : Addr → Pre} (hk : s.vm.classes[comp]? = some kc) (hkind : kc.kind = .array c2 .int) (hn : ¬ k < 0) (hlimit : ¬ k.toNatClampNeg > e.platform.arrayLengthLimit) (hheap : ¬ k.toNatClampNeg * componentBytes .int > e.platform.maxHeapBytes) (hcells : s.heap.size < e.platform.maxCells) (hslots : s.slotsUsed + k.toNatClampNeg ≤ e.platform.maxSlots) (hq : ∀ acts', Q s.heap.size d acts' (s.pushCell (ma_in comp k.toNatClampNeg))) : wp (multianewarray.make comp [k]) Q E e d acts s := by
  simp only [multianewarray.make, wp_bind', Jvm.W.ite, hn, if_false, wp_pure', Jvm.W.theClass, hk, Option.some.injEq, exists_eq_left', hkind]
  exact Jvm.W.newArray_of hk hkind hlimit hheap hcells hslots rfl hq
theorem ma_loop {a : Addr} {cA comp c2 : ClassId} {kA kc : Class} {k : Int32} {Q : Pre} (hkind : kc.kind = .array c2 .int) (hkindA : kA.kind = .array comp (.array .int)) (hn : ¬ k < 0) (hlimit : ¬ k.toNatClampNeg > e.platform.arrayLengthLimit) (hheap : ¬ k.toNatClampNeg * componentBytes .int > e.platform.maxHeapBytes) : ∀ (m i : Nat) (d : Bool) (acts : List Action) (s : State) (ce : Cell), s.vm.classes[comp]? = some kc → s.vm.classes[cA]? = some kA → s.heap[a]? = some ce → ce.cls = cA → ce.vm = .none → i + m ≤ ce.slots.size → s.heap.size + m ≤ e.platform.maxCells → s.slotsUsed + m * k.toNatClampNeg ≤ e.platform.maxSlots → (∀ d' acts', Q d' acts' (ma_run a comp k.toNatClampNeg m i s ce)) →
    wp (forIn (List.range' i m) PUnit.unit fun i (_ : PUnit) => (do
      let x ← multianewarray.make comp [k]
      writeLoc a i (Value.ref x)
      Pure.pure (ForInStep.yield PUnit.unit) : Sem (ForInStep PUnit))) (fun _ => Q) E e d acts s
  | 0, i, d, acts, s, ce, _, _, _, _, _, _, _, _, hq => by
    simp only [List.range'_zero, List.forIn_nil, wp_pure']
    exact hq d acts
  | m + 1, i, d, acts, s, ce, h1, h2, h3, h4, h5, h6, h7, h8, hq => by
    rw [Nat.succ_mul] at h8
    simp only [List.range'_succ, List.forIn_cons, wp_bind']
    refine ma_make1 h1 hkind hn hlimit hheap (by omega) (by omega) fun acts' => ?_
    have ha : a < s.heap.size := (Array.getElem?_eq_some_iff.mp h3).1
    have hc : (s.pushCell (ma_in comp k.toNatClampNeg)).heap[a]? = some ce := by
      show (s.heap.push _)[a]? = _
      rw [Array.getElem?_push_lt ha]
      rw [← h3, Array.getElem?_eq_getElem ha]
    simp only [wp_bind', Jvm.W.writeLoc, wp_pure']
    refine ⟨ce, hc, by rw [h5]; decide, by omega, ?_, ?_⟩
    · have h2' : (s.pushCell (ma_in comp k.toNatClampNeg)).vm.classes[cA]? = some kA := h2
      have h2b : s.vm.classes[cA]? = some kA := h2
      simp [State.fitsSlot, State.slotType?, h4, h2b, hkindA, h5, fits]
    · refine ma_loop hkind hkindA hn hlimit hheap m (i + 1) true _ _ (ce.setSlot i (.ref s.heap.size)) h1 h2 ?_ h4 h5 ?_ ?_ ?_ hq
      · show ((s.heap.push _).setIfInBounds a _)[a]? = _
        simp [Nat.lt_succ_of_lt ha]
      · show i + 1 + m ≤ (ce.slots.setIfInBounds i _).size
        simp only [Array.size_setIfInBounds]
        omega
      · show ((s.heap.push _).setIfInBounds a _).size + m ≤ _
        simp only [Array.size_setIfInBounds, Array.size_push]
        omega
      · show s.slotsUsed + (Array.replicate k.toNatClampNeg (Value.int 0)).size + m * k.toNatClampNeg ≤ _
        simp only [Array.size_replicate]
        omega
theorem ma_make2 {cA comp c2 : ClassId} {kA kc : Class} {n k : Int32} {Q : Addr → Pre} (hk : s.vm.classes[cA]? = some kA) (hkind : kA.kind = .array comp (.array .int)) (hkc : s.vm.classes[comp]? = some kc) (hkindc : kc.kind = .array c2 .int) (hn : ¬ n < 0) (hz : ¬ n = 0) (hk0 : ¬ k < 0) (hlimit : ¬ n.toNatClampNeg > e.platform.arrayLengthLimit) (hheap : ¬ n.toNatClampNeg * componentBytes (.array .int) > e.platform.maxHeapBytes) (hlimit2 : ¬ k.toNatClampNeg > e.platform.arrayLengthLimit) (hheap2 : ¬ k.toNatClampNeg * componentBytes .int > e.platform.maxHeapBytes) (hcells : s.heap.size + (1 + n.toNatClampNeg) ≤ e.platform.maxCells) (hslots : s.slotsUsed + (n.toNatClampNeg + n.toNatClampNeg * k.toNatClampNeg) ≤ e.platform.maxSlots) (hq : ∀ d' acts', Q s.heap.size d' acts' (ma_run s.heap.size comp k.toNatClampNeg n.toNatClampNeg 0 (s.pushCell { cls := cA, slots := Array.replicate n.toNatClampNeg Value.null }) { cls := cA, slots := Array.replicate n.toNatClampNeg Value.null })) : wp (multianewarray.make cA [n, k]) Q E e d acts s := by
  rw [multianewarray.make.eq_2]
  simp only [wp_bind', Jvm.W.ite, hn, if_false, wp_pure', Jvm.W.theClass, hk, Option.some.injEq, exists_eq_left', hkind]
  refine Jvm.W.newArray_of hk hkind hlimit hheap (by omega) (by omega) rfl fun acts' => ?_
  simp only [beq_iff_eq, hz, if_false, wp_pure', Std.Legacy.Range.forIn_eq_forIn_range', wp_bind']
  have hsz : ([:n.toNatClampNeg] : Std.Legacy.Range).size = n.toNatClampNeg := by simp [Std.Legacy.Range.size]
  rw [hsz]
  refine ma_loop (cA := cA) (kA := kA) (kc := kc) (c2 := c2) hkindc hkind hk0 hlimit2 hheap2 n.toNatClampNeg 0 d acts' _ { cls := cA, slots := Array.replicate n.toNatClampNeg Value.null } hkc hk ?_ rfl rfl ?_ ?_ ?_ (fun d' acts' => hq d' acts')
  · show (s.heap.push _)[s.heap.size]? = _
    simp
  · simp
  · show (s.heap.push _).size + _ ≤ _
    simp only [Array.size_push]
    omega
  · show s.slotsUsed + (Array.replicate n.toNatClampNeg Value.null).size + _ ≤ _
    simp only [Array.size_replicate]
    omega
end Ma
theorem ma_setTop {a : Addr} {comp : ClassId} {kN : Nat} {f : JFrame} : ∀ (m i : Nat) (s : State) (ce : Cell), ma_run a comp kN m i (s.setTop f) ce = (ma_run a comp kN m i s ce).setTop f
  | 0, _, _, _ => rfl
  | m + 1, i, s, ce => by
    rw [ma_run, ma_run]
    rw [show ((s.setTop f).pushCell (ma_in comp kN)).setCell a (ce.setSlot i (.ref (s.setTop f).heap.size)) = ((s.pushCell (ma_in comp kN)).setCell a (ce.setSlot i (.ref s.heap.size))).setTop f from rfl]
    exact ma_setTop m (i + 1) _ _
theorem ma_top {a : Addr} {comp : ClassId} {kN : Nat} : ∀ (m i : Nat) (s : State) (ce : Cell), (ma_run a comp kN m i s ce).topJava? = s.topJava?
  | 0, _, _, _ => rfl
  | m + 1, i, s, ce => by
    rw [ma_run, ma_top m (i + 1)]
    rfl
theorem ma_heap {a : Addr} {comp : ClassId} {kN : Nat} : ∀ (m i : Nat) (s : State) (ce : Cell), s.heap[a]? = some ce → (ma_run a comp kN m i s ce).vm = s.vm ∧ (ma_run a comp kN m i s ce).heap.size = s.heap.size + m ∧ (∀ q, q < s.heap.size → q ≠ a → (ma_run a comp kN m i s ce).heap[q]? = s.heap[q]?) ∧ (∀ j, j < m → (ma_run a comp kN m i s ce).heap[s.heap.size + j]? = some (ma_in comp kN)) ∧ ∃ F : Cell, (ma_run a comp kN m i s ce).heap[a]? = some F ∧ F = { ce with slots := F.slots } ∧ True ∧ F.slots.size = ce.slots.size ∧ (∀ j, j < i → F.slots[j]? = ce.slots[j]?) ∧ ∀ j, j < m → i + j < ce.slots.size → F.slots[i + j]? = some (.ref (s.heap.size + j))
  | 0, i, s, ce, h => ⟨rfl, rfl, fun _ _ _ => rfl, fun j hj => by omega, ce, h, rfl, trivial, rfl, fun _ _ => rfl, fun j hj => by omega⟩
  | m + 1, i, s, ce, h => by
    have ha : a < s.heap.size := (Array.getElem?_eq_some_iff.mp h).1
    have hs : ((s.pushCell (ma_in comp kN)).setCell a (ce.setSlot i (.ref s.heap.size))).heap.size = s.heap.size + 1 := by
      show ((s.heap.push _).setIfInBounds a _).size = _
      simp
    have hc : ((s.pushCell (ma_in comp kN)).setCell a (ce.setSlot i (.ref s.heap.size))).heap[a]? = some (ce.setSlot i (.ref s.heap.size)) := by
      show ((s.heap.push _).setIfInBounds a _)[a]? = _
      simp [Nat.lt_succ_of_lt ha]
    have ho : ∀ q, q ≠ a → ((s.pushCell (ma_in comp kN)).setCell a (ce.setSlot i (.ref s.heap.size))).heap[q]? = (s.heap.push (ma_in comp kN))[q]? := by
      intro q hq
      show ((s.heap.push _).setIfInBounds a _)[q]? = _
      rw [Array.getElem?_setIfInBounds, if_neg (fun w => hq w.symm)]
    obtain ⟨v1, v2, v3, v4, F, f1, f2, f3, f4, f5, f6⟩ := ma_heap (a := a) (comp := comp) (kN := kN) m (i + 1) _ _ hc
    rw [hs] at v2 v4 f6
    rw [ma_run]
    have hz : (ce.setSlot i (.ref s.heap.size)).slots.size = ce.slots.size := by
      show (ce.slots.setIfInBounds i _).size = _
      simp
    refine ⟨v1, by rw [v2]; omega, fun q h1 h2 => ?_, fun j hj => ?_, F, f1, f2, trivial, f4.trans hz, fun j hj => ?_, fun j hj hlt => ?_⟩
    · rw [v3 q (by rw [hs]; omega) h2, ho q h2, Array.getElem?_push_lt h1, Array.getElem?_eq_getElem h1]
    · cases j with
      | zero =>
        have hx := (v3 s.heap.size (by rw [hs]; exact Nat.lt_succ_self _) (Nat.ne_of_gt ha)).trans (ho _ (Nat.ne_of_gt ha))
        refine Eq.trans ?_ (hx.trans (by simp))
        rfl
      | succ j =>
        rw [show s.heap.size + (j + 1) = s.heap.size + 1 + j by omega]
        exact v4 j (by omega)
    · rw [f5 j (by omega)]
      show (ce.slots.setIfInBounds i _)[j]? = _
      rw [Array.getElem?_setIfInBounds, if_neg (by omega)]
    · cases j with
      | zero =>
        rw [Nat.add_zero, f5 i (by omega)]
        show (ce.slots.setIfInBounds i _)[i]? = _
        rw [Array.getElem?_setIfInBounds, if_pos rfl, if_pos (by omega)]
        rfl
      | succ j =>
        rw [show i + (j + 1) = i + 1 + j by omega, show s.heap.size + (j + 1) = s.heap.size + 1 + j by omega]
        exact f6 j (by omega) (by rw [hz]; omega)
theorem ma_stand {p : Program} {l : Launch} {e : Env} {R : Room} {s : State} {m0 : MethodId} {args : Array Value} {below : List Frame} {meth : Method} {co : Code} {a : Addr} {comp : ClassId} {kN : Nat} : ∀ (m i : Nat) (T : State) (ce : Cell) (locs : List Loc) (cells slots : Nat), Stand p l e R s m0 args below meth co T locs cells slots → T.heap[a]? = some ce → ∃ L : List Loc, (∀ q ∈ L, q.base = a) ∧ Stand p l e R s m0 args below meth co (ma_run a comp kN m i T ce) (locs ++ L) (cells + m) (slots + m * kN)
  | 0, _, T, ce, locs, cells, slots, X, _ => ⟨[], fun _ h => (by cases h), by rw [List.append_nil, Nat.zero_mul]; exact X⟩
  | m + 1, i, T, ce, locs, cells, slots, X, h => by
    have ha : a < T.heap.size := (Array.getElem?_eq_some_iff.mp h).1
    have hc : (T.pushCell (ma_in comp kN)).heap[a]? = some ce := by
      show (T.heap.push _)[a]? = _
      rw [Array.getElem?_push_lt ha, ← h, Array.getElem?_eq_getElem ha]
    have X2 := (X.pushed (ma_in comp kN)).stored hc i (.ref T.heap.size)
    obtain ⟨L, h1, h2⟩ := ma_stand (a := a) (comp := comp) (kN := kN) m (i + 1) _ (ce.setSlot i (.ref T.heap.size)) _ _ _ X2 (by
      show ((T.heap.push _).setIfInBounds a _)[a]? = _
      simp [Nat.lt_succ_of_lt ha])
    refine ⟨⟨a, i⟩ :: L, fun q hq => ?_, ?_⟩
    · rcases List.mem_cons.mp hq with rfl | hq
      · rfl
      · exact h1 q hq
    · rw [ma_run]
      have e1 : (ma_in comp kN).slots.size = kN := by simp [ma_in]
      rw [e1, List.append_assoc] at h2
      rw [show cells + (m + 1) = cells + 1 + m by omega, show slots + (m + 1) * kN = slots + kN + m * kN by rw [Nat.succ_mul]; omega]
      exact h2
theorem ma_step {p : Program} {l : Launch} {e : Env} {R : Room} {s : State} {m : MethodId} {args : Array Value} {below : List Frame} {meth : Method} {c : Code} {T : State} {locs : List Loc} {cells slots : Nat} (X : Stand p l e R s m args below meth c T locs cells slots) (hexec : p.tables.exec = Jvm.exec) {own : String} {index : Nat}
    (hown : s.vm.findClass own = some m.cls) (hclink : (Cond.classLink own index "[[I").before args s = true) (hover : ia_AOI s) (harr : (Cond.arrayClass .int).before args s = true)
    {g : JFrame} (hg : g.method = m) (hdg : decode c.code g.pc = .ok (.multianewarray index 2, 4)) {n k : Int32} {rest : List Value} (hstack : g.stack = .int k :: .int n :: rest)
    (hn : ¬ n < 0) (hz : ¬ n = 0) (hk : ¬ k < 0) (hb1 : n.toNatClampNeg ≤ 10000) (hb2 : k.toNatClampNeg ≤ 10000)
    (hcells : cells + (1 + n.toNatClampNeg) ≤ R.cells) (hslots : slots + (n.toNatClampNeg + n.toNatClampNeg * k.toNatClampNeg) ≤ R.slots) :
    ∃ (vm₁ : Vm) (cA comp : ClassId), s.WarmedH vm₁ ∧ s.vm.findClass "[[I" = some cA ∧ s.vm.findClass "[I" = some comp ∧
      ∀ target, Steps p.tables e below ((ma_run T.heap.size comp k.toNatClampNeg n.toNatClampNeg 0 ((T.setVm vm₁).pushCell { cls := cA, slots := Array.replicate n.toNatClampNeg Value.null }) { cls := cA, slots := Array.replicate n.toNatClampNeg Value.null }).setTop { g with pc := g.pc + 4, stack := .ref T.heap.size :: rest }) target →
        Steps p.tables e below (T.setTop g) target := by
  subst hg
  have hpl : e.platform.magicAccessors = ({} : Platform).magicAccessors := by rw [X.admits.platform]
  obtain ⟨comp, cA, kA, hcomp, -, hkA, hkindA, hnameA⟩ := ia_AOI_spec hover
  obtain ⟨cI, kI, compI, hnameI, hkI, hkindI⟩ := Cond.arrayClass_spec harr
  rw [show ("[" ++ FieldType.int.toString : String) = "[I" from by decide] at hnameI
  cases hcomp.symm.trans hnameI
  obtain ⟨cc, hfcc, hcl⟩ := Cond.classLink_spec hown hclink e.platform hpl
  cases hnameA.symm.trans hfcc
  obtain ⟨hg₁, hwarm₁, hready₁⟩ := State.classEntry (e := e) X.warmed hcl
  generalize T.vm.noted g.method.cls index (.cls cA) = vm₁ at hg₁ hwarm₁ hready₁
  have hal : s.vm.Alike vm₁ := hwarm₁.alike
  obtain ⟨kA₁, hkA₁, heA⟩ := hal.2.2 _ _ hkA
  have hkindA₁ : kA₁.kind = .array comp (.array .int) := by rw [heA]; exact hkindA
  obtain ⟨kI₁, hkI₁, heI⟩ := hal.2.2 _ _ hkI
  have hkindI₁ : kI₁.kind = .array compI .int := by rw [heI]; exact hkindI
  have hlimit : ∀ x, x ≤ 10000 → ¬ x > e.platform.arrayLengthLimit := by intro x hx; rw [Launch.admits_arrayLengthLimit X.admits]; omega
  have hheap : ∀ x, x ≤ 10000 → ¬ x * 4 > e.platform.maxHeapBytes := by intro x hx; rw [Launch.admits_maxHeapBytes X.admits]; omega
  obtain ⟨hr1, hr2⟩ := X.roomAbove hcells hslots
  refine ⟨vm₁, cA, comp, hwarm₁, hnameA, hcomp, fun target hrest => ?_⟩
  have hcold : ∀ {Q : Unit → Pre} {E : CtlPost} {d : Bool} {acts : List Action}, wp (multianewarray.sem index 2) Q E e d acts (T.setTop g) ↔ wp (multianewarray.sem index 2) Q E e d acts ((T.setVm vm₁).setTop g) := by
    intro Q E d acts
    simp only [multianewarray.sem, wp_bind']
    exact Jvm.W.resolveClassAt_transfer (s := T.setTop g) (State.method?_setTop g X.here.top) hg₁ hready₁
  have hwarm : ∀ {Q : Unit → Pre} {E : CtlPost} {d : Bool} {acts : List Action}, (∀ d' acts', Q () d' acts' ((ma_run T.heap.size comp k.toNatClampNeg n.toNatClampNeg 0 ((T.setVm vm₁).pushCell { cls := cA, slots := Array.replicate n.toNatClampNeg Value.null }) { cls := cA, slots := Array.replicate n.toNatClampNeg Value.null }).setTop { g with stack := .ref T.heap.size :: rest })) → wp (multianewarray.sem index 2) Q E e d acts ((T.setVm vm₁).setTop g) := by
    intro Q E d acts hq
    simp only [multianewarray.sem, wp_bind']
    rw [Jvm.W.resolveClassAt_ready (s := (T.setVm vm₁).setTop g) (State.method?_setTop g X.here.top) hready₁]
    rw [wp_bind', show (2 : Nat) = ([Value.int n, Value.int k] : List Value).length from rfl, Jvm.Op.popN_top (s := T.setVm vm₁) (f := g) (args := [Value.int n, Value.int k]) (rest := rest) X.here.top hstack]
    simp only [List.mapM_cons, List.mapM_nil, wp_bind', wp_pure']
    refine ma_make2 (s := (T.setVm vm₁).setTop { g with stack := rest }) hkA₁ hkindA₁ hkI₁ hkindI₁ hn hz hk (hlimit _ hb1) (hheap _ hb1) (hlimit _ hb2) (hheap _ hb2) ?_ ?_ (fun d' acts' => ?_)
    · show T.heap.size + _ ≤ _
      omega
    · show T.slotsUsed + _ ≤ _
      exact hr2
    · rw [show ((T.setVm vm₁).setTop { g with stack := rest }).pushCell { cls := cA, slots := Array.replicate n.toNatClampNeg Value.null } = ((T.setVm vm₁).pushCell { cls := cA, slots := Array.replicate n.toNatClampNeg Value.null }).setTop { g with stack := rest } from rfl, ma_setTop]
      simp only [wp_bind', Jvm.W.mark, Jvm.W.pushRef]
      have ht : (ma_run ((T.setVm vm₁).setTop { g with stack := rest }).heap.size comp k.toNatClampNeg n.toNatClampNeg 0 ((T.setVm vm₁).pushCell { cls := cA, slots := Array.replicate n.toNatClampNeg Value.null }) { cls := cA, slots := Array.replicate n.toNatClampNeg Value.null }).topJava?.isSome = true := by
        rw [ma_top]
        exact X.here.top
      simp only [State.topJava?_setTop' _ ht, Option.some.injEq, exists_eq_left', State.setTop_setTop]
      exact hq _ _
  jvm_step X.here [hexec, hdg, hcold]
  refine hwarm fun d' acts' => ?_
  intro acts2
  have ht : (ma_run T.heap.size comp k.toNatClampNeg n.toNatClampNeg 0 ((T.setVm vm₁).pushCell { cls := cA, slots := Array.replicate n.toNatClampNeg Value.null }) { cls := cA, slots := Array.replicate n.toNatClampNeg Value.null }).topJava?.isSome = true := by
    rw [ma_top]
    exact X.here.top
  generalize ma_run T.heap.size comp k.toNatClampNeg n.toNatClampNeg 0 ((T.setVm vm₁).pushCell { cls := cA, slots := Array.replicate n.toNatClampNeg Value.null }) { cls := cA, slots := Array.replicate n.toNatClampNeg Value.null } = T2 at ht hrest ⊢
  simpa [jvm, ht] using hrest
/-- the heap behind new int[nn][kk] -/
def ia_n2 (h : ia_H) (nn kk : Nat) : ia_H :=
  ((fun b j => if 64 + ia_n h ≤ b ∧ b ≤ 64 + ia_n h + nn then 0 else ia_i h b j), (fun b j => if 64 + ia_n h ≤ b ∧ b ≤ 64 + ia_n h + nn then 0 else ia_l h b j), (fun b j => if b = 64 + ia_n h then (if j < nn then 64 + ia_n h + 1 + j else 0) else if 64 + ia_n h < b ∧ b ≤ 64 + ia_n h + nn then 0 else ia_r h b j), (fun b => if b = 64 + ia_n h then (117, nn) else if 64 + ia_n h < b ∧ b ≤ 64 + ia_n h + nn then (100, kk) else ia_k h b), ia_n h + (1 + nn), ia_m h + (nn + nn * kk))
theorem ia_n2_en {g : ia_G} {h : ia_H} {nn kk b : Nat} (hb : b < 64 + ia_n h) : ia_en g (ia_n2 h nn kk) b = ia_en g h b := by
  have e1 : ia_i (ia_n2 h nn kk) b = ia_i h b := by
    funext j
    simp only [ia_n2, ia_i, if_neg (show ¬ (64 + ia_n h ≤ b ∧ b ≤ 64 + ia_n h + nn) by omega)]
  have e2 : ia_l (ia_n2 h nn kk) b = ia_l h b := by
    funext j
    simp only [ia_n2, ia_l, if_neg (show ¬ (64 + ia_n h ≤ b ∧ b ≤ 64 + ia_n h + nn) by omega)]
  have e3 : ia_r (ia_n2 h nn kk) b = ia_r h b := by
    funext j
    simp only [ia_n2, ia_r, if_neg (show ¬ b = 64 + ia_n h by omega), if_neg (show ¬ (64 + ia_n h < b ∧ b ≤ 64 + ia_n h + nn) by omega)]
  have e4 : ia_k (ia_n2 h nn kk) b = ia_k h b := by
    simp only [ia_n2, ia_k, if_neg (show ¬ b = 64 + ia_n h by omega), if_neg (show ¬ (64 + ia_n h < b ∧ b ≤ 64 + ia_n h + nn) by omega)]
  have ef : ∀ ci, ia_fv g (ia_n2 h nn kk) b ci = ia_fv g h b ci := by
    intro ci
    funext j
    unfold ia_fv
    rw [e1, e2, e3]
  unfold ia_en
  rw [ef, e1, e2, e3, e4]
theorem ia_n2_hk {g : ia_G} {h : ia_H} {nn kk : Nat} (hk : ia_hk g h) : ia_hk g (ia_n2 h nn kk) := by
  refine ⟨fun a ha => ?_, fun a ha => ?_⟩
  · have e1 : ia_i (ia_n2 h nn kk) a = ia_i h a := by
      funext j
      simp only [ia_n2, ia_i, if_neg (show ¬ (64 + ia_n h ≤ a ∧ a ≤ 64 + ia_n h + nn) by omega)]
    have e4 : ia_k (ia_n2 h nn kk) a = ia_k h a := by
      simp only [ia_n2, ia_k, if_neg (show ¬ a = 64 + ia_n h by omega), if_neg (show ¬ (64 + ia_n h < a ∧ a ≤ 64 + ia_n h + nn) by omega)]
    rw [e1, e4]
    exact hk.1 a ha
  · have h1 : 64 + (ia_n h + (1 + nn)) ≤ a := ha
    have e4 : ia_k (ia_n2 h nn kk) a = ia_k h a := by
      simp only [ia_n2, ia_k, if_neg (show ¬ a = 64 + ia_n h by omega), if_neg (show ¬ (64 + ia_n h < a ∧ a ≤ 64 + ia_n h + nn) by omega)]
    rw [e4]
    exact hk.2 a (by omega)
theorem ia_mna {d : Nat} {M : ia_M} {N1 W1 : Nat} {K : ia_K} {pc idx : Nat} {lv : ia_L} {st : List ia_V} {h : ia_H} {n k : Int32} (hK : ia_isK d M N1 W1 K) (hl : Cond.classLink (ia_O M.2.2.2.2.1) idx "[[I" ∈ ia_tb) (hw : Cond.arrayClass .int ∈ ia_tb) (hd : decode M.2.1 pc = .ok (.multianewarray idx 2, 4)) (hn0 : ¬ n < 0) (hz : ¬ n = 0) (hk0 : ¬ k < 0) (hb1 : n.toNatClampNeg ≤ 10000) (hb2 : k.toNatClampNeg ≤ 10000) (hcap : ia_n h + (1 + n.toNatClampNeg) ≤ N1 ∧ ia_m h + (n.toNatClampNeg + n.toNatClampNeg * k.toNatClampNeg) ≤ W1) (kk : K (pc + 4) lv (.inr (.inr (64 + ia_n h)) :: st) (ia_n2 h n.toNatClampNeg k.toNatClampNeg)) : K pc lv (.inl k :: .inl n :: st) h := by
  obtain ⟨p, l, e, R, s, m, args, below, meth, co, g, n0, w0, Q, rfl, G, hX, hR1, hR2, hR3, hR4⟩ := hK
  intro H locs ls hl' hn hP hk hS
  have hs := G.2.2.2.2.2.2.2.2.2
  refine ia_W_sz fun hle => ?_
  have hsz := ia_hsz G hP hS hn.2.1 hle
  intro T hT X
  obtain ⟨vm₁, cA, comp, hwarm, hnA, hnC, hst⟩ := ma_step X G.1 G.2.2.2.1 (G.2.2.2.2.1 _ hl) hX.2.2.2.2.2.2.2 (G.2.2.2.2.1 _ hw) (g := F0 m pc ls (.int k :: .int n :: st.map (ia_rv g))) rfl (by rw [G.2.1]; exact hd) rfl hn0 hz hk0 hb1 hb2 (by omega) (by omega)
  have hcA : cA = ia_cA g 117 := Option.some.inj (hnA.symm.trans ((G.2.2.2.2.2.2.1.2 9 _ rfl).2))
  have hcC : comp = ia_cA g 100 := Option.some.inj (hnC.symm.trans ((G.2.2.2.2.2.2.1.2 0 _ rfl).2))
  have X1 := (X.noted hwarm).pushed { cls := cA, slots := Array.replicate n.toNatClampNeg Value.null }
  have hTs : T.heap.size = ia_z g + ia_n h := by rw [hT]; exact hsz
  have hc0 : ((T.setVm vm₁).pushCell { cls := cA, slots := Array.replicate n.toNatClampNeg Value.null }).heap[T.heap.size]? = some { cls := cA, slots := Array.replicate n.toNatClampNeg Value.null } := by
    show (T.heap.push _)[T.heap.size]? = _
    simp
  obtain ⟨L, hL, X2⟩ := ma_stand (a := T.heap.size) (comp := comp) (kN := k.toNatClampNeg) n.toNatClampNeg 0 _ _ _ _ _ X1 hc0
  obtain ⟨v1, v2, v3, v4, F, f1, f2, f3, f4, f5, f6⟩ := ma_heap (a := T.heap.size) (comp := comp) (kN := k.toNatClampNeg) n.toNatClampNeg 0 _ _ hc0
  have hps : ((T.setVm vm₁).pushCell { cls := cA, slots := Array.replicate n.toNatClampNeg Value.null }).heap.size = T.heap.size + 1 := by
    show (T.heap.push _).size = _
    simp
  rw [hps] at v2 v3 v4 f6
  have hold : ∀ q, q < T.heap.size → ((T.setVm vm₁).pushCell { cls := cA, slots := Array.replicate n.toNatClampNeg Value.null }).heap[q]? = H[q]? := by
    intro q hq
    show (T.heap.push _)[q]? = _
    rw [Array.getElem?_push_lt hq, ← Array.getElem?_eq_getElem hq, hT]
  generalize hT2 : ma_run T.heap.size comp k.toNatClampNeg n.toNatClampNeg 0 ((T.setVm vm₁).pushCell { cls := cA, slots := Array.replicate n.toNatClampNeg Value.null }) { cls := cA, slots := Array.replicate n.toNatClampNeg Value.null } = T2 at X2 v1 v2 v3 v4 f1 hst
  have hkeep : ∀ q, q < ia_z g + ia_n h → T2.heap[q]? = H[q]? := fun q hq => by rw [v3 q (by omega) (by omega), hold q (by omega)]
  have hP2 : va_P (ia_D g) ia_cl (ia_w g (ia_n2 h n.toNatClampNeg k.toNatClampNeg)) T2.heap := by
    intro i q hi
    obtain ⟨hlt, rfl⟩ := ia_w_lt hi
    have hlt : i < ia_n h + (1 + n.toNatClampNeg) := hlt
    rcases Nat.lt_trichotomy i (ia_n h) with h1 | h1 | h1
    · rw [ia_n2_en (by omega)]
      have hw0 := ia_w_at (g := g) (h := h) (a := 64 + i) (by omega) (by omega)
      rw [show 64 + i - 64 = i by omega] at hw0
      exact (hP i _ hw0).kept (hkeep _ (by omega))
    · subst h1
      have e4 : ia_k (ia_n2 h n.toNatClampNeg k.toNatClampNeg) (64 + ia_n h) = (117, n.toNatClampNeg) := by simp only [ia_n2, ia_k, if_true]
      rw [ia_en_r (k := 117) (by rw [e4]) (by omega), e4]
      show T2.heap[ia_z g + ia_n h]? = some (vp_cell _ _)
      rw [← hTs, f1, vp_cell_q]
      congr 1
      rw [f2]
      unfold arrV
      rw [← hcA]
      congr 1
      apply Array.ext_getElem?
      intro j
      have hsize : F.slots.size = n.toNatClampNeg := by rw [f4]; simp
      rcases Nat.lt_or_ge j n.toNatClampNeg with hj | hj
      · have h6 := f6 j hj (by simpa using hj)
        rw [Nat.zero_add] at h6
        rw [h6]
        have er : ia_r (ia_n2 h n.toNatClampNeg k.toNatClampNeg) (64 + ia_n h) j = 64 + ia_n h + 1 + j := by simp only [ia_n2, ia_r, if_true, if_pos hj]
        have ero : ia_ro g (64 + ia_n h + 1 + j) = some (ia_z g + (ia_n h + 1 + j)) := by
          unfold ia_ro
          rw [if_neg (by omega), if_neg (by omega), show 64 + ia_n h + 1 + j - 64 = ia_n h + 1 + j by omega]
        simp only [Array.getElem?_ofFn, hj, dif_pos, er, ero]
        rw [hTs, show ia_z g + ia_n h + 1 + j = ia_z g + (ia_n h + 1 + j) by omega]
        rfl
      · rw [Array.getElem?_eq_none (by omega), Array.getElem?_eq_none (by simp; omega)]
    · have e4 : ia_k (ia_n2 h n.toNatClampNeg k.toNatClampNeg) (64 + i) = (100, k.toNatClampNeg) := by simp only [ia_n2, ia_k, if_neg (show ¬ 64 + i = 64 + ia_n h by omega), if_pos (show 64 + ia_n h < 64 + i ∧ 64 + i ≤ 64 + ia_n h + n.toNatClampNeg by omega)]
      have e1 : ia_i (ia_n2 h n.toNatClampNeg k.toNatClampNeg) (64 + i) = fun _ => 0 := by
        funext j
        simp only [ia_n2, ia_i, if_pos (show 64 + ia_n h ≤ 64 + i ∧ 64 + i ≤ 64 + ia_n h + n.toNatClampNeg by omega)]
      rw [ia_en_i (k := 100) (by rw [e4]) (by omega) (by omega), e4, e1]
      show T2.heap[ia_z g + i]? = some (vp_cell _ _)
      have h4 := v4 (i - ia_n h - 1) (by omega)
      rw [show T.heap.size + 1 + (i - ia_n h - 1) = ia_z g + i by omega] at h4
      rw [h4, vp_cell_i, ← hcC]
      congr 1
      unfold ma_in arrV
      congr 1
      apply Array.ext_getElem?
      intro j
      simp [Array.getElem?_replicate, Array.getElem?_ofFn]
  have hS2 : va_S (fun q => ia_z g ≤ q) s.heap T2.heap (locs ++ L) := by
    refine ⟨by rw [v2]; have := hS.1; omega, fun q h1 h2 => ?_, fun q hq => ?_⟩
    · have h2' : ¬ ia_z g ≤ q := h2
      rw [hkeep q (by omega)]
      exact hS.2.1 q h1 h2
    · rcases List.mem_append.mp hq with w | w
      · exact hS.2.2 q w
      · show ia_z g ≤ q.base
        rw [hL q w]
        omega
  have hK2 := kk T2.heap (locs ++ L) ls hl' ⟨hn.1, by show n0 ≤ ia_n h + (1 + n.toNatClampNeg); omega, by show w0 ≤ ia_m h + (n.toNatClampNeg + n.toNatClampNeg * k.toNatClampNeg); omega, by show ia_n h + (1 + n.toNatClampNeg) - n0 ≤ R.cells; omega, by show ia_m h + (n.toNatClampNeg + n.toNatClampNeg * k.toNatClampNeg) - w0 ≤ R.slots; omega⟩ hP2 (ia_n2_hk hk) hS2
  rw [List.map_cons, ia_rv_new (by omega), show 64 + ia_n h - 64 = ia_n h by omega] at hK2
  have hz0 : (Array.replicate n.toNatClampNeg Value.null).size = n.toNatClampNeg := by simp
  simp only [hz0] at X2
  have X3 : Stand p l e R s m args below meth co T2 (locs ++ L) (ia_n (ia_n2 h n.toNatClampNeg k.toNatClampNeg) - n0) (ia_m (ia_n2 h n.toNatClampNeg k.toNatClampNeg) - w0) := by
    rw [show ia_n (ia_n2 h n.toNatClampNeg k.toNatClampNeg) - n0 = ia_n h - n0 + 1 + n.toNatClampNeg from (by show ia_n h + (1 + n.toNatClampNeg) - n0 = _; omega), show ia_m (ia_n2 h n.toNatClampNeg k.toNatClampNeg) - w0 = ia_m h - w0 + n.toNatClampNeg + n.toNatClampNeg * k.toNatClampNeg from (by show ia_m h + (n.toNatClampNeg + n.toNatClampNeg * k.toNatClampNeg) - w0 = _; omega)]
    exact X2
  obtain ⟨t, a1, b1⟩ := hK2 T2 rfl X3
  refine ⟨t, hst t ?_, b1⟩
  rw [hTs]
  exact a1
