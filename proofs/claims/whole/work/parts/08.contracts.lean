/-! contracts, calls, answers -/
def ia_strs : List (Nat × String × List Int32) := [(154, "size", [115, 105, 122, 101]), (156, "all", [97, 108, 108]), (158, "ice", [105, 99, 101]), (160, "snow", [115, 110, 111, 119]), (162, "weak", [119, 101, 97, 107]), (164, "crack", [99, 114, 97, 99, 107]), (166, "frost", [102, 114, 111, 115, 116]), (168, "bear", [98, 101, 97, 114]), (170, "shore", [115, 104, 111, 114, 101]), (172, "shop", [115, 104, 111, 112]), (174, "least", [108, 101, 97, 115, 116]), (176, "apart", [97, 112, 97, 114, 116]), (178, "share", [115, 104, 97, 114, 101]), (180, "rent", [114, 101, 110, 116]), (182, "lane", [108, 97, 110, 101]), (184, "bar", [98, 97, 114]), (186, "day", [100, 97, 121]), (188, "move", [109, 111, 118, 101]), (190, "off", [111, 102, 102]), (192, "go", [103, 111]), (194, "sweep", [115, 119, 101, 101, 112]), (196, "", []), (198, "zz", [122, 122]), (200, "ct", [99, 116]), (202, "cn", [99, 110]), (204, "co", [99, 111]), (206, "f", [102]), (208, "p", [112]), (210, "cpnt", [99, 112, 110, 116]), (212, "n", [110]), (214, "h", [104]), (216, "sc", [115, 99]), (218, "s", [115]), (220, "pco", [112, 99, 111]), (222, "c", [99]), (224, "t", [116])]
/-- the class of arrays of int arrays stands -/
def ia_AOI (U : State) : Prop := (Cond.arrayOver (.array .int)).before #[] U = true
theorem ia_AOI_spec {s : State} (h : ia_AOI s) : ∃ comp c k, s.vm.findClass "[I" = some comp ∧ (s.vm.classes.findIdx? fun (x : Class) => match x.kind with | .array component _ => component == comp | _ => false) = some c ∧ s.vm.classes[c]? = some k ∧ k.kind = .array comp (.array .int) ∧ s.vm.findClass "[[I" = some c := by
  unfold ia_AOI at h
  simp only [Cond.before, Cond.holds, Cond.value, beq_iff_eq] at h
  rw [show (FieldType.array .int).toString = "[I" from by decide, show ("[" ++ "[I" : String) = "[[I" from by decide] at h
  cases hc : s.vm.findClass "[I" with
  | none => simp [hc] at h
  | some comp =>
    simp only [hc, Option.bind_some, Option.bind_eq_some_iff, Option.map_eq_some_iff] at h
    obtain ⟨c, hi, k, hk, hb⟩ := h
    obtain ⟨hlt, hp, -⟩ := Array.findIdx?_eq_some_iff_getElem.mp hi
    have hkk : s.vm.classes[c] = k := (Array.getElem?_eq_some_iff.mp hk).2
    rw [hkk] at hp
    cases hkind : k.kind with
    | array component ty =>
      rw [hkind] at hb hp
      simp at hb hp
      exact ⟨comp, c, k, rfl, hi, hk, by rw [hkind, hp, hb.1], hb.2⟩
    | _ => rw [hkind] at hb; simp at hb
theorem ia_AOI_moved {u U : State} (hvm : u.vm.Alike U.vm) (h : ia_AOI u) : ia_AOI U := by
  obtain ⟨comp, c, k, h1, h2, h3, h4, h5⟩ := ia_AOI_spec h
  obtain ⟨k', hk', he⟩ := hvm.2.2 _ _ h3
  have hi : (U.vm.classes.findIdx? fun (x : Class) => match x.kind with | .array component _ => component == comp | _ => false) = some c := by
    have e1 := va_idx_bare U.vm comp
    have e2 := va_idx_bare u.vm comp
    have e3 : U.vm.bare = u.vm.bare := by first | exact hvm.bare_eq | exact hvm.bare_eq.symm
    rw [e3] at e1
    exact e1.symm.trans (e2.trans h2)
  have h1' : U.vm.findClass "[I" = some comp := by rw [hvm.findClass]; exact h1
  have h5' : U.vm.findClass "[[I" = some c := by rw [hvm.findClass]; exact h5
  have h4' : k'.kind = .array comp (.array .int) := by rw [he]; exact h4
  unfold ia_AOI Cond.before Cond.holds
  simp only [Cond.value]
  rw [show (FieldType.array .int).toString = "[I" from by decide, show ("[" ++ "[I" : String) = "[[I" from by decide, h1', Option.bind_some]
  refine (congrArg (fun o : Option Nat => (o.bind (fun c => (U.vm.classes[c]?).map fun (k : Class) => match k.kind with | .array _ ty => decide (ty = FieldType.array .int) && decide (U.vm.findClass "[[I" = some c) | _ => false) == some true)) hi).trans ?_
  simp [hk', h4', h5']
def ia_isN (w : Cond) : Bool := match w with
  | .methodLinkNest _ _ _ _ => true
  | _ => false
def ia_nest : List Cond := lw_tbl.filter ia_isN
abbrev ia_A (g : ia_G) : Nat → Prop := fun q => ia_z g ≤ q
/-- the String constant i -/
def ia_str1 (g : ia_G) (U : State) (i : Nat) (q : Nat × String × List Int32) : Prop := vk_R "IceStreet$Reader" q.1 q.2.1 (ia_o g (8 + i)) U ∧ va_O "java/lang/String" (ia_o g (8 + i)) (ia_A g) U U.heap ∧ va_OF "java/lang/String" "coder" "B" (.int 0) (ia_o g (8 + i)) (ia_A g) U U.heap ∧ ∃ b, va_OF "java/lang/String" "value" "[B" (.ref b) (ia_o g (8 + i)) (ia_A g) U U.heap ∧ va_T .byte b q.2.2.length (fun j => .int (q.2.2.getD j 0)) (ia_A g) U U.heap
/-- what else stands since the start: nest mates' links, classes of arrays, static rows, String constants -/
def ia_ex (g : ia_G) (U : State) : Prop :=
  (∀ w ∈ ia_nest, va_Nw w U) ∧ (∀ ci ∈ [3, 4, 6, 9, 10], va_AO (ia_R ci) U) ∧ va_Z "IceStreet" "MOST_OF_SORT" "[I" (.ref (ia_o g 2)) (ia_A g) U U.heap ∧ va_Z "IceStreet$Reader" "LINES_OF_SORT" "[I" (.ref (ia_o g 3)) (ia_A g) U U.heap ∧ va_Z "java/lang/String" "COMPACT_STRINGS" "Z" (.int 1) (ia_A g) U U.heap ∧ va_Zq "jdk/internal/util/Preconditions" "SIOOBE_FORMATTER" "Ljava/util/function/BiFunction;" (ia_A g) U U.heap ∧ (∀ i q, ia_strs[i]? = some q → ia_str1 g U i q) ∧ ia_AOI U
theorem ia_ex_move {g : ia_G} {s U : State} (hW : s.WarmedH U.vm) (hq : ∀ q : Nat, q < s.heap.size → ¬ ia_A g q → U.heap[q]? = s.heap[q]?) (h : ia_ex g s) : ia_ex g U := by
  obtain ⟨h1, h2, h4, h5, h6, h6b, h7, h8⟩ := h
  have hv := hW.alike
  refine ⟨fun w hw => ?_, fun ci hc => (h2 ci hc).moved hv, (h4.moved hv).kept hq, (h5.moved hv).kept hq, (h6.moved hv).kept hq, (h6b.moved hv).kept hq, fun i q hi => ?_, ia_AOI_moved hv h8⟩
  · have hn := (List.mem_filter.mp hw).2
    have h0 := h1 w hw
    unfold ia_isN at hn
    split at hn
    · exact va_Nw.warmM hW h0
    · cases hn
  · obtain ⟨a1, a2, a3, b, a4, a5⟩ := h7 i q hi
    exact ⟨a1.warm hW, (a2.moved hv).kept hq, (a3.moved hv).kept hq, b, (a4.moved hv).kept hq, (a5.moved hv).kept hq⟩
/-- a method: name, bytes, locals, answer, owner, whether it makes an object -/
abbrev ia_M : Type := MethodName × ByteArray × Nat × Option FieldType × Nat × Bool
def ia_ws (M : ia_M) : List Cond := .code M.1 M.2.1 M.2.2.1 M.2.2.2.1 :: ia_tb
def ia_rm (d mc ms : Nat) : Room := { frames := d + 1, cells := mc, slots := ms, locals := 64 * (d + 1) }
def ia_Rep (g : ia_G) (h : ia_H) (U : State) : Prop := va_P (ia_D g) ia_cl (ia_w g h) U.heap ∧ ia_hk g h ∧ va_K (ia_D g) ia_cl (ia_tyl g) U ∧ ia_old g U ∧ U.heap.size = ia_z g + ia_n h ∧ ia_ex g U
def ia_Q (g : ia_G) (r : Option ia_V) (h' : ia_H) : Array Value → State → Outcome → State → Prop := fun _ st o t => o = .returned (r.map (ia_rv g)) ∧ va_P (ia_D g) ia_cl (ia_w g h') t.heap ∧ ia_hk g h' ∧ va_F (ia_A g) st t
/-- at depth d the method M, asked with as over h, answers r and leaves h' -/
def ia_Ev (d : Nat) (M : ia_M) (as : List ia_V) (h : ia_H) (r : Option ia_V) (h' : ia_H) : Prop :=
  ia_n h ≤ ia_n h' ∧ ia_m h ≤ ia_m h' ∧ ∀ (l : Launch) (g : ia_G), Met l M.1 (ia_ws M) (ia_rm d (ia_n h' - ia_n h) (ia_m h' - ia_m h)) (va_Pc (as.map (ia_rv g)) (ia_Rep g h)) (ia_Q g r h') (ia_n h' - ia_n h) (ia_m h' - ia_m h) (ia_A g)
/-- K is what is to be shown at a place of M -/
def ia_isK (d : Nat) (M : ia_M) (N1 W1 : Nat) (K : ia_K) : Prop := ∃ (p : Program) (l : Launch) (e : Env) (R : Room) (s : State) (m : MethodId) (args : Array Value) (below : List Frame) (meth : Method) (co : Code) (g : ia_G) (n0 w0 : Nat) (Q : State → Prop),
  K = ia_Wp p l e R s m args below meth co g n0 w0 Q M.2.2.1 ∧ ia_Gd M.2.2.2.2.1 M.2.2.1 M.2.2.2.2.2 M.2.1 p s m args meth co g n0 ∧ ia_ex g s ∧ d + 1 ≤ R.frames ∧ 64 * (d + 1) ≤ R.locals ∧ N1 - n0 ≤ R.cells ∧ W1 - w0 ≤ R.slots
theorem ia_go {d : Nat} {M : ia_M} {N1 W1 : Nat} {K : ia_K} {is : List ia_I} {pc : Nat} {lv : ia_L} {st : List ia_V} {h : ia_H} (hK : ia_isK d M N1 W1 K) (hck : ia_cks M.2.2.2.2.1 M.2.2.1 M.2.2.2.2.2 M.2.1 pc is = true) (hx : ia_xs is pc lv st h K) : K pc lv st h := by
  obtain ⟨p, l, e, R, s, m, args, below, meth, co, g, n0, w0, Q, rfl, G, -⟩ := hK
  exact ia_rows G is pc lv st h hck hx
/-- the locals at the entry -/
def ia_el (as : List ia_V) : ia_L := match as with
  | [] => []
  | .inr (.inl x) :: t => some (.inr (.inl x)) :: none :: ia_el t
  | v :: t => some v :: ia_el t
def ia_en0 (nL : Nat) (as : List ia_V) : ia_L := ia_el as ++ List.replicate (nL - (ia_el as).length) none
theorem ia_al_app {g : ia_G} : ∀ (a b : ia_L) (k : Nat), ia_al g k (a ++ b) = ia_al g k a ++ ia_al g (k + a.length) b
  | [], b, k => rfl
  | none :: t, b, k => by
    show ia_al g (k + 1) (t ++ b) = ia_al g (k + 1) t ++ _
    rw [ia_al_app t b (k + 1)]
    congr 2
    simp only [List.length_cons]
    omega
  | some v :: t, b, k => by
    show (k, ia_rv g v) :: ia_al g (k + 1) (t ++ b) = (k, ia_rv g v) :: (ia_al g (k + 1) t ++ _)
    rw [ia_al_app t b (k + 1)]
    congr 3
    simp only [List.length_cons]
    omega
theorem ia_al_rep {g : ia_G} : ∀ (n k : Nat), ia_al g k (List.replicate n none) = []
  | 0, k => rfl
  | n + 1, k => by
    show ia_al g (k + 1) (List.replicate n none) = []
    exact ia_al_rep n (k + 1)
theorem ia_al_el {g : ia_G} : ∀ (as : List ia_V) (k : Nat), ia_al g k (ia_el as) = lv_args k (as.map (ia_rv g))
  | [], k => rfl
  | .inl x :: t, k => by
    show (k, Value.int x) :: ia_al g (k + 1) (ia_el t) = _
    rw [ia_al_el t (k + 1)]
    rfl
  | .inr (.inl x) :: t, k => by
    show (k, Value.long x) :: ia_al g (k + 2) (ia_el t) = _
    rw [ia_al_el t (k + 2)]
    rfl
  | .inr (.inr r) :: t, k => by
    show (k, ia_rv g (.inr (.inr r))) :: ia_al g (k + 1) (ia_el t) = _
    rw [ia_al_el t (k + 1), List.map_cons]
    rcases ia_rf_cases g r with q | ⟨a, q⟩ <;> rw [q] <;> rfl
theorem ia_el_len {g : ia_G} : ∀ (as : List ia_V), (lg_sl (as.map (ia_rv g))).length = (ia_el as).length
  | [] => rfl
  | .inl x :: t => by
    have := ia_el_len (g := g) t
    simp only [lg_sl, List.map_cons, List.flatMap_cons, List.length_append] at this ⊢
    show 1 + _ = _ + 1
    rw [this]; omega
  | .inr (.inl x) :: t => by
    have := ia_el_len (g := g) t
    simp only [lg_sl, List.map_cons, List.flatMap_cons, List.length_append] at this ⊢
    show 2 + _ = _ + 1 + 1
    rw [this]; omega
  | .inr (.inr r) :: t => by
    have := ia_el_len (g := g) t
    simp only [lg_sl, List.map_cons, List.flatMap_cons, List.length_append] at this ⊢
    have e : (if (ia_rv g (.inr (.inr r))).category = 2 then [Slot.val (ia_rv g (.inr (.inr r))), Slot.second] else [Slot.val (ia_rv g (.inr (.inr r)))]).length = 1 := by
      rcases ia_rf_cases g r with q | ⟨a, q⟩ <;> rw [q] <;> rfl
    rw [e]
    show 1 + _ = _ + 1
    rw [this]; omega
/-- may M end at pc with this answer -/
def ia_ret (M : ia_M) (pc : Nat) (r : Option ia_V) : Prop := match M.2.2.2.1, r with
  | none, none => decode M.2.1 pc = .ok (.return_, 1)
  | some .int, some (.inl _) => decode M.2.1 pc = .ok (.ireturn, 1)
  | some .boolean, some (.inl x) => (x = 0 ∨ x = 1) ∧ decode M.2.1 pc = .ok (.ireturn, 1)
  | some .long, some (.inr (.inl _)) => decode M.2.1 pc = .ok (.lreturn, 1)
  | some (.object _), some (.inr (.inr _)) => decode M.2.1 pc = .ok (.areturn, 1)
  | _, _ => False
def ia_mok (M : ia_M) : Prop := plainName M.1.cls = true ∧ M.1.cls = ia_O M.2.2.2.2.1 ∧ M.2.2.2.2.1 < 22 ∧ (M.2.2.2.2.2 = true → M.1.name = "<init>")
theorem ia_Ev_intro {d : Nat} {M : ia_M} {as : List ia_V} {h : ia_H} {r : Option ia_V} {h' : ia_H} (hM : ia_mok M) (hn : ia_n h ≤ ia_n h') (hw : ia_m h ≤ ia_m h') (hlen : (ia_el as).length ≤ M.2.2.1)
    (body : ∀ K : ia_K, ia_isK d M (ia_n h') (ia_m h') K → (∀ (pc : Nat) (lv : ia_L), ia_ret M pc r → K pc lv r.toList h') → K 0 (ia_en0 M.2.2.1 as) [] h) : ia_Ev d M as h r h' := by
  refine ⟨hn, hw, fun l g => ?_⟩
  obtain ⟨y, cc, nL, ret, c, ini⟩ := M
  refine Met.ofW (cc := cc) (maxL := nL) (ret := ret) hM.1 rfl ?_
  intro p e s m args below meth co s₁ B hml hv
  obtain ⟨rfl, hP, hk, hKv, hO, hz, hX⟩ := hv
  have hts := atoms_spec (ws := ia_ws (y, cc, nL, ret, c, ini)) B.pre
  have hown : s.vm.findClass (ia_O c) = some m.cls := by rw [← hM.2.1]; exact findClass_of_methodNamed B.named
  have hlocks := B.notSynchronized
  have hin : ini = true → meth.name = "<init>" := fun q => by rw [(name_of_methodNamed B.named B.method).1]; exact hM.2.2.2 q
  have G : ia_Gd c nL ini cc p s m (as.map (ia_rv g)).toArray meth co g (ia_n h) := ⟨B.exec, B.bytes, hml, hown, fun w q => hts w (List.mem_cons_of_mem _ q), hin, hKv, hO, hM.2.2.1, hz⟩
  have hb := body (ia_Wp p l e (ia_rm d (ia_n h' - ia_n h) (ia_m h' - ia_m h)) s m (as.map (ia_rv g)).toArray below meth co g (ia_n h) (ia_m h) (MQ below (ia_Q g r h') (as.map (ia_rv g)).toArray s (ia_n h' - ia_n h) (ia_m h' - ia_m h) (ia_A g)) nL) ⟨p, l, e, _, s, m, _, below, meth, co, g, ia_n h, ia_m h, _, rfl, G, hX, Nat.le_refl _, Nat.le_refl _, Nat.le_refl _, Nat.le_refl _⟩ ?_
  · have hl := lv_entry (as.map (ia_rv g)) (n := nL) (by rw [ia_el_len]; exact hlen)
    rw [lg_entry_eq]
    have h1 := hb s.heap [] _ (ia_has_sub hl (fun q hq => by rw [ia_en0, ia_al_app, ia_al_rep, List.append_nil, ia_al_el] at hq; exact hq)) ⟨by simp only [ia_en0, List.length_append, List.length_replicate]; exact Nat.add_sub_cancel' hlen, Nat.le_refl _, Nat.le_refl _, by omega, by omega⟩ hP hk va_S.rf
    have e1 : ia_n h - ia_n h = 0 := Nat.sub_self _
    have e2 : ia_m h - ia_m h = 0 := Nat.sub_self _
    rw [e1, e2] at h1
    exact h1
  · intro pc lv hr H locs ls hl hnn hP' hk' hS
    have hq : ∀ t : State, t.heap = H → s.WarmedH t.vm → ia_Q g r h' (as.map (ia_rv g)).toArray s (.returned (r.map (ia_rv g))) t := fun t ht _ => ⟨rfl, by rw [ht]; exact hP', hk', hS.F ht⟩
    unfold ia_ret at hr
    have hrt := B.returns
    dsimp only at hr
    split at hr
    · subst_vars
      exact W.vret B.exec B.bytes hrt hq hS.2.2 hr hlocks
    · subst_vars
      exact W.iret B.exec B.bytes hrt hq hS.2.2 hr hlocks
    · rename_i x
      subst_vars
      exact W.zret (ty := .boolean) B.exec B.bytes hrt (by rcases hr.1 with rfl | rfl <;> rfl) hq hS.2.2 hr.2 hlocks
    · subst_vars
      exact W.lret B.exec B.bytes hrt hq hS.2.2 hr hlocks
    · subst_vars
      rename_i C x
      refine W.aret (rt := .object C) B.exec B.bytes hrt (Or.inl ⟨C, rfl⟩) ?_ hq hS.2.2 hr hlocks
      exact ia_rf_cases g x
    · exact hr.elim
