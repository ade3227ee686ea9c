/-! each instruction of the small machine is one of the large one -/
def ia_tyl (g : ia_G) : List (ClassId × FieldType) := [(ia_cA g 100, .int), (ia_cA g 101, .boolean), (ia_cA g 102, .byte), (ia_cA g 103, .long), (ia_cA g 107, .object (ia_R 3)), (ia_cA g 108, .object (ia_R 4)), (ia_cA g 110, .object (ia_R 6)), (ia_cA g 113, .object (ia_R 9)), (ia_cA g 114, .object (ia_R 10)), (ia_cA g 117, .array .int)]
def ia_old (g : ia_G) (s : State) : Prop := ∀ a, a < 64 → 200 ≤ (ia_ok g a).1 ∨ ((ia_ok g a).1 = 100 ∧ a ≠ 0 ∧ va_T .int (ia_o g a) (ia_ok g a).2 (fun j => .int (ia_oi g a j)) (fun q => ia_z g ≤ q) s s.heap ∧ ia_o g a < ia_z g)
def ia_hk (g : ia_G) (h : ia_H) : Prop := (∀ a, a < 64 → ia_k h a = ia_ok g a ∧ ia_i h a = ia_oi g a) ∧ ∀ a, 64 + ia_n h ≤ a → (ia_k h a).1 = 999
def ia_Gd (c nL : Nat) (ini : Bool) (cc : ByteArray) (p : Program) (s : State) (m : MethodId) (args : Array Value) (meth : Method) (co : Code) (g : ia_G) (n0 : Nat) : Prop :=
  p.tables.exec = Jvm.exec ∧ co.code = cc ∧ co.maxLocals = nL ∧ s.vm.findClass (ia_O c) = some m.cls ∧ (∀ w ∈ ia_tb, w.before args s = true) ∧ (ini = true → meth.name = "<init>") ∧ va_K (ia_D g) ia_cl (ia_tyl g) s ∧ ia_old g s ∧ c < 22 ∧ s.heap.size = ia_z g + n0
def ia_Wp (p : Program) (l : Launch) (e : Env) (R : Room) (s : State) (m : MethodId) (args : Array Value) (below : List Frame) (meth : Method) (co : Code) (g : ia_G) (n0 w0 : Nat) (Q : State → Prop) (nL : Nat) : ia_K := fun pc lv st h =>
  ∀ (H : Heap) (locs : List Loc) (ls : Array Slot), lv_has ls nL (ia_al g 0 lv) → (lv.length = nL ∧ n0 ≤ ia_n h ∧ w0 ≤ ia_m h ∧ ia_n h - n0 ≤ R.cells ∧ ia_m h - w0 ≤ R.slots) → va_P (ia_D g) ia_cl (ia_w g h) H → ia_hk g h → va_S (fun q => ia_z g ≤ q) s.heap H locs → W p l e R s m args below meth co H locs (ia_n h - n0) (ia_m h - w0) Q (F0 m pc ls (st.map (ia_rv g)))
theorem ia_b2_e {st : List ia_V} {k : Int32 → Int32 → List ia_V → Prop} (h : ia_b2 st k) : ∃ x y r, st = .inl y :: .inl x :: r ∧ k x y r := by
  unfold ia_b2 at h
  split at h
  · exact ⟨_, _, _, rfl, h⟩
  · exact h.elim
theorem ia_u1_e {st : List ia_V} {k : Int32 → List ia_V → Prop} (h : ia_u1 st k) : ∃ x r, st = .inl x :: r ∧ k x r := by
  unfold ia_u1 at h
  split at h
  · exact ⟨_, _, rfl, h⟩
  · exact h.elim
theorem ia_l2_e {st : List ia_V} {k : Int64 → Int64 → List ia_V → Prop} (h : ia_l2 st k) : ∃ x y r, st = .inr (.inl y) :: .inr (.inl x) :: r ∧ k x y r := by
  unfold ia_l2 at h
  split at h
  · exact ⟨_, _, _, rfl, h⟩
  · exact h.elim
theorem ia_l1_e {st : List ia_V} {k : Int64 → List ia_V → Prop} (h : ia_l1 st k) : ∃ x r, st = .inr (.inl x) :: r ∧ k x r := by
  unfold ia_l1 at h
  split at h
  · exact ⟨_, _, rfl, h⟩
  · exact h.elim
theorem ia_ls_e {st : List ia_V} {k : Int64 → Int32 → List ia_V → Prop} (h : ia_ls st k) : ∃ x y r, st = .inl y :: .inr (.inl x) :: r ∧ k x y r := by
  unfold ia_ls at h
  split at h
  · exact ⟨_, _, _, rfl, h⟩
  · exact h.elim
theorem ia_r1_e {st : List ia_V} {k : Nat → List ia_V → Prop} (h : ia_r1 st k) : ∃ a r, st = .inr (.inr a) :: r ∧ k a r := by
  unfold ia_r1 at h
  split at h
  · exact ⟨_, _, rfl, h⟩
  · exact h.elim
theorem ia_ir_e {st : List ia_V} {k : Int32 → Nat → List ia_V → Prop} (h : ia_ir st k) : ∃ x a r, st = .inl x :: .inr (.inr a) :: r ∧ k x a r := by
  unfold ia_ir at h
  split at h
  · exact ⟨_, _, _, rfl, h⟩
  · exact h.elim
theorem ia_lr_e {st : List ia_V} {k : Int64 → Nat → List ia_V → Prop} (h : ia_lr st k) : ∃ x a r, st = .inr (.inl x) :: .inr (.inr a) :: r ∧ k x a r := by
  unfold ia_lr at h
  split at h
  · exact ⟨_, _, _, rfl, h⟩
  · exact h.elim
theorem ia_rr_e {st : List ia_V} {k : Nat → Nat → List ia_V → Prop} (h : ia_rr st k) : ∃ x a r, st = .inr (.inr x) :: .inr (.inr a) :: r ∧ k x a r := by
  unfold ia_rr at h
  split at h
  · exact ⟨_, _, _, rfl, h⟩
  · exact h.elim
theorem ia_iir_e {st : List ia_V} {k : Int32 → Int32 → Nat → List ia_V → Prop} (h : ia_iir st k) : ∃ x i a r, st = .inl x :: .inl i :: .inr (.inr a) :: r ∧ k x i a r := by
  unfold ia_iir at h
  split at h
  · exact ⟨_, _, _, _, rfl, h⟩
  · exact h.elim
theorem ia_lir_e {st : List ia_V} {k : Int64 → Int32 → Nat → List ia_V → Prop} (h : ia_lir st k) : ∃ x i a r, st = .inr (.inl x) :: .inl i :: .inr (.inr a) :: r ∧ k x i a r := by
  unfold ia_lir at h
  split at h
  · exact ⟨_, _, _, _, rfl, h⟩
  · exact h.elim
theorem ia_rir_e {st : List ia_V} {k : Nat → Int32 → Nat → List ia_V → Prop} (h : ia_rir st k) : ∃ x i a r, st = .inr (.inr x) :: .inl i :: .inr (.inr a) :: r ∧ k x i a r := by
  unfold ia_rir at h
  split at h
  · exact ⟨_, _, _, _, rfl, h⟩
  · exact h.elim
theorem ia_c1_e {st : List ia_V} {k : ia_V → List ia_V → Prop} (h : ia_c1 st k) : ∃ v r, st = v :: r ∧ (∀ g, (ia_rv g v).category = 1) ∧ k v r := by
  unfold ia_c1 at h
  split at h
  · exact ⟨_, _, rfl, fun g => ia_cat g _, h⟩
  · exact ⟨_, _, rfl, fun g => ia_cat g _, h⟩
  · exact h.elim
theorem ia_gi_e {lv : ia_L} {i : Nat} {k : Int32 → Prop} (h : ia_gi lv i k) : ∃ x, lv[i]? = some (some (.inl x)) ∧ k x := by
  unfold ia_gi at h
  split at h
  · rename_i e
    exact ⟨_, e, h⟩
  · exact h.elim
theorem ia_gl_e {lv : ia_L} {i : Nat} {k : Int64 → Prop} (h : ia_gl lv i k) : ∃ x, lv[i]? = some (some (.inr (.inl x))) ∧ k x := by
  unfold ia_gl at h
  split at h
  · rename_i e
    exact ⟨_, e, h⟩
  · exact h.elim
theorem ia_gr_e {lv : ia_L} {i : Nat} {k : Nat → Prop} (h : ia_gr lv i k) : ∃ x, lv[i]? = some (some (.inr (.inr x))) ∧ k x := by
  unfold ia_gr at h
  split at h
  · rename_i e
    exact ⟨_, e, h⟩
  · exact h.elim
section Ia
variable {p : Program} {l : Launch} {e : Env} {R : Room} {s : State} {m : MethodId} {args : Array Value} {below : List Frame} {meth : Method} {co : Code} {g : ia_G} {n0 w0 : Nat} {Q : State → Prop} {c nL : Nat} {ini : Bool} {cc : ByteArray} {pc : Nat} {lv : ia_L} {st : List ia_V} {h : ia_H}
theorem ia_sd_iadd (G : ia_Gd c nL ini cc p s m args meth co g n0) (hd : decode cc pc = .ok (.iadd, 1)) (hx : ia_b2 st fun x y r => ia_Wp p l e R s m args below meth co g n0 w0 Q nL (pc + 1) lv (.inl (x + y) :: r) h) : ia_Wp p l e R s m args below meth co g n0 w0 Q nL pc lv st h := by
  obtain ⟨x, y, r, rfl, hx⟩ := ia_b2_e hx
  intro H locs ls hl hn hP hk hS
  exact lv_iadd G.1 G.2.1 hd (hx H locs ls hl hn hP hk hS)
theorem ia_sd_isub (G : ia_Gd c nL ini cc p s m args meth co g n0) (hd : decode cc pc = .ok (.isub, 1)) (hx : ia_b2 st fun x y r => ia_Wp p l e R s m args below meth co g n0 w0 Q nL (pc + 1) lv (.inl (x - y) :: r) h) : ia_Wp p l e R s m args below meth co g n0 w0 Q nL pc lv st h := by
  obtain ⟨x, y, r, rfl, hx⟩ := ia_b2_e hx
  intro H locs ls hl hn hP hk hS
  exact lv_isub G.1 G.2.1 hd (hx H locs ls hl hn hP hk hS)
theorem ia_sd_imul (G : ia_Gd c nL ini cc p s m args meth co g n0) (hd : decode cc pc = .ok (.imul, 1)) (hx : ia_b2 st fun x y r => ia_Wp p l e R s m args below meth co g n0 w0 Q nL (pc + 1) lv (.inl (x * y) :: r) h) : ia_Wp p l e R s m args below meth co g n0 w0 Q nL pc lv st h := by
  obtain ⟨x, y, r, rfl, hx⟩ := ia_b2_e hx
  intro H locs ls hl hn hP hk hS
  exact lv_imul G.1 G.2.1 hd (hx H locs ls hl hn hP hk hS)
theorem ia_sd_iand (G : ia_Gd c nL ini cc p s m args meth co g n0) (hd : decode cc pc = .ok (.iand, 1)) (hx : ia_b2 st fun x y r => ia_Wp p l e R s m args below meth co g n0 w0 Q nL (pc + 1) lv (.inl (x &&& y) :: r) h) : ia_Wp p l e R s m args below meth co g n0 w0 Q nL pc lv st h := by
  obtain ⟨x, y, r, rfl, hx⟩ := ia_b2_e hx
  intro H locs ls hl hn hP hk hS
  exact lv_iand G.1 G.2.1 hd (hx H locs ls hl hn hP hk hS)
theorem ia_sd_ior (G : ia_Gd c nL ini cc p s m args meth co g n0) (hd : decode cc pc = .ok (.ior, 1)) (hx : ia_b2 st fun x y r => ia_Wp p l e R s m args below meth co g n0 w0 Q nL (pc + 1) lv (.inl (x ||| y) :: r) h) : ia_Wp p l e R s m args below meth co g n0 w0 Q nL pc lv st h := by
  obtain ⟨x, y, r, rfl, hx⟩ := ia_b2_e hx
  intro H locs ls hl hn hP hk hS
  exact lv_ior G.1 G.2.1 hd (hx H locs ls hl hn hP hk hS)
theorem ia_sd_ixor (G : ia_Gd c nL ini cc p s m args meth co g n0) (hd : decode cc pc = .ok (.ixor, 1)) (hx : ia_b2 st fun x y r => ia_Wp p l e R s m args below meth co g n0 w0 Q nL (pc + 1) lv (.inl (x ^^^ y) :: r) h) : ia_Wp p l e R s m args below meth co g n0 w0 Q nL pc lv st h := by
  obtain ⟨x, y, r, rfl, hx⟩ := ia_b2_e hx
  intro H locs ls hl hn hP hk hS
  exact lv_ixor G.1 G.2.1 hd (hx H locs ls hl hn hP hk hS)
theorem ia_sd_ishl (G : ia_Gd c nL ini cc p s m args meth co g n0) (hd : decode cc pc = .ok (.ishl, 1)) (hx : ia_b2 st fun x y r => ia_Wp p l e R s m args below meth co g n0 w0 Q nL (pc + 1) lv (.inl (x <<< (y &&& 31)) :: r) h) : ia_Wp p l e R s m args below meth co g n0 w0 Q nL pc lv st h := by
  obtain ⟨x, y, r, rfl, hx⟩ := ia_b2_e hx
  intro H locs ls hl hn hP hk hS
  exact lv_ishl G.1 G.2.1 hd (hx H locs ls hl hn hP hk hS)
theorem ia_sd_ishr (G : ia_Gd c nL ini cc p s m args meth co g n0) (hd : decode cc pc = .ok (.ishr, 1)) (hx : ia_b2 st fun x y r => ia_Wp p l e R s m args below meth co g n0 w0 Q nL (pc + 1) lv (.inl (x >>> (y &&& 31)) :: r) h) : ia_Wp p l e R s m args below meth co g n0 w0 Q nL pc lv st h := by
  obtain ⟨x, y, r, rfl, hx⟩ := ia_b2_e hx
  intro H locs ls hl hn hP hk hS
  exact lv_ishr G.1 G.2.1 hd (hx H locs ls hl hn hP hk hS)
theorem ia_sd_iushr (G : ia_Gd c nL ini cc p s m args meth co g n0) (hd : decode cc pc = .ok (.iushr, 1)) (hx : ia_b2 st fun x y r => ia_Wp p l e R s m args below meth co g n0 w0 Q nL (pc + 1) lv (.inl ((x.toUInt32 >>> (y.toUInt32 &&& Int32.toUInt32 31)).toInt32) :: r) h) : ia_Wp p l e R s m args below meth co g n0 w0 Q nL pc lv st h := by
  obtain ⟨x, y, r, rfl, hx⟩ := ia_b2_e hx
  intro H locs ls hl hn hP hk hS
  exact lv_iushr G.1 G.2.1 hd rfl (hx H locs ls hl hn hP hk hS)
theorem ia_sd_idiv (G : ia_Gd c nL ini cc p s m args meth co g n0) (hd : decode cc pc = .ok (.idiv, 1)) (hx : ia_b2 st fun x y r => (¬ y = 0) ∧ ia_Wp p l e R s m args below meth co g n0 w0 Q nL (pc + 1) lv (.inl (x / y) :: r) h) : ia_Wp p l e R s m args below meth co g n0 w0 Q nL pc lv st h := by
  obtain ⟨x, y, r, rfl, hy, hx⟩ := ia_b2_e hx
  intro H locs ls hl hn hP hk hS
  exact lv_idiv G.1 G.2.1 hd hy (hx H locs ls hl hn hP hk hS)
theorem ia_sd_irem (G : ia_Gd c nL ini cc p s m args meth co g n0) (hd : decode cc pc = .ok (.irem, 1)) (hx : ia_b2 st fun x y r => (¬ y = 0) ∧ ia_Wp p l e R s m args below meth co g n0 w0 Q nL (pc + 1) lv (.inl (x - x / y * y) :: r) h) : ia_Wp p l e R s m args below meth co g n0 w0 Q nL pc lv st h := by
  obtain ⟨x, y, r, rfl, hy, hx⟩ := ia_b2_e hx
  intro H locs ls hl hn hP hk hS
  exact lv_irem G.1 G.2.1 hd hy (hx H locs ls hl hn hP hk hS)
theorem ia_sd_ineg (G : ia_Gd c nL ini cc p s m args meth co g n0) (hd : decode cc pc = .ok (.ineg, 1)) (hx : ia_u1 st fun x r => ia_Wp p l e R s m args below meth co g n0 w0 Q nL (pc + 1) lv (.inl (-x) :: r) h) : ia_Wp p l e R s m args below meth co g n0 w0 Q nL pc lv st h := by
  obtain ⟨x, r, rfl, hx⟩ := ia_u1_e hx
  intro H locs ls hl hn hP hk hS
  exact lv_ineg G.1 G.2.1 hd (hx H locs ls hl hn hP hk hS)
theorem ia_sd_i2l (G : ia_Gd c nL ini cc p s m args meth co g n0) (hd : decode cc pc = .ok (.i2l, 1)) (hx : ia_u1 st fun x r => ia_Wp p l e R s m args below meth co g n0 w0 Q nL (pc + 1) lv (.inr (.inl x.toInt64) :: r) h) : ia_Wp p l e R s m args below meth co g n0 w0 Q nL pc lv st h := by
  obtain ⟨x, r, rfl, hx⟩ := ia_u1_e hx
  intro H locs ls hl hn hP hk hS
  exact lv_i2l G.1 G.2.1 hd rfl (hx H locs ls hl hn hP hk hS)
theorem ia_sd_i2b (G : ia_Gd c nL ini cc p s m args meth co g n0) (hd : decode cc pc = .ok (.i2b, 1)) (hx : ia_u1 st fun x r => ia_Wp p l e R s m args below meth co g n0 w0 Q nL (pc + 1) lv (.inl x.toInt8.toInt32 :: r) h) : ia_Wp p l e R s m args below meth co g n0 w0 Q nL pc lv st h := by
  obtain ⟨x, r, rfl, hx⟩ := ia_u1_e hx
  intro H locs ls hl hn hP hk hS
  exact lv_i2b G.1 G.2.1 hd rfl (hx H locs ls hl hn hP hk hS)
theorem ia_sd_l2i (G : ia_Gd c nL ini cc p s m args meth co g n0) (hd : decode cc pc = .ok (.l2i, 1)) (hx : ia_l1 st fun x r => ia_Wp p l e R s m args below meth co g n0 w0 Q nL (pc + 1) lv (.inl x.toInt32 :: r) h) : ia_Wp p l e R s m args below meth co g n0 w0 Q nL pc lv st h := by
  obtain ⟨x, r, rfl, hx⟩ := ia_l1_e hx
  intro H locs ls hl hn hP hk hS
  exact lv_l2i G.1 G.2.1 hd rfl (hx H locs ls hl hn hP hk hS)
theorem ia_sd_ladd (G : ia_Gd c nL ini cc p s m args meth co g n0) (hd : decode cc pc = .ok (.ladd, 1)) (hx : ia_l2 st fun x y r => ia_Wp p l e R s m args below meth co g n0 w0 Q nL (pc + 1) lv (.inr (.inl (x + y)) :: r) h) : ia_Wp p l e R s m args below meth co g n0 w0 Q nL pc lv st h := by
  obtain ⟨x, y, r, rfl, hx⟩ := ia_l2_e hx
  intro H locs ls hl hn hP hk hS
  exact lv_ladd G.1 G.2.1 hd (hx H locs ls hl hn hP hk hS)
theorem ia_sd_lsub (G : ia_Gd c nL ini cc p s m args meth co g n0) (hd : decode cc pc = .ok (.lsub, 1)) (hx : ia_l2 st fun x y r => ia_Wp p l e R s m args below meth co g n0 w0 Q nL (pc + 1) lv (.inr (.inl (x - y)) :: r) h) : ia_Wp p l e R s m args below meth co g n0 w0 Q nL pc lv st h := by
  obtain ⟨x, y, r, rfl, hx⟩ := ia_l2_e hx
  intro H locs ls hl hn hP hk hS
  exact lv_lsub G.1 G.2.1 hd (hx H locs ls hl hn hP hk hS)
theorem ia_sd_lmul (G : ia_Gd c nL ini cc p s m args meth co g n0) (hd : decode cc pc = .ok (.lmul, 1)) (hx : ia_l2 st fun x y r => ia_Wp p l e R s m args below meth co g n0 w0 Q nL (pc + 1) lv (.inr (.inl (x * y)) :: r) h) : ia_Wp p l e R s m args below meth co g n0 w0 Q nL pc lv st h := by
  obtain ⟨x, y, r, rfl, hx⟩ := ia_l2_e hx
  intro H locs ls hl hn hP hk hS
  exact lv_lmul G.1 G.2.1 hd (hx H locs ls hl hn hP hk hS)
theorem ia_sd_land (G : ia_Gd c nL ini cc p s m args meth co g n0) (hd : decode cc pc = .ok (.land, 1)) (hx : ia_l2 st fun x y r => ia_Wp p l e R s m args below meth co g n0 w0 Q nL (pc + 1) lv (.inr (.inl (x &&& y)) :: r) h) : ia_Wp p l e R s m args below meth co g n0 w0 Q nL pc lv st h := by
  obtain ⟨x, y, r, rfl, hx⟩ := ia_l2_e hx
  intro H locs ls hl hn hP hk hS
  exact lv_land G.1 G.2.1 hd (hx H locs ls hl hn hP hk hS)
theorem ia_sd_lor (G : ia_Gd c nL ini cc p s m args meth co g n0) (hd : decode cc pc = .ok (.lor, 1)) (hx : ia_l2 st fun x y r => ia_Wp p l e R s m args below meth co g n0 w0 Q nL (pc + 1) lv (.inr (.inl (x ||| y)) :: r) h) : ia_Wp p l e R s m args below meth co g n0 w0 Q nL pc lv st h := by
  obtain ⟨x, y, r, rfl, hx⟩ := ia_l2_e hx
  intro H locs ls hl hn hP hk hS
  exact lv_lor G.1 G.2.1 hd (hx H locs ls hl hn hP hk hS)
theorem ia_sd_lxor (G : ia_Gd c nL ini cc p s m args meth co g n0) (hd : decode cc pc = .ok (.lxor, 1)) (hx : ia_l2 st fun x y r => ia_Wp p l e R s m args below meth co g n0 w0 Q nL (pc + 1) lv (.inr (.inl (x ^^^ y)) :: r) h) : ia_Wp p l e R s m args below meth co g n0 w0 Q nL pc lv st h := by
  obtain ⟨x, y, r, rfl, hx⟩ := ia_l2_e hx
  intro H locs ls hl hn hP hk hS
  exact lv_lxor G.1 G.2.1 hd (hx H locs ls hl hn hP hk hS)
theorem ia_sd_lshl (G : ia_Gd c nL ini cc p s m args meth co g n0) (hd : decode cc pc = .ok (.lshl, 1)) (hx : ia_ls st fun x y r => ia_Wp p l e R s m args below meth co g n0 w0 Q nL (pc + 1) lv (.inr (.inl (x <<< (y.toInt64 &&& 63))) :: r) h) : ia_Wp p l e R s m args below meth co g n0 w0 Q nL pc lv st h := by
  obtain ⟨x, y, r, rfl, hx⟩ := ia_ls_e hx
  intro H locs ls hl hn hP hk hS
  exact lv_lshl G.1 G.2.1 hd rfl (hx H locs ls hl hn hP hk hS)
theorem ia_sd_lshr (G : ia_Gd c nL ini cc p s m args meth co g n0) (hd : decode cc pc = .ok (.lshr, 1)) (hx : ia_ls st fun x y r => ia_Wp p l e R s m args below meth co g n0 w0 Q nL (pc + 1) lv (.inr (.inl (x >>> (y.toInt64 &&& 63))) :: r) h) : ia_Wp p l e R s m args below meth co g n0 w0 Q nL pc lv st h := by
  obtain ⟨x, y, r, rfl, hx⟩ := ia_ls_e hx
  intro H locs ls hl hn hP hk hS
  exact lv_lshr G.1 G.2.1 hd rfl (hx H locs ls hl hn hP hk hS)
theorem ia_sd_lushr (G : ia_Gd c nL ini cc p s m args meth co g n0) (hd : decode cc pc = .ok (.lushr, 1)) (hx : ia_ls st fun x y r => ia_Wp p l e R s m args below meth co g n0 w0 Q nL (pc + 1) lv (.inr (.inl ((x.toUInt64 >>> (y.toInt64.toUInt64 &&& Int64.toUInt64 63)).toInt64)) :: r) h) : ia_Wp p l e R s m args below meth co g n0 w0 Q nL pc lv st h := by
  obtain ⟨x, y, r, rfl, hx⟩ := ia_ls_e hx
  intro H locs ls hl hn hP hk hS
  exact lv_lushr G.1 G.2.1 hd rfl (hx H locs ls hl hn hP hk hS)
theorem ia_sd_lcmp (G : ia_Gd c nL ini cc p s m args meth co g n0) (hd : decode cc pc = .ok (.lcmp, 1)) (hx : ia_l2 st fun x y r => ia_Wp p l e R s m args below meth co g n0 w0 Q nL (pc + 1) lv (.inl (lg_cmp x y) :: r) h) : ia_Wp p l e R s m args below meth co g n0 w0 Q nL pc lv st h := by
  obtain ⟨x, y, r, rfl, hx⟩ := ia_l2_e hx
  intro H locs ls hl hn hP hk hS
  exact W.lcmp G.1 G.2.1 hd (hx H locs ls hl hn hP hk hS)
theorem ia_sd_iconst (G : ia_Gd c nL ini cc p s m args meth co g n0) {n : Int} (hd : decode cc pc = .ok (.iconst n, 1)) (hx : ia_Wp p l e R s m args below meth co g n0 w0 Q nL (pc + 1) lv (.inl (Int32.ofInt n) :: st) h) : ia_Wp p l e R s m args below meth co g n0 w0 Q nL pc lv st h := by
  intro H locs ls hl hn hP hk hS
  exact lv_iconst G.1 G.2.1 hd rfl (hx H locs ls hl hn hP hk hS)
theorem ia_sd_bipush (G : ia_Gd c nL ini cc p s m args meth co g n0) {n : Int} (hd : decode cc pc = .ok (.bipush n, 2)) (hx : ia_Wp p l e R s m args below meth co g n0 w0 Q nL (pc + 2) lv (.inl ((Int8.ofInt n).toInt32) :: st) h) : ia_Wp p l e R s m args below meth co g n0 w0 Q nL pc lv st h := by
  intro H locs ls hl hn hP hk hS
  exact lv_bipush G.1 G.2.1 hd rfl (hx H locs ls hl hn hP hk hS)
theorem ia_sd_sipush (G : ia_Gd c nL ini cc p s m args meth co g n0) {n : Int} (hd : decode cc pc = .ok (.sipush n, 3)) (hx : ia_Wp p l e R s m args below meth co g n0 w0 Q nL (pc + 3) lv (.inl ((Int16.ofInt n).toInt32) :: st) h) : ia_Wp p l e R s m args below meth co g n0 w0 Q nL pc lv st h := by
  intro H locs ls hl hn hP hk hS
  exact lv_sipush G.1 G.2.1 hd rfl (hx H locs ls hl hn hP hk hS)
theorem ia_sd_lconst (G : ia_Gd c nL ini cc p s m args meth co g n0) {n : Fin 2} (hd : decode cc pc = .ok (.lconst n, 1)) (hx : ia_Wp p l e R s m args below meth co g n0 w0 Q nL (pc + 1) lv (.inr (.inl (Int64.ofNat (n : Nat))) :: st) h) : ia_Wp p l e R s m args below meth co g n0 w0 Q nL pc lv st h := by
  intro H locs ls hl hn hP hk hS
  exact lv_lconst G.1 G.2.1 hd rfl (hx H locs ls hl hn hP hk hS)
theorem ia_sd_iload (G : ia_Gd c nL ini cc p s m args meth co g n0) {i : Nat} (hd : decode cc pc = .ok (.iload i, 2)) (hx : ia_gi lv i fun x => ia_Wp p l e R s m args below meth co g n0 w0 Q nL (pc + 2) lv (.inl x :: st) h) : ia_Wp p l e R s m args below meth co g n0 w0 Q nL pc lv st h := by
  obtain ⟨x, hi, hx⟩ := ia_gi_e hx
  intro H locs ls hl hn hP hk hS
  exact lv_iload G.1 G.2.1 hd (ia_has_at hl hi) (hx H locs ls hl hn hP hk hS)
theorem ia_sd_iload_n (G : ia_Gd c nL ini cc p s m args meth co g n0) {i : Fin 4} (hd : decode cc pc = .ok (.iload_n i, 1)) (hx : ia_gi lv i fun x => ia_Wp p l e R s m args below meth co g n0 w0 Q nL (pc + 1) lv (.inl x :: st) h) : ia_Wp p l e R s m args below meth co g n0 w0 Q nL pc lv st h := by
  obtain ⟨x, hi, hx⟩ := ia_gi_e hx
  intro H locs ls hl hn hP hk hS
  exact lv_iload_n G.1 G.2.1 hd rfl (ia_has_at hl hi) (hx H locs ls hl hn hP hk hS)
theorem ia_sd_lload (G : ia_Gd c nL ini cc p s m args meth co g n0) {i : Nat} (hd : decode cc pc = .ok (.lload i, 2)) (hx : ia_gl lv i fun x => ia_Wp p l e R s m args below meth co g n0 w0 Q nL (pc + 2) lv (.inr (.inl x) :: st) h) : ia_Wp p l e R s m args below meth co g n0 w0 Q nL pc lv st h := by
  obtain ⟨x, hi, hx⟩ := ia_gl_e hx
  intro H locs ls hl hn hP hk hS
  exact lv_lload G.1 G.2.1 hd (ia_has_at hl hi) (hx H locs ls hl hn hP hk hS)
theorem ia_sd_lload_n (G : ia_Gd c nL ini cc p s m args meth co g n0) {i : Fin 4} (hd : decode cc pc = .ok (.lload_n i, 1)) (hx : ia_gl lv i fun x => ia_Wp p l e R s m args below meth co g n0 w0 Q nL (pc + 1) lv (.inr (.inl x) :: st) h) : ia_Wp p l e R s m args below meth co g n0 w0 Q nL pc lv st h := by
  obtain ⟨x, hi, hx⟩ := ia_gl_e hx
  intro H locs ls hl hn hP hk hS
  exact lv_lload_n G.1 G.2.1 hd rfl (ia_has_at hl hi) (hx H locs ls hl hn hP hk hS)
theorem ia_rf_cases (g : ia_G) (r : Nat) : ia_rv g (.inr (.inr r)) = .null ∨ ∃ a, ia_rv g (.inr (.inr r)) = .ref a := by
  simp only [ia_rv, va_rf]
  cases ia_ro g r with
  | none => exact Or.inl rfl
  | some a => exact Or.inr ⟨a, rfl⟩
theorem ia_sd_aload (G : ia_Gd c nL ini cc p s m args meth co g n0) {i : Nat} (hd : decode cc pc = .ok (.aload i, 2)) (hx : ia_gr lv i fun x => ia_Wp p l e R s m args below meth co g n0 w0 Q nL (pc + 2) lv (.inr (.inr x) :: st) h) : ia_Wp p l e R s m args below meth co g n0 w0 Q nL pc lv st h := by
  obtain ⟨x, hi, hx⟩ := ia_gr_e hx
  intro H locs ls hl hn hP hk hS
  have h1 := ia_has_at hl hi
  have h2 := hx H locs ls hl hn hP hk hS
  rw [List.map_cons] at h2
  rcases ia_rf_cases g x with q | ⟨a, q⟩
  · rw [q] at h1 h2
    exact lv_aloadN G.1 G.2.1 hd h1 h2
  · rw [q] at h1 h2
    exact lv_aload G.1 G.2.1 hd h1 h2
theorem ia_sd_aload_n (G : ia_Gd c nL ini cc p s m args meth co g n0) {i : Fin 4} (hd : decode cc pc = .ok (.aload_n i, 1)) (hx : ia_gr lv i fun x => ia_Wp p l e R s m args below meth co g n0 w0 Q nL (pc + 1) lv (.inr (.inr x) :: st) h) : ia_Wp p l e R s m args below meth co g n0 w0 Q nL pc lv st h := by
  obtain ⟨x, hi, hx⟩ := ia_gr_e hx
  intro H locs ls hl hn hP hk hS
  have h1 := ia_has_at hl hi
  have h2 := hx H locs ls hl hn hP hk hS
  rw [List.map_cons] at h2
  rcases ia_rf_cases g x with q | ⟨a, q⟩
  · rw [q] at h1 h2
    exact lv_aload_nN G.1 G.2.1 hd rfl h1 h2
  · rw [q] at h1 h2
    exact lv_aload_n G.1 G.2.1 hd rfl h1 h2
theorem ia_sd_istore (G : ia_Gd c nL ini cc p s m args meth co g n0) {i : Nat} (hi : (i : Nat) < nL) (hd : decode cc pc = .ok (.istore i, 2)) (hx : ia_u1 st fun x r => ia_Wp p l e R s m args below meth co g n0 w0 Q nL (pc + 2) (ia_s1 lv i (.inl x)) r h) : ia_Wp p l e R s m args below meth co g n0 w0 Q nL pc lv st h := by
  obtain ⟨x, r, rfl, hx⟩ := ia_u1_e hx
  intro H locs ls hl hn hP hk hS
  exact lv_istore G.1 G.2.1 hd hl hi rfl (fun ls hl => hx H locs ls (ia_has_sub hl ia_s1_sub) ⟨(ia_s1_len _ _ _).trans hn.1, hn.2⟩ hP hk hS)
theorem ia_sd_istore_n (G : ia_Gd c nL ini cc p s m args meth co g n0) {i : Fin 4} (hi : (i : Nat) < nL) (hd : decode cc pc = .ok (.istore_n i, 1)) (hx : ia_u1 st fun x r => ia_Wp p l e R s m args below meth co g n0 w0 Q nL (pc + 1) (ia_s1 lv i (.inl x)) r h) : ia_Wp p l e R s m args below meth co g n0 w0 Q nL pc lv st h := by
  obtain ⟨x, r, rfl, hx⟩ := ia_u1_e hx
  intro H locs ls hl hn hP hk hS
  exact lv_istore_n G.1 G.2.1 hd rfl hl hi rfl (fun ls hl => hx H locs ls (ia_has_sub hl ia_s1_sub) ⟨(ia_s1_len _ _ _).trans hn.1, hn.2⟩ hP hk hS)
theorem ia_sd_lstore (G : ia_Gd c nL ini cc p s m args meth co g n0) {i : Nat} (hi : (i : Nat) + 1 < nL) (hd : decode cc pc = .ok (.lstore i, 2)) (hx : ia_l1 st fun x r => ia_Wp p l e R s m args below meth co g n0 w0 Q nL (pc + 2) (ia_s2 lv i x) r h) : ia_Wp p l e R s m args below meth co g n0 w0 Q nL pc lv st h := by
  obtain ⟨x, r, rfl, hx⟩ := ia_l1_e hx
  intro H locs ls hl hn hP hk hS
  exact lv_lstore G.1 G.2.1 hd hl hi rfl (fun ls hl => hx H locs ls (ia_has_sub hl ia_s2_sub) ⟨(ia_s2_len _ _ _).trans hn.1, hn.2⟩ hP hk hS)
theorem ia_sd_lstore_n (G : ia_Gd c nL ini cc p s m args meth co g n0) {i : Fin 4} (hi : (i : Nat) + 1 < nL) (hd : decode cc pc = .ok (.lstore_n i, 1)) (hx : ia_l1 st fun x r => ia_Wp p l e R s m args below meth co g n0 w0 Q nL (pc + 1) (ia_s2 lv i x) r h) : ia_Wp p l e R s m args below meth co g n0 w0 Q nL pc lv st h := by
  obtain ⟨x, r, rfl, hx⟩ := ia_l1_e hx
  intro H locs ls hl hn hP hk hS
  exact lv_lstore_n G.1 G.2.1 hd rfl hl hi rfl (fun ls hl => hx H locs ls (ia_has_sub hl ia_s2_sub) ⟨(ia_s2_len _ _ _).trans hn.1, hn.2⟩ hP hk hS)
theorem ia_sd_astore (G : ia_Gd c nL ini cc p s m args meth co g n0) {i : Nat} (hi : (i : Nat) < nL) (hd : decode cc pc = .ok (.astore i, 2)) (hx : ia_r1 st fun x r => ia_Wp p l e R s m args below meth co g n0 w0 Q nL (pc + 2) (ia_s1 lv i (.inr (.inr x))) r h) : ia_Wp p l e R s m args below meth co g n0 w0 Q nL pc lv st h := by
  obtain ⟨x, r, rfl, hx⟩ := ia_r1_e hx
  intro H locs ls hl hn hP hk hS
  have h1 := fun (ls : Array Slot) (hl : lv_has ls nL ((↑i, ia_rv g (.inr (.inr x))) :: (ia_al g 0 lv).filter (fun q => !(q.1 == ↑i) && !(q.1 + 1 == ↑i && q.2.category == 2)))) => hx H locs ls (ia_has_sub hl ia_s1_sub) ⟨(ia_s1_len _ _ _).trans hn.1, hn.2⟩ hP hk hS
  rw [List.map_cons]
  rcases ia_rf_cases g x with q | ⟨a, q⟩
  · rw [q] at h1 ⊢
    exact lv_astoreN G.1 G.2.1 hd hl hi rfl h1
  · rw [q] at h1 ⊢
    exact lv_astore G.1 G.2.1 hd hl hi rfl h1
theorem ia_sd_astore_n (G : ia_Gd c nL ini cc p s m args meth co g n0) {i : Fin 4} (hi : (i : Nat) < nL) (hd : decode cc pc = .ok (.astore_n i, 1)) (hx : ia_r1 st fun x r => ia_Wp p l e R s m args below meth co g n0 w0 Q nL (pc + 1) (ia_s1 lv i (.inr (.inr x))) r h) : ia_Wp p l e R s m args below meth co g n0 w0 Q nL pc lv st h := by
  obtain ⟨x, r, rfl, hx⟩ := ia_r1_e hx
  intro H locs ls hl hn hP hk hS
  have h1 := fun (ls : Array Slot) (hl : lv_has ls nL ((↑i, ia_rv g (.inr (.inr x))) :: (ia_al g 0 lv).filter (fun q => !(q.1 == ↑i) && !(q.1 + 1 == ↑i && q.2.category == 2)))) => hx H locs ls (ia_has_sub hl ia_s1_sub) ⟨(ia_s1_len _ _ _).trans hn.1, hn.2⟩ hP hk hS
  rw [List.map_cons]
  rcases ia_rf_cases g x with q | ⟨a, q⟩
  · rw [q] at h1 ⊢
    exact lv_astore_nN G.1 G.2.1 hd rfl hl hi rfl h1
  · rw [q] at h1 ⊢
    exact lv_astore_n G.1 G.2.1 hd rfl hl hi rfl h1
theorem ia_al_at {lv : ia_L} {i : Nat} {v : ia_V} (hv : lv[i]? = some (some v)) : ∃ k : Nat, (ia_al g 0 lv)[k]? = some (i, ia_rv g v) := by
  have h1 : (0 + i, ia_rv g v) ∈ ia_al g 0 lv := (ia_al_mem lv 0).mpr ⟨i, v, hv, rfl⟩
  rw [Nat.zero_add] at h1
  exact List.getElem?_of_mem h1
theorem ia_sd_iinc (G : ia_Gd c nL ini cc p s m args meth co g n0) {i : Nat} {n : Int} (hi : i < nL) (hd : decode cc pc = .ok (.iinc i n, 3)) (hx : ia_gi lv i fun x => ia_Wp p l e R s m args below meth co g n0 w0 Q nL (pc + 3) (ia_s1 lv i (.inl (x + Int32.ofInt n))) st h) : ia_Wp p l e R s m args below meth co g n0 w0 Q nL pc lv st h := by
  obtain ⟨x, hv, hx⟩ := ia_gi_e hx
  intro H locs ls hl hn hP hk hS
  obtain ⟨k, hk2⟩ := ia_al_at (g := g) hv
  exact lv_iinc G.1 G.2.1 hd hl hk2 rfl hi rfl (fun ls hl => hx H locs ls (ia_has_sub hl ia_s1_sub) ⟨(ia_s1_len _ _ _).trans hn.1, hn.2⟩ hP hk hS)
theorem ia_sd_pop (G : ia_Gd c nL ini cc p s m args meth co g n0) (hd : decode cc pc = .ok (.pop, 1)) (hx : ia_c1 st fun _ r => ia_Wp p l e R s m args below meth co g n0 w0 Q nL (pc + 1) lv r h) : ia_Wp p l e R s m args below meth co g n0 w0 Q nL pc lv st h := by
  obtain ⟨v, r, rfl, hv, hx⟩ := ia_c1_e hx
  intro H locs ls hl hn hP hk hS
  exact lv_pop G.1 G.2.1 hd (hv g) (hx H locs ls hl hn hP hk hS)
theorem ia_sd_dup (G : ia_Gd c nL ini cc p s m args meth co g n0) (hd : decode cc pc = .ok (.dup, 1)) (hx : ia_c1 st fun v r => ia_Wp p l e R s m args below meth co g n0 w0 Q nL (pc + 1) lv (v :: v :: r) h) : ia_Wp p l e R s m args below meth co g n0 w0 Q nL pc lv st h := by
  obtain ⟨v, r, rfl, hv, hx⟩ := ia_c1_e hx
  intro H locs ls hl hn hP hk hS
  exact lv_dup G.1 G.2.1 hd (hv g) (hx H locs ls hl hn hP hk hS)
theorem ia_sd_dup_x1 (G : ia_Gd c nL ini cc p s m args meth co g n0) (hd : decode cc pc = .ok (.dup_x1, 1)) (hx : ia_c1 st fun v r => ia_c1 r fun w r => ia_Wp p l e R s m args below meth co g n0 w0 Q nL (pc + 1) lv (v :: w :: v :: r) h) : ia_Wp p l e R s m args below meth co g n0 w0 Q nL pc lv st h := by
  obtain ⟨v, r, rfl, hv, hx⟩ := ia_c1_e hx
  obtain ⟨w, r, rfl, hw, hx⟩ := ia_c1_e hx
  intro H locs ls hl hn hP hk hS
  exact lv_dup_x1 G.1 G.2.1 hd (hv g) (hw g) (hx H locs ls hl hn hP hk hS)
theorem ia_sd_dup_x2 (G : ia_Gd c nL ini cc p s m args meth co g n0) (hd : decode cc pc = .ok (.dup_x2, 1)) (hx : ia_c1 st fun v r => ia_c1 r fun w r => ia_c1 r fun u r => ia_Wp p l e R s m args below meth co g n0 w0 Q nL (pc + 1) lv (v :: w :: u :: v :: r) h) : ia_Wp p l e R s m args below meth co g n0 w0 Q nL pc lv st h := by
  obtain ⟨v, r, rfl, hv, hx⟩ := ia_c1_e hx
  obtain ⟨w, r, rfl, hw, hx⟩ := ia_c1_e hx
  obtain ⟨u, r, rfl, hu, hx⟩ := ia_c1_e hx
  intro H locs ls hl hn hP hk hS
  exact lv_dup_x2 G.1 G.2.1 hd (hv g) (hw g) (hu g) (hx H locs ls hl hn hP hk hS)
theorem ia_sd_dup2 (G : ia_Gd c nL ini cc p s m args meth co g n0) (hd : decode cc pc = .ok (.dup2, 1)) (hx : ia_c1 st fun v r => ia_c1 r fun w r => ia_Wp p l e R s m args below meth co g n0 w0 Q nL (pc + 1) lv (v :: w :: v :: w :: r) h) : ia_Wp p l e R s m args below meth co g n0 w0 Q nL pc lv st h := by
  obtain ⟨v, r, rfl, hv, hx⟩ := ia_c1_e hx
  obtain ⟨w, r, rfl, hw, hx⟩ := ia_c1_e hx
  intro H locs ls hl hn hP hk hS
  exact lv_dup2_11 G.1 G.2.1 hd (hv g) (hw g) (hx H locs ls hl hn hP hk hS)
theorem ia_tg_eq {pc : Nat} {off : Int} (h : 0 ≤ (pc : Int) + off) : (pc : Int) + off = ((ia_tg pc off : Nat) : Int) := by
  unfold ia_tg
  omega
theorem ia_sd_goto (G : ia_Gd c nL ini cc p s m args meth co g n0) {off : Int} (hi : 0 ≤ (pc : Int) + off) (hd : decode cc pc = .ok (.goto off, 3)) (hx : ia_Wp p l e R s m args below meth co g n0 w0 Q nL (ia_tg pc off) lv st h) : ia_Wp p l e R s m args below meth co g n0 w0 Q nL pc lv st h := by
  intro H locs ls hl hn hP hk hS
  exact lv_goto G.1 G.2.1 hd (ia_tg_eq hi) (hx H locs ls hl hn hP hk hS)
theorem ia_sd_if_icmp (G : ia_Gd c nL ini cc p s m args meth co g n0) {cd : ClassFile.Cond} {off : Int} (hi : 0 ≤ (pc : Int) + off) (hd : decode cc pc = .ok (.if_icmp cd off, 3)) (hx : ia_b2 st fun x y r => ia_cmp cd x y (ia_Wp p l e R s m args below meth co g n0 w0 Q nL (ia_tg pc off) lv r h) (ia_Wp p l e R s m args below meth co g n0 w0 Q nL (pc + 3) lv r h)) : ia_Wp p l e R s m args below meth co g n0 w0 Q nL pc lv st h := by
  obtain ⟨x, y, r, rfl, hx⟩ := ia_b2_e hx
  intro H locs ls hl hn hP hk hS
  cases cd with
  | eq => exact lv_icmp_eq G.1 G.2.1 hd (ia_tg_eq hi) (fun q => hx.1 q H locs ls hl hn hP hk hS) (fun q => hx.2 q H locs ls hl hn hP hk hS)
  | ne => exact lv_icmp_ne G.1 G.2.1 hd (ia_tg_eq hi) (fun q => hx.1 q H locs ls hl hn hP hk hS) (fun q => hx.2 q H locs ls hl hn hP hk hS)
  | lt => exact lv_icmp_lt G.1 G.2.1 hd (ia_tg_eq hi) (fun q => hx.1 q H locs ls hl hn hP hk hS) (fun q => hx.2 q H locs ls hl hn hP hk hS)
  | ge => exact lv_icmp_ge G.1 G.2.1 hd (ia_tg_eq hi) (fun q => hx.1 q H locs ls hl hn hP hk hS) (fun q => hx.2 q H locs ls hl hn hP hk hS)
  | gt => exact lv_icmp_gt G.1 G.2.1 hd (ia_tg_eq hi) (fun q => hx.1 q H locs ls hl hn hP hk hS) (fun q => hx.2 q H locs ls hl hn hP hk hS)
  | le => exact lv_icmp_le G.1 G.2.1 hd (ia_tg_eq hi) (fun q => hx.1 q H locs ls hl hn hP hk hS) (fun q => hx.2 q H locs ls hl hn hP hk hS)
theorem ia_sd_if (G : ia_Gd c nL ini cc p s m args meth co g n0) {cd : ClassFile.Cond} {off : Int} (hi : 0 ≤ (pc : Int) + off) (hd : decode cc pc = .ok (.ifCond cd off, 3)) (hx : ia_u1 st fun x r => ia_cmp cd x 0 (ia_Wp p l e R s m args below meth co g n0 w0 Q nL (ia_tg pc off) lv r h) (ia_Wp p l e R s m args below meth co g n0 w0 Q nL (pc + 3) lv r h)) : ia_Wp p l e R s m args below meth co g n0 w0 Q nL pc lv st h := by
  obtain ⟨x, r, rfl, hx⟩ := ia_u1_e hx
  intro H locs ls hl hn hP hk hS
  cases cd with
  | eq => exact lv_if_eq G.1 G.2.1 hd (ia_tg_eq hi) (fun q => hx.1 q H locs ls hl hn hP hk hS) (fun q => hx.2 q H locs ls hl hn hP hk hS)
  | ne => exact lv_if_ne G.1 G.2.1 hd (ia_tg_eq hi) (fun q => hx.1 q H locs ls hl hn hP hk hS) (fun q => hx.2 q H locs ls hl hn hP hk hS)
  | lt => exact lv_if_lt G.1 G.2.1 hd (ia_tg_eq hi) (fun q => hx.1 q H locs ls hl hn hP hk hS) (fun q => hx.2 q H locs ls hl hn hP hk hS)
  | ge => exact lv_if_ge G.1 G.2.1 hd (ia_tg_eq hi) (fun q => hx.1 q H locs ls hl hn hP hk hS) (fun q => hx.2 q H locs ls hl hn hP hk hS)
  | gt => exact lv_if_gt G.1 G.2.1 hd (ia_tg_eq hi) (fun q => hx.1 q H locs ls hl hn hP hk hS) (fun q => hx.2 q H locs ls hl hn hP hk hS)
  | le => exact lv_if_le G.1 G.2.1 hd (ia_tg_eq hi) (fun q => hx.1 q H locs ls hl hn hP hk hS) (fun q => hx.2 q H locs ls hl hn hP hk hS)
theorem ia_sd_tableswitch (G : ia_Gd c nL ini cc p s m args meth co g n0) {d lo hi : Int} {offs : Array Int} {len : Nat} (h0 : 0 ≤ (pc : Int) + d) (hO : ∀ o ∈ offs.toList, 0 ≤ (pc : Int) + o) (hZ : offs.size = (hi - lo).toNat + 1) (hd : decode cc pc = .ok (.tableswitch d lo hi offs, len)) (hx : ia_u1 st fun x r => ia_Wp p l e R s m args below meth co g n0 w0 Q nL (ia_tsw pc d lo hi offs x) lv r h) : ia_Wp p l e R s m args below meth co g n0 w0 Q nL pc lv st h := by
  obtain ⟨x, r, rfl, hx⟩ := ia_u1_e hx
  intro H locs ls hl hn hP hk hS
  have h1 := hx H locs ls hl hn hP hk hS
  unfold ia_tsw at h1
  by_cases hq : x.toInt < lo ∨ hi < x.toInt
  · rw [if_pos hq] at h1
    exact lv_tableOut G.1 G.2.1 hd hq (ia_tg_eq h0) h1
  · rw [if_neg hq] at h1
    have hlt : (x.toInt - lo).toNat < offs.size := by omega
    have ho : offs[(x.toInt - lo).toNat]? = some (offs[(x.toInt - lo).toNat]) := Array.getElem?_eq_getElem hlt
    rw [ho] at h1
    exact lv_tableIn G.1 G.2.1 hd (fun q => hq (Or.inl q)) (fun q => hq (Or.inr q)) ho (ia_tg_eq (hO _ (Array.getElem_mem_toList hlt))) h1
end Ia
