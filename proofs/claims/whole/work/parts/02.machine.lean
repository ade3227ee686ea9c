/-! the small machine: values (int, long, reference: 0 is null, 1 to 63 are old, 64 and on are new), locals, heap (ints, longs, references, kinds, cells, slots) -/
abbrev ia_V : Type := Int32 ⊕ Int64 ⊕ Nat
abbrev ia_L : Type := List (Option ia_V)
abbrev ia_H : Type := (Nat → Nat → Int32) × (Nat → Nat → Int64) × (Nat → Nat → Nat) × (Nat → Nat × Nat) × Nat × Nat
abbrev ia_K : Type := Nat → ia_L → List ia_V → ia_H → Prop
/-- an instruction, with what the tables say of it -/
abbrev ia_I : Type := Instr × Nat × Nat × Nat × Nat
abbrev ia_i (h : ia_H) : Nat → Nat → Int32 := h.1
abbrev ia_l (h : ia_H) : Nat → Nat → Int64 := h.2.1
abbrev ia_r (h : ia_H) : Nat → Nat → Nat := h.2.2.1
abbrev ia_k (h : ia_H) : Nat → Nat × Nat := h.2.2.2.1
abbrev ia_n (h : ia_H) : Nat := h.2.2.2.2.1
abbrev ia_m (h : ia_H) : Nat := h.2.2.2.2.2
def ia_up {α : Type} (f : Nat → Nat → α) (a i : Nat) (x : α) : Nat → Nat → α := fun b j => if b = a ∧ j = i then x else f b j
def ia_wI (h : ia_H) (a i : Nat) (x : Int32) : ia_H := (ia_up h.1 a i x, h.2)
def ia_wL (h : ia_H) (a i : Nat) (x : Int64) : ia_H := (h.1, ia_up h.2.1 a i x, h.2.2)
def ia_wR (h : ia_H) (a i : Nat) (x : Nat) : ia_H := (h.1, h.2.1, ia_up h.2.2.1 a i x, h.2.2.2)
def ia_b2 (st : List ia_V) (k : Int32 → Int32 → List ia_V → Prop) : Prop := match st with
  | .inl y :: .inl x :: r => k x y r
  | _ => False
def ia_u1 (st : List ia_V) (k : Int32 → List ia_V → Prop) : Prop := match st with
  | .inl x :: r => k x r
  | _ => False
def ia_l2 (st : List ia_V) (k : Int64 → Int64 → List ia_V → Prop) : Prop := match st with
  | .inr (.inl y) :: .inr (.inl x) :: r => k x y r
  | _ => False
def ia_l1 (st : List ia_V) (k : Int64 → List ia_V → Prop) : Prop := match st with
  | .inr (.inl x) :: r => k x r
  | _ => False
def ia_ls (st : List ia_V) (k : Int64 → Int32 → List ia_V → Prop) : Prop := match st with
  | .inl y :: .inr (.inl x) :: r => k x y r
  | _ => False
def ia_r1 (st : List ia_V) (k : Nat → List ia_V → Prop) : Prop := match st with
  | .inr (.inr a) :: r => k a r
  | _ => False
def ia_ir (st : List ia_V) (k : Int32 → Nat → List ia_V → Prop) : Prop := match st with
  | .inl x :: .inr (.inr a) :: r => k x a r
  | _ => False
def ia_lr (st : List ia_V) (k : Int64 → Nat → List ia_V → Prop) : Prop := match st with
  | .inr (.inl x) :: .inr (.inr a) :: r => k x a r
  | _ => False
def ia_rr (st : List ia_V) (k : Nat → Nat → List ia_V → Prop) : Prop := match st with
  | .inr (.inr x) :: .inr (.inr a) :: r => k x a r
  | _ => False
def ia_iir (st : List ia_V) (k : Int32 → Int32 → Nat → List ia_V → Prop) : Prop := match st with
  | .inl x :: .inl i :: .inr (.inr a) :: r => k x i a r
  | _ => False
def ia_lir (st : List ia_V) (k : Int64 → Int32 → Nat → List ia_V → Prop) : Prop := match st with
  | .inr (.inl x) :: .inl i :: .inr (.inr a) :: r => k x i a r
  | _ => False
def ia_rir (st : List ia_V) (k : Nat → Int32 → Nat → List ia_V → Prop) : Prop := match st with
  | .inr (.inr x) :: .inl i :: .inr (.inr a) :: r => k x i a r
  | _ => False
def ia_c1 (st : List ia_V) (k : ia_V → List ia_V → Prop) : Prop := match st with
  | .inl x :: r => k (.inl x) r
  | .inr (.inr x) :: r => k (.inr (.inr x)) r
  | _ => False
def ia_gi (lv : ia_L) (i : Nat) (k : Int32 → Prop) : Prop := match lv[i]? with
  | some (some (.inl x)) => k x
  | _ => False
def ia_gl (lv : ia_L) (i : Nat) (k : Int64 → Prop) : Prop := match lv[i]? with
  | some (some (.inr (.inl x))) => k x
  | _ => False
def ia_gr (lv : ia_L) (i : Nat) (k : Nat → Prop) : Prop := match lv[i]? with
  | some (some (.inr (.inr x))) => k x
  | _ => False
def ia_clr (lv : ia_L) (i : Nat) : ia_L := match i with
  | 0 => lv
  | j + 1 => match lv[j]? with
    | some (some (.inr (.inl _))) => lv.set j none
    | _ => lv
def ia_s1 (lv : ia_L) (i : Nat) (v : ia_V) : ia_L := (ia_clr lv i).set i (some v)
def ia_s2 (lv : ia_L) (i : Nat) (x : Int64) : ia_L := ((ia_clr lv i).set i (some (.inr (.inl x)))).set (i + 1) none
def ia_tg (pc : Nat) (off : Int) : Nat := ((pc : Int) + off).toNat
def ia_tsw (pc : Nat) (d lo hi : Int) (offs : Array Int) (x : Int32) : Nat :=
  if x.toInt < lo ∨ hi < x.toInt then ia_tg pc d else ia_tg pc (offs[(x.toInt - lo).toNat]?.getD 0)
def ia_cmp (c : ClassFile.Cond) (x y : Int32) (A B : Prop) : Prop := match c with
  | .eq => (x = y → A) ∧ (¬ x = y → B)
  | .ne => (¬ x = y → A) ∧ (x = y → B)
  | .lt => (x < y → A) ∧ (¬ x < y → B)
  | .ge => (y ≤ x → A) ∧ (¬ y ≤ x → B)
  | .gt => (y < x → A) ∧ (¬ y < x → B)
  | .le => (x ≤ y → A) ∧ (¬ x ≤ y → B)
/-- one instruction: what must hold before it, that K holds behind it -/
def ia_x1 (ai : ia_I) (pc : Nat) (lv : ia_L) (st : List ia_V) (h : ia_H) (K : ia_K) : Prop := match ai.1 with
  | .iconst n => K (pc + 1) lv (.inl (Int32.ofInt n) :: st) h
  | .bipush n => K (pc + 2) lv (.inl ((Int8.ofInt n).toInt32) :: st) h
  | .sipush n => K (pc + 3) lv (.inl ((Int16.ofInt n).toInt32) :: st) h
  | .lconst n => K (pc + 1) lv (.inr (.inl (Int64.ofNat (n : Nat))) :: st) h
  | .iload i => ia_gi lv i fun x => K (pc + 2) lv (.inl x :: st) h
  | .iload_n i => ia_gi lv i fun x => K (pc + 1) lv (.inl x :: st) h
  | .lload i => ia_gl lv i fun x => K (pc + 2) lv (.inr (.inl x) :: st) h
  | .lload_n i => ia_gl lv i fun x => K (pc + 1) lv (.inr (.inl x) :: st) h
  | .aload i => ia_gr lv i fun x => K (pc + 2) lv (.inr (.inr x) :: st) h
  | .aload_n i => ia_gr lv i fun x => K (pc + 1) lv (.inr (.inr x) :: st) h
  | .istore i => ia_u1 st fun x r => K (pc + 2) (ia_s1 lv i (.inl x)) r h
  | .istore_n i => ia_u1 st fun x r => K (pc + 1) (ia_s1 lv i (.inl x)) r h
  | .lstore i => ia_l1 st fun x r => K (pc + 2) (ia_s2 lv i x) r h
  | .lstore_n i => ia_l1 st fun x r => K (pc + 1) (ia_s2 lv i x) r h
  | .astore i => ia_r1 st fun x r => K (pc + 2) (ia_s1 lv i (.inr (.inr x))) r h
  | .astore_n i => ia_r1 st fun x r => K (pc + 1) (ia_s1 lv i (.inr (.inr x))) r h
  | .iinc i n => ia_gi lv i fun x => K (pc + 3) (ia_s1 lv i (.inl (x + Int32.ofInt n))) st h
  | .iadd => ia_b2 st fun x y r => K (pc + 1) lv (.inl (x + y) :: r) h
  | .isub => ia_b2 st fun x y r => K (pc + 1) lv (.inl (x - y) :: r) h
  | .imul => ia_b2 st fun x y r => K (pc + 1) lv (.inl (x * y) :: r) h
  | .iand => ia_b2 st fun x y r => K (pc + 1) lv (.inl (x &&& y) :: r) h
  | .ior => ia_b2 st fun x y r => K (pc + 1) lv (.inl (x ||| y) :: r) h
  | .ixor => ia_b2 st fun x y r => K (pc + 1) lv (.inl (x ^^^ y) :: r) h
  | .ishl => ia_b2 st fun x y r => K (pc + 1) lv (.inl (x <<< (y &&& 31)) :: r) h
  | .ishr => ia_b2 st fun x y r => K (pc + 1) lv (.inl (x >>> (y &&& 31)) :: r) h
  | .iushr => ia_b2 st fun x y r => K (pc + 1) lv (.inl ((x.toUInt32 >>> (y.toUInt32 &&& Int32.toUInt32 31)).toInt32) :: r) h
  | .idiv => ia_b2 st fun x y r => (¬ y = 0) ∧ K (pc + 1) lv (.inl (x / y) :: r) h
  | .irem => ia_b2 st fun x y r => (¬ y = 0) ∧ K (pc + 1) lv (.inl (x - x / y * y) :: r) h
  | .ineg => ia_u1 st fun x r => K (pc + 1) lv (.inl (-x) :: r) h
  | .i2l => ia_u1 st fun x r => K (pc + 1) lv (.inr (.inl x.toInt64) :: r) h
  | .i2b => ia_u1 st fun x r => K (pc + 1) lv (.inl x.toInt8.toInt32 :: r) h
  | .l2i => ia_l1 st fun x r => K (pc + 1) lv (.inl x.toInt32 :: r) h
  | .ladd => ia_l2 st fun x y r => K (pc + 1) lv (.inr (.inl (x + y)) :: r) h
  | .lsub => ia_l2 st fun x y r => K (pc + 1) lv (.inr (.inl (x - y)) :: r) h
  | .lmul => ia_l2 st fun x y r => K (pc + 1) lv (.inr (.inl (x * y)) :: r) h
  | .land => ia_l2 st fun x y r => K (pc + 1) lv (.inr (.inl (x &&& y)) :: r) h
  | .lor => ia_l2 st fun x y r => K (pc + 1) lv (.inr (.inl (x ||| y)) :: r) h
  | .lxor => ia_l2 st fun x y r => K (pc + 1) lv (.inr (.inl (x ^^^ y)) :: r) h
  | .lshl => ia_ls st fun x y r => K (pc + 1) lv (.inr (.inl (x <<< (y.toInt64 &&& 63))) :: r) h
  | .lshr => ia_ls st fun x y r => K (pc + 1) lv (.inr (.inl (x >>> (y.toInt64 &&& 63))) :: r) h
  | .lushr => ia_ls st fun x y r => K (pc + 1) lv (.inr (.inl ((x.toUInt64 >>> (y.toInt64.toUInt64 &&& Int64.toUInt64 63)).toInt64)) :: r) h
  | .lcmp => ia_l2 st fun x y r => K (pc + 1) lv (.inl (lg_cmp x y) :: r) h
  | .pop => ia_c1 st fun _ r => K (pc + 1) lv r h
  | .dup => ia_c1 st fun v r => K (pc + 1) lv (v :: v :: r) h
  | .dup_x1 => ia_c1 st fun v r => ia_c1 r fun w r => K (pc + 1) lv (v :: w :: v :: r) h
  | .dup_x2 => ia_c1 st fun v r => ia_c1 r fun w r => ia_c1 r fun u r => K (pc + 1) lv (v :: w :: u :: v :: r) h
  | .dup2 => ia_c1 st fun v r => ia_c1 r fun w r => K (pc + 1) lv (v :: w :: v :: w :: r) h
  | .goto off => K (ia_tg pc off) lv st h
  | .if_icmp c off => ia_b2 st fun x y r => ia_cmp c x y (K (ia_tg pc off) lv r h) (K (pc + 3) lv r h)
  | .ifCond c off => ia_u1 st fun x r => ia_cmp c x 0 (K (ia_tg pc off) lv r h) (K (pc + 3) lv r h)
  | .tableswitch d lo hi offs => ia_u1 st fun x r => K (ia_tsw pc d lo hi offs x) lv r h
  | .getfield _ => ia_r1 st fun a r => (ia_k h a).1 = ai.2.1 ∧ match ai.2.2.2.1 with
    | 0 => K (pc + 3) lv (.inl (ia_i h a ai.2.2.1) :: r) h
    | 1 => K (pc + 3) lv (.inr (.inl (ia_l h a ai.2.2.1)) :: r) h
    | 2 => K (pc + 3) lv (.inr (.inr (ia_r h a ai.2.2.1)) :: r) h
    | 3 => ia_r h a ai.2.2.1 = a + ai.2.2.2.2 ∧ K (pc + 3) lv (.inr (.inr (a + ai.2.2.2.2)) :: r) h
    | _ => ia_r h a ai.2.2.1 = ai.2.2.2.2 ∧ K (pc + 3) lv (.inr (.inr ai.2.2.2.2) :: r) h
  | .putfield _ => match ai.2.2.2.1 with
    | 0 => ia_ir st fun x a r => (ia_k h a).1 = ai.2.1 ∧ K (pc + 3) lv r (ia_wI h a ai.2.2.1 x)
    | 1 => ia_lr st fun x a r => (ia_k h a).1 = ai.2.1 ∧ K (pc + 3) lv r (ia_wL h a ai.2.2.1 x)
    | 2 => ia_rr st fun x a r => (ia_k h a).1 = ai.2.1 ∧ K (pc + 3) lv r (ia_wR h a ai.2.2.1 x)
    | _ => ia_ir st fun x a r => (ia_k h a).1 = ai.2.1 ∧ (x = 0 ∨ x = 1) ∧ K (pc + 3) lv r (ia_wI h a ai.2.2.1 x)
  | .iaload => ia_ir st fun i a r => ((ia_k h a).1 = 100 ∧ vp_in i (ia_k h a).2) ∧ K (pc + 1) lv (.inl (ia_i h a i.toNatClampNeg) :: r) h
  | .baload => ia_ir st fun i a r => (64 ≤ a ∧ (ia_k h a).1 = ai.2.1 ∧ vp_in i (ia_k h a).2) ∧ K (pc + 1) lv (.inl (ia_i h a i.toNatClampNeg) :: r) h
  | .laload => ia_ir st fun i a r => (64 ≤ a ∧ (ia_k h a).1 = 103 ∧ vp_in i (ia_k h a).2) ∧ K (pc + 1) lv (.inr (.inl (ia_l h a i.toNatClampNeg)) :: r) h
  | .aaload => ia_ir st fun i a r => (64 ≤ a ∧ (ia_k h a).1 = ai.2.1 ∧ vp_in i (ia_k h a).2 ∧ ia_r h a i.toNatClampNeg = a + 1 + ai.2.2.1 * i.toNatClampNeg) ∧ K (pc + 1) lv (.inr (.inr (a + 1 + ai.2.2.1 * i.toNatClampNeg)) :: r) h
  | .iastore => ia_iir st fun x i a r => (64 ≤ a ∧ (ia_k h a).1 = 100 ∧ vp_in i (ia_k h a).2) ∧ K (pc + 1) lv r (ia_wI h a i.toNatClampNeg x)
  | .bastore => ia_iir st fun x i a r => (64 ≤ a ∧ (ia_k h a).1 = ai.2.1 ∧ vp_in i (ia_k h a).2) ∧ K (pc + 1) lv r (ia_wI h a i.toNatClampNeg (vp_nar (if ai.2.1 = 101 then .boolean else .byte) x))
  | .lastore => ia_lir st fun x i a r => (64 ≤ a ∧ (ia_k h a).1 = 103 ∧ vp_in i (ia_k h a).2) ∧ K (pc + 1) lv r (ia_wL h a i.toNatClampNeg x)
  | .aastore => ia_rir st fun x i a r => (64 ≤ a ∧ (ia_k h a).1 = 104 + ai.2.1 ∧ vp_in i (ia_k h a).2 ∧ (ia_k h x).1 = ai.2.1) ∧ K (pc + 1) lv r (ia_wR h a i.toNatClampNeg x)
  | .arraylength => ia_r1 st fun a r => (100 ≤ (ia_k h a).1 ∧ (ia_k h a).1 < 104) ∧ K (pc + 1) lv (.inl (Int32.ofNat (ia_k h a).2) :: r) h
  | _ => False
def ia_xs (is : List ia_I) (pc : Nat) (lv : ia_L) (st : List ia_V) (h : ia_H) (K : ia_K) : Prop := match is with
  | [] => K pc lv st h
  | i :: is => ia_x1 i pc lv st h fun pc lv st h => ia_xs is pc lv st h K
def ia_len (i : Instr) : Nat := match i with
  | .bipush _ | .iload _ | .lload _ | .aload _ | .istore _ | .lstore _ | .astore _ => 2
  | .sipush _ | .iinc _ _ | .goto _ | .if_icmp _ _ | .ifCond _ _ | .getfield _ | .putfield _ => 3
  | _ => 1
/-- does the way end here -/
def ia_end (i : Instr) : Bool := match i with
  | .goto _ | .if_icmp _ _ | .ifCond _ _ | .tableswitch _ _ _ _ => true
  | _ => false
def ia_ft (ci k : Nat) : Nat := match ia_ty ci k with
  | .long => 1
  | .object _ => 2
  | .array _ => 2
  | .boolean => 4
  | .int => 0
  | _ => 5
/-- the classes that stand in arrays: Lake, Law, Plan, Scene, Told -/
def ia_ra (ci : Nat) : Bool := ci == 3 || (ci == 4 || (ci == 6 || (ci == 9 || ci == 10)))
def ia_fo (c idx ci k : Nat) : Bool := (ia_fl c).any fun e => e.1 == idx && (e.2.1 == ci && e.2.2.1 == k)
/-- is the instruction at pc this one, and is what is said of it so -/
def ia_ck (c nL : Nat) (ini : Bool) (cc : ByteArray) (pc : Nat) (ai : ia_I) : Bool := (match ai.1 with
  | .tableswitch d lo hi offs => (match decode cc pc with
      | .ok (i, _) => decide (i = .tableswitch d lo hi offs)
      | _ => false) && (decide (0 ≤ (pc : Int) + d) && (offs.toList.all (fun o => decide (0 ≤ (pc : Int) + o)) && decide (offs.size = (hi - lo).toNat + 1)))
  | i => decide (decode cc pc = .ok (i, ia_len i))) && match ai.1 with
  | .istore i | .astore i | .iinc i _ => decide (i < nL)
  | .istore_n i | .astore_n i => decide ((i : Nat) < nL)
  | .lstore i => decide (i + 1 < nL)
  | .lstore_n i => decide ((i : Nat) + 1 < nL)
  | .goto o | .if_icmp _ o | .ifCond _ o => decide (0 ≤ (pc : Int) + o)
  | .getfield idx => ia_fo c idx ai.2.1 ai.2.2.1 && (match ai.2.2.2.1 with
      | 0 => decide (ia_ft ai.2.1 ai.2.2.1 = 0) || decide (ia_ft ai.2.1 ai.2.2.1 = 4)
      | 1 => decide (ia_ft ai.2.1 ai.2.2.1 = 1)
      | _ => decide (ia_ft ai.2.1 ai.2.2.1 = 2))
  | .putfield idx => ia_fo c idx ai.2.1 ai.2.2.1 && ((match ai.2.2.2.1 with
      | 0 => decide (ia_ft ai.2.1 ai.2.2.1 = 0)
      | 1 => decide (ia_ft ai.2.1 ai.2.2.1 = 1)
      | 2 => decide (ia_ft ai.2.1 ai.2.2.1 = 2)
      | _ => decide (ia_ft ai.2.1 ai.2.2.1 = 4)) && (!(ia_T ai.2.1 ai.2.2.1).2.2.2 || (ini && decide (ia_R ai.2.1 = ia_O c))))
  | .baload | .bastore => decide (ai.2.1 = 101) || decide (ai.2.1 = 102)
  | .aaload => decide (ai.2.1 = 117) || ((List.range 13).any fun ci => decide (ai.2.1 = 104 + ci) && ia_ra ci)
  | .aastore => decide (ai.2.1 < 13) && ia_ra ai.2.1
  | _ => true
def ia_cks (c nL : Nat) (ini : Bool) (cc : ByteArray) (pc : Nat) (is : List ia_I) : Bool := match is with
  | [] => true
  | [i] => ia_ck c nL ini cc pc i
  | i :: is => ia_ck c nL ini cc pc i && (!ia_end i.1 && ia_cks c nL ini cc (pc + ia_len i.1) is)
