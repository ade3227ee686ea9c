/-! one instruction, and a row of them -/
section Id
variable {p : Program} {l : Launch} {e : Env} {R : Room} {s : State} {m : MethodId} {args : Array Value} {below : List Frame} {meth : Method} {co : Code} {g : ia_G} {n0 w0 : Nat} {Q : State → Prop} {c nL : Nat} {ini : Bool} {cc : ByteArray} {pc : Nat} {lv : ia_L} {st : List ia_V} {h : ia_H}
theorem ia_fv_0 {ci k a : Nat} (hf : ia_ft ci k = 0 ∨ ia_ft ci k = 4) : ia_fv g h a ci k = .int (ia_i h a k) := by
  unfold ia_fv
  rcases hf with q | q
  · rw [q]
    rfl
  · rw [q]
    rfl
theorem ia_fv_1 {ci k a : Nat} (hf : ia_ft ci k = 1) : ia_fv g h a ci k = .long (ia_l h a k) := by
  unfold ia_fv
  rw [hf]
  rfl
theorem ia_fv_2 {ci k a : Nat} (hf : ia_ft ci k = 2) : ia_fv g h a ci k = ia_rv g (.inr (.inr (ia_r h a k))) := by
  unfold ia_fv
  rw [hf]
  rfl
theorem ia_fv_wI {ci k a x : Nat} {v : Int32} : ∀ j, j ≠ k → ia_fv g (ia_wI h a k v) a ci j = ia_fv g h a ci j := by
  intro j hj
  have e : ia_i (ia_wI h a k v) a j = ia_i h a j := ia_up_j hj
  unfold ia_fv
  rw [e]
  rfl
theorem ia_fv_wL {ci k a : Nat} {v : Int64} : ∀ j, j ≠ k → ia_fv g (ia_wL h a k v) a ci j = ia_fv g h a ci j := by
  intro j hj
  have e : ia_l (ia_wL h a k v) a j = ia_l h a j := ia_up_j hj
  unfold ia_fv
  rw [e]
  rfl
theorem ia_fv_wR {ci k a : Nat} {v : Nat} : ∀ j, j ≠ k → ia_fv g (ia_wR h a k v) a ci j = ia_fv g h a ci j := by
  intro j hj
  have e : ia_r (ia_wR h a k v) a j = ia_r h a j := ia_up_j hj
  unfold ia_fv
  rw [e]
  rfl
theorem ia_sd_getfield (G : ia_Gd c nL ini cc p s m args meth co g n0) {idx ci k x3 x4 : Nat} (hd : decode cc pc = .ok (.getfield idx, 3)) (hf : ia_fo c idx ci k = true) (ht : (match x3 with
      | 0 => decide (ia_ft ci k = 0) || decide (ia_ft ci k = 4)
      | 1 => decide (ia_ft ci k = 1)
      | _ => decide (ia_ft ci k = 2)) = true) (hx : ia_x1 (.getfield idx, ci, k, x3, x4) pc lv st h (ia_Wp p l e R s m args below meth co g n0 w0 Q nL)) : ia_Wp p l e R s m args below meth co g n0 w0 Q nL pc lv st h := by
  obtain ⟨a, r, rfl, he, hx⟩ := ia_r1_e hx
  intro H locs ls hl hn hP hk hS
  refine ia_getf G hP hk hf he hd ?_
  match x3, ht, hx with
  | 0, ht, hx =>
    simp only [Bool.or_eq_true, decide_eq_true_eq] at ht
    rw [ia_fv_0 ht]
    exact hx H locs ls hl hn hP hk hS
  | 1, ht, hx =>
    rw [ia_fv_1 (of_decide_eq_true ht)]
    exact hx H locs ls hl hn hP hk hS
  | 2, ht, hx =>
    rw [ia_fv_2 (of_decide_eq_true ht)]
    exact hx H locs ls hl hn hP hk hS
  | 3, ht, hx =>
    rw [ia_fv_2 (of_decide_eq_true ht), hx.1]
    exact hx.2 H locs ls hl hn hP hk hS
  | x3 + 4, ht, hx =>
    rw [ia_fv_2 (of_decide_eq_true ht), hx.1]
    exact hx.2 H locs ls hl hn hP hk hS
theorem ia_sd_putfield (G : ia_Gd c nL ini cc p s m args meth co g n0) {idx ci k x3 x4 : Nat} (hd : decode cc pc = .ok (.putfield idx, 3)) (hf : ia_fo c idx ci k = true) (ht : (match x3 with
      | 0 => decide (ia_ft ci k = 0)
      | 1 => decide (ia_ft ci k = 1)
      | 2 => decide (ia_ft ci k = 2)
      | _ => decide (ia_ft ci k = 4)) = true) (hfin : (!(ia_T ci k).2.2.2 || (ini && decide (ia_R ci = ia_O c))) = true) (hx : ia_x1 (.putfield idx, ci, k, x3, x4) pc lv st h (ia_Wp p l e R s m args below meth co g n0 w0 Q nL)) : ia_Wp p l e R s m args below meth co g n0 w0 Q nL pc lv st h := by
  match x3, ht, hx with
  | 0, ht, hx =>
    have ht := of_decide_eq_true ht
    obtain ⟨x, a, r, rfl, he, hx⟩ := ia_ir_e hx
    replace he : (ia_k h a).1 = ci := he
    intro H locs ls hl hn hP hk hS
    have h4 := (ia_new_of (a := a) G.2.2.2.2.2.2.2.1 hk (by have := (ia_fo_spec G.2.2.2.2.2.2.2.2.1 hf).1; omega) (by have := (ia_fo_spec G.2.2.2.2.2.2.2.2.1 hf).1; omega)).1
    exact ia_put G hP hk hS hf he hfin (by rw [ia_ft_0 ht]; rfl) (by rw [ia_ft_0 ht]; rfl) hd (h' := ia_wI h a k x) rfl (fun b hb => ia_en_wI hb) he (by rw [ia_fv_0 (Or.inl ht)]; exact congrArg Value.int ia_up_s) (ia_fv_wI (x := 0)) (fun H1 locs1 p1 p3 => hx H1 locs1 ls hl hn p1 (ia_hk_wI hk h4) p3)
  | 1, ht, hx =>
    have ht := of_decide_eq_true ht
    obtain ⟨x, a, r, rfl, he, hx⟩ := ia_lr_e hx
    intro H locs ls hl hn hP hk hS
    exact ia_put G hP hk hS hf he hfin (by rw [ia_ft_1 ht]; rfl) (by rw [ia_ft_1 ht]; rfl) hd (h' := ia_wL h a k x) rfl (fun b hb => ia_en_wL hb) he (by rw [ia_fv_1 ht]; exact congrArg Value.long ia_up_s) ia_fv_wL (fun H1 locs1 p1 p3 => hx H1 locs1 ls hl hn p1 (ia_hk_wL hk) p3)
  | 2, ht, hx =>
    have ht := of_decide_eq_true ht
    obtain ⟨x, a, r, rfl, he, hx⟩ := ia_rr_e hx
    intro H locs ls hl hn hP hk hS
    have hnf : narrow (ia_ty ci k) (ia_rv g (.inr (.inr x))) = ia_rv g (.inr (.inr x)) ∧ fits (ia_ty ci k) (ia_rv g (.inr (.inr x))) = true := by
      rcases ia_rf_cases g x with q | ⟨b, q⟩ <;> rw [q] <;> rcases ia_ft_2 ht with ⟨C, q⟩ | ⟨t, q⟩ <;> rw [q] <;> exact ⟨rfl, rfl⟩
    exact ia_put G hP hk hS hf he hfin hnf.1 hnf.2 hd (h' := ia_wR h a k x) rfl (fun b hb => ia_en_wR hb) he (by rw [ia_fv_2 ht, show ia_r (ia_wR h a k x) a k = x from ia_up_s]) ia_fv_wR (fun H1 locs1 p1 p3 => hx H1 locs1 ls hl hn p1 (ia_hk_wR hk) p3)
  | x3 + 3, ht, hx =>
    have ht := of_decide_eq_true ht
    obtain ⟨x, a, r, rfl, he, hb, hx⟩ := ia_ir_e hx
    replace he : (ia_k h a).1 = ci := he
    intro H locs ls hl hn hP hk hS
    have h4 := (ia_new_of (a := a) G.2.2.2.2.2.2.2.1 hk (by have := (ia_fo_spec G.2.2.2.2.2.2.2.2.1 hf).1; omega) (by have := (ia_fo_spec G.2.2.2.2.2.2.2.2.1 hf).1; omega)).1
    exact ia_put G hP hk hS hf he hfin (by rw [ia_ft_4 ht]; rcases hb with rfl | rfl <;> rfl) (by rw [ia_ft_4 ht]; rcases hb with rfl | rfl <;> rfl) hd (h' := ia_wI h a k x) rfl (fun b hb => ia_en_wI hb) he (by rw [ia_fv_0 (Or.inr ht)]; exact congrArg Value.int ia_up_s) (ia_fv_wI (x := 0)) (fun H1 locs1 p1 p3 => hx H1 locs1 ls hl hn p1 (ia_hk_wI hk h4) p3)
theorem ia_sound (G : ia_Gd c nL ini cc p s m args meth co g n0) {ai : ia_I} (hck : ia_ck c nL ini cc pc ai = true) (hx : ia_x1 ai pc lv st h (ia_Wp p l e R s m args below meth co g n0 w0 Q nL)) : ia_Wp p l e R s m args below meth co g n0 w0 Q nL pc lv st h := by
  obtain ⟨i, x1, x2, x3, x4⟩ := ai
  unfold ia_ck at hck
  rw [Bool.and_eq_true] at hck
  obtain ⟨hd, hq⟩ := hck
  cases i
  case iadd => exact ia_sd_iadd G (of_decide_eq_true hd) hx
  case isub => exact ia_sd_isub G (of_decide_eq_true hd) hx
  case imul => exact ia_sd_imul G (of_decide_eq_true hd) hx
  case iand => exact ia_sd_iand G (of_decide_eq_true hd) hx
  case ior => exact ia_sd_ior G (of_decide_eq_true hd) hx
  case ixor => exact ia_sd_ixor G (of_decide_eq_true hd) hx
  case ishl => exact ia_sd_ishl G (of_decide_eq_true hd) hx
  case ishr => exact ia_sd_ishr G (of_decide_eq_true hd) hx
  case iushr => exact ia_sd_iushr G (of_decide_eq_true hd) hx
  case idiv => exact ia_sd_idiv G (of_decide_eq_true hd) hx
  case irem => exact ia_sd_irem G (of_decide_eq_true hd) hx
  case ineg => exact ia_sd_ineg G (of_decide_eq_true hd) hx
  case i2l => exact ia_sd_i2l G (of_decide_eq_true hd) hx
  case i2b => exact ia_sd_i2b G (of_decide_eq_true hd) hx
  case l2i => exact ia_sd_l2i G (of_decide_eq_true hd) hx
  case ladd => exact ia_sd_ladd G (of_decide_eq_true hd) hx
  case lsub => exact ia_sd_lsub G (of_decide_eq_true hd) hx
  case lmul => exact ia_sd_lmul G (of_decide_eq_true hd) hx
  case land => exact ia_sd_land G (of_decide_eq_true hd) hx
  case lor => exact ia_sd_lor G (of_decide_eq_true hd) hx
  case lxor => exact ia_sd_lxor G (of_decide_eq_true hd) hx
  case lshl => exact ia_sd_lshl G (of_decide_eq_true hd) hx
  case lshr => exact ia_sd_lshr G (of_decide_eq_true hd) hx
  case lushr => exact ia_sd_lushr G (of_decide_eq_true hd) hx
  case lcmp => exact ia_sd_lcmp G (of_decide_eq_true hd) hx
  case pop => exact ia_sd_pop G (of_decide_eq_true hd) hx
  case dup => exact ia_sd_dup G (of_decide_eq_true hd) hx
  case dup_x1 => exact ia_sd_dup_x1 G (of_decide_eq_true hd) hx
  case dup_x2 => exact ia_sd_dup_x2 G (of_decide_eq_true hd) hx
  case dup2 => exact ia_sd_dup2 G (of_decide_eq_true hd) hx
  case iconst => exact ia_sd_iconst G (of_decide_eq_true hd) hx
  case bipush => exact ia_sd_bipush G (of_decide_eq_true hd) hx
  case sipush => exact ia_sd_sipush G (of_decide_eq_true hd) hx
  case lconst => exact ia_sd_lconst G (of_decide_eq_true hd) hx
  case iload => exact ia_sd_iload G (of_decide_eq_true hd) hx
  case iload_n => exact ia_sd_iload_n G (of_decide_eq_true hd) hx
  case lload => exact ia_sd_lload G (of_decide_eq_true hd) hx
  case lload_n => exact ia_sd_lload_n G (of_decide_eq_true hd) hx
  case aload => exact ia_sd_aload G (of_decide_eq_true hd) hx
  case aload_n => exact ia_sd_aload_n G (of_decide_eq_true hd) hx
  case istore => exact ia_sd_istore G (of_decide_eq_true hq) (of_decide_eq_true hd) hx
  case istore_n => exact ia_sd_istore_n G (of_decide_eq_true hq) (of_decide_eq_true hd) hx
  case lstore => exact ia_sd_lstore G (of_decide_eq_true hq) (of_decide_eq_true hd) hx
  case lstore_n => exact ia_sd_lstore_n G (of_decide_eq_true hq) (of_decide_eq_true hd) hx
  case astore => exact ia_sd_astore G (of_decide_eq_true hq) (of_decide_eq_true hd) hx
  case astore_n => exact ia_sd_astore_n G (of_decide_eq_true hq) (of_decide_eq_true hd) hx
  case iinc => exact ia_sd_iinc G (of_decide_eq_true hq) (of_decide_eq_true hd) hx
  case goto => exact ia_sd_goto G (of_decide_eq_true hq) (of_decide_eq_true hd) hx
  case if_icmp => exact ia_sd_if_icmp G (of_decide_eq_true hq) (of_decide_eq_true hd) hx
  case ifCond => exact ia_sd_if G (of_decide_eq_true hq) (of_decide_eq_true hd) hx
  case tableswitch d lo hi offs =>
    rw [Bool.and_eq_true, Bool.and_eq_true, Bool.and_eq_true, List.all_eq_true] at hd
    obtain ⟨h1, h2, h3, h4⟩ := hd
    have hd : ∃ len, decode cc pc = .ok (.tableswitch d lo hi offs, len) := by
      split at h1
      · rename_i i len heq
        rw [of_decide_eq_true h1] at heq
        exact ⟨len, heq⟩
      · cases h1
    obtain ⟨len, hd⟩ := hd
    exact ia_sd_tableswitch G (of_decide_eq_true h2) (fun o ho => of_decide_eq_true (h3 o ho)) (of_decide_eq_true h4) hd hx
  case getfield idx =>
    rw [Bool.and_eq_true] at hq
    exact ia_sd_getfield G (of_decide_eq_true hd) hq.1 hq.2 hx
  case putfield idx =>
    rw [Bool.and_eq_true, Bool.and_eq_true] at hq
    exact ia_sd_putfield G (of_decide_eq_true hd) hq.1 hq.2.1 hq.2.2 hx
  case iaload =>
    obtain ⟨i, a, r, rfl, ⟨h1, h2⟩, hx⟩ := ia_ir_e hx
    intro H locs ls hl hn hP hk hS
    exact ia_iald G hP hk hS h1 h2 (of_decide_eq_true hd) (hx H locs ls hl hn hP hk hS)
  case baload =>
    obtain ⟨i, a, r, rfl, ⟨h0, h1, h2⟩, hx⟩ := ia_ir_e hx
    simp only [Bool.or_eq_true, decide_eq_true_eq] at hq
    intro H locs ls hl hn hP hk hS
    exact ia_bald G hP hk hq h0 h1 h2 (of_decide_eq_true hd) (hx H locs ls hl hn hP hk hS)
  case laload =>
    obtain ⟨i, a, r, rfl, ⟨h0, h1, h2⟩, hx⟩ := ia_ir_e hx
    intro H locs ls hl hn hP hk hS
    exact ia_lald G hP hk h0 h1 h2 (of_decide_eq_true hd) (hx H locs ls hl hn hP hk hS)
  case aaload =>
    obtain ⟨i, a, r, rfl, ⟨h0, h1, h2, h3⟩, hx⟩ := ia_ir_e hx
    intro H locs ls hl hn hP hk hS
    exact ia_aald G hP hk hq h0 h1 h2 (of_decide_eq_true hd) (by rw [h3]; exact hx H locs ls hl hn hP hk hS)
  case arraylength =>
    obtain ⟨a, r, rfl, h1, hx⟩ := ia_r1_e hx
    intro H locs ls hl hn hP hk hS
    exact ia_alen G hP hk hS h1 (of_decide_eq_true hd) (hx H locs ls hl hn hP hk hS)
  case iastore =>
    obtain ⟨x, i, a, r, rfl, ⟨h0, h1, h2⟩, hx⟩ := ia_iir_e hx
    intro H locs ls hl hn hP hk hS
    exact ia_iast G hP hk hS h0 h1 h2 (of_decide_eq_true hd) (fun H1 locs1 p1 p3 => hx H1 locs1 ls hl hn p1 (ia_hk_wI hk h0) p3)
  case bastore =>
    obtain ⟨x, i, a, r, rfl, ⟨h0, h1, h2⟩, hx⟩ := ia_iir_e hx
    simp only [Bool.or_eq_true, decide_eq_true_eq] at hq
    intro H locs ls hl hn hP hk hS
    exact ia_bast G hP hk hS hq h0 h1 h2 (of_decide_eq_true hd) (fun H1 locs1 p1 p3 => hx H1 locs1 ls hl hn p1 (ia_hk_wI hk h0) p3)
  case lastore =>
    obtain ⟨x, i, a, r, rfl, ⟨h0, h1, h2⟩, hx⟩ := ia_lir_e hx
    intro H locs ls hl hn hP hk hS
    exact ia_last G hP hk hS h0 h1 h2 (of_decide_eq_true hd) (fun H1 locs1 p1 p3 => hx H1 locs1 ls hl hn p1 (ia_hk_wL hk) p3)
  case aastore =>
    obtain ⟨x, i, a, r, rfl, ⟨h0, h1, h2, h3⟩, hx⟩ := ia_rir_e hx
    rw [Bool.and_eq_true] at hq
    intro H locs ls hl hn hP hk hS
    exact ia_aast G hP hk hS (of_decide_eq_true hq.1) hq.2 h0 h1 h2 h3 (of_decide_eq_true hd) (fun H1 locs1 p1 p3 => hx H1 locs1 ls hl hn p1 (ia_hk_wR hk) p3)
  all_goals exact hx.elim
/-- an instruction that doesn't branch goes on behind itself -/
theorem ia_c1_mono {st : List ia_V} {k k' : ia_V → List ia_V → Prop} (h : ia_c1 st k) (hk : ∀ v r, k v r → k' v r) : ia_c1 st k' := by
  unfold ia_c1 at h ⊢
  split at h
  · exact hk _ _ h
  · exact hk _ _ h
  · exact h.elim
theorem ia_x1_next {ai : ia_I} {K K' : ia_K} (he : ia_end ai.1 = false) (hK : ∀ lv st h, K (pc + ia_len ai.1) lv st h → K' (pc + ia_len ai.1) lv st h) (hx : ia_x1 ai pc lv st h K) : ia_x1 ai pc lv st h K' := by
  obtain ⟨i, x1, x2, x3, x4⟩ := ai
  cases i
  case iconst => exact hK _ _ _ hx
  case bipush => exact hK _ _ _ hx
  case sipush => exact hK _ _ _ hx
  case lconst => exact hK _ _ _ hx
  case iadd =>
    obtain ⟨x, y, r, rfl, hx⟩ := ia_b2_e hx
    exact hK _ _ _ hx
  case isub =>
    obtain ⟨x, y, r, rfl, hx⟩ := ia_b2_e hx
    exact hK _ _ _ hx
  case imul =>
    obtain ⟨x, y, r, rfl, hx⟩ := ia_b2_e hx
    exact hK _ _ _ hx
  case iand =>
    obtain ⟨x, y, r, rfl, hx⟩ := ia_b2_e hx
    exact hK _ _ _ hx
  case ior =>
    obtain ⟨x, y, r, rfl, hx⟩ := ia_b2_e hx
    exact hK _ _ _ hx
  case ixor =>
    obtain ⟨x, y, r, rfl, hx⟩ := ia_b2_e hx
    exact hK _ _ _ hx
  case ishl =>
    obtain ⟨x, y, r, rfl, hx⟩ := ia_b2_e hx
    exact hK _ _ _ hx
  case ishr =>
    obtain ⟨x, y, r, rfl, hx⟩ := ia_b2_e hx
    exact hK _ _ _ hx
  case iushr =>
    obtain ⟨x, y, r, rfl, hx⟩ := ia_b2_e hx
    exact hK _ _ _ hx
  case ineg =>
    obtain ⟨x, r, rfl, hx⟩ := ia_u1_e hx
    exact hK _ _ _ hx
  case i2l =>
    obtain ⟨x, r, rfl, hx⟩ := ia_u1_e hx
    exact hK _ _ _ hx
  case i2b =>
    obtain ⟨x, r, rfl, hx⟩ := ia_u1_e hx
    exact hK _ _ _ hx
  case istore =>
    obtain ⟨x, r, rfl, hx⟩ := ia_u1_e hx
    exact hK _ _ _ hx
  case istore_n =>
    obtain ⟨x, r, rfl, hx⟩ := ia_u1_e hx
    exact hK _ _ _ hx
  case l2i =>
    obtain ⟨x, r, rfl, hx⟩ := ia_l1_e hx
    exact hK _ _ _ hx
  case lstore =>
    obtain ⟨x, r, rfl, hx⟩ := ia_l1_e hx
    exact hK _ _ _ hx
  case lstore_n =>
    obtain ⟨x, r, rfl, hx⟩ := ia_l1_e hx
    exact hK _ _ _ hx
  case ladd =>
    obtain ⟨x, y, r, rfl, hx⟩ := ia_l2_e hx
    exact hK _ _ _ hx
  case lsub =>
    obtain ⟨x, y, r, rfl, hx⟩ := ia_l2_e hx
    exact hK _ _ _ hx
  case lmul =>
    obtain ⟨x, y, r, rfl, hx⟩ := ia_l2_e hx
    exact hK _ _ _ hx
  case land =>
    obtain ⟨x, y, r, rfl, hx⟩ := ia_l2_e hx
    exact hK _ _ _ hx
  case lor =>
    obtain ⟨x, y, r, rfl, hx⟩ := ia_l2_e hx
    exact hK _ _ _ hx
  case lxor =>
    obtain ⟨x, y, r, rfl, hx⟩ := ia_l2_e hx
    exact hK _ _ _ hx
  case lcmp =>
    obtain ⟨x, y, r, rfl, hx⟩ := ia_l2_e hx
    exact hK _ _ _ hx
  case lshl =>
    obtain ⟨x, y, r, rfl, hx⟩ := ia_ls_e hx
    exact hK _ _ _ hx
  case lshr =>
    obtain ⟨x, y, r, rfl, hx⟩ := ia_ls_e hx
    exact hK _ _ _ hx
  case lushr =>
    obtain ⟨x, y, r, rfl, hx⟩ := ia_ls_e hx
    exact hK _ _ _ hx
  case astore =>
    obtain ⟨x, r, rfl, hx⟩ := ia_r1_e hx
    exact hK _ _ _ hx
  case astore_n =>
    obtain ⟨x, r, rfl, hx⟩ := ia_r1_e hx
    exact hK _ _ _ hx
  case idiv =>
    obtain ⟨x, y, r, rfl, h1, hx⟩ := ia_b2_e hx
    exact ⟨h1, hK _ _ _ hx⟩
  case irem =>
    obtain ⟨x, y, r, rfl, h1, hx⟩ := ia_b2_e hx
    exact ⟨h1, hK _ _ _ hx⟩
  case iload =>
    obtain ⟨x, h1, hx⟩ := ia_gi_e hx
    show ia_gi _ _ _
    unfold ia_gi
    rw [h1]
    exact hK _ _ _ hx
  case iload_n =>
    obtain ⟨x, h1, hx⟩ := ia_gi_e hx
    show ia_gi _ _ _
    unfold ia_gi
    rw [h1]
    exact hK _ _ _ hx
  case lload =>
    obtain ⟨x, h1, hx⟩ := ia_gl_e hx
    show ia_gl _ _ _
    unfold ia_gl
    rw [h1]
    exact hK _ _ _ hx
  case lload_n =>
    obtain ⟨x, h1, hx⟩ := ia_gl_e hx
    show ia_gl _ _ _
    unfold ia_gl
    rw [h1]
    exact hK _ _ _ hx
  case aload =>
    obtain ⟨x, h1, hx⟩ := ia_gr_e hx
    show ia_gr _ _ _
    unfold ia_gr
    rw [h1]
    exact hK _ _ _ hx
  case aload_n =>
    obtain ⟨x, h1, hx⟩ := ia_gr_e hx
    show ia_gr _ _ _
    unfold ia_gr
    rw [h1]
    exact hK _ _ _ hx
  case iinc =>
    obtain ⟨x, h1, hx⟩ := ia_gi_e hx
    show ia_gi _ _ _
    unfold ia_gi
    rw [h1]
    exact hK _ _ _ hx
  case pop =>
    replace hx : ia_c1 st fun v1 r1 => K (pc + 1) lv (r1) h := hx
    exact ia_c1_mono hx (fun v r q => hK _ _ _ q)
  case dup =>
    replace hx : ia_c1 st fun v1 r1 => K (pc + 1) lv (v1 :: v1 :: r1) h := hx
    exact ia_c1_mono hx (fun v r q => hK _ _ _ q)
  case dup_x1 =>
    replace hx : ia_c1 st fun v1 r1 => ia_c1 r1 fun v2 r2 => K (pc + 1) lv (v1 :: v2 :: v1 :: r2) h := hx
    exact ia_c1_mono hx (fun v r q => ia_c1_mono q (fun v r q => hK _ _ _ q))
  case dup_x2 =>
    replace hx : ia_c1 st fun v1 r1 => ia_c1 r1 fun v2 r2 => ia_c1 r2 fun v3 r3 => K (pc + 1) lv (v1 :: v2 :: v3 :: v1 :: r3) h := hx
    exact ia_c1_mono hx (fun v r q => ia_c1_mono q (fun v r q => ia_c1_mono q (fun v r q => hK _ _ _ q)))
  case dup2 =>
    replace hx : ia_c1 st fun v1 r1 => ia_c1 r1 fun v2 r2 => K (pc + 1) lv (v1 :: v2 :: v1 :: v2 :: r2) h := hx
    exact ia_c1_mono hx (fun v r q => ia_c1_mono q (fun v r q => hK _ _ _ q))
  case getfield idx =>
    obtain ⟨a, r, rfl, h1, hx⟩ := ia_r1_e hx
    refine ⟨h1, ?_⟩
    match x3, hx with
    | 0, hx => exact hK _ _ _ hx
    | 1, hx => exact hK _ _ _ hx
    | 2, hx => exact hK _ _ _ hx
    | 3, hx => exact ⟨hx.1, hK _ _ _ hx.2⟩
    | x3 + 4, hx => exact ⟨hx.1, hK _ _ _ hx.2⟩
  case putfield idx =>
    match x3, hx with
    | 0, hx =>
      obtain ⟨x, a, r, rfl, h1, hx⟩ := ia_ir_e hx
      exact ⟨h1, hK _ _ _ hx⟩
    | 1, hx =>
      obtain ⟨x, a, r, rfl, h1, hx⟩ := ia_lr_e hx
      exact ⟨h1, hK _ _ _ hx⟩
    | 2, hx =>
      obtain ⟨x, a, r, rfl, h1, hx⟩ := ia_rr_e hx
      exact ⟨h1, hK _ _ _ hx⟩
    | x3 + 3, hx =>
      obtain ⟨x, a, r, rfl, h1, h2, hx⟩ := ia_ir_e hx
      exact ⟨h1, h2, hK _ _ _ hx⟩
  case arraylength =>
    obtain ⟨a, r, rfl, h1, hx⟩ := ia_r1_e hx
    exact ⟨h1, hK _ _ _ hx⟩
  case iaload =>
    obtain ⟨i, a, r, rfl, h1, hx⟩ := ia_ir_e hx
    exact ⟨h1, hK _ _ _ hx⟩
  case baload =>
    obtain ⟨i, a, r, rfl, h1, hx⟩ := ia_ir_e hx
    exact ⟨h1, hK _ _ _ hx⟩
  case laload =>
    obtain ⟨i, a, r, rfl, h1, hx⟩ := ia_ir_e hx
    exact ⟨h1, hK _ _ _ hx⟩
  case aaload =>
    obtain ⟨i, a, r, rfl, h1, hx⟩ := ia_ir_e hx
    exact ⟨h1, hK _ _ _ hx⟩
  case iastore =>
    obtain ⟨x, i, a, r, rfl, h1, hx⟩ := ia_iir_e hx
    exact ⟨h1, hK _ _ _ hx⟩
  case bastore =>
    obtain ⟨x, i, a, r, rfl, h1, hx⟩ := ia_iir_e hx
    exact ⟨h1, hK _ _ _ hx⟩
  case lastore =>
    obtain ⟨x, i, a, r, rfl, h1, hx⟩ := ia_lir_e hx
    exact ⟨h1, hK _ _ _ hx⟩
  case aastore =>
    obtain ⟨x, i, a, r, rfl, h1, hx⟩ := ia_rir_e hx
    exact ⟨h1, hK _ _ _ hx⟩
  all_goals first | exact hx.elim | cases he
/-- a row of instructions -/
theorem ia_rows (G : ia_Gd c nL ini cc p s m args meth co g n0) : ∀ (is : List ia_I) (pc : Nat) (lv : ia_L) (st : List ia_V) (h : ia_H), ia_cks c nL ini cc pc is = true → ia_xs is pc lv st h (ia_Wp p l e R s m args below meth co g n0 w0 Q nL) → ia_Wp p l e R s m args below meth co g n0 w0 Q nL pc lv st h
  | [], pc, lv, st, h, _, hx => hx
  | [i], pc, lv, st, h, hck, hx => ia_sound G hck hx
  | i :: j :: is, pc, lv, st, h, hck, hx => by
    unfold ia_cks at hck
    rw [Bool.and_eq_true, Bool.and_eq_true] at hck
    obtain ⟨h1, h2, h3⟩ := hck
    exact ia_sound G h1 (ia_x1_next (by simpa using h2) (fun lv st h q => ia_rows G (j :: is) _ lv st h h3 q) hx)
end Id
