/-! making: objects and arrays -/
def ia_nw (h : ia_H) (k len w : Nat) : ia_H :=
  ((fun b j => if b = 64 + ia_n h then 0 else ia_i h b j), (fun b j => if b = 64 + ia_n h then 0 else ia_l h b j), (fun b j => if b = 64 + ia_n h then 0 else ia_r h b j), (fun b => if b = 64 + ia_n h then (k, len) else ia_k h b), ia_n h + 1, ia_m h + w)
theorem ia_nw_i {h : ia_H} {k len w b : Nat} (hb : b ≠ 64 + ia_n h) : ia_i (ia_nw h k len w) b = ia_i h b := by
  funext j
  simp only [ia_nw, ia_i, if_neg hb]
theorem ia_nw_l {h : ia_H} {k len w b : Nat} (hb : b ≠ 64 + ia_n h) : ia_l (ia_nw h k len w) b = ia_l h b := by
  funext j
  simp only [ia_nw, ia_l, if_neg hb]
theorem ia_nw_r {h : ia_H} {k len w b : Nat} (hb : b ≠ 64 + ia_n h) : ia_r (ia_nw h k len w) b = ia_r h b := by
  funext j
  simp only [ia_nw, ia_r, if_neg hb]
theorem ia_nw_k {h : ia_H} {k len w b : Nat} (hb : b ≠ 64 + ia_n h) : ia_k (ia_nw h k len w) b = ia_k h b := by
  simp only [ia_nw, ia_k, if_neg hb]
theorem ia_nw_i0 {h : ia_H} {k len w j : Nat} : ia_i (ia_nw h k len w) (64 + ia_n h) j = 0 := by simp only [ia_nw, ia_i, if_true]
theorem ia_nw_l0 {h : ia_H} {k len w j : Nat} : ia_l (ia_nw h k len w) (64 + ia_n h) j = 0 := by simp only [ia_nw, ia_l, if_true]
theorem ia_nw_r0 {h : ia_H} {k len w j : Nat} : ia_r (ia_nw h k len w) (64 + ia_n h) j = 0 := by simp only [ia_nw, ia_r, if_true]
theorem ia_nw_k0 {h : ia_H} {k len w : Nat} : ia_k (ia_nw h k len w) (64 + ia_n h) = (k, len) := by simp only [ia_nw, ia_k, if_true]
theorem ia_nw_en {g : ia_G} {h : ia_H} {k len w b : Nat} (hb : b ≠ 64 + ia_n h) : ia_en g (ia_nw h k len w) b = ia_en g h b := by
  have ef : ∀ ci, ia_fv g (ia_nw h k len w) b ci = ia_fv g h b ci := by
    intro ci
    funext j
    unfold ia_fv
    rw [ia_nw_i hb, ia_nw_l hb, ia_nw_r hb]
  unfold ia_en
  rw [ef, ia_nw_i hb, ia_nw_l hb, ia_nw_r hb, ia_nw_k hb]
theorem ia_nw_w {g : ia_G} {h : ia_H} {k len w : Nat} : ia_w g (ia_nw h k len w) = ia_w g h ++ [(ia_z g + ia_n h, ia_en g (ia_nw h k len w) (64 + ia_n h))] := by
  unfold ia_w
  rw [show ia_n (ia_nw h k len w) = ia_n h + 1 from rfl, List.range_succ, List.map_append]
  congr 1
  apply List.map_congr_left
  intro i hi
  have := List.mem_range.mp hi
  rw [ia_nw_en (by omega)]
theorem ia_nw_hk {g : ia_G} {h : ia_H} {k len w : Nat} (hk : ia_hk g h) : ia_hk g (ia_nw h k len w) := by
  refine ⟨fun a ha => ?_, fun a ha => ?_⟩
  · rw [ia_nw_k (by omega), ia_nw_i (by omega)]
    exact hk.1 a ha
  · have h1 : 64 + (ia_n h + 1) ≤ a := ha
    rw [ia_nw_k (by omega)]
    exact hk.2 a (by omega)
section If
variable {p : Program} {l : Launch} {e : Env} {R : Room} {s : State} {m : MethodId} {args : Array Value} {below : List Frame} {meth : Method} {co : Code} {g : ia_G} {n0 : Nat} {Q : State → Prop} {c nL : Nat} {ini : Bool} {cc : ByteArray} {h : ia_H} {H1 : Heap} {locs : List Loc} {k len w q : Nat} {en : va_E}
/-- the new cell is the next one -/
theorem ia_nw_at (G : ia_Gd c nL ini cc p s m args meth co g n0) (hn : n0 ≤ ia_n h) (p1 : va_P (ia_D g) ia_cl (ia_w g h ++ [(q, en)]) H1) (p2 : va_D (ia_A g) (ia_w g h ++ [(q, en)])) (hle : H1.size ≤ s.heap.size + (ia_n h - n0 + 1)) : q = ia_z g + ia_n h := by
  have hlen : (ia_w g h).length = ia_n h := by simp [ia_w]
  have hat : (ia_w g h ++ [(q, en)])[ia_n h]? = some (q, en) := by
    rw [List.getElem?_append_right (by omega), hlen, Nat.sub_self]
    rfl
  have h1 := (p1 _ _ hat).lt
  have h2 := p2.2 _ _ hat
  have h3 : ia_z g ≤ q := h2
  have h4 := G.2.2.2.2.2.2.2.2.2
  simp only at h1
  rcases Nat.lt_or_ge q (ia_z g + ia_n h) with hlt | hge
  · exfalso
    have hw := ia_w_at (g := g) (h := h) (a := 64 + (q - ia_z g)) (by omega) (by omega)
    have hi : (ia_w g h ++ [(q, en)])[64 + (q - ia_z g) - 64]? = some (ia_z g + (64 + (q - ia_z g) - 64), ia_en g h (64 + (q - ia_z g))) := by
      rw [List.getElem?_append_left (by omega)]
      exact hw
    have := p2.1 _ _ _ _ hi hat (by simp only; omega)
    omega
  · omega
end If
theorem ia_nof : ((List.range 13).all fun ci => (List.range (ia_N ci)).all fun k => match ia_ty ci k with
  | .float => false
  | .double => false
  | _ => true) = true := by decide +kernel
theorem ia_nw_fv {g : ia_G} {h : ia_H} {k len w ci j : Nat} (hc : ci < 13) (hj : j < ia_N ci) : ia_fv g (ia_nw h k len w) (64 + ia_n h) ci j = defaultValue (ia_ty ci j) := by
  have h1 := List.all_eq_true.mp (List.all_eq_true.mp ia_nof ci (List.mem_range.mpr hc)) j (List.mem_range.mpr hj)
  unfold ia_fv ia_ft
  rw [ia_nw_i0, ia_nw_l0, ia_nw_r0]
  cases hty : ia_ty ci j <;> rw [hty] at h1 <;> first | rfl | cases h1
theorem ia_new {d : Nat} {M : ia_M} {N1 W1 : Nat} {K : ia_K} {pc idx ci : Nat} {lv : ia_L} {st : List ia_V} {h : ia_H} (hK : ia_isK d M N1 W1 K) (hci : ci < 13) (hl : Cond.classLink (ia_O M.2.2.2.2.1) idx (ia_R ci) ∈ ia_tb) (hi : Cond.instantiable (ia_R ci) (ia_N ci) ∈ ia_tb) (hin : Cond.initialized (ia_R ci) ∈ ia_tb) (hd : decode M.2.1 pc = .ok (.new idx, 3)) (hcap : ia_n h + 1 ≤ N1 ∧ ia_m h + ia_N ci ≤ W1) (kk : K (pc + 3) lv (.inr (.inr (64 + ia_n h)) :: st) (ia_nw h ci 0 (ia_N ci))) : K pc lv st h := by
  obtain ⟨p, l, e, R, s, m, args, below, meth, co, g, n0, w0, Q, rfl, G, hX, hR1, hR2, hR3, hR4⟩ := hK
  intro H locs ls hl' hn hP hk hS
  have hz := G.2.2.2.2.2.2.2.2.2
  refine va_new (ci := ci) (C := ia_R ci) (T := ia_T ci) (N := ia_N ci) (fs := (List.range (ia_N ci)).map (ia_fv g (ia_nw h ci 0 (ia_N ci)) (64 + ia_n h) ci)) G.1 G.2.1 G.2.2.2.2.1 (ia_in_tb hci) (ia_ty ci) (ia_ty_ok hci) G.2.2.2.1 (G.2.2.2.2.1 _ hl) (G.2.2.2.2.1 _ hi) (G.2.2.2.2.1 _ hin) G.2.2.2.2.2.2.1 hP (ia_w_D g h) hS (fun q hq => by show ia_z g ≤ q; omega) (ia_cl_at hci) (fun j hj => ?_) (by omega) (by omega) hd (fun q H1 p1 p2 p3 => ?_)
  · rw [← ia_nw_fv (g := g) (h := h) (k := ci) (len := 0) (w := ia_N ci) hci hj]
    simp [vp_V, hj]
  · refine ia_W_sz fun hle => ?_
    have hq := ia_nw_at G hn.2.1 p1 p2 hle
    subst hq
    have e1 : ia_en g (ia_nw h ci 0 (ia_N ci)) (64 + ia_n h) = .inr (ci, (List.range (ia_N ci)).map (ia_fv g (ia_nw h ci 0 (ia_N ci)) (64 + ia_n h) ci)) := ia_en_ob (by rw [ia_nw_k0]) hci
    rw [← e1, ← ia_nw_w] at p1
    have h1 := kk H1 locs ls hl' ⟨hn.1, by show n0 ≤ ia_n h + 1; omega, by show w0 ≤ ia_m h + ia_N ci; omega, by show ia_n h + 1 - n0 ≤ R.cells; omega, by show ia_m h + ia_N ci - w0 ≤ R.slots; omega⟩ p1 (ia_nw_hk hk) p3
    rw [List.map_cons, ia_rv_new (by omega), show 64 + ia_n h - 64 = ia_n h by omega] at h1
    rw [show ia_n h - n0 + 1 = ia_n (ia_nw h ci 0 (ia_N ci)) - n0 from (by show ia_n h - n0 + 1 = ia_n h + 1 - n0; omega), show ia_m h - w0 + ia_N ci = ia_m (ia_nw h ci 0 (ia_N ci)) - w0 from (by show ia_m h - w0 + ia_N ci = ia_m h + ia_N ci - w0; omega)]
    exact h1
/-- an array of a plain type -/
theorem ia_newa {d : Nat} {M : ia_M} {N1 W1 : Nat} {K : ia_K} {pc k : Nat} {at_ : ArrayType} {ty : FieldType} {lv : ia_L} {st : List ia_V} {h : ia_H} {n : Int32} {t0 : Nat} (hK : ia_isK d M N1 W1 K) (hty : newarray.typeOf at_ = ty) (hw : Cond.arrayClass (newarray.typeOf at_) ∈ ia_tb) (hd : decode M.2.1 pc = .ok (.newarray at_, 2)) (hk4 : (k = 100 ∧ ty = .int) ∨ (k = 101 ∧ ty = .boolean) ∨ (k = 102 ∧ ty = .byte) ∨ (k = 103 ∧ ty = .long)) (hn0 : ¬ n < 0) (hb : n.toNatClampNeg ≤ 60000) (hcap : ia_n h + 1 ≤ N1 ∧ ia_m h + n.toNatClampNeg ≤ W1) (kk : K (pc + 2) lv (.inr (.inr (64 + ia_n h)) :: st) (ia_nw h k n.toNatClampNeg n.toNatClampNeg)) : K pc lv (.inl n :: st) h := by
  obtain ⟨p, l, e, R, s, m, args, below, meth, co, g, n0, w0, Q, rfl, G, hX, hR1, hR2, hR3, hR4⟩ := hK
  intro H locs ls hl' hn hP hk hS
  have hz := G.2.2.2.2.2.2.2.2.2
  have ha : ∃ (a0 : vp_A) (t0 : Nat), (∀ cA : ClassId, vp_cell cA a0 = arrV cA n.toNatClampNeg (fun _ => defaultValue ty)) ∧ componentBytes ty ≤ 8 ∧ (ia_tyl g)[t0]? = some (ia_cA g k, ty) ∧ ia_en g (ia_nw h k n.toNatClampNeg n.toNatClampNeg) (64 + ia_n h) = .inl (ia_cA g k, a0) := by
    have ei : (ia_i (ia_nw h k n.toNatClampNeg n.toNatClampNeg) (64 + ia_n h)) = fun _ => 0 := by funext j; exact ia_nw_i0
    have el : (ia_l (ia_nw h k n.toNatClampNeg n.toNatClampNeg) (64 + ia_n h)) = fun _ => 0 := by funext j; exact ia_nw_l0
    rcases hk4 with ⟨rfl, rfl⟩ | ⟨rfl, rfl⟩ | ⟨rfl, rfl⟩ | ⟨rfl, rfl⟩
    · exact ⟨(n.toNatClampNeg, .inl fun _ => 0), 0, fun _ => rfl, by decide, rfl, by rw [ia_en_i (k := 100) (by rw [ia_nw_k0]) (by omega) (by omega), ei, ia_nw_k0]⟩
    · exact ⟨(n.toNatClampNeg, .inl fun _ => 0), 1, fun _ => rfl, by decide, rfl, by rw [ia_en_i (k := 101) (by rw [ia_nw_k0]) (by omega) (by omega), ei, ia_nw_k0]⟩
    · exact ⟨(n.toNatClampNeg, .inl fun _ => 0), 2, fun _ => rfl, by decide, rfl, by rw [ia_en_i (k := 102) (by rw [ia_nw_k0]) (by omega) (by omega), ei, ia_nw_k0]⟩
    · exact ⟨(n.toNatClampNeg, .inr (.inl fun _ => 0)), 3, fun _ => rfl, by decide, rfl, by rw [ia_en_l (by rw [ia_nw_k0]), el, ia_nw_k0]⟩
  obtain ⟨a0, t0, ha, hcb, ht, he⟩ := ha
  refine va_newa G.1 G.2.1 (G.2.2.2.2.1 _ hw) hty G.2.2.2.2.2.2.1 hP (ia_w_D g h) hS (fun q hq => by show ia_z g ≤ q; omega) ha hn0 rfl (Nat.le_trans (Nat.mul_le_mul hb hcb) (by decide)) (by omega) (by omega) hd (fun q cA H1 pK p1 p2 p3 => ?_)
  have hcA : cA = ia_cA g k := by
    have h1 := (pK.2 _ _ (show (ia_tyl g ++ [(cA, ty)])[(ia_tyl g).length]? = some (cA, ty) by rw [List.getElem?_append_right (Nat.le_refl _), Nat.sub_self]; rfl)).2
    have h2 := (G.2.2.2.2.2.2.1.2 _ _ ht).2
    rcases hk4 with ⟨rfl, rfl⟩ | ⟨rfl, rfl⟩ | ⟨rfl, rfl⟩ | ⟨rfl, rfl⟩ <;> exact Option.some.inj (Eq.trans (Eq.symm h1) h2)
  subst hcA
  refine ia_W_sz fun hle => ?_
  have hq := ia_nw_at G hn.2.1 p1 p2 hle
  subst hq
  rw [← he, ← ia_nw_w] at p1
  have h1 := kk H1 locs ls hl' ⟨hn.1, by show n0 ≤ ia_n h + 1; omega, by show w0 ≤ ia_m h + n.toNatClampNeg; omega, by show ia_n h + 1 - n0 ≤ R.cells; omega, by show ia_m h + n.toNatClampNeg - w0 ≤ R.slots; omega⟩ p1 (ia_nw_hk hk) p3
  rw [List.map_cons, ia_rv_new (by omega), show 64 + ia_n h - 64 = ia_n h by omega] at h1
  rw [show ia_n h - n0 + 1 = ia_n (ia_nw h k n.toNatClampNeg n.toNatClampNeg) - n0 from (by show ia_n h - n0 + 1 = ia_n h + 1 - n0; omega), show ia_m h - w0 + n.toNatClampNeg = ia_m (ia_nw h k n.toNatClampNeg n.toNatClampNeg) - w0 from (by show ia_m h - w0 + n.toNatClampNeg = ia_m h + n.toNatClampNeg - w0; omega)]
  exact h1
/-- an array of objects -/
theorem ia_newq {d : Nat} {M : ia_M} {N1 W1 : Nat} {K : ia_K} {pc idx ci : Nat} {lv : ia_L} {st : List ia_V} {h : ia_H} {n : Int32} (hK : ia_isK d M N1 W1 K) (hra : ia_ra ci = true) (hl : Cond.classLink (ia_O M.2.2.2.2.1) idx (ia_R ci) ∈ ia_tb) (hd : decode M.2.1 pc = .ok (.anewarray idx, 3)) (hn0 : ¬ n < 0) (hb : n.toNatClampNeg ≤ 60000) (hcap : ia_n h + 1 ≤ N1 ∧ ia_m h + n.toNatClampNeg ≤ W1) (kk : K (pc + 3) lv (.inr (.inr (64 + ia_n h)) :: st) (ia_nw h (104 + ci) n.toNatClampNeg n.toNatClampNeg)) : K pc lv (.inl n :: st) h := by
  obtain ⟨p, l, e, R, s, m, args, below, meth, co, g, n0, w0, Q, rfl, G, hX, hR1, hR2, hR3, hR4⟩ := hK
  intro H locs ls hl' hn hP hk hS
  have hz := G.2.2.2.2.2.2.2.2.2
  have hm : ci ∈ [3, 4, 6, 9, 10] ∧ ∃ t0 : Nat, (ia_tyl g)[t0]? = some (ia_cA g (104 + ci), FieldType.object (ia_R ci)) := by
    simp only [ia_ra, Bool.or_eq_true, beq_iff_eq] at hra
    rcases hra with rfl | rfl | rfl | rfl | rfl
    · exact ⟨by decide, 4, rfl⟩
    · exact ⟨by decide, 5, rfl⟩
    · exact ⟨by decide, 6, rfl⟩
    · exact ⟨by decide, 7, rfl⟩
    · exact ⟨by decide, 8, rfl⟩
  obtain ⟨hm, t0, ht⟩ := hm
  have he : ia_en g (ia_nw h (104 + ci) n.toNatClampNeg n.toNatClampNeg) (64 + ia_n h) = .inl (ia_cA g (104 + ci), n.toNatClampNeg, .inr (.inr (.inr (.inr fun _ => none)))) := by
    rw [ia_en_r (k := 104 + ci) (by rw [ia_nw_k0]) (by omega), ia_nw_k0]
    have : (fun j => ia_ro g (ia_r (ia_nw h (104 + ci) n.toNatClampNeg n.toNatClampNeg) (64 + ia_n h) j)) = fun _ => none := by
      funext j
      rw [ia_nw_r0]
      rfl
    rw [this]
  refine va_newq G.1 G.2.1 G.2.2.2.1 (G.2.2.2.2.1 _ hl) (hX.2.1 ci hm) G.2.2.2.2.2.2.1 hP (ia_w_D g h) hS (fun q hq => by show ia_z g ≤ q; omega) hn0 rfl (by omega) (by omega) (by omega) hd (fun q cA H1 pK p1 p2 p3 => ?_)
  have hcA : cA = ia_cA g (104 + ci) := by
    obtain ⟨kA, comp, -, -, -, h1⟩ := (pK.2 _ _ (show (ia_tyl g ++ [(cA, FieldType.object (ia_R ci))])[(ia_tyl g).length]? = some (cA, FieldType.object (ia_R ci)) by rw [List.getElem?_append_right (Nat.le_refl _), Nat.sub_self]; rfl)).2
    obtain ⟨kB, comp2, -, -, -, h2⟩ := (G.2.2.2.2.2.2.1.2 _ _ ht).2
    exact Option.some.inj (Eq.trans (Eq.symm h1) h2)
  subst hcA
  refine ia_W_sz fun hle => ?_
  have hq := ia_nw_at G hn.2.1 p1 p2 hle
  subst hq
  rw [← he, ← ia_nw_w] at p1
  have h1 := kk H1 locs ls hl' ⟨hn.1, by show n0 ≤ ia_n h + 1; omega, by show w0 ≤ ia_m h + n.toNatClampNeg; omega, by show ia_n h + 1 - n0 ≤ R.cells; omega, by show ia_m h + n.toNatClampNeg - w0 ≤ R.slots; omega⟩ p1 (ia_nw_hk hk) p3
  rw [List.map_cons, ia_rv_new (by omega), show 64 + ia_n h - 64 = ia_n h by omega] at h1
  rw [show ia_n h - n0 + 1 = ia_n (ia_nw h (104 + ci) n.toNatClampNeg n.toNatClampNeg) - n0 from (by show ia_n h - n0 + 1 = ia_n h + 1 - n0; omega), show ia_m h - w0 + n.toNatClampNeg = ia_m (ia_nw h (104 + ci) n.toNatClampNeg n.toNatClampNeg) - w0 from (by show ia_m h - w0 + n.toNatClampNeg = ia_m h + n.toNatClampNeg - w0; omega)]
  exact h1
theorem ia_wobj : Cond.instanceMethod Lib.objectInit ∈ ia_tb ∧ Cond.code Lib.objectInit ⟨#[0xb1]⟩ 1 none ∈ ia_tb := ⟨ia_tb_in (by decide +kernel) rfl, ia_tb_in (by decide +kernel) rfl⟩
theorem ia_obj {d : Nat} {M : ia_M} {N1 W1 : Nat} {K : ia_K} {pc idx a : Nat} {lv : ia_L} {st : List ia_V} {h : ia_H} (hK : ia_isK d M N1 W1 K) (hl : Cond.methodLink (ia_O M.2.2.2.2.1) idx Lib.objectInit ∈ ia_tb) (hd : decode M.2.1 pc = .ok (.invokespecial idx, 3)) (ha : 64 ≤ a) (hw : ia_wd st ≤ 8) (kk : K (pc + 3) lv st h) : K pc lv (.inr (.inr a) :: st) h := by
  obtain ⟨p, l, e, R, s, m, args, below, meth, co, g, n0, w0, Q, rfl, G, hX, hR1, hR2, hR3, hR4⟩ := hK
  intro H locs ls hl' hn hP hk hS
  rw [List.map_cons, ia_rv_new ha]
  exact W.objInit G.1 G.2.1 G.2.2.2.1 (G.2.2.2.2.1 _ hl) (G.2.2.2.2.1 _ ia_wobj.1) (G.2.2.2.2.1 _ ia_wobj.2) rfl (hl'.1.trans G.2.2.1.symm) rfl hd (by omega) (by show 2 * 0 + _ + 12 ≤ _; rw [ia_wd_eq]; omega) (kk H locs ls hl' hn hP hk hS)
theorem ia_callI {d : Nat} {M M' : ia_M} {N1 W1 : Nat} {K : ia_K} {pc idx n b : Nat} {nest : Bool} {lv : ia_L} {st0 : List ia_V} {h h1 : ia_H} (hK : ia_isK (d + 1) M N1 W1 K) (hm : ia_mkn M' 2 n) (hl : ia_lnk M.2.2.2.2.1 idx M'.1 nest) (hd : decode M.2.1 pc = .ok (.invokespecial idx, 3)) (hb : 64 ≤ b) (as st : List ia_V) (hst : st0 = as.reverse ++ .inr (.inr b) :: st) (hn : as.length = n) (hw : ia_wd st ≤ 8) (hev : ia_Ev d M' (.inr (.inr b) :: as) h none h1) (hcap : ia_n h1 ≤ N1 ∧ ia_m h1 ≤ W1)
    (kk : K (pc + 3) lv st h1) : K pc lv st0 h := by
  subst hst
  obtain ⟨p, l, e, R, s, m, args, below, meth, co, g, n0, w0, Q, rfl, G, hX, hR1, hR2, hR3, hR4⟩ := hK
  obtain ⟨y', cc', nL', ret', c', ini'⟩ := M'
  intro H locs ls hl' hnn hP hk hS
  obtain ⟨hln, hn0, hw0, hc1, hc2⟩ := hnn
  obtain ⟨m1, m2, m3, m4, m5, m6, m7⟩ := hm
  simp only at m7
  subst m7
  refine ia_W_sz fun hle => ?_
  have hsz := ia_hsz G hP hS hn0 hle
  have hmet := hev.2.2 l g
  have hb1 := hev.1
  have hb2 := hev.2.1
  have hroom : (ia_rm d (ia_n h1 - ia_n h) (ia_m h1 - ia_m h)).frames + 1 ≤ R.frames ∧ 8 + (nL' + 11) + (ia_rm d (ia_n h1 - ia_n h) (ia_m h1 - ia_m h)).locals ≤ R.locals := by
    simp only [ia_rm]
    simp only at m4
    omega
  have hrb := ia_rv_new (g := g) hb
  have hpre : PreS s H (va_Pc ((.inr (.inr b) :: as).map (ia_rv g)) (ia_Rep g h)) (.ref (ia_z g + (b - 64)) :: as.map (ia_rv g)) := ⟨ia_blind, fun U hU hW => ⟨by rw [List.map_cons, hrb], ia_Rep_of G hX hP hk hS hsz hU hW⟩⟩
  have hstk : (F0 m pc ls ((as.reverse ++ .inr (.inr b) :: st).map (ia_rv g))).stack = (as.map (ia_rv g)).reverse ++ .ref (ia_z g + (b - 64)) :: st.map (ia_rv g) := by
    rw [← hrb]
    exact ia_st_map g as (.inr (.inr b) :: st)
  have hrun : va_Run p l e R s m args below meth co H locs (ia_n h - n0) (ia_m h - w0) (ia_n h1 - ia_n h) (ia_m h1 - ia_m h) (F0 m pc ls ((as.reverse ++ .inr (.inr b) :: st).map (ia_rv g))) (st.map (ia_rv g)) (ia_Q g none h1 (Value.ref (ia_z g + (b - 64)) :: as.map (ia_rv g)).toArray) (ia_A g) := by
    cases nest with
    | false => exact va_runI ⟨G.1, G.2.1, G.2.2.1, G.2.2.2.1, G.2.2.2.2.1⟩ hmet (cwI n G.2.2.2.2.1 (ia_goodW (M := (y', cc', nL', none, c', ini')) m1) rfl rfl rfl (G.2.2.2.2.1 _ m2) (G.2.2.2.2.1 _ hl) (G.2.2.2.2.1 _ m5) m6 m3 hroom) hpre rfl (by simpa using hn) hl'.1 hstk (lv_room (by rw [ia_wd_eq]; exact hw)) hd ⟨by omega, by omega⟩
    | true =>
      obtain ⟨host, hh⟩ := hl
      exact va_runIN ⟨G.1, G.2.1, G.2.2.1, G.2.2.2.1, G.2.2.2.2.1⟩ hmet ⟨va_cnB n G.2.2.2.2.1 (ia_goodW (M := (y', cc', nL', none, c', ini')) m1) rfl rfl rfl (hX.1 _ hh) (G.2.2.2.2.1 _ m2) m3 hroom, m6, G.2.2.2.2.1 _ m5⟩ hpre rfl (by simpa using hn) hl'.1 hstk (lv_room (by rw [ia_wd_eq]; exact hw)) hd ⟨by omega, by omega⟩
  refine ia_after hrun hS (fun H1 locs1 p1 p2 p3 => ?_)
  have h2 := kk H1 locs1 ls hl' ⟨hln, by omega, by omega, by omega, by omega⟩ p1 p2 p3
  rw [show ia_n h - n0 + (ia_n h1 - ia_n h) = ia_n h1 - n0 by omega, show ia_m h - w0 + (ia_m h1 - ia_m h) = ia_m h1 - w0 by omega]
  exact h2
