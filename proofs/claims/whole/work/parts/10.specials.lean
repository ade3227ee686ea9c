/-! constants, static rows, Math, arraycopy -/
def ia_ib (i : Int32) (n : Nat) : Bool := !(decide (i < 0) || decide (n ≤ i.toNatClampNeg))
theorem ia_ib_in {i : Int32} {n : Nat} (h : ia_ib i n = true) : vp_in i n := by
  intro q
  unfold ia_ib at h
  rw [Bool.not_eq_true', Bool.or_eq_false_iff, decide_eq_false_iff_not, decide_eq_false_iff_not] at h
  rcases q with q | q
  · exact h.1 q
  · exact h.2 q
theorem ia_ldc {d : Nat} {M : ia_M} {N1 W1 : Nat} {K : ia_K} {pc idx : Nat} {lv : ia_L} {st : List ia_V} {h : ia_H} {v : Int32} (hK : ia_isK d M N1 W1 K) (hw : Cond.constant (ia_O M.2.2.2.2.1) idx v ∈ ia_tb) (hd : decode M.2.1 pc = .ok (.ldc idx, 2)) (kk : K (pc + 2) lv (.inl v :: st) h) : K pc lv st h := by
  obtain ⟨p, l, e, R, s, m, args, below, meth, co, g, n0, w0, Q, rfl, G, -⟩ := hK
  intro H locs ls hl hn hP hk hS
  exact lv_ldc G.1 G.2.1 G.2.2.2.1 (G.2.2.2.2.1 _ hw) hd (kk H locs ls hl hn hP hk hS)
theorem ia_ldcw {d : Nat} {M : ia_M} {N1 W1 : Nat} {K : ia_K} {pc idx : Nat} {lv : ia_L} {st : List ia_V} {h : ia_H} {v : Int32} (hK : ia_isK d M N1 W1 K) (hw : Cond.constant (ia_O M.2.2.2.2.1) idx v ∈ ia_tb) (hd : decode M.2.1 pc = .ok (.ldc_w idx, 3)) (kk : K (pc + 3) lv (.inl v :: st) h) : K pc lv st h := by
  obtain ⟨p, l, e, R, s, m, args, below, meth, co, g, n0, w0, Q, rfl, G, -⟩ := hK
  intro H locs ls hl hn hP hk hS
  exact lv_ldcw G.1 G.2.1 G.2.2.2.1 (G.2.2.2.2.1 _ hw) hd (kk H locs ls hl hn hP hk hS)
theorem ia_ldc2 {d : Nat} {M : ia_M} {N1 W1 : Nat} {K : ia_K} {pc idx : Nat} {lv : ia_L} {st : List ia_V} {h : ia_H} {v : Int64} (hK : ia_isK d M N1 W1 K) (hw : Cond.constantLong (ia_O M.2.2.2.2.1) idx v ∈ ia_tb) (hd : decode M.2.1 pc = .ok (.ldc2_w idx, 3)) (kk : K (pc + 3) lv (.inr (.inl v) :: st) h) : K pc lv st h := by
  obtain ⟨p, l, e, R, s, m, args, below, meth, co, g, n0, w0, Q, rfl, G, -⟩ := hK
  intro H locs ls hl hn hP hk hS
  exact lv_ldc2 G.1 G.2.1 G.2.2.2.1 (G.2.2.2.2.1 _ hw) hd (kk H locs ls hl hn hP hk hS)
theorem ia_gets2 {d : Nat} {M : ia_M} {N1 W1 : Nat} {K : ia_K} {pc idx : Nat} {lv : ia_L} {st : List ia_V} {h : ia_H} (hK : ia_isK d M N1 W1 K) (hw : Cond.fieldLink (ia_O M.2.2.2.2.1) idx "IceStreet" "MOST_OF_SORT" "[I" ∈ ia_tb) (hd : decode M.2.1 pc = .ok (.getstatic idx, 3)) (kk : K (pc + 3) lv (.inr (.inr 2) :: st) h) : K pc lv st h := by
  obtain ⟨p, l, e, R, s, m, args, below, meth, co, g, n0, w0, Q, rfl, G, hX, -⟩ := hK
  intro H locs ls hl hn hP hk hS
  have h1 := kk H locs ls hl hn hP hk hS
  rw [List.map_cons, ia_rv_old (by decide) (by decide)] at h1
  exact va_gets G.1 G.2.1 hX.2.2.1 hS G.2.2.2.1 (G.2.2.2.2.1 _ hw) (fun _ q => q) hd h1
theorem ia_gets3 {d : Nat} {M : ia_M} {N1 W1 : Nat} {K : ia_K} {pc idx : Nat} {lv : ia_L} {st : List ia_V} {h : ia_H} (hK : ia_isK d M N1 W1 K) (hw : Cond.fieldLink (ia_O M.2.2.2.2.1) idx "IceStreet$Reader" "LINES_OF_SORT" "[I" ∈ ia_tb) (hd : decode M.2.1 pc = .ok (.getstatic idx, 3)) (kk : K (pc + 3) lv (.inr (.inr 3) :: st) h) : K pc lv st h := by
  obtain ⟨p, l, e, R, s, m, args, below, meth, co, g, n0, w0, Q, rfl, G, hX, -⟩ := hK
  intro H locs ls hl hn hP hk hS
  have h1 := kk H locs ls hl hn hP hk hS
  rw [List.map_cons, ia_rv_old (by decide) (by decide)] at h1
  exact va_gets G.1 G.2.1 hX.2.2.2.1 hS G.2.2.2.1 (G.2.2.2.2.1 _ hw) (fun _ q => q) hd h1
theorem ia_wmax : Cond.static Lib.Math.max.name ∈ ia_tb ∧ Cond.initialized "java/lang/Math" ∈ ia_tb ∧ Cond.code Lib.Math.max.name Lib.Math.max.code 2 (some .int) ∈ ia_tb := ⟨ia_tb_in (by decide +kernel) rfl, ia_tb_in (by decide +kernel) rfl, ia_tb_in (by decide +kernel) rfl⟩
theorem ia_wmin : Cond.static Lib.Math.min.name ∈ ia_tb ∧ Cond.code Lib.Math.min.name Lib.Math.min.code 2 (some .int) ∈ ia_tb := ⟨ia_tb_in (by decide +kernel) rfl, ia_tb_in (by decide +kernel) rfl⟩
theorem ia_wabs : Cond.static Lib.Math.abs.name ∈ ia_tb ∧ Cond.code Lib.Math.abs.name Lib.Math.abs.code 1 (some .int) ∈ ia_tb := ⟨ia_tb_in (by decide +kernel) rfl, ia_tb_in (by decide +kernel) rfl⟩
def ia_max (x y : Int32) : Int32 := if x < y then y else x
def ia_min (x y : Int32) : Int32 := if y < x then y else x
def ia_abs (x : Int32) : Int32 := if 0 ≤ x then x else 0 - x
theorem ia_mmax {d : Nat} {M : ia_M} {N1 W1 : Nat} {K : ia_K} {pc idx : Nat} {lv : ia_L} {st : List ia_V} {h : ia_H} {x y : Int32} (hK : ia_isK d M N1 W1 K) (hw : Cond.methodLink (ia_O M.2.2.2.2.1) idx Lib.Math.max.name ∈ ia_tb) (hd : decode M.2.1 pc = .ok (.invokestatic idx, 3)) (hs : ia_wd st ≤ 8) (kk : K (pc + 3) lv (.inl (ia_max x y) :: st) h) : K pc lv (.inl y :: .inl x :: st) h := by
  obtain ⟨p, l, e, R, s, m, args, below, meth, co, g, n0, w0, Q, rfl, G, hX, hR1, hR2, -⟩ := hK
  intro H locs ls hl hn hP hk hS
  exact va_mmax G.1 G.2.1 (G.2.2.1.trans hl.1.symm) G.2.2.2.1 (G.2.2.2.2.1 _ hw) (G.2.2.2.2.1 _ ia_wmax.1) (G.2.2.2.2.1 _ ia_wmax.2.1) (G.2.2.2.2.1 _ ia_wmax.2.2) (by omega) (by rw [ia_wd_eq]; omega) hn.2.2.2.1 hn.2.2.2.2 hd (kk H locs ls hl hn hP hk hS)
theorem ia_mmin {d : Nat} {M : ia_M} {N1 W1 : Nat} {K : ia_K} {pc idx : Nat} {lv : ia_L} {st : List ia_V} {h : ia_H} {x y : Int32} (hK : ia_isK d M N1 W1 K) (hw : Cond.methodLink (ia_O M.2.2.2.2.1) idx Lib.Math.min.name ∈ ia_tb) (hd : decode M.2.1 pc = .ok (.invokestatic idx, 3)) (hs : ia_wd st ≤ 8) (kk : K (pc + 3) lv (.inl (ia_min x y) :: st) h) : K pc lv (.inl y :: .inl x :: st) h := by
  obtain ⟨p, l, e, R, s, m, args, below, meth, co, g, n0, w0, Q, rfl, G, hX, hR1, hR2, -⟩ := hK
  intro H locs ls hl hn hP hk hS
  exact va_mmin G.1 G.2.1 (G.2.2.1.trans hl.1.symm) G.2.2.2.1 (G.2.2.2.2.1 _ hw) (G.2.2.2.2.1 _ ia_wmin.1) (G.2.2.2.2.1 _ ia_wmax.2.1) (G.2.2.2.2.1 _ ia_wmin.2) (by omega) (by rw [ia_wd_eq]; omega) hn.2.2.2.1 hn.2.2.2.2 hd (kk H locs ls hl hn hP hk hS)
theorem ia_mabs {d : Nat} {M : ia_M} {N1 W1 : Nat} {K : ia_K} {pc idx : Nat} {lv : ia_L} {st : List ia_V} {h : ia_H} {x : Int32} (hK : ia_isK d M N1 W1 K) (hw : Cond.methodLink (ia_O M.2.2.2.2.1) idx Lib.Math.abs.name ∈ ia_tb) (hd : decode M.2.1 pc = .ok (.invokestatic idx, 3)) (hs : ia_wd st ≤ 8) (kk : K (pc + 3) lv (.inl (ia_abs x) :: st) h) : K pc lv (.inl x :: st) h := by
  obtain ⟨p, l, e, R, s, m, args, below, meth, co, g, n0, w0, Q, rfl, G, hX, hR1, hR2, -⟩ := hK
  intro H locs ls hl hn hP hk hS
  exact va_mabs G.1 G.2.1 (G.2.2.1.trans hl.1.symm) G.2.2.2.1 (G.2.2.2.2.1 _ hw) (G.2.2.2.2.1 _ ia_wabs.1) (G.2.2.2.2.1 _ ia_wmax.2.1) (G.2.2.2.2.1 _ ia_wabs.2) (by omega) (by rw [ia_wd_eq]; omega) hn.2.2.2.1 hn.2.2.2.2 hd (kk H locs ls hl hn hP hk hS)
def ia_cpI (h : ia_H) (a b sp dp n : Nat) : ia_H := ((fun c j => if c = b then va_cpy (ia_i h a) (ia_i h b) sp dp n j else ia_i h c j), h.2)
def ia_cpL (h : ia_H) (a b sp dp n : Nat) : ia_H := (h.1, (fun c j => if c = b then va_cpy (ia_l h a) (ia_l h b) sp dp n j else ia_l h c j), h.2.2)
theorem ia_en_cpI {g : ia_G} {h : ia_H} {a b sp dp n x : Nat} (hx : x ≠ b) : ia_en g (ia_cpI h a b sp dp n) x = ia_en g h x := by
  have e : ia_i (ia_cpI h a b sp dp n) x = ia_i h x := by
    funext j
    simp only [ia_cpI, ia_i, if_neg hx]
  have ef : ∀ ci, ia_fv g (ia_cpI h a b sp dp n) x ci = ia_fv g h x ci := by
    intro ci
    funext k
    unfold ia_fv
    rw [e]
    rfl
  unfold ia_en
  rw [ef, e]
  rfl
theorem ia_en_cpL {g : ia_G} {h : ia_H} {a b sp dp n x : Nat} (hx : x ≠ b) : ia_en g (ia_cpL h a b sp dp n) x = ia_en g h x := by
  have e : ia_l (ia_cpL h a b sp dp n) x = ia_l h x := by
    funext j
    simp only [ia_cpL, ia_l, if_neg hx]
  have ef : ∀ ci, ia_fv g (ia_cpL h a b sp dp n) x ci = ia_fv g h x ci := by
    intro ci
    funext k
    unfold ia_fv
    rw [e]
    rfl
  unfold ia_en
  rw [ef, e]
  rfl
theorem ia_wcopy : Cond.native arraycopyName ∈ ia_tb ∧ Cond.static arraycopyName ∈ ia_tb ∧ Cond.initialized "java/lang/System" ∈ ia_tb := ⟨ia_tb_in (by decide +kernel) rfl, ia_tb_in (by decide +kernel) rfl, ia_tb_in (by decide +kernel) rfl⟩
/-- may so many places be copied -/
def ia_cb (sp dp n : Int32) (na nb : Nat) : Bool := !(decide (sp < 0)) && (!(decide (dp < 0)) && (!(decide (n < 0)) && (decide (sp.toNatClampNeg + n.toNatClampNeg ≤ na) && decide (dp.toNatClampNeg + n.toNatClampNeg ≤ nb))))
theorem ia_cb_spec {sp dp n : Int32} {na nb : Nat} (h : ia_cb sp dp n na nb = true) : ¬ sp < 0 ∧ ¬ dp < 0 ∧ ¬ n < 0 ∧ sp.toNatClampNeg + n.toNatClampNeg ≤ na ∧ dp.toNatClampNeg + n.toNatClampNeg ≤ nb := by
  unfold ia_cb at h
  simpa only [Bool.and_eq_true, Bool.not_eq_true', decide_eq_false_iff_not, decide_eq_true_eq] using h
def ia_fb (k : Nat) (f : Nat → Int32) (sp n : Nat) : Bool := match k with
  | 100 => true
  | 101 => (List.range n).all fun j => fits .boolean (.int (f (sp + j)))
  | _ => (List.range n).all fun j => fits .byte (.int (f (sp + j)))
theorem ia_copyI {d : Nat} {M : ia_M} {N1 W1 : Nat} {K : ia_K} {pc idx : Nat} {lv : ia_L} {st : List ia_V} {h : ia_H} {sp dp n : Int32} {a b k na nb : Nat} (hK : ia_isK d M N1 W1 K) (hw : Cond.methodLink (ia_O M.2.2.2.2.1) idx arraycopyName ∈ ia_tb) (hd : decode M.2.1 pc = .ok (.invokestatic idx, 3)) (hs : ia_wd st ≤ 8) (hk3 : k = 100 ∨ k = 101 ∨ k = 102) (h64 : 64 ≤ a ∧ 64 ≤ b) (ha : ia_k h a = (k, na)) (hb : ia_k h b = (k, nb)) (hc : ia_cb sp dp n na nb = true) (hf : ia_fb k (ia_i h a) sp.toNatClampNeg n.toNatClampNeg = true) (kk : K (pc + 3) lv st (ia_cpI h a b sp.toNatClampNeg dp.toNatClampNeg n.toNatClampNeg)) : K pc lv (.inl n :: .inl dp :: .inr (.inr b) :: .inl sp :: .inr (.inr a) :: st) h := by
  obtain ⟨p, l, e, R, s, m, args, below, meth, co, g, n0, w0, Q, rfl, G, hX, hR1, hR2, -⟩ := hK
  intro H locs ls hl hn hP hk hS
  obtain ⟨c1, c2, c3, c4, c5⟩ := ia_cb_spec hc
  have la := ia_new_lt (a := a) hk (by rw [ha]; show k < 200; omega)
  have lb := ia_new_lt (a := b) hk (by rw [hb]; show k < 200; omega)
  have wa := ia_w_at (g := g) h64.1 la
  have wb := ia_w_at (g := g) h64.2 lb
  rw [ia_en_i (k := k) (by rw [ha]) (by omega) (by omega), ha] at wa
  rw [ia_en_i (k := k) (by rw [hb]) (by omega) (by omega), hb] at wb
  simp only [List.map_cons]
  rw [ia_rv_new h64.1, ia_rv_new h64.2]
  have ht : ∃ (t0 : Nat) (ty : FieldType), (ia_tyl g)[t0]? = some (ia_cA g k, ty) ∧ refKind ty = false ∧ ∀ i, i < n.toNatClampNeg → fits ty (.int (ia_i h a (sp.toNatClampNeg + i))) = true := by
    rcases hk3 with rfl | rfl | rfl
    · exact ⟨0, _, rfl, rfl, fun i hi => rfl⟩
    · exact ⟨1, _, rfl, rfl, fun i hi => List.all_eq_true.mp hf i (List.mem_range.mpr hi)⟩
    · exact ⟨2, _, rfl, rfl, fun i hi => List.all_eq_true.mp hf i (List.mem_range.mpr hi)⟩
  obtain ⟨t0, ty, ht, hr, hfit⟩ := ht
  refine va_copyi G.1 G.2.1 (G.2.2.1.trans hl.1.symm) G.2.2.2.1 (G.2.2.2.2.1 _ hw) (G.2.2.2.2.1 _ ia_wcopy.1) (G.2.2.2.2.1 _ ia_wcopy.2.1) (G.2.2.2.2.1 _ ia_wcopy.2.2) G.2.2.2.2.2.2.1 hP (ia_w_D g h) hS (a - 64) (b - 64) t0 t0 wa wb ht ht hr c1 c2 c3 c4 c5 hfit (by omega) ?_ hd (fun H1 locs1 p1 _ p3 => ?_)
  · rw [ia_wd_eq, show nativeFrameWords "java/lang/System" "arraycopy" 5 = nativeFrameWords "java/lang/System" "arraycopy" 5 from rfl]
    have : nativeFrameWords "java/lang/System" "arraycopy" 5 ≤ 40 := by decide
    omega
  · rw [ia_w_set (g := g) (h := h) (h' := ia_cpI h a b sp.toNatClampNeg dp.toNatClampNeg n.toNatClampNeg) h64.2 rfl ?_ (fun x hx => ia_en_cpI hx)] at p1
    · exact kk H1 locs1 ls hl hn p1 ⟨fun x hx => ⟨(hk.1 x hx).1, by
        rw [← (hk.1 x hx).2]
        funext j
        simp only [ia_cpI, ia_i, if_neg (show x ≠ b by omega)]⟩, hk.2⟩ p3
    · rw [ia_en_i (k := k) (h := ia_cpI h a b sp.toNatClampNeg dp.toNatClampNeg n.toNatClampNeg) (by show (ia_k h b).1 = k; rw [hb]) (by omega) (by omega)]
      have e1 : (ia_k (ia_cpI h a b sp.toNatClampNeg dp.toNatClampNeg n.toNatClampNeg) b).2 = nb := by show (ia_k h b).2 = nb; rw [hb]
      have e2 : ia_i (ia_cpI h a b sp.toNatClampNeg dp.toNatClampNeg n.toNatClampNeg) b = va_cpy (ia_i h a) (ia_i h b) sp.toNatClampNeg dp.toNatClampNeg n.toNatClampNeg := by
        funext j
        simp only [ia_cpI, ia_i, if_true]
      rw [e1, e2]
theorem ia_copyL {d : Nat} {M : ia_M} {N1 W1 : Nat} {K : ia_K} {pc idx : Nat} {lv : ia_L} {st : List ia_V} {h : ia_H} {sp dp n : Int32} {a b na nb : Nat} (hK : ia_isK d M N1 W1 K) (hw : Cond.methodLink (ia_O M.2.2.2.2.1) idx arraycopyName ∈ ia_tb) (hd : decode M.2.1 pc = .ok (.invokestatic idx, 3)) (hs : ia_wd st ≤ 8) (h64 : 64 ≤ a ∧ 64 ≤ b) (ha : ia_k h a = (103, na)) (hb : ia_k h b = (103, nb)) (hc : ia_cb sp dp n na nb = true) (kk : K (pc + 3) lv st (ia_cpL h a b sp.toNatClampNeg dp.toNatClampNeg n.toNatClampNeg)) : K pc lv (.inl n :: .inl dp :: .inr (.inr b) :: .inl sp :: .inr (.inr a) :: st) h := by
  obtain ⟨p, l, e, R, s, m, args, below, meth, co, g, n0, w0, Q, rfl, G, hX, hR1, hR2, -⟩ := hK
  intro H locs ls hl hn hP hk hS
  obtain ⟨c1, c2, c3, c4, c5⟩ := ia_cb_spec hc
  have la := ia_new_lt (a := a) hk (by rw [ha]; show 103 < 200; omega)
  have lb := ia_new_lt (a := b) hk (by rw [hb]; show 103 < 200; omega)
  have wa := ia_w_at (g := g) h64.1 la
  have wb := ia_w_at (g := g) h64.2 lb
  rw [ia_en_l (by rw [ha]), ha] at wa
  rw [ia_en_l (by rw [hb]), hb] at wb
  simp only [List.map_cons]
  rw [ia_rv_new h64.1, ia_rv_new h64.2]
  refine va_copyl G.1 G.2.1 (G.2.2.1.trans hl.1.symm) G.2.2.2.1 (G.2.2.2.2.1 _ hw) (G.2.2.2.2.1 _ ia_wcopy.1) (G.2.2.2.2.1 _ ia_wcopy.2.1) (G.2.2.2.2.1 _ ia_wcopy.2.2) G.2.2.2.2.2.2.1 hP (ia_w_D g h) hS (a - 64) (b - 64) 3 3 wa wb rfl rfl rfl c1 c2 c3 c4 c5 (fun i hi => rfl) (by omega) ?_ hd (fun H1 locs1 p1 _ p3 => ?_)
  · rw [ia_wd_eq]
    have : nativeFrameWords "java/lang/System" "arraycopy" 5 ≤ 40 := by decide
    omega
  · rw [ia_w_set (g := g) (h := h) (h' := ia_cpL h a b sp.toNatClampNeg dp.toNatClampNeg n.toNatClampNeg) h64.2 rfl ?_ (fun x hx => ia_en_cpL hx)] at p1
    · exact kk H1 locs1 ls hl hn p1 ⟨hk.1, hk.2⟩ p3
    · rw [ia_en_l (h := ia_cpL h a b sp.toNatClampNeg dp.toNatClampNeg n.toNatClampNeg) (by show (ia_k h b).1 = 103; rw [hb])]
      have e1 : (ia_k (ia_cpL h a b sp.toNatClampNeg dp.toNatClampNeg n.toNatClampNeg) b).2 = nb := by show (ia_k h b).2 = nb; rw [hb]
      have e2 : ia_l (ia_cpL h a b sp.toNatClampNeg dp.toNatClampNeg n.toNatClampNeg) b = va_cpy (ia_l h a) (ia_l h b) sp.toNatClampNeg dp.toNatClampNeg n.toNatClampNeg := by
        funext j
        simp only [ia_cpL, ia_l, if_true]
      rw [e1, e2]
/-! what the printed texts use -/
def ia_gd {α : Type} (b : Bool) (x : Option α) : Option α := match b with
  | true => x
  | false => none
theorem ia_gd_some {α : Type} {b : Bool} {x : Option α} {r : α} (h : ia_gd b x = some r) : b = true ∧ x = some r := by
  cases b with
  | true => exact ⟨rfl, h⟩
  | false => cases h
theorem ia_ifp {α : Type} {c : Prop} [Decidable c] {a b : Option α} {r : α} (h : (if c then a else b) = some r) (hc : c) : a = some r := by
  rw [if_pos hc] at h
  exact h
theorem ia_ifn {α : Type} {c : Prop} [Decidable c] {a b : Option α} {r : α} (h : (if c then a else b) = some r) (hc : ¬ c) : b = some r := by
  rw [if_neg hc] at h
  exact h
theorem ia_bnd {α β : Type} {x : Option α} {f : α → Option β} {r : β} (h : x.bind f = some r) : ∃ a, x = some a ∧ f a = some r := by
  cases x with
  | none => cases h
  | some a => exact ⟨a, rfl, h⟩
def ia_z1 (x : Int32) : Bool := decide (x = 0) || decide (x = 1)
theorem ia_z1_spec {x : Int32} (h : ia_z1 x = true) : x = 0 ∨ x = 1 := by
  unfold ia_z1 at h
  simpa only [Bool.or_eq_true, decide_eq_true_eq] using h
def ia_nz (x : Int32) : Bool := !(decide (x = 0))
theorem ia_nz_spec {x : Int32} (h : ia_nz x = true) : ¬ x = 0 := by
  unfold ia_nz at h
  simpa only [Bool.not_eq_true', decide_eq_false_iff_not] using h
theorem ia_cV {d : Nat} {M M' : ia_M} {N1 W1 : Nat} {K : ia_K} {pc idx n ci : Nat} {nest : Bool} {lv : ia_L} {st0 : List ia_V} {h h1 : ia_H} {r : Option ia_V} (hK : ia_isK (d + 1) M N1 W1 K) (hm : ia_mkn M' 1 n) (hl : ia_lnk M.2.2.2.2.1 idx M'.1 nest) (hd : decode M.2.1 pc = .ok (.invokevirtual idx, 3)) (b : Nat) (as st : List ia_V) (hst : st0 = as.reverse ++ .inr (.inr b) :: st) (hn : as.length = n) (hw : ia_wd st ≤ 8) (hci : ci < 13) (hcl : ia_R ci = M'.1.cls) (hb : (ia_k h b).1 = ci) (hev : ia_Ev d M' (.inr (.inr b) :: as) h r h1) (hcap : ia_n h1 = ia_n h ∧ ia_m h1 = ia_m h)
    (kk : K (pc + 3) lv (r.toList ++ st) h1) : K pc lv st0 h := by
  rw [hst]
  exact ia_callV hK hm hl hd hn hw hci hcl hb hev (Or.inl hcap) kk
theorem ia_cS {d : Nat} {M M' : ia_M} {N1 W1 : Nat} {K : ia_K} {pc idx n : Nat} {nest : Bool} {lv : ia_L} {st0 : List ia_V} {h h1 : ia_H} {r : Option ia_V} (hK : ia_isK (d + 1) M N1 W1 K) (hm : ia_mkn M' 0 n) (hl : ia_lnk M.2.2.2.2.1 idx M'.1 nest) (hd : decode M.2.1 pc = .ok (.invokestatic idx, 3)) (as st : List ia_V) (hst : st0 = as.reverse ++ st) (hn : as.length = n) (hw : ia_wd st ≤ 8) (hev : ia_Ev d M' as h r h1) (hcap : ia_n h1 = ia_n h ∧ ia_m h1 = ia_m h)
    (kk : K (pc + 3) lv (r.toList ++ st) h1) : K pc lv st0 h := by
  rw [hst]
  exact ia_callS hK hm hl hd hn hw hev (Or.inl hcap) kk
