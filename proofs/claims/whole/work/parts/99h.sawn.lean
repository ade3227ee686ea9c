/-! sawn: how few cells cut every way -/
/-- a cell strictly within the short way -/
def ipt (L W : Nat → Int) (O : Int → Prop) (fm to e : Int) : Prop := ∃ j : Nat, 1 ≤ j ∧ (j : Int) < dst L W O to fm ∧ pth L W O to fm j = e
/-- the way can be cut by so many cells, each of them from the short way that is left -/
def CB (L W : Nat → Int) (fm to : Int) (k : Nat) (O : Int → Prop) : Prop := match k with
  | 0 => ¬ isw L W O fm to
  | k + 1 => ¬ isw L W O fm to ∨ ∃ c, ipt L W O fm to c ∧ CB L W fm to k (fun e => O e ∧ e ≠ c)
section Di
variable {h : pH} {a p q l w : Nat} {L W wt sv S : Nat → Int} {u : Bool} {d : Nat} {tk : Int}
theorem ipt_in {O : Int → Prop} {fm to e : Int} (kL : LK L) (hf : inr L fm) (g : ipt L W O fm to e) : inr L e ∧ e ≠ fm ∧ e ≠ to := by
  obtain ⟨j, j1, j2, rfl⟩ := g
  obtain ⟨s1, s2⟩ := pth_in (W := W) (O := O) (to := to) kL hf (i := j) (by omega)
  refine ⟨s1, fun k => ?_, fun k => ?_⟩
  · rw [k] at s2; omega
  · rw [k, dst_to] at s2; omega
theorem CB_iff {fm to : Int} (kL : LK L) (hf : inr L fm) (ne : fm ≠ to) : ∀ {k : Nat} {O : Int → Prop}, CB L W fm to k O ↔ ∃ X : List Int, X.length ≤ k ∧ (∀ x, x ∈ X → x ≠ fm ∧ x ≠ to ∧ inr L x) ∧ ¬ isw L W (fun e => O e ∧ e ∉ X) fm to
  | 0, O => by
    have e0 : (fun e => O e ∧ e ∉ ([] : List Int)) = O := by funext e; apply propext; exact ⟨fun v => v.1, fun v => ⟨v, List.not_mem_nil⟩⟩
    refine ⟨fun v => ⟨[], Nat.le_refl _, fun x hx => absurd hx List.not_mem_nil, by rw [e0]; exact v⟩, fun ⟨X, x1, x2, x3⟩ => ?_⟩
    have : X = [] := List.length_eq_zero_iff.mp (by omega)
    rw [this, e0] at x3
    exact x3
  | k + 1, O => by
    have e0 : (fun e => O e ∧ e ∉ ([] : List Int)) = O := by funext e; apply propext; exact ⟨fun v => v.1, fun v => ⟨v, List.not_mem_nil⟩⟩
    refine ⟨fun v => ?_, fun ⟨X, x1, x2, x3⟩ => ?_⟩
    · rcases v with v | ⟨c, c1, c2⟩
      · exact ⟨[], Nat.zero_le _, fun x hx => absurd hx List.not_mem_nil, by rw [e0]; exact v⟩
      · have i := (CB_iff kL hf ne (k := k) (O := fun e => O e ∧ e ≠ c)).mp c2
        obtain ⟨X, x1, x2, x3⟩ := i
        have ci := ipt_in kL hf c1
        refine ⟨c :: X, by rw [List.length_cons]; omega, fun x hx => ?_, ?_⟩
        · rcases List.mem_cons.mp hx with y | y
          · rw [y]; exact ⟨ci.2.1, ci.2.2, ci.1⟩
          · exact x2 x y
        · intro y
          exact x3 (isw_from kL hf (fun e _ _ o => ⟨⟨o.1, fun z => o.2 (by rw [z]; exact List.mem_cons_self)⟩, fun z => o.2 (List.mem_cons_of_mem _ z)⟩) y)
    · by_cases y : isw L W O fm to
      · right
        have ex : ∃ c, c ∈ X ∧ ipt L W O fm to c := by
          apply Classical.byContradiction
          intro no
          apply x3
          have d0 := y.2
          have p := (pth_in (W := W) (O := O) (to := to) kL hf (i := (dst L W O to fm).toNat) (by omega)).2
          have et := dst_z (L := L) (W := W) (O := O) (to := to) (c := pth L W O to fm (dst L W O to fm).toNat) (by rw [p]; omega)
          refine ⟨ne, dst_ge.mpr ⟨(dst L W O to fm).toNat, ?_⟩⟩
          have kk := pth_wk (L := L) (W := W) (O := O) (O' := fun e => O e ∧ e ∉ X) (to := to) (c := fm) kL hf (fun j j1 j2 o => ⟨o, fun z => by
            by_cases q : (j : Int) = dst L W O to fm
            · have : j = (dst L W O to fm).toNat := by omega
              rw [this, et] at z
              exact (x2 _ z).2.1 rfl
            · exact no ⟨_, z, j, j1, by omega, rfl⟩⟩) (n := (dst L W O to fm).toNat) (by omega)
          rw [et] at kk
          exact kk
        obtain ⟨c, c1, c2⟩ := ex
        refine ⟨c, c2, (CB_iff kL hf ne (k := k) (O := fun e => O e ∧ e ≠ c)).mpr ⟨X.erase c, ?_, fun x hx => x2 x (List.mem_of_mem_erase hx), fun z => ?_⟩⟩
        · rw [List.length_erase_of_mem c1]; omega
        · exact x3 (isw_from kL hf (fun e _ _ o => ⟨o.1.1, fun z => o.2 ((List.mem_erase_of_ne o.1.2).mpr z)⟩) z)
      · exact Or.inl y
theorem CB_4 {fm to : Int} {O : Int → Prop} (kL : LK L) (hf : inr L fm) (ne : fm ≠ to) (nd : dst L W O to fm ≠ 1) : CB L W fm to 4 O := by
  rw [CB_iff kL hf ne]
  refine ⟨[bs L fm 0, bs L fm 1, bs L fm 2, bs L fm 3].filter (fun x => decide (0 ≤ x ∧ x ≠ fm ∧ x ≠ to)), List.length_filter_le _ _, fun x hx => ?_, fun y => ?_⟩
  · obtain ⟨h1, h2⟩ := List.mem_filter.mp hx
    have h3 := of_decide_eq_true h2
    refine ⟨h3.2.1, h3.2.2, h3.1, ?_⟩
    simp only [List.mem_cons, List.not_mem_nil, or_false] at h1
    rcases h1 with rfl | rfl | rfl | rfl <;> exact be_hi kL.1 hf.1 hf.2
  · generalize eO : (fun e => O e ∧ e ∉ [bs L fm 0, bs L fm 1, bs L fm 2, bs L fm 3].filter (fun x => decide (0 ≤ x ∧ x ≠ fm ∧ x ≠ to))) = O' at y
    have d0 := y.2
    have dn : dst L W O' to fm ≠ 0 := fun e => ne (dst_z e)
    obtain ⟨s1, s2, s3⟩ := nxt_st (W := W) (O := O') (to := to) (c := fm) kL hf (by omega)
    generalize nxt L W O' to fm = e at s1 s2 s3
    have ef : e ≠ fm := fun k => by rw [k] at s3; omega
    obtain ⟨t1, t2, t3⟩ := s2
    rw [← eO] at t3
    by_cases et : e = to
    · apply nd
      rw [et] at t1 t2 t3
      exact dst_un (v := 1) ⟨to, ⟨t1, t2, t3.1⟩, rfl⟩ (fun j hj z => by
        have : j = 0 := by omega
        rw [this] at z
        exact ne z)
    · apply t3.2
      obtain ⟨g0, s, gs, ge⟩ := t1
      refine List.mem_filter.mpr ⟨?_, decide_eq_true ⟨g0, ef, et⟩⟩
      rw [← ge]
      simp only [List.mem_cons, List.not_mem_nil, or_false]
      rcases gs with rfl | rfl | rfl | rfl
      · exact Or.inl rfl
      · exact Or.inr (Or.inl rfl)
      · exact Or.inr (Or.inr (Or.inl rfl))
      · exact Or.inr (Or.inr (Or.inr rfl))
theorem CB_no {fm to : Int} {O : Int → Prop} (kL : LK L) (hf : inr L fm) (ne : fm ≠ to) (nd : dst L W O to fm = 1) {k : Nat} : ¬ CB L W fm to k O := by
  rw [CB_iff kL hf ne]
  intro ⟨X, _, x2, x3⟩
  apply x3
  obtain ⟨m, e, h1, _⟩ := dst_ex (dst_ge.mp (by omega : 0 ≤ dst L W O to fm))
  have : m = 1 := by omega
  subst this
  obtain ⟨e', s, r⟩ := h1
  have r' : e' = to := r
  subst r'
  exact ⟨ne, dst_ge.mpr ⟨1, e', ⟨s.1, s.2.1, s.2.2, fun z => (x2 _ z).2.1 rfl⟩, rfl⟩⟩
theorem tb_pbt {O : Int → Prop} {to c : Int} (kL : LK L) (hc : inr L c) : ∀ {n : Nat}, (n : Int) ≤ dst L W O to c + 1 → ∀ e, e < 64 → (tb (pbt L W O to c n) e = true ↔ ∃ j : Nat, j < n ∧ pth L W O to c j = (e : Int))
  | 0, _, e, _ => ⟨fun v => by rw [pbt, tb_0] at v; exact absurd v Bool.false_ne_true, fun ⟨j, v, _⟩ => by omega⟩
  | n + 1, h, e, he => by
    have z : 4 ≤ ce L ∧ ce L ≤ 36 := sz_mul kL.1
    obtain ⟨p0, p1⟩ := (pth_in (W := W) (O := O) (to := to) kL hc (i := n) (by omega)).1
    have i := tb_pbt (O := O) (to := to) kL hc (n := n) (by omega) e he
    have ec : (((pth L W O to c n).toNat : Nat) : Int) = pth L W O to c n := by omega
    rw [pbt, tb_or, Bool.or_eq_true, i, ← ec, tb_bit (by omega) he, decide_eq_true_eq]
    refine ⟨fun v => ?_, fun ⟨j, v1, v2⟩ => ?_⟩
    · rcases v with ⟨j, v1, v2⟩ | v
      · exact ⟨j, by omega, v2⟩
      · exact ⟨n, by omega, by omega⟩
    · by_cases k : j = n
      · right; rw [k] at v2; omega
      · exact Or.inl ⟨j, by omega, v2⟩
theorem c_cutBy {ld fm to : Int} (hf : inr L fm) (ht : inr L to) (ne : fm ≠ to) (hl : 1 ≤ ld) : ∀ (k n : Nat), k < n ∧ n ≤ 10 → ∀ {h : pH} {O : Int → Prop}, CX h p q L W → WX h p q → (∀ c : Nat, (c : Int) < ce L → (ld ≤ pi h 313 c ↔ O c)) → ∃ h', pfr_Wa_isCutBy n k ld fm to h = some (cif (CB L W fm to k O) 1 0, h') ∧ fr (fun b => 311 ≤ b ∧ b ≤ 315) h h' ∧ (∀ c, pi h' 313 c = pi h 313 c) ∧ WX h' p q := by
  intro k
  induction k with
  | zero =>
    intro n hn h O C X hO
    obtain ⟨n, rfl⟩ : ∃ m, n = m + 1 := ⟨n - 1, by omega⟩
    obtain ⟨h2, r1, r2, r3, -, r5, r6⟩ := c_findShort (load := ld) (c := fm) (to := to) (O := O) C X hO hf ht ne
    refine ⟨h2, ?_, fr_mono r2 (fun b hb => by omega), fun c => fr_i r2 (by omega), r5⟩
    rw [pfr_Wa_isCutBy, pf_Wa_isCutBy, r1, bsm]
    by_cases yy : isw L W O fm to
    · rw [cif_t yy, cif_f (show ¬ CB L W fm to 0 O from fun v => v yy)]
      simp only []
      rw [if_neg (show ¬ (1 : Int) = 0 by decide), if_neg (by omega)]
    · rw [cif_f yy, cif_t (show CB L W fm to 0 O from yy)]
      rfl
  | succ k ih =>
    intro n hn h O C X hO
    have kL := C.2.2.1
    have z : 4 ≤ ce L ∧ ce L ≤ 36 := sz_mul kL.1
    obtain ⟨n, rfl⟩ : ∃ m, n = m + 1 := ⟨n - 1, by omega⟩
    obtain ⟨h2, r1, r2, r3, -, r5, r6⟩ := c_findShort (load := ld) (c := fm) (to := to) (O := O) C X hO hf ht ne
    rw [pfr_Wa_isCutBy, pf_Wa_isCutBy, r1, bsm]
    by_cases yy : isw L W O fm to
    · obtain ⟨l1, l2⟩ := r6 yy
      have d0 := yy.2
      have f0 := hf.1
      have f1 := hf.2
      have t0 := ht.1
      have t1 := ht.2
      rw [cif_t yy]
      simp only []
      rw [if_neg (show ¬ (1 : Int) = 0 by decide), if_pos (by omega), c_pathCells kL hf d0 l1 l2, bsm, c_bit, bsm, c_bit, bsm]
      generalize eY : (pbt L W O to fm (dst L W O to fm + 1).toNat &&& (plshl 1 fm ^^^ -1)) &&& (plshl 1 to ^^^ -1) = Y
      have hY : ∀ e : Nat, e < 64 → (tb Y e = true ↔ ipt L W O fm to e) := fun e he => by
        have ef : ((fm.toNat : Nat) : Int) = fm := by omega
        have et : ((to.toNat : Nat) : Int) = to := by omega
        rw [← eY, tb_and, tb_and, tb_nx he, tb_nx he, Bool.and_eq_true, Bool.and_eq_true, tb_pbt kL hf (by omega) e he, ← ef, tb_bit (by omega) he, ← et, tb_bit (by omega) he, ef, et]
        simp only [Bool.not_eq_true', decide_eq_false_iff_not]
        refine ⟨fun ⟨⟨⟨j, j1, j2⟩, v1⟩, v2⟩ => ⟨j, ?_, ?_, j2⟩, fun v => ?_⟩
        · rcases Nat.eq_zero_or_pos j with y | y
          · rw [y] at j2
            have j3 : fm = (e : Int) := j2
            omega
          · exact y
        · by_cases y : (j : Int) = dst L W O to fm
          · have p := (pth_in (W := W) (O := O) (to := to) kL hf (i := j) (by omega)).2
            have := dst_z (L := L) (W := W) (O := O) (to := to) (c := pth L W O to fm j) (by omega)
            omega
          · omega
        · have := ipt_in kL hf v
          obtain ⟨j, j1, j2, j3⟩ := v
          exact ⟨⟨⟨j, by omega, j3⟩, by omega⟩, by omega⟩
      have C2 : CX h2 p q L W := CX_fr C r2 (fun b hb => by omega)
      refine lpf (F := fun m (i : Nat) t => pl_Wa_isCutBy_47 (pfr_Wa_isCutBy n) (k + 1 : Nat) ld fm to (fun h => some (1, h)) (fun h => some (0, h)) m Y i t) (Q := fun r => ∃ h', r = some (cif (CB L W fm to (k + 1) O) 1 0, h') ∧ fr (fun b => 311 ≤ b ∧ b ≤ 315) h h' ∧ (∀ c, pi h' 313 c = pi h 313 c) ∧ WX h' p q) (ce L).toNat (fun i t => fr (fun b => 311 ≤ b ∧ b ≤ 315) h2 t ∧ (∀ c, pi t 313 c = pi h 313 c) ∧ WX t p q ∧ ∀ e : Nat, e < i → ¬ (ipt L W O fm to e ∧ CB L W fm to k (fun x => O x ∧ x ≠ (e : Int)))) ?_ ?_ fu_ 0 h2 (by omega) (by unfold fu_; omega) ⟨fr_refl, fun c => fr_i r2 (by omega), r5, fun e he => absurd he (Nat.not_lt_zero _)⟩
      · intro m i t hi ⟨f, e3, X3, B⟩
        have Ct : CX t p q L W := CX_fr C2 f (fun b hb => by omega)
        have nx : ∀ t', pl_Wa_isCutBy_47 (pfr_Wa_isCutBy n) (k + 1 : Nat) ld fm to (fun h => some (1, h)) (fun h => some (0, h)) m Y (wr ((i : Int) + 1)) t' = pl_Wa_isCutBy_47 (pfr_Wa_isCutBy n) (k + 1 : Nat) ld fm to (fun h => some (1, h)) (fun h => some (0, h)) m Y (i + 1 : Nat) t' := fun t' => by
          rw [wr_eq (by omega) (by omega)]; rfl
        have b2 : ¬ (ipt L W O fm to (i : Nat) ∧ CB L W fm to k (fun x => O x ∧ x ≠ (i : Int))) → ∀ e : Nat, e < i + 1 → ¬ (ipt L W O fm to e ∧ CB L W fm to k (fun x => O x ∧ x ≠ (e : Int))) := fun v e he => by
          by_cases y : e = i
          · rw [y]; exact v
          · exact B e (by omega)
        by_cases q1 : tb Y i = true
        · have f4 : fr (fun b => b = 313) t (pwI t 313 i 0) := fr_wI fr_refl rfl
          obtain ⟨h4, w1, w2, w3, w4⟩ := ih n (by omega) (h := pwI t 313 i 0) (O := fun e => O e ∧ e ≠ (i : Int)) (CX_fr Ct f4 (fun b hb => by omega)) (WX_fr X3 f4 (by omega)) (fun c hc => by
            by_cases y : c = i
            · rw [y, pi_wIs]
              exact ⟨fun v => by omega, fun o => absurd rfl o.2⟩
            · rw [pi_wIi y, e3, hO c hc]
              exact ⟨fun o => ⟨o, by omega⟩, fun o => o.1⟩)
          have fw : fr (fun b => 311 ≤ b ∧ b ≤ 315) h2 (pwI h4 313 i (pi t 313 i)) := fr_trans f (fr_wI (fr_trans (fr_mono f4 (fun b hb => by omega)) w2) (by omega))
          have ew : ∀ c, pi (pwI h4 313 i (pi t 313 i)) 313 c = pi h 313 c := fun c => by
            by_cases y : c = i
            · rw [y, pi_wIs]; exact e3 i
            · rw [pi_wIi y, w3, pi_wIi y]; exact e3 c
          have Xw : WX (pwI h4 313 i (pi t 313 i)) p q := WX_fr w4 (fr_wI fr_refl rfl : fr (fun b => b = 313) h4 _) (by omega)
          have e0 : pl_Wa_isCutBy_47 (pfr_Wa_isCutBy n) (k + 1 : Nat) ld fm to (fun h => some (1, h)) (fun h => some (0, h)) (m + 1) Y i t = if cif (CB L W fm to k (fun e => O e ∧ e ≠ (i : Int))) (1 : Int) 0 = 0 then pl_Wa_isCutBy_47 (pfr_Wa_isCutBy n) (k + 1 : Nat) ld fm to (fun h => some (1, h)) (fun h => some (0, h)) m Y (i + 1 : Nat) (pwI h4 313 i (pi t 313 i)) else some (1, pwI h4 313 i (pi t 313 i)) := by
            rw [pl_Wa_isCutBy_47, X3.1, c_cells Ct, bsm, if_neg (by omega), c_hasBit (by omega), bsm, if1, if_pos q1, pf_Wa_isCutWithout, gib (by omega) (by omega), gib (by omega) (by omega), wr_eq (x := ((k + 1 : Nat) : Int) - 1) (by omega) (by omega), show ((k + 1 : Nat) : Int) - 1 = (k : Nat) by omega, Int.toNat_natCast, w1, bsm, gib (by omega) (by omega), gd_t (by by_cases y : CB L W fm to k (fun e => O e ∧ e ≠ (i : Int)); rw [cif_t y]; rfl; rw [cif_f y]; rfl), bsm, nx]
          by_cases q2 : CB L W fm to k (fun e => O e ∧ e ≠ (i : Int))
          · left
            rw [e0, cif_t q2, if_neg (show ¬ (1 : Int) = 0 by decide)]
            exact ⟨_, by rw [cif_t (show CB L W fm to (k + 1) O from Or.inr ⟨i, (hY i (by omega)).mp q1, q2⟩)], fr_trans (fr_mono r2 (fun b hb => by omega)) fw, ew, Xw⟩
          · right
            rw [e0, cif_f q2, if_pos rfl]
            exact ⟨_, rfl, fw, ew, Xw, b2 (fun v => q2 v.2)⟩
        · right
          refine ⟨t, ?_, f, e3, X3, b2 (fun v => q1 ((hY i (by omega)).mpr v.1))⟩
          show pl_Wa_isCutBy_47 (pfr_Wa_isCutBy n) (k + 1 : Nat) ld fm to (fun h => some (1, h)) (fun h => some (0, h)) (m + 1) Y i t = _
          rw [pl_Wa_isCutBy_47, X3.1, c_cells Ct, bsm, if_neg (by omega), c_hasBit (by omega), bsm, if1, if_neg q1, nx]
      · intro m t ⟨f, e3, X3, B⟩
        have Ct : CX t p q L W := CX_fr C2 f (fun b hb => by omega)
        refine ⟨t, ?_, fr_trans (fr_mono r2 (fun b hb => by omega)) f, e3, X3⟩
        show pl_Wa_isCutBy_47 (pfr_Wa_isCutBy n) (k + 1 : Nat) ld fm to (fun h => some (1, h)) (fun h => some (0, h)) (m + 1) Y ((ce L).toNat : Nat) t = _
        rw [pl_Wa_isCutBy_47, X3.1, c_cells Ct, bsm, if_pos (by omega), cif_f]
        intro v
        rcases v with v | ⟨c, c1, c2⟩
        · exact v yy
        · obtain ⟨⟨i0, i1⟩, -⟩ := ipt_in kL hf c1
          have ec : ((c.toNat : Nat) : Int) = c := by omega
          exact B c.toNat (by omega) (by rw [ec]; exact ⟨c1, c2⟩)
    · rw [cif_f yy, cif_t (show CB L W fm to (k + 1) O from Or.inl yy)]
      exact ⟨h2, rfl, fr_mono r2 (fun b hb => by omega), fun c => fr_i r2 (by omega), r5⟩
/-- the fewest, -1 if five would be needed -/
def FC (L W : Nat → Int) (O : Int → Prop) (fm to r : Int) : Prop := (∃ k : Nat, k ≤ 4 ∧ r = k ∧ CB L W fm to k O ∧ ∀ j, j < k → ¬ CB L W fm to j O) ∨ (r = -1 ∧ ∀ j, j ≤ 4 → ¬ CB L W fm to j O)
theorem c_fewest {ld fm to : Int} {O : Int → Prop} (hf : inr L fm) (ht : inr L to) (ne : fm ≠ to) (hl : 1 ≤ ld) (C : CX h p q L W) (X : WX h p q) (hO : ∀ c : Nat, (c : Int) < ce L → (ld ≤ pi h 313 c ↔ O c)) : ∃ r h', pf_Wa_fewestCuts ld fm to h = some (r, h') ∧ fr (fun b => 311 ≤ b ∧ b ≤ 315) h h' ∧ FC L W O fm to r := by
  unfold pf_Wa_fewestCuts
  refine lpf (F := fun n (i : Nat) t => pl_Wa_fewestCuts_3 ld fm to (fun x4 h => some (x4, h)) (fun h => some ((-1), h)) n i t) (Q := fun r => ∃ v h', r = some (v, h') ∧ fr (fun b => 311 ≤ b ∧ b ≤ 315) h h' ∧ FC L W O fm to v) 5 (fun i t => fr (fun b => 311 ≤ b ∧ b ≤ 315) h t ∧ (∀ c, pi t 313 c = pi h 313 c) ∧ WX t p q ∧ ∀ j, j < i → ¬ CB L W fm to j O) ?_ ?_ fu_ 0 h (by omega) (by unfold fu_; omega) ⟨fr_refl, fun _ => rfl, X, fun j hj => absurd hj (Nat.not_lt_zero _)⟩
  · intro n i t hi ⟨f, e3, X3, B⟩
    have Ct : CX t p q L W := CX_fr C f (fun b hb => by omega)
    obtain ⟨h4, w1, w2, w3, w4⟩ := c_cutBy (ld := ld) hf ht ne hl i 10 (by omega) (h := t) (O := O) Ct X3 (fun c hc => by rw [e3]; exact hO c hc)
    have e0 : pl_Wa_fewestCuts_3 ld fm to (fun x4 h => some (x4, h)) (fun h => some ((-1), h)) (n + 1) i t = if cif (CB L W fm to i O) (1 : Int) 0 = 0 then pl_Wa_fewestCuts_3 ld fm to (fun x4 h => some (x4, h)) (fun h => some ((-1), h)) n (i + 1 : Nat) h4 else some ((i : Int), h4) := by
      rw [pl_Wa_fewestCuts_3, if_neg (by omega), w1, bsm, wr_eq (by omega) (by omega)]; rfl
    by_cases q1 : CB L W fm to i O
    · left
      rw [e0, cif_t q1, if_neg (show ¬ (1 : Int) = 0 by decide)]
      exact ⟨_, h4, rfl, fr_trans f w2, Or.inl ⟨i, by omega, rfl, q1, B⟩⟩
    · right
      rw [e0, cif_f q1, if_pos rfl]
      refine ⟨h4, rfl, fr_trans f w2, fun c => by rw [w3, e3], w4, fun j hj => ?_⟩
      by_cases y : j = i
      · rw [y]; exact q1
      · exact B j (by omega)
  · intro n t ⟨f, e3, X3, B⟩
    refine ⟨-1, t, ?_, f, Or.inr ⟨rfl, fun j hj => B j (by omega)⟩⟩
    show pl_Wa_fewestCuts_3 ld fm to (fun x4 h => some (x4, h)) (fun h => some ((-1), h)) (n + 1) (5 : Nat) t = _
    rw [pl_Wa_fewestCuts_3, if_pos (by omega)]
end Di
