/-! the class's lakes, laws and scenes: what they stand for -/
def LR (h : pH) (p : Nat) (L : Nat → Int) : Prop :=
  (pi h p 0 = L 0 ∧ pi h p 1 = L 1 ∧ pi h p 2 = L 2 ∧ pi h p 10 = L 3 ∧ pi h p 11 = L 4)
  ∧ (∀ c : Nat, c < 36 → pi h (p + 1) c = L (8 + c) ∧ pi h (p + 2) c = L (44 + c) ∧ pi h (p + 3) c = L (80 + c))
  ∧ (∀ k : Nat, (k : Int) < L 3 → pi h (p + 5) k = L (224 + k))
  ∧ (∀ s : Nat, s < NS L → pi h (p + 6) s = L (236 + 4 * s) ∧ pi h (p + 7) s = L (237 + 4 * s) ∧ pi h (p + 8) s = L (238 + 4 * s) ∧ pi h (p + 9) s = L (239 + 4 * s))
  ∧ (∀ c k : Nat, (c : Int) < ce L → k < 4 → pi h (p + 10) (4 * c + k) = bs L c k ∧ pi h (p + 11) (4 * c + k) = nr L c k)
  ∧ (∀ c : Nat, (c : Int) < ce L → (tb (pl h p 7) c = true ↔ L (116 + c) = 1))
  ∧ (∀ c d : Nat, (c : Int) < ce L → d < 64 → (tb (pl h (p + 4) c) d = true ↔ ∃ s, s4 s ∧ bs L c s = d ∧ ck L c s))
def WR (h : pH) (q : Nat) (W : Nat → Int) : Prop :=
  (pi h q 0 = W 0 ∧ pi h q 1 = W 1 ∧ pi h q 2 = W 2 ∧ pi h q 3 = W 3 ∧ pi h q 4 = W 4)
  ∧ (∀ k : Nat, (k : Int) < W 4 → pi h (q + 1) k = W (6 + 2 * k) ∧ pi h (q + 2) k = W (7 + 2 * k))
  ∧ (∀ c : Nat, c < 36 → (tb (pl h q 7) c = true ↔ W (30 + c) = 1))
  ∧ (∀ c d : Nat, c < 36 → d < 64 → (tb (pl h (q + 3) c) d = true ↔ ∃ k : Nat, (k : Int) < W 4 ∧ W (6 + 2 * k) = d ∧ W (7 + 2 * k) = c))
def CX (h : pH) (p q : Nat) (L W : Nat → Int) : Prop := LR h p L ∧ WR h q W ∧ LK L ∧ WK W ∧ p ≤ 280 ∧ q ≤ 292
def SF (a b : Nat) : Prop := a ≤ b ∧ b ≤ a + 7
/-- the scene at a is the state S; u: its ice under shops alone -/
def SC (h : pH) (a p q : Nat) (L W wt sv : Nat → Int) (u : Bool) (S : Nat → Int) : Prop :=
  (303 ≤ a ∧ pr h a 0 = p ∧ pr h a 1 = q)
  ∧ (∀ c : Nat, (c : Int) < ce L → (u = false ∨ ∃ s, s < NS L ∧ S (72 + s) = c) → pi h (a + 1) c = S c)
  ∧ (∀ c : Nat, (c : Int) < ce L → pi h (a + 2) c = S (36 + c))
  ∧ (∀ c : Nat, (c : Int) < ce L → pi h (a + 3) c = ld L W S wt (-1) c ∧ pi h (a + 4) c = ht L S sv c)
  ∧ (∀ s : Nat, s < NS L → pi h (a + 5) s = S (72 + s) ∧ pi h (a + 6) s = wt s ∧ pi h (a + 7) s = sv s)
  ∧ (pi h a 9 = S 78 ∧ pi h a 10 = S 79)
theorem fr_fi {F : Nat → Prop} {h h1 : pH} (p : fr F h h1) {a : Nat} (q : ¬ F a) : pi h1 a = pi h a := funext fun _ => fr_i p q
theorem fr_fl {F : Nat → Prop} {h h1 : pH} (p : fr F h h1) {a : Nat} (q : ¬ F a) : pl h1 a = pl h a := funext fun _ => fr_l p q
theorem fr_fr {F : Nat → Prop} {h h1 : pH} (p : fr F h h1) {a : Nat} (q : ¬ F a) : pr h1 a = pr h a := funext fun _ => fr_r p q
theorem LR_fr {F : Nat → Prop} {h h' : pH} {p : Nat} {L : Nat → Int} (k : LR h p L) (f : fr F h h') (q : ∀ i, i ≤ 11 → ¬ F (p + i)) : LR h' p L := by
  have q0 : ¬ F p := q 0 (by omega)
  unfold LR at *
  rw [fr_fi f q0, fr_fl f q0, fr_fi f (q 1 (by omega)), fr_fi f (q 2 (by omega)), fr_fi f (q 3 (by omega)), fr_fi f (q 5 (by omega)), fr_fi f (q 6 (by omega)), fr_fi f (q 7 (by omega)), fr_fi f (q 8 (by omega)), fr_fi f (q 9 (by omega)), fr_fi f (q 10 (by omega)), fr_fi f (q 11 (by omega)), fr_fl f (q 4 (by omega))]
  exact k
theorem WR_fr {F : Nat → Prop} {h h' : pH} {p : Nat} {L : Nat → Int} (k : WR h p L) (f : fr F h h') (q : ∀ i, i ≤ 3 → ¬ F (p + i)) : WR h' p L := by
  have q0 : ¬ F p := q 0 (by omega)
  unfold WR at *
  rw [fr_fi f q0, fr_fl f q0, fr_fi f (q 1 (by omega)), fr_fi f (q 2 (by omega)), fr_fl f (q 3 (by omega))]
  exact k
theorem CX_fr {F : Nat → Prop} {h h' : pH} {p q : Nat} {L W : Nat → Int} (k : CX h p q L W) (f : fr F h h') (z : ∀ b, F b → 303 ≤ b) : CX h' p q L W := by
  obtain ⟨a, b, c, d, e, g⟩ := k
  exact ⟨LR_fr a f (fun i hi y => by have := z _ y; omega), WR_fr b f (fun i hi y => by have := z _ y; omega), c, d, e, g⟩
theorem SC_fr {F : Nat → Prop} {h h' : pH} {a p q : Nat} {L W wt sv S : Nat → Int} {u : Bool} (k : SC h a p q L W wt sv u S) (f : fr F h h') (z : ∀ b, F b → b < a ∨ a + 7 < b) : SC h' a p q L W wt sv u S := by
  have y : ∀ i, i ≤ 7 → ¬ F (a + i) := fun i hi e => by have := z _ e; omega
  have y0 : ¬ F a := y 0 (by omega)
  unfold SC at *
  rw [fr_fi f y0, fr_fr f y0, fr_fi f (y 1 (by omega)), fr_fi f (y 2 (by omega)), fr_fi f (y 3 (by omega)), fr_fi f (y 4 (by omega)), fr_fi f (y 5 (by omega)), fr_fi f (y 6 (by omega)), fr_fi f (y 7 (by omega))]
  exact k
/-! near: both ways -/
def ixc (L : Nat → Int) (c s : Int) : Nat := (if s = 0 then 188 + bs L c 0 else if s = 1 then 152 + bs L c 1 else if s = 2 then 152 + c else 188 + c).toNat
theorem nr_def {L : Nat → Int} {c s : Int} : nr L c s = if bs L c s < 0 then -1 else if L (ixc L c s) = 1 then -1 else bs L c s := rfl
theorem nr_ge {L : Nat → Int} {c s : Int} (h : 0 ≤ nr L c s) : nr L c s = bs L c s ∧ 0 ≤ bs L c s ∧ L (ixc L c s) ≠ 1 := by
  rw [nr_def] at h ⊢
  split at h
  · omega
  · rename_i q
    rw [if_neg q]
    split at h
    · omega
    · rename_i z
      rw [if_neg z]
      exact ⟨rfl, by omega, z⟩
theorem nr_s1 {L : Nat → Int} (hz : sz (L 0) (L 1)) {c x k : Int} (hk : s4 k) (x0 : 0 ≤ x) (x1 : x < ce L) (h : 0 ≤ nr L x k) (e : c = nr L x k) : nr L c (3 - k) = x := by
  obtain ⟨e1, e2, e3⟩ := nr_ge h
  rw [e1] at e
  have sy := be_sym hz x0 x1 hk e2
  have e' : be (L 0) (L 1) x k = c := e.symm
  rw [e'] at sy
  have hi : ixc L c (3 - k) = ixc L x k := by
    unfold ixc
    rcases hk with rfl | rfl | rfl | rfl
    · rw [e]; rfl
    · rw [e]; rfl
    · show (152 + bs L c 1).toNat = (152 + x).toNat
      have : bs L c 1 = x := sy
      rw [this]
    · show (188 + bs L c 0).toNat = (188 + x).toNat
      have : bs L c 0 = x := sy
      rw [this]
  rw [nr_def, hi, if_neg (show ¬ bs L c (3 - k) < 0 from by have : bs L c (3 - k) = x := sy; omega), if_neg e3]
  exact sy
theorem nr_rg {L : Nat → Int} (hz : sz (L 0) (L 1)) {c k : Int} (c0 : 0 ≤ c) (c1 : c < ce L) : -1 ≤ nr L c k ∧ nr L c k < ce L := by
  have b0 : -1 ≤ bs L c k := be_lo hz c0 c1
  have b1 : bs L c k < ce L := be_hi hz c0 c1
  rw [nr_def]
  split
  · omega
  · split <;> omega
theorem nr_sym {L : Nat → Int} (hz : sz (L 0) (L 1)) {c x : Int} (k k' : Int) (ek : k' = 3 - k) (hk : s4 k) (x0 : 0 ≤ x) (x1 : x < ce L) (c0 : 0 ≤ c) (c1 : c < ce L) : (0 ≤ nr L x k ∧ c = nr L x k) ↔ nr L c k' = x := by
  subst ek
  constructor
  · intro ⟨h, e⟩
    exact nr_s1 hz hk x0 x1 h e
  · intro h
    have hk' : s4 (3 - k) := by unfold s4 at *; omega
    have := nr_s1 hz hk' c0 c1 (c := x) (by omega) h.symm
    rw [show 3 - (3 - k) = k by omega] at this
    omega
/-! what a shop at c adds at x -/
noncomputable def nsm (L : Nat → Int) (g c x : Int) (i : Nat) : Int := match i with
  | 0 => 0
  | i + 1 => nsm L g c x i + (if nr L c i = x then g else 0)
noncomputable def ctr (L : Nat → Int) (g gs c x : Int) : Int := (if x = c then g else 0) + nsm L gs c x 4
noncomputable def ct2 (L : Nat → Int) (g gs c x : Int) : Int := (if c = x then g else 0) + (if 0 ≤ nr L x 0 ∧ c = nr L x 0 then gs else 0) + (if 0 ≤ nr L x 1 ∧ c = nr L x 1 then gs else 0) + (if 0 ≤ nr L x 2 ∧ c = nr L x 2 then gs else 0) + (if 0 ≤ nr L x 3 ∧ c = nr L x 3 then gs else 0)
theorem nsm4 {L : Nat → Int} {g c x : Int} : nsm L g c x 4 = (if nr L c 0 = x then g else 0) + (if nr L c 1 = x then g else 0) + (if nr L c 2 = x then g else 0) + (if nr L c 3 = x then g else 0) := by
  show 0 + _ + _ + _ + _ = _
  rw [Int.zero_add]
  rfl
theorem ct2_ctr {L : Nat → Int} (hz : sz (L 0) (L 1)) {g gs c x : Int} (x0 : 0 ≤ x) (x1 : x < ce L) (c0 : 0 ≤ c) (c1 : c < ce L) : ct2 L g gs c x = ctr L g gs c x := by
  unfold ct2 ctr
  rw [nsm4]
  simp only [nr_sym hz 0 3 (by omega) (Or.inl rfl) x0 x1 c0 c1, nr_sym hz 1 2 (by omega) (Or.inr (Or.inl rfl)) x0 x1 c0 c1, nr_sym hz 2 1 (by omega) (Or.inr (Or.inr (Or.inl rfl))) x0 x1 c0 c1, nr_sym hz 3 0 (by omega) (Or.inr (Or.inr (Or.inr rfl))) x0 x1 c0 c1, eq_comm (a := c) (b := x)]
  omega
theorem ct2_neg {L : Nat → Int} {g gs c x : Int} (x0 : 0 ≤ x) (c0 : c < 0) : ct2 L g gs c x = 0 := by
  unfold ct2
  rw [if_neg (by omega), if_neg (by omega), if_neg (by omega), if_neg (by omega), if_neg (by omega)]
  rfl
theorem nsm_neg {L : Nat → Int} {g c x : Int} : ∀ {i : Nat}, nsm L (-g) c x i = -(nsm L g c x i)
  | 0 => rfl
  | i + 1 => by rw [nsm, nsm, nsm_neg]; split <;> omega
theorem ctr_neg {L : Nat → Int} {g gs c x : Int} : ctr L (-g) (-gs) c x = -(ctr L g gs c x) := by
  unfold ctr
  rw [nsm_neg]
  split <;> omega
theorem one_up {S g : Nat → Int} {wo x v : Int} {s : Nat} : ∀ {n : Nat}, s < n → one (up1 S (72 + s) v) g wo x n = one S g wo x n - (if S (72 + s) = x ∧ (s : Int) ≠ wo then g s else 0) + (if v = x ∧ (s : Int) ≠ wo then g s else 0)
  | 0, h => by omega
  | n + 1, h => by
    rw [one, one]
    rcases Nat.lt_or_ge s n with z | z
    · rw [one_up z, up1_n (by omega)]
      omega
    · have e : s = n := by omega
      subst e
      have : one (up1 S (72 + s) v) g wo x s = one S g wo x s := by
        have : ∀ m, m ≤ s → one (up1 S (72 + s) v) g wo x m = one S g wo x m := by
          intro m
          induction m with
          | zero => intro _; rfl
          | succ m ih => intro hm; rw [one, one, ih (by omega), up1_n (by omega)]
        exact this s (by omega)
      rw [this, up1_s]
      omega
theorem on1_up {S g : Nat → Int} {wo x v : Int} {s n : Nat} (h : s < n) : on1 (up1 S (72 + s) v) g wo x n = on1 S g wo x n - (if (0 ≤ x ∧ S (72 + s) = x) ∧ (s : Int) ≠ wo then g s else 0) + (if (0 ≤ x ∧ v = x) ∧ (s : Int) ≠ wo then g s else 0) := by
  unfold on1
  by_cases q : x < 0
  · rw [if_pos q, if_pos q, if_neg (by omega), if_neg (by omega)]; rfl
  · rw [if_neg q, if_neg q, one_up h]
    simp only [show 0 ≤ x from by omega, true_and]
theorem ld_up {L W S wt : Nat → Int} {wo x v : Int} {s : Nat} (h : s < NS L) (hw : (s : Int) ≠ wo) : ld L W (up1 S (72 + s) v) wt wo x = ld L W S wt wo x - ct2 L (wt s) (wt s * W 2 / 10) (S (72 + s)) x + ct2 L (wt s) (wt s * W 2 / 10) v x := by
  unfold ld ct2
  rw [one_up h, on1_up h, on1_up h, on1_up h, on1_up h]
  simp only [hw, ne_eq, not_false_eq_true, and_true]
  omega
theorem ht_up {L S sv : Nat → Int} {x v : Int} {s : Nat} (h : s < NS L) : ht L (up1 S (72 + s) v) sv x = ht L S sv x - ct2 L (sv s) (sv s / 2) (S (72 + s)) x + ct2 L (sv s) (sv s / 2) v x := by
  have hw : (s : Int) ≠ -1 := by omega
  unfold ht ct2
  rw [one_up h, on1_up h, on1_up h, on1_up h, on1_up h]
  simp only [hw, ne_eq, not_false_eq_true, and_true]
  omega
theorem one_c {S T g : Nat → Int} {wo x : Int} : ∀ {n : Nat}, (∀ s, s < n → S (72 + s) = T (72 + s)) → one S g wo x n = one T g wo x n
  | 0, _ => rfl
  | n + 1, h => by rw [one, one, one_c (fun s hs => h s (by omega)), h n (by omega)]
theorem on1_c {S T g : Nat → Int} {wo x : Int} {n : Nat} (h : ∀ s, s < n → S (72 + s) = T (72 + s)) : on1 S g wo x n = on1 T g wo x n := by
  unfold on1; rw [one_c h]
theorem ld_c {L W S T wt : Nat → Int} {wo x : Int} (h : ∀ s, s < NS L → S (72 + s) = T (72 + s)) : ld L W S wt wo x = ld L W T wt wo x := by
  unfold ld; rw [one_c h, on1_c h, on1_c h, on1_c h, on1_c h]
theorem ht_c {L S T sv : Nat → Int} {x : Int} (h : ∀ s, s < NS L → S (72 + s) = T (72 + s)) : ht L S sv x = ht L T sv x := by
  unfold ht; rw [one_c h, on1_c h, on1_c h, on1_c h, on1_c h]
theorem nsm_bd {L : Nat → Int} {g c x B : Int} (h1 : -B ≤ g) (h2 : g ≤ B) (hB : 0 ≤ B) : ∀ {i : Nat}, i ≤ 4 → -(4 * B) ≤ nsm L g c x i ∧ nsm L g c x i ≤ 4 * B := by
  intro i hi
  have : ∀ i : Nat, -(i * B) ≤ nsm L g c x i ∧ nsm L g c x i ≤ i * B := by
    intro i
    induction i with
    | zero => rw [nsm]; simp
    | succ i ih =>
      rw [nsm, Int.natCast_add, Int.add_mul]
      have : ((1 : Nat) : Int) * B = B := by simp
      split <;> omega
  have q := this i
  have e : (i : Int) * B ≤ 4 * B := Int.mul_le_mul_of_nonneg_right (by omega) hB
  omega
section Ca
variable {h : pH} {a p q : Nat} {L W wt sv S : Nat → Int} {u : Bool}
theorem c_burden {c : Nat} {g gs t ts : Int} (C : CX h p q L W) (ea : pr h a 0 = p) (ha : 303 ≤ a) (hc : (c : Int) < ce L) (hb : ∀ x : Nat, (x : Int) < ce L → (-20000 ≤ pi h (a + 3) x ∧ pi h (a + 3) x ≤ 20000) ∧ (-20000 ≤ pi h (a + 4) x ∧ pi h (a + 4) x ≤ 20000)) (g1 : -1000 ≤ g ∧ g ≤ 1000) (g2 : -1000 ≤ gs ∧ gs ≤ 1000) (g3 : -1000 ≤ t ∧ t ≤ 1000) (g4 : -1000 ≤ ts ∧ ts ≤ 1000) : ∃ h', pf_Sc_burden a c g gs t ts h = some h' ∧ fr (fun b => b = a + 3 ∨ b = a + 4) h h' ∧ ∀ x : Nat, (x : Int) < ce L → pi h' (a + 3) x = pi h (a + 3) x + ctr L g gs c x ∧ pi h' (a + 4) x = pi h (a + 4) x + ctr L t ts c x := by
  have kL := C.2.2.1
  have z : 4 ≤ ce L ∧ ce L ≤ 36 := sz_mul kL.1
  have b0 := hb c hc
  unfold pf_Sc_burden
  simp (disch := omega) only [wr_eq, gib, Int.toNat_natCast, pi_wIa (show a + 4 ≠ a + 3 by omega)]
  refine lpf (F := fun n (i : Nat) h => pl_Sc_burden_24 a c g gs t ts (fun h => some h) n i h) (Q := fun r => ∃ h', r = some h' ∧ fr (fun b => b = a + 3 ∨ b = a + 4) h h' ∧ ∀ x : Nat, (x : Int) < ce L → pi h' (a + 3) x = pi h (a + 3) x + ctr L g gs c x ∧ pi h' (a + 4) x = pi h (a + 4) x + ctr L t ts c x) 4 (fun i r => fr (fun b => b = a + 3 ∨ b = a + 4) h r ∧ ∀ x : Nat, (x : Int) < ce L → pi r (a + 3) x = pi h (a + 3) x + ((if (x : Int) = c then g else 0) + nsm L gs c x i) ∧ pi r (a + 4) x = pi h (a + 4) x + ((if (x : Int) = c then t else 0) + nsm L ts c x i)) ?_ ?_ fu_ 0 _ (by omega) (by unfold fu_; omega) ?_
  · intro n i r hi ⟨f, e⟩
    right
    have er : pr r a 0 = p := by rw [fr_r f (by omega)]; exact ea
    have en : pi r (p + 11) = pi h (p + 11) := fr_fi f (by have := C.2.2.2.2.1; omega)
    have nv := (C.1.2.2.2.2.1 c i hc (by omega)).2
    have nb := nr_rg kL.1 (k := i) (show 0 ≤ (c : Int) by omega) hc
    have t1 : ((c : Int) * 4 + i).toNat = 4 * c + i := by omega
    show ∃ t', pl_Sc_burden_24 a c g gs t ts _ (n + 1) i r = pl_Sc_burden_24 a c g gs t ts _ n (i + 1 : Nat) t' ∧ _
    rw [pl_Sc_burden_24, if_neg (by omega), er]
    unfold pj_Sc_burden_75
    simp (disch := omega) only [wr_eq, gib, t1, en, nv]
    by_cases q1 : nr L c i = -1
    · refine ⟨r, by rw [if_pos q1]; rfl, f, fun x hx => ?_⟩
      have ne : ¬ nr L c i = (x : Int) := by omega
      rw [nsm, nsm, if_neg ne, if_neg ne, Int.add_zero, Int.add_zero]
      exact e x hx
    · rw [if_neg q1]
      have hd : ((nr L c i).toNat : Int) < ce L := by omega
      have v := e _ hd
      have bd := hb _ hd
      have n1 := nsm_bd (L := L) (c := c) (x := (nr L c i).toNat) g2.1 g2.2 (by omega) (i := i) (by omega)
      have n2 := nsm_bd (L := L) (c := c) (x := (nr L c i).toNat) g4.1 g4.2 (by omega) (i := i) (by omega)
      have i1 : ∀ v : Int, -1000 ≤ v ∧ v ≤ 1000 → -1000 ≤ (if (((nr L c i).toNat : Nat) : Int) = c then v else 0) ∧ (if (((nr L c i).toNat : Nat) : Int) = c then v else 0) ≤ 1000 := fun v hv => by split <;> omega
      have i2 := i1 g g1
      have i3 := i1 t g3
      simp (disch := omega) only [gib, pi_wIa (show a + 4 ≠ a + 3 by omega), wr_eq]
      refine ⟨_, rfl, fr_wI (fr_wI f (Or.inl rfl)) (Or.inr rfl), fun x hx => ?_⟩
      rw [nsm, nsm]
      by_cases q2 : x = (nr L c i).toNat
      · rw [pi_wIa (by omega), q2, pi_wIs, pi_wIs, if_pos (show nr L c i = ((nr L c i).toNat : Nat) by omega), if_pos (show nr L c i = ((nr L c i).toNat : Nat) by omega)]
        omega
      · have ne : ¬ nr L c i = (x : Int) := by omega
        rw [pi_wIa (by omega), pi_wIi q2, pi_wIi q2, pi_wIa (by omega), if_neg ne, if_neg ne, Int.add_zero, Int.add_zero]
        exact e x hx
  · intro n r ⟨f, e⟩
    refine ⟨r, ?_, f, e⟩
    show pl_Sc_burden_24 a c g gs t ts _ (n + 1) (4 : Nat) r = some r
    rw [pl_Sc_burden_24, if_pos (by omega)]
  · refine ⟨fr_wI (fr_wI fr_refl (Or.inl rfl)) (Or.inr rfl), fun x hx => ?_⟩
    rw [nsm, nsm]
    by_cases q2 : x = c
    · rw [q2, pi_wIa (by omega), pi_wIs, pi_wIs, if_pos rfl, if_pos rfl]
      omega
    · rw [pi_wIa (by omega), pi_wIi q2, pi_wIi q2, pi_wIa (by omega), if_neg (by omega), if_neg (by omega)]
      omega
theorem c_shareOf {x : Int} (C : CX h p q L W) (x0 : 0 ≤ x) (x1 : x ≤ 1000) : pf_Lw_shareOf q x h = some (x * W 2 / 10) := by
  have kW := C.2.2.2.1
  have e := C.2.1.1.2.2.1
  have m := mb x0 x1 kW.2.2.1.1 kW.2.2.1.2
  unfold pf_Lw_shareOf
  rw [e]
  simp (disch := omega) only [wr_eq, td_p]
theorem c_dueFor {x : Int} (C : CX h p q L W) (x0 : 0 ≤ x) (x1 : x ≤ 99) : pf_Lw_dueFor q x h = some (W 3 * x / 10) := by
  have kW := C.2.2.2.1
  have e := C.2.1.1.2.2.2.1
  have m := mb kW.2.2.2.1.1 kW.2.2.2.1.2 x0 x1
  unfold pf_Lw_dueFor
  rw [e]
  simp (disch := omega) only [wr_eq, td_p]
theorem c_bearing {x : Int} (C : CX h p q L W) (x0 : 0 ≤ x) (x1 : x ≤ 200) : pf_La_bearing p x h = some (x * x / L 2) := by
  have k := C.2.2.1.2.1
  have e := C.1.1.2.2.1
  have m := mb x0 x1 x0 x1
  have d0 : 0 ≤ x * x / L 2 := Int.ediv_nonneg m.1 (by omega)
  have d1 : x * x / L 2 ≤ x * x := Int.ediv_le_self _ m.1
  unfold pf_La_bearing
  rw [e, if_pos k.1, gnz (by omega)]
  simp (disch := omega) only [wr_eq, td_p]
theorem c_cells (C : CX h p q L W) : pf_La_cells p h = some (ce L) := by
  have z : 4 ≤ ce L ∧ ce L ≤ 36 := sz_mul C.2.2.1.1
  unfold pf_La_cells
  rw [C.1.1.1, C.1.1.2.1]
  unfold ce at *
  rw [wr_eq (by omega) (by omega)]
theorem c_isCell {c : Int} (C : CX h p q L W) : pf_La_isCell p c h = some (if 0 ≤ c ∧ c < ce L then 1 else 0) := by
  have z : 4 ≤ ce L ∧ ce L ≤ 36 := sz_mul C.2.2.1.1
  unfold pf_La_isCell
  rw [C.1.1.1, C.1.1.2.1]
  unfold ce at *
  rw [wr_eq (by omega) (by omega)]
  by_cases q1 : c < 0
  · rw [if_pos q1, if_neg (by omega)]
  · rw [if_neg q1]
    by_cases q2 : L 0 * L 1 ≤ c
    · rw [if_pos q2, if_neg (by omega)]
    · rw [if_neg q2, if_pos (by omega)]
theorem c_lower {s c : Nat} (C : CX h p q L W) (K : SC h a p q L W wt sv false S) (hW : WS L wt sv) (hs : s < NS L) (hS : S (72 + s) < 0) (hc : (c : Int) < ce L) : ∃ h', pf_Sc_lower a s c h = some h' ∧ fr (SF a) h h' ∧ SC h' a p q L W wt sv false (up1 S (72 + s) c) := by
  have kL := C.2.2.1
  have kW := C.2.2.2.1
  have z : 4 ≤ ce L ∧ ce L ≤ 36 := sz_mul kL.1
  have n6 := NS_le kL
  obtain ⟨⟨ha, ea, eb⟩, k1, k2, k3, k4, k5⟩ := K
  have f0 : fr (SF a) h (pwI h (a + 5) s c) := fr_wI fr_refl (by unfold SF; omega)
  have C1 : CX (pwI h (a + 5) s c) p q L W := CX_fr C f0 (fun b hb => by unfold SF at hb; omega)
  have hw := hW s hs
  have sb := sh_bd kW hW s hs
  have sb' : 0 ≤ wt s * W 2 / 10 ∧ wt s * W 2 / 10 ≤ 200 := sb
  have v := k4 s hs
  obtain ⟨h2, p1, p2, p3⟩ := c_burden (g := wt s) (gs := wt s * W 2 / 10) (t := sv s) (ts := sv s / 2) C1 (a := a) (by rw [pr_wI]; exact ea) ha hc (fun x hx => by
    have l := ld_bd (S := S) (wo := -1) (x := x) kL kW hW
    have r := ht_bd (S := S) (x := x) kL hW
    rw [pi_wIa (by omega), pi_wIa (by omega), (k3 x hx).1, (k3 x hx).2]
    omega) (by omega) (by omega) (by omega) (by omega)
  refine ⟨h2, ?_, fr_trans f0 (fr_mono p2 (fun b hb => by unfold SF; omega)), ⟨ha, ?_, ?_⟩, fun d hd _ => ?_, fun d hd => ?_, fun d hd => ?_, fun t ht => ?_, ?_, ?_⟩
  · unfold pf_Sc_lower
    simp (disch := omega) only [gib, Int.toNat_natCast, pi_wIa (show a + 6 ≠ a + 5 by omega), pi_wIa (show a + 7 ≠ a + 5 by omega), v.2.1, v.2.2, pr_wI, eb]
    rw [c_shareOf C1 (by omega) (by omega), bsm, td_p (by omega), wr_eq (by omega) (by omega), p1]
    rfl
  · rw [fr_r p2 (by omega), pr_wI]; exact ea
  · rw [fr_r p2 (by omega), pr_wI]; exact eb
  · rw [fr_i p2 (by omega), pi_wIa (by omega), up1_n (by omega)]; exact k1 d hd (Or.inl rfl)
  · rw [fr_i p2 (by omega), pi_wIa (by omega), up1_n (by omega)]; exact k2 d hd
  · rw [(p3 d hd).1, (p3 d hd).2, pi_wIa (by omega), pi_wIa (by omega), (k3 d hd).1, (k3 d hd).2, ld_up hs (by omega), ht_up hs, ct2_neg (by omega) hS, ct2_neg (by omega) hS, ct2_ctr kL.1 (by omega) hd (by omega) hc, ct2_ctr kL.1 (by omega) hd (by omega) hc]
    omega
  · rw [fr_i p2 (by omega), fr_i p2 (by omega), fr_i p2 (by omega)]
    by_cases e : t = s
    · rw [e, pi_wIs, up1_s, pi_wIa (by omega), pi_wIa (by omega)]
      exact ⟨rfl, v.2⟩
    · rw [pi_wIi e, up1_n (by omega), pi_wIa (by omega), pi_wIa (by omega)]
      exact k4 t ht
  · rw [fr_i p2 (by omega), pi_wIa (by omega), up1_n (by omega)]; exact k5.1
  · rw [fr_i p2 (by omega), pi_wIa (by omega), up1_n (by omega)]; exact k5.2
theorem c_lift {s : Nat} {v : Int} (C : CX h p q L W) (K : SC h a p q L W wt sv u S) (hW : WS L wt sv) (hs : s < NS L) (h0 : 0 ≤ S (72 + s)) (h1 : S (72 + s) < ce L) (hv : v < 0) : ∃ h', pf_Sc_lift a s v h = some h' ∧ fr (SF a) h h' ∧ SC h' a p q L W wt sv u (up1 S (72 + s) v) := by
  have kL := C.2.2.1
  have kW := C.2.2.2.1
  have z : 4 ≤ ce L ∧ ce L ≤ 36 := sz_mul kL.1
  have n6 := NS_le kL
  obtain ⟨⟨ha, ea, eb⟩, k1, k2, k3, k4, k5⟩ := K
  have hw := hW s hs
  have sb' : 0 ≤ wt s * W 2 / 10 ∧ wt s * W 2 / 10 ≤ 200 := sh_bd kW hW s hs
  have w := k4 s hs
  obtain ⟨h2, p1, p2, p3⟩ := c_burden (c := (S (72 + s)).toNat) (g := -(wt s)) (gs := -(wt s * W 2 / 10)) (t := -(sv s)) (ts := -(sv s / 2)) C (a := a) ea ha (by omega) (fun x hx => by
    have l := ld_bd (S := S) (wo := -1) (x := x) kL kW hW
    have r := ht_bd (S := S) (x := x) kL hW
    rw [(k3 x hx).1, (k3 x hx).2]
    omega) (by omega) (by omega) (by omega) (by omega)
  have ec : (((S (72 + s)).toNat : Nat) : Int) = S (72 + s) := by omega
  rw [ec] at p1 p3
  refine ⟨pwI h2 (a + 5) s v, ?_, fr_wI (fr_mono p2 (fun b hb => by unfold SF; omega)) (by unfold SF; omega), ⟨ha, ?_, ?_⟩, fun d hd hu => ?_, fun d hd => ?_, fun d hd => ?_, fun t ht => ?_, ?_, ?_⟩
  · unfold pf_Sc_lift
    simp (disch := omega) only [gib, Int.toNat_natCast, w.1, w.2.1, w.2.2, eb]
    rw [c_shareOf C (by omega) (by omega), bsm, td_p (by omega)]
    simp (disch := omega) only [wr_eq]
    rw [p1]
    rfl
  · rw [pr_wI, fr_r p2 (by omega)]; exact ea
  · rw [pr_wI, fr_r p2 (by omega)]; exact eb
  · rw [pi_wIa (by omega), fr_i p2 (by omega), up1_n (by omega)]
    refine k1 d hd ?_
    rcases hu with e | ⟨t, ht, e⟩
    · exact Or.inl e
    · right
      by_cases q1 : t = s
      · rw [q1, up1_s] at e; omega
      · rw [up1_n (by omega)] at e; exact ⟨t, ht, e⟩
  · rw [pi_wIa (by omega), fr_i p2 (by omega), up1_n (by omega)]; exact k2 d hd
  · rw [pi_wIa (by omega), pi_wIa (by omega), (p3 d hd).1, (p3 d hd).2, (k3 d hd).1, (k3 d hd).2, ld_up hs (by omega), ht_up hs, ct2_neg (c := v) (by omega) hv, ct2_neg (c := v) (by omega) hv, ct2_ctr kL.1 (by omega) hd h0 h1, ct2_ctr kL.1 (by omega) hd h0 h1, ctr_neg, ctr_neg]
    omega
  · by_cases e : t = s
    · rw [e, pi_wIs, up1_s, pi_wIa (by omega), pi_wIa (by omega), fr_i p2 (by omega), fr_i p2 (by omega)]
      exact ⟨rfl, w.2⟩
    · rw [pi_wIi e, up1_n (by omega), pi_wIa (by omega), pi_wIa (by omega), fr_i p2 (by omega), fr_i p2 (by omega), fr_i p2 (by omega)]
      exact k4 t ht
  · rw [pi_wIa (by omega), fr_i p2 (by omega), up1_n (by omega)]; exact k5.1
  · rw [pi_wIa (by omega), fr_i p2 (by omega), up1_n (by omega)]; exact k5.2
end Ca
