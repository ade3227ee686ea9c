/-! walks: the words -/
theorem least {P : Nat → Prop} (h : ∃ n, P n) : ∃ n, P n ∧ ∀ m, m < n → ¬ P m := by
  obtain ⟨n, hn⟩ := h
  induction n using Nat.strongRecOn with
  | ind n ih =>
    by_cases q : ∃ m, m < n ∧ P m
    · obtain ⟨m, hm, pm⟩ := q
      exact ih m hm pm
    · exact ⟨n, hn, fun m hm pm => q ⟨m, hm, pm⟩⟩
/-- how many of the first n are so -/
noncomputable def cnb (P : Nat → Prop) (n : Nat) : Nat := match n with
  | 0 => 0
  | n + 1 => cnb P n + @ite Nat (P n) (Classical.propDecidable (P n)) 1 0
theorem cnb_s {P : Nat → Prop} {n : Nat} : (P n ∧ cnb P (n + 1) = cnb P n + 1) ∨ (¬ P n ∧ cnb P (n + 1) = cnb P n) := by
  by_cases q : P n
  · left; refine ⟨q, ?_⟩; rw [cnb, if_pos q]
  · right; refine ⟨q, ?_⟩; rw [cnb, if_neg q, Nat.add_zero]
theorem cnb_le {P : Nat → Prop} : ∀ {n : Nat}, cnb P n ≤ n
  | 0 => Nat.le_refl _
  | n + 1 => by have := cnb_le (P := P) (n := n); rcases cnb_s (P := P) (n := n) with q | q <;> omega
theorem cnb_mono {P Q : Nat → Prop} : ∀ {n : Nat}, (∀ c, c < n → P c → Q c) → cnb P n ≤ cnb Q n
  | 0, _ => Nat.le_refl _
  | n + 1, h => by
    have := cnb_mono (P := P) (Q := Q) (n := n) (fun c hc => h c (by omega))
    have := h n (by omega)
    rcases cnb_s (P := P) (n := n) with ⟨q, e⟩ | ⟨q, e⟩ <;> rcases cnb_s (P := Q) (n := n) with ⟨q2, e2⟩ | ⟨q2, e2⟩
    · omega
    · exact absurd (this q) q2
    · omega
    · omega
theorem cnb_lt {P Q : Nat → Prop} {c : Nat} : ∀ {n : Nat}, (∀ c, c < n → P c → Q c) → c < n → ¬ P c → Q c → cnb P n + 1 ≤ cnb Q n
  | 0, _, h, _, _ => by omega
  | n + 1, h, hc, h1, h2 => by
    have hn := h n (by omega)
    rcases Nat.lt_or_ge c n with z | z
    · have := cnb_lt (P := P) (Q := Q) (n := n) (fun c hc => h c (by omega)) z h1 h2
      rcases cnb_s (P := P) (n := n) with ⟨q, e⟩ | ⟨q, e⟩ <;> rcases cnb_s (P := Q) (n := n) with ⟨q2, e2⟩ | ⟨q2, e2⟩
      · omega
      · exact absurd (hn q) q2
      · omega
      · omega
    · have e : c = n := by omega
      subst e
      have := cnb_mono (P := P) (Q := Q) (n := c) (fun d hd => h d (by omega))
      rcases cnb_s (P := P) (n := c) with ⟨q, e⟩ | ⟨q, e⟩
      · exact absurd q h1
      · rcases cnb_s (P := Q) (n := c) with ⟨q2, e2⟩ | ⟨q2, e2⟩
        · omega
        · exact absurd h2 q2
theorem cnb_full {P : Nat → Prop} {n c : Nat} (hc : c < n) (h : ¬ P c) : cnb P n < n := by
  have := cnb_lt (P := P) (Q := fun _ => True) (c := c) (n := n) (fun _ _ _ => trivial) hc h trivial
  have := cnb_le (P := fun _ => True) (n := n)
  omega
theorem cnb_c {P Q : Nat → Prop} {n : Nat} (h : ∀ c, c < n → (P c ↔ Q c)) : cnb P n = cnb Q n :=
  Nat.le_antisymm (cnb_mono fun c hc => (h c hc).mp) (cnb_mono fun c hc => (h c hc).mpr)
theorem cnb_add {P Q : Nat → Prop} {c : Nat} : ∀ {n : Nat}, c < n → ¬ P c → (∀ d, d < n → (Q d ↔ P d ∨ d = c)) → cnb Q n = cnb P n + 1
  | 0, h, _, _ => by omega
  | n + 1, hc, h1, h => by
    have hn := h n (by omega)
    rcases Nat.lt_or_ge c n with z | z
    · have := cnb_add (P := P) (Q := Q) z h1 (fun d hd => h d (by omega))
      rcases cnb_s (P := P) (n := n) with ⟨q, e⟩ | ⟨q, e⟩ <;> rcases cnb_s (P := Q) (n := n) with ⟨q2, e2⟩ | ⟨q2, e2⟩
      · omega
      · exact absurd (hn.mpr (Or.inl q)) q2
      · rcases hn.mp q2 with y | y
        · exact absurd y q
        · omega
      · omega
    · have e : c = n := by omega
      subst e
      have e0 : cnb Q c = cnb P c := cnb_c (fun d hd => ⟨fun y => by rcases (h d (by omega)).mp y with w | w; exact w; omega, fun y => (h d (by omega)).mpr (Or.inl y)⟩)
      rcases cnb_s (P := P) (n := c) with ⟨q, e⟩ | ⟨q, e⟩
      · exact absurd q h1
      · rcases cnb_s (P := Q) (n := c) with ⟨q2, e2⟩ | ⟨q2, e2⟩
        · omega
        · exact absurd (hn.mpr (Or.inr rfl)) q2
/-- a step from c to d is against a lane -/
def ag (W : Nat → Int) (c d : Int) : Prop := ∃ k : Nat, (k : Int) < W 4 ∧ W (6 + 2 * k) = d ∧ W (7 + 2 * k) = c
def sd (L : Nat → Int) (c d : Int) : Prop := 0 ≤ d ∧ ∃ s, s4 s ∧ bs L c s = d
def st (L W : Nat → Int) (O : Int → Prop) (c d : Int) : Prop := sd L c d ∧ ¬ ag W c d ∧ O d
def inr (L : Nat → Int) (c : Int) : Prop := 0 ≤ c ∧ c < ce L
/-- so many steps from c to d, each to a cell that is open -/
def wk (L W : Nat → Int) (O : Int → Prop) (n : Nat) (c d : Int) : Prop := match n with
  | 0 => c = d
  | n + 1 => ∃ e, st L W O c e ∧ wk L W O n e d
section Wa
variable {L W : Nat → Int} {O O' : Int → Prop} {a b c d to : Int}
theorem sd_in (kL : LK L) (hc : inr L c) (h : sd L c d) : inr L d := by
  obtain ⟨h0, s, hs, e⟩ := h
  have : bs L c s < ce L := be_hi kL.1 hc.1 hc.2
  exact ⟨h0, by omega⟩
theorem wk_in (kL : LK L) : ∀ {n : Nat} {c : Int}, inr L c → wk L W O n c d → inr L d
  | 0, c, hc, h => by have e : c = d := h; rw [← e]; exact hc
  | n + 1, c, hc, h => by
    obtain ⟨e, h1, h2⟩ := h
    exact wk_in kL (sd_in kL hc h1.1) h2
theorem wk_snoc : ∀ {n : Nat} {c : Int}, wk L W O n c d → st L W O d b → wk L W O (n + 1) c b
  | 0, c, h, g => by have e : c = d := h; rw [e]; exact ⟨b, g, rfl⟩
  | n + 1, c, ⟨e, h1, h2⟩, g => ⟨e, h1, wk_snoc h2 g⟩
theorem wk_last : ∀ {n : Nat} {c : Int}, wk L W O (n + 1) c b → ∃ d, wk L W O n c d ∧ st L W O d b
  | 0, c, ⟨e, h1, h2⟩ => by have y : e = b := h2; rw [y] at h1; exact ⟨c, rfl, h1⟩
  | n + 1, c, ⟨e, h1, h2⟩ => by
    obtain ⟨d, h3, h4⟩ := wk_last h2
    exact ⟨d, ⟨e, h1, h3⟩, h4⟩
theorem wk_app : ∀ {m n : Nat} {c : Int}, wk L W O m c d → wk L W O n d b → wk L W O (m + n) c b
  | 0, n, c, h, g => by have e : c = d := h; rw [e, Nat.zero_add]; exact g
  | m + 1, n, c, ⟨e, h1, h2⟩, g => by
    rw [show m + 1 + n = (m + n) + 1 by omega]
    exact ⟨e, h1, wk_app h2 g⟩
theorem wk_open : ∀ {n : Nat} {c : Int}, wk L W O (n + 1) c b → O b
  | 0, c, ⟨e, h1, h2⟩ => by have y : e = b := h2; rw [y] at h1; exact h1.2.2
  | n + 1, c, ⟨e, h1, h2⟩ => wk_open h2
theorem wk_mono (kL : LK L) (h : ∀ e, inr L e → O e → O' e) : ∀ {n : Nat} {c : Int}, inr L c → wk L W O n c d → wk L W O' n c d
  | 0, c, _, g => g
  | n + 1, c, hc, ⟨e, h1, h2⟩ => ⟨e, ⟨h1.1, h1.2.1, h e (sd_in kL hc h1.1) h1.2.2⟩, wk_mono kL h (sd_in kL hc h1.1) h2⟩
/-- a walk of n steps, none with fewer: of each number of steps up to n there is a cell -/
theorem wk_less : ∀ {n : Nat} {c : Int}, wk L W O n c d → (∀ m, m < n → ¬ wk L W O m c d) → inr L c → LK L → ∀ j, j ≤ n → ∃ e, inr L e ∧ wk L W O j e d ∧ ∀ m, m < j → ¬ wk L W O m e d
  | 0, c, h, g, hc, kL, j, hj => ⟨c, hc, by rw [show j = 0 by omega]; exact h, fun m hm => by omega⟩
  | n + 1, c, h, g, hc, kL, j, hj => by
    by_cases q : j = n + 1
    · rw [q]; exact ⟨c, hc, h, g⟩
    · obtain ⟨e, h1, h2⟩ := h
      exact wk_less h2 (fun m hm y => g (m + 1) (by omega) ⟨e, h1, y⟩) (sd_in kL hc h1.1) kL j (by omega)
theorem wk_short (kL : LK L) {n : Nat} (hc : inr L c) (h : wk L W O n c d) : ∃ m, m ≤ 35 ∧ wk L W O m c d ∧ ∀ j, j < m → ¬ wk L W O j c d := by
  obtain ⟨m, hm, hl⟩ := least (P := fun n => wk L W O n c d) ⟨n, h⟩
  refine ⟨m, ?_, hm, hl⟩
  have z : 4 ≤ ce L ∧ ce L ≤ 36 := sz_mul kL.1
  have l := wk_less hm hl hc kL
  have : ∀ j, j ≤ m → j + 1 ≤ cnb (fun e => ∃ i, i ≤ j ∧ wk L W O i e d) 36 := by
    intro j
    induction j with
    | zero =>
      intro _
      obtain ⟨e, h1, h2, h3⟩ := l 0 (by omega)
      have := cnb_lt (P := fun _ => False) (Q := fun e => ∃ i, i ≤ 0 ∧ wk L W O i e d) (c := e.toNat) (n := 36) (fun _ _ y => y.elim) (by have := h1.1; have := h1.2; omega) (fun y => y) ⟨0, by omega, by rw [show ((e.toNat : Nat) : Int) = e by have := h1.1; omega]; exact h2⟩
      omega
    | succ j ih =>
      intro hj
      have i0 := ih (by omega)
      obtain ⟨e, h1, h2, h3⟩ := l (j + 1) hj
      have ee : ((e.toNat : Nat) : Int) = e := by have := h1.1; omega
      have := cnb_lt (P := fun e => ∃ i, i ≤ j ∧ wk L W O i e d) (Q := fun e => ∃ i, i ≤ j + 1 ∧ wk L W O i e d) (c := e.toNat) (n := 36) (fun _ _ ⟨i, y1, y2⟩ => ⟨i, by omega, y2⟩) (by have := h1.1; have := h1.2; omega) (fun ⟨i, y1, y2⟩ => by rw [ee] at y2; exact h3 i (by omega) y2) ⟨j + 1, by omega, by rw [ee]; exact h2⟩
      omega
  have q := this m (Nat.le_refl _)
  have := cnb_le (P := fun e : Nat => ∃ i, i ≤ m ∧ wk L W O i e d) (n := 36)
  omega
/-- the fewest steps, -1 without a walk -/
noncomputable def dst (L W : Nat → Int) (O : Int → Prop) (to c : Int) : Int := @dite Int (∃ n, wk L W O n c to) (Classical.propDecidable _) (fun h => ((Classical.choose (least h) : Nat) : Int)) (fun _ => -1)
theorem dst_ex (h : ∃ n, wk L W O n c to) : ∃ m : Nat, dst L W O to c = m ∧ wk L W O m c to ∧ ∀ j, j < m → ¬ wk L W O j c to := by
  refine ⟨Classical.choose (least h), ?_, (Classical.choose_spec (least h)).1, (Classical.choose_spec (least h)).2⟩
  unfold dst
  rw [dif_pos h]
theorem dst_no (h : ∀ n, ¬ wk L W O n c to) : dst L W O to c = -1 := by
  unfold dst
  rw [dif_neg (fun ⟨n, y⟩ => h n y)]
theorem dst_un {v : Nat} (h : wk L W O v c to) (g : ∀ j, j < v → ¬ wk L W O j c to) : dst L W O to c = v := by
  obtain ⟨m, e, h1, h2⟩ := dst_ex ⟨v, h⟩
  rcases Nat.lt_trichotomy m v with y | y | y
  · exact absurd h1 (g m y)
  · rw [e, y]
  · exact absurd h (h2 v y)
theorem dst_ge : 0 ≤ dst L W O to c ↔ ∃ n, wk L W O n c to := by
  constructor
  · intro h
    by_cases q : ∃ n, wk L W O n c to
    · exact q
    · have := dst_no (L := L) (W := W) (O := O) (c := c) (to := to) (fun n y => q ⟨n, y⟩)
      omega
  · intro h
    obtain ⟨m, e, -⟩ := dst_ex h
    omega
theorem dst_lo : -1 ≤ dst L W O to c := by
  by_cases q : ∃ n, wk L W O n c to
  · have := dst_ge.mpr q; omega
  · rw [dst_no (fun n y => q ⟨n, y⟩)]; omega
theorem dst_hi (kL : LK L) (hc : inr L c) : dst L W O to c ≤ 35 := by
  by_cases q : ∃ n, wk L W O n c to
  · obtain ⟨n, hn⟩ := q
    obtain ⟨m, h1, h2, h3⟩ := wk_short kL hc hn
    rw [dst_un h2 h3]; omega
  · rw [dst_no (fun n y => q ⟨n, y⟩)]; omega
theorem dst_to : dst L W O to to = 0 := dst_un (v := 0) rfl (fun j hj => by omega)
theorem dst_z (h : dst L W O to c = 0) : c = to := by
  obtain ⟨m, e, h1, h2⟩ := dst_ex (dst_ge.mp (by omega : 0 ≤ dst L W O to c))
  rw [show m = 0 by omega] at h1
  exact h1
theorem dst_shut (h : ¬ O to) (hc : c ≠ to) : dst L W O to c = -1 := dst_no (fun n y => by
  cases n with
  | zero => exact hc y
  | succ n => exact h (wk_open y))
theorem dst_of (kL : LK L) {D : Int → Int} (set : Int → Prop) (h0 : set to ∧ D to = 0) (sn : ∀ c, inr L c → set c → 0 ≤ D c ∧ wk L W O (D c).toNat c to) (rl : ∀ c e, inr L c → inr L e → st L W O c e → set e → D e ≤ 35 → set c ∧ D c ≤ D e + 1) (c : Int) (hc : inr L c) : (set c → dst L W O to c = D c) ∧ (¬ set c → dst L W O to c = -1) := by
  have key : ∀ n c, n ≤ 35 → inr L c → wk L W O n c to → set c ∧ D c ≤ n := by
    intro n
    induction n with
    | zero => intro c _ hc h; have e : c = to := h; rw [e]; exact ⟨h0.1, by rw [h0.2]; omega⟩
    | succ n ih =>
      intro c hn hc ⟨e, h1, h2⟩
      have he := sd_in kL hc h1.1
      obtain ⟨i1, i2⟩ := ih e (by omega) he h2
      obtain ⟨r1, r2⟩ := rl c e hc he h1 i1 (by omega)
      exact ⟨r1, by omega⟩
  constructor
  · intro hs
    obtain ⟨s1, s2⟩ := sn c hc hs
    obtain ⟨m, m1, m2, m3⟩ := wk_short kL hc s2
    obtain ⟨-, y⟩ := key m c m1 hc m2
    rw [dst_un m2 m3]
    rcases Nat.lt_or_ge (D c).toNat m with w | w
    · exact absurd s2 (m3 _ w)
    · omega
  · intro hs
    refine dst_no (fun n y => ?_)
    obtain ⟨m, m1, m2, m3⟩ := wk_short kL hc y
    exact hs (key m c m1 hc m2).1
theorem dst_mono (kL : LK L) (h : ∀ e, inr L e → (O e ↔ O' e)) (hc : inr L c) : dst L W O to c = dst L W O' to c := by
  by_cases q : ∃ n, wk L W O n c to
  · obtain ⟨m, e, h1, h2⟩ := dst_ex q
    rw [e, dst_un (wk_mono kL (fun e he y => (h e he).mp y) hc h1) (fun j hj y => h2 j hj (wk_mono kL (fun e he y => (h e he).mpr y) hc y))]
  · rw [dst_no (fun n y => q ⟨n, y⟩), dst_no (fun n y => q ⟨n, wk_mono kL (fun e he y => (h e he).mpr y) hc y⟩)]
/-- the next cell of the short way -/
def ngd (L W : Nat → Int) (O : Int → Prop) (to c k : Int) : Prop := 0 ≤ bs L c k ∧ O (bs L c k) ∧ ¬ ag W c (bs L c k) ∧ dst L W O to (bs L c k) = dst L W O to c - 1
noncomputable def cif {α : Type} (p : Prop) (x y : α) : α := @ite α p (Classical.propDecidable p) x y
theorem cif_t {α : Type} {p : Prop} {x y : α} (h : p) : cif p x y = x := if_pos h
theorem cif_f {α : Type} {p : Prop} {x y : α} (h : ¬ p) : cif p x y = y := if_neg h
noncomputable def nxt (L W : Nat → Int) (O : Int → Prop) (to c : Int) : Int := cif (ngd L W O to c 0) (bs L c 0) (cif (ngd L W O to c 1) (bs L c 1) (cif (ngd L W O to c 2) (bs L c 2) (cif (ngd L W O to c 3) (bs L c 3) c)))
noncomputable def pth (L W : Nat → Int) (O : Int → Prop) (to c : Int) (i : Nat) : Int := match i with
  | 0 => c
  | i + 1 => nxt L W O to (pth L W O to c i)
theorem ngd_ex (h : 0 < dst L W O to c) : ∃ k, s4 k ∧ ngd L W O to c k := by
  obtain ⟨m, e, h1, h2⟩ := dst_ex (dst_ge.mp (by omega : 0 ≤ dst L W O to c))
  obtain ⟨n, rfl⟩ : ∃ n, m = n + 1 := ⟨m - 1, by omega⟩
  obtain ⟨f, h3, h4⟩ := h1
  obtain ⟨s0, s, hs, es⟩ := h3.1
  refine ⟨s, hs, by rw [es]; exact s0, by rw [es]; exact h3.2.2, by rw [es]; exact h3.2.1, ?_⟩
  rw [es, e, dst_un h4 (fun j hj y => h2 (j + 1) (by omega) ⟨f, h3, y⟩)]
  omega
theorem nxt_k (h : 0 < dst L W O to c) : ∃ k, s4 k ∧ ngd L W O to c k ∧ nxt L W O to c = bs L c k := by
  obtain ⟨k, hk, hn⟩ := ngd_ex h
  unfold nxt
  by_cases q0 : ngd L W O to c 0
  · exact ⟨0, Or.inl rfl, q0, cif_t q0⟩
  · rw [cif_f q0]
    by_cases q1 : ngd L W O to c 1
    · exact ⟨1, Or.inr (Or.inl rfl), q1, cif_t q1⟩
    · rw [cif_f q1]
      by_cases q2 : ngd L W O to c 2
      · exact ⟨2, Or.inr (Or.inr (Or.inl rfl)), q2, cif_t q2⟩
      · rw [cif_f q2]
        have q3 : ngd L W O to c 3 := by
          rcases hk with rfl | rfl | rfl | rfl
          · exact absurd hn q0
          · exact absurd hn q1
          · exact absurd hn q2
          · exact hn
        exact ⟨3, Or.inr (Or.inr (Or.inr rfl)), q3, cif_t q3⟩
theorem nxt_st (kL : LK L) (hc : inr L c) (h : 0 < dst L W O to c) : inr L (nxt L W O to c) ∧ st L W O c (nxt L W O to c) ∧ dst L W O to (nxt L W O to c) = dst L W O to c - 1 := by
  obtain ⟨k, hk, hn, e⟩ := nxt_k h
  have s : sd L c (bs L c k) := ⟨hn.1, k, hk, rfl⟩
  rw [e]
  exact ⟨sd_in kL hc s, ⟨s, hn.2.2.1, hn.2.1⟩, hn.2.2.2⟩
theorem pth_in (kL : LK L) (hc : inr L c) : ∀ {i : Nat}, (i : Int) ≤ dst L W O to c → inr L (pth L W O to c i) ∧ dst L W O to (pth L W O to c i) = dst L W O to c - i
  | 0, h => ⟨hc, by rw [pth]; omega⟩
  | i + 1, h => by
    obtain ⟨h1, h2⟩ := pth_in kL hc (i := i) (by omega)
    obtain ⟨h3, h4, h5⟩ := nxt_st kL h1 (to := to) (W := W) (O := O) (by omega)
    rw [pth]
    exact ⟨h3, by rw [h5, h2]; omega⟩
end Wa
