/-! a search by rows of cells: the words -/
def BI (L W : Nat → Int) (O : Int → Prop) (to : Int) (D Q : Nat → Int) (last i k : Nat) : Prop :=
  (1 ≤ last ∧ last ≤ 36 ∧ i ≤ last)
  ∧ D to.toNat = 0
  ∧ (∀ c : Nat, (c : Int) < ce L → D c = -1 ∨ (0 ≤ D c ∧ D c ≤ i + 1 ∧ wk L W O (D c).toNat c to))
  ∧ (∀ j, j < last → inr L (Q j) ∧ O (Q j) ∧ 0 ≤ D (Q j).toNat ∧ D (Q j).toNat ≤ j)
  ∧ (∀ c : Nat, (c : Int) < ce L → 0 ≤ D c → O c → ∃ j, j < last ∧ Q j = c)
  ∧ last = cnb (fun c => 0 ≤ D c ∧ O c) (ce L).toNat
  ∧ (∀ j j', j ≤ j' → j' < last → D (Q j).toNat ≤ D (Q j').toNat)
  ∧ (i < last → ∀ c : Nat, (c : Int) < ce L → D c ≤ D (Q i).toNat + 1)
  ∧ (∀ j, j < i → ∀ c : Nat, (c : Int) < ce L → st L W O c (Q j) → 0 ≤ D c ∧ D c ≤ D (Q j).toNat + 1)
  ∧ (∀ j : Nat, j < k → 0 ≤ bs L (Q i) j → ¬ ag W (bs L (Q i) j) (Q i) → 0 ≤ D (bs L (Q i) j).toNat)
section Ba
variable {L W : Nat → Int} {O : Int → Prop} {to : Int} {D Q : Nat → Int} {last i k : Nat}
theorem BI_start (kL : LK L) (hto : inr L to) (ho : O to) (h1 : ∀ c : Nat, (c : Int) < ce L → D c = if (c : Int) = to then 0 else -1) (h2 : Q 0 = to) : BI L W O to D Q 1 0 0 := by
  have z : 4 ≤ ce L ∧ ce L ≤ 36 := sz_mul kL.1
  obtain ⟨t0, t1⟩ := hto
  have et : ((to.toNat : Nat) : Int) = to := by omega
  have d0 : D to.toNat = 0 := by rw [h1 _ (by omega), if_pos et]
  refine ⟨⟨by omega, by omega, by omega⟩, d0, fun c hc => ?_, fun j hj => ?_, fun c hc hd _ => ⟨0, by omega, ?_⟩, ?_, fun j j' a b => ?_, fun _ c hc => ?_, fun j hj => by omega, fun j hj => by omega⟩
  · by_cases q : (c : Int) = to
    · right; rw [h1 c hc, if_pos q]; exact ⟨by omega, by omega, q⟩
    · left; rw [h1 c hc, if_neg q]
  · rw [show j = 0 by omega, h2, d0]; exact ⟨⟨t0, t1⟩, ho, by omega, by omega⟩
  · rw [h2]
    rw [h1 c hc] at hd
    by_cases q : (c : Int) = to
    · exact q.symm
    · rw [if_neg q] at hd; omega
  · have := cnb_add (P := fun _ => False) (Q := fun c : Nat => 0 ≤ D c ∧ O c) (c := to.toNat) (n := (ce L).toNat) (by omega) (fun y => y) (fun d hd => by
      show (0 ≤ D d ∧ O d) ↔ _
      rw [h1 d (by omega)]
      constructor
      · intro ⟨y, _⟩
        by_cases q : (d : Int) = to
        · right; omega
        · rw [if_neg q] at y; omega
      · intro y
        rcases y with y | y
        · exact y.elim
        · rw [y, et, if_pos rfl]; exact ⟨by omega, ho⟩)
    rw [this]
    have : ∀ n, cnb (fun _ => False) n = 0 := by
      intro n
      induction n with
      | zero => rfl
      | succ n ih => rcases cnb_s (P := fun _ => False) (n := n) with y | y; exact y.1.elim; rw [y.2, ih]
    rw [this]
  · rw [show j = 0 by omega, show j' = 0 by omega]; omega
  · rw [h2, d0, h1 c hc]; split <;> omega
theorem BI_keep (B : BI L W O to D Q last i k) (h : 0 ≤ bs L (Q i) k → ¬ ag W (bs L (Q i) k) (Q i) → 0 ≤ D (bs L (Q i) k).toNat) : BI L W O to D Q last i (k + 1) := by
  obtain ⟨a0, a1, a2, a3, a4, a5, a6, a7, a8, a9⟩ := B
  refine ⟨a0, a1, a2, a3, a4, a5, a6, a7, a8, fun j hj => ?_⟩
  rcases Nat.lt_or_ge j k with y | y
  · exact a9 j y
  · rw [show j = k by omega]; exact h
theorem BI_next (kL : LK L) (B : BI L W O to D Q last i 4) (hi : i < last) : BI L W O to D Q last (i + 1) 0 := by
  obtain ⟨a0, a1, a2, a3, a4, a5, a6, a7, a8, a9⟩ := B
  refine ⟨⟨a0.1, a0.2.1, by omega⟩, a1, fun c hc => ?_, a3, a4, a5, a6, fun h c hc => ?_, fun j hj c hc s => ?_, fun j hj => by omega⟩
  · rcases a2 c hc with y | y
    · exact Or.inl y
    · exact Or.inr ⟨y.1, by have := y.2.1; omega, y.2.2⟩
  · have := a7 hi c hc
    have := a6 i (i + 1) (by omega) h
    omega
  · rcases Nat.lt_or_ge j i with y | y
    · exact a8 j y c hc s
    · have e : j = i := by omega
      subst e
      obtain ⟨⟨s0, r, hr, er⟩, s1, s2⟩ := s
      have sy := be_sym kL.1 (c := c) (s := r) (by omega) hc hr (by have : bs L c r = Q j := er; unfold bs at this; omega)
      have er' : be (L 0) (L 1) c r = Q j := er
      rw [er'] at sy
      have sy' : bs L (Q j) (3 - r) = c := sy
      have hk : ((3 - r).toNat : Int) = 3 - r := by unfold s4 at hr; omega
      have g := a9 (3 - r).toNat (by unfold s4 at hr; omega)
      rw [hk, sy'] at g
      have g2 := g (by omega) s1
      rw [Int.toNat_natCast] at g2
      exact ⟨g2, a7 hi c hc⟩
theorem BI_new (kL : LK L) (B : BI L W O to D Q last i k) (hi : i < last) (hk : k < 4) (h0 : 0 ≤ bs L (Q i) k) (h1 : D (bs L (Q i) k).toNat = -1) (h2 : ¬ ag W (bs L (Q i) k) (Q i)) : inr L (bs L (Q i) k) ∧ (0 ≤ D (Q i).toNat ∧ D (Q i).toNat ≤ i) ∧ wk L W O (D (Q i).toNat + 1).toNat (bs L (Q i) k) to ∧ (∀ j, j < last → (Q j).toNat ≠ (bs L (Q i) k).toNat) ∧ to.toNat ≠ (bs L (Q i) k).toNat := by
  obtain ⟨a0, a1, a2, a3, a4, a5, a6, a7, a8, a9⟩ := B
  obtain ⟨b0, b1, b2, b3⟩ := a3 i hi
  have hin : inr L (bs L (Q i) k) := sd_in kL b0 ⟨h0, k, by unfold s4; omega, rfl⟩
  refine ⟨hin, ⟨b2, b3⟩, ?_, fun j hj e => ?_, fun e => ?_⟩
  · have w : wk L W O (D (Q i).toNat).toNat (Q i) to := by
      rcases a2 (Q i).toNat (by have := b0.1; have := b0.2; omega) with y | y
      · omega
      · have := y.2.2
        rw [show (((Q i).toNat : Nat) : Int) = Q i by have := b0.1; omega] at this
        exact this
    rw [show (D (Q i).toNat + 1).toNat = (D (Q i).toNat).toNat + 1 by omega]
    have sy := be_sym kL.1 (c := Q i) (s := k) b0.1 b0.2 (by unfold s4; omega) h0
    exact ⟨Q i, ⟨⟨b0.1, 3 - k, by unfold s4; omega, sy⟩, h2, b1⟩, w⟩
  · have := (a3 j hj).2.2.1
    rw [e] at this
    omega
  · rw [e] at a1; omega
theorem BI_set (kL : LK L) (B : BI L W O to D Q last i k) (hi : i < last) (hk : k < 4) (h0 : 0 ≤ bs L (Q i) k) (h1 : D (bs L (Q i) k).toNat = -1) (h2 : ¬ ag W (bs L (Q i) k) (Q i)) (ho : ¬ O (bs L (Q i) k)) : BI L W O to (up1 D (bs L (Q i) k).toNat (D (Q i).toNat + 1)) Q last i (k + 1) := by
  obtain ⟨n1, n2, n3, n4, n5⟩ := BI_new kL B hi hk h0 h1 h2
  obtain ⟨a0, a1, a2, a3, a4, a5, a6, a7, a8, a9⟩ := B
  have eb : (((bs L (Q i) k).toNat : Nat) : Int) = bs L (Q i) k := by omega
  refine ⟨a0, by rw [up1_n n5]; exact a1, fun c hc => ?_, fun j hj => ?_, fun c hc hd hoc => ?_, ?_, fun j j' x y => ?_, fun _ c hc => ?_, fun j hj c hc s => ?_, fun j hj g0 g1 => ?_⟩
  · by_cases q : c = (bs L (Q i) k).toNat
    · right; rw [q, up1_s, eb]; exact ⟨by omega, by omega, n3⟩
    · rw [up1_n q]; exact a2 c hc
  · rw [up1_n (n4 j hj)]; exact a3 j hj
  · by_cases q : c = (bs L (Q i) k).toNat
    · rw [q, eb] at hoc; exact absurd hoc ho
    · rw [up1_n q] at hd; exact a4 c hc hd hoc
  · rw [a5]
    refine cnb_c (fun c hc => ?_)
    by_cases q : c = (bs L (Q i) k).toNat
    · rw [q, up1_s, eb, h1]
      exact ⟨fun y => absurd y.2 ho, fun y => absurd y.2 ho⟩
    · rw [up1_n q]
  · rw [up1_n (n4 j (by omega)), up1_n (n4 j' y)]; exact a6 j j' x y
  · rw [up1_n (n4 i hi)]
    by_cases q : c = (bs L (Q i) k).toNat
    · rw [q, up1_s]; omega
    · rw [up1_n q]; exact a7 hi c hc
  · rw [up1_n (n4 j (by omega))]
    have := a8 j hj c hc s
    by_cases q : c = (bs L (Q i) k).toNat
    · rw [← q] at h1; omega
    · rw [up1_n q]; exact this
  · by_cases q : (bs L (Q i) j).toNat = (bs L (Q i) k).toNat
    · rw [q, up1_s]; omega
    · rw [up1_n q]
      rcases Nat.lt_or_ge j k with y | y
      · exact a9 j y g0 g1
      · rw [show j = k by omega] at q; exact absurd rfl q
theorem BI_push (kL : LK L) (B : BI L W O to D Q last i k) (hi : i < last) (hk : k < 4) (h0 : 0 ≤ bs L (Q i) k) (h1 : D (bs L (Q i) k).toNat = -1) (h2 : ¬ ag W (bs L (Q i) k) (Q i)) (ho : O (bs L (Q i) k)) : last < 36 ∧ BI L W O to (up1 D (bs L (Q i) k).toNat (D (Q i).toNat + 1)) (up1 Q last (bs L (Q i) k)) (last + 1) i (k + 1) := by
  have z : 4 ≤ ce L ∧ ce L ≤ 36 := sz_mul kL.1
  obtain ⟨n1, n2, n3, n4, n5⟩ := BI_new kL B hi hk h0 h1 h2
  obtain ⟨a0, a1, a2, a3, a4, a5, a6, a7, a8, a9⟩ := B
  have eb : (((bs L (Q i) k).toNat : Nat) : Int) = bs L (Q i) k := by omega
  have lt : last < 36 := by
    have := cnb_full (P := fun c : Nat => 0 ≤ D c ∧ O c) (n := (ce L).toNat) (c := (bs L (Q i) k).toNat) (by have := n1.2; omega) (fun y => by have := y.1; omega)
    omega
  have qi : up1 Q last (bs L (Q i) k) i = Q i := up1_n (by omega)
  have qj : ∀ j, j < last → up1 Q last (bs L (Q i) k) j = Q j := fun j hj => up1_n (by omega)
  have d7 := a7 hi
  refine ⟨lt, ⟨by omega, by omega, by omega⟩, by rw [up1_n n5]; exact a1, fun c hc => ?_, fun j hj => ?_, fun c hc hd hoc => ?_, ?_, fun j j' x y => ?_, fun _ c hc => ?_, fun j hj c hc s => ?_, fun j hj g0 g1 => ?_⟩
  · by_cases q : c = (bs L (Q i) k).toNat
    · right; rw [q, up1_s, eb]; exact ⟨by omega, by omega, n3⟩
    · rw [up1_n q]; exact a2 c hc
  · by_cases q : j = last
    · rw [q, up1_s, up1_s]; exact ⟨n1, ho, by omega, by omega⟩
    · rw [qj j (by omega), up1_n (n4 j (by omega))]; exact a3 j (by omega)
  · by_cases q : c = (bs L (Q i) k).toNat
    · exact ⟨last, by omega, by rw [up1_s, q, eb]⟩
    · rw [up1_n q] at hd
      obtain ⟨j, j1, j2⟩ := a4 c hc hd hoc
      exact ⟨j, by omega, by rw [qj j j1]; exact j2⟩
  · rw [a5]
    refine (cnb_add (c := (bs L (Q i) k).toNat) (by have := n1.2; omega) (fun y => by have := y.1; omega) (fun c hc => ?_)).symm
    by_cases q : c = (bs L (Q i) k).toNat
    · rw [q, up1_s, eb]
      exact ⟨fun _ => Or.inr rfl, fun _ => ⟨by omega, ho⟩⟩
    · rw [up1_n q]
      exact ⟨fun y => Or.inl y, fun y => by rcases y with y | y; exact y; exact absurd y q⟩
  · by_cases q : j' = last
    · rw [q, up1_s, up1_s]
      by_cases q2 : j = last
      · rw [q2, up1_s, up1_s]; omega
      · rw [qj j (by omega), up1_n (n4 j (by omega))]
        have b := (a3 j (by omega)).1
        have := d7 (Q j).toNat (by have := b.1; have := b.2; omega)
        omega
    · rw [qj j (by omega), qj j' (by omega), up1_n (n4 j (by omega)), up1_n (n4 j' (by omega))]
      exact a6 j j' x (by omega)
  · rw [qi, up1_n (n4 i hi)]
    by_cases q : c = (bs L (Q i) k).toNat
    · rw [q, up1_s]; omega
    · rw [up1_n q]; exact d7 c hc
  · rw [qj j (by omega)] at s
    rw [qj j (by omega), up1_n (n4 j (by omega))]
    have := a8 j hj c hc s
    by_cases q : c = (bs L (Q i) k).toNat
    · rw [← q] at h1; omega
    · rw [up1_n q]; exact this
  · rw [qi] at g0 g1 ⊢
    by_cases q : (bs L (Q i) j).toNat = (bs L (Q i) k).toNat
    · rw [q, up1_s]; omega
    · rw [up1_n q]
      rcases Nat.lt_or_ge j k with y | y
      · exact a9 j y g0 g1
      · rw [show j = k by omega] at q; exact absurd rfl q
theorem BI_end (kL : LK L) (hto : inr L to) (B : BI L W O to D Q last last 0) (c : Nat) (hc : (c : Int) < ce L) : D c = dst L W O to c := by
  obtain ⟨a0, a1, a2, a3, a4, a5, a6, a7, a8, a9⟩ := B
  have key := dst_of (W := W) (O := O) (to := to) kL (D := fun c => D c.toNat) (fun c => 0 ≤ D c.toNat) ⟨by show 0 ≤ D to.toNat; omega, a1⟩ (fun c hc hs => by
    have c0 := hc.1
    have c1 := hc.2
    refine ⟨hs, ?_⟩
    have hs : 0 ≤ D c.toNat := hs
    rcases a2 c.toNat (by omega) with y | y
    · omega
    · have := y.2.2
      rw [show ((c.toNat : Nat) : Int) = c by omega] at this
      exact this) (fun c e hc he s hs hb => by
    have c0 := hc.1
    have c1 := hc.2
    have e0 := he.1
    have e1 := he.2
    have hs : 0 ≤ D e.toNat := hs
    obtain ⟨j, j1, j2⟩ := a4 e.toNat (by omega) hs (by rw [show ((e.toNat : Nat) : Int) = e by omega]; exact s.2.2)
    rw [show ((e.toNat : Nat) : Int) = e by omega] at j2
    have r := a8 j j1 c.toNat (by omega) (by rw [j2, show ((c.toNat : Nat) : Int) = c by omega]; exact s)
    rw [j2] at r
    exact r) c ⟨by omega, hc⟩
  rw [Int.toNat_natCast] at key
  rcases a2 c hc with y | y
  · rw [y]; exact (key.2 (by omega)).symm
  · exact (key.1 y.1).symm
end Ba
