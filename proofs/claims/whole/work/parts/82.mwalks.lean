/-! the reference measures ways -/
/-- a walk with its cost -/
def cwk (L : Nat → Int) (O : Int → Prop) (by_ : Int → Int → Int) (n : Nat) (k c d : Int) : Prop := match n with
  | 0 => c = d ∧ k = 0
  | n + 1 => ∃ e, sd L c e ∧ O e ∧ cwk L O by_ n (k - by_ c e) e d
/-- a cell that a load may enter -/
def opn (L W S wt : Nat → Int) (tk wo load : Int) (X : Int → Prop) (c : Int) : Prop := ¬ X c ∧ (∀ s, s < NS L → S (72 + s) ≠ c) ∧ W 0 ≤ S c.toNat + tk ∧ load + ld L W S wt wo c ≤ br L S tk c
def no0 : Int → Prop := fun _ => False
noncomputable def byM (W : Nat → Int) (each c e : Int) : Int := if each = 0 then cif (ag W c e) 1000000 1 else cif (ag W c e) 1 0
def sm (D : Nat → Int) (n : Nat) : Nat := match n with
  | 0 => 0
  | n + 1 => sm D n + (D n).toNat
theorem sm_up {D : Nat → Int} {c : Nat} {v : Int} (h0 : 0 ≤ v) (h1 : v < D c) : ∀ {n : Nat}, c < n → sm (up1 D c v) n + 1 ≤ sm D n
  | 0, h => by omega
  | n + 1, h => by
    rw [sm, sm]
    rcases Nat.lt_or_ge c n with z | z
    · have := sm_up (D := D) h0 h1 z
      rw [up1_n (by omega)]
      omega
    · have e : c = n := by omega
      subst e
      have : ∀ m, m ≤ c → sm (up1 D c v) m = sm D m := by
        intro m
        induction m with
        | zero => intro _; rfl
        | succ m ih => intro hm; rw [sm, sm, ih (by omega), up1_n (by omega)]
      rw [this c (Nat.le_refl _), up1_s]
      omega
theorem sm_bd {D : Nat → Int} : ∀ {n : Nat}, (∀ c, c < n → D c ≤ 1000000) → sm D n ≤ n * 1000000
  | 0, _ => Nat.le_refl _
  | n + 1, h => by
    have := sm_bd (D := D) (n := n) (fun c hc => h c (by omega))
    have := h n (by omega)
    rw [sm]
    omega
theorem byM_bd {W : Nat → Int} {each c e : Int} : 0 ≤ byM W each c e ∧ byM W each c e ≤ 1000000 := by
  unfold byM
  by_cases q : ag W c e
  · rw [cif_t q, cif_t q]; split <;> omega
  · rw [cif_f q, cif_f q]; split <;> omega
theorem cwk_0 {L W : Nat → Int} {O : Int → Prop} {each d : Int} : ∀ {n : Nat} {k c : Int}, cwk L O (byM W each) n k c d → 0 ≤ k
  | 0, k, c, h => by have := h.2; omega
  | n + 1, k, c, ⟨e, h1, h2, h3⟩ => by
    have := cwk_0 h3
    have := byM_bd (W := W) (each := each) (c := c) (e := e)
    omega
theorem cwk_wk {L W : Nat → Int} {O : Int → Prop} {d : Int} : ∀ {n : Nat} {k c : Int}, cwk L O (byM W 0) n k c d → k < 1000000 → k = n ∧ wk L W O n c d
  | 0, k, c, h, _ => ⟨h.2, h.1⟩
  | n + 1, k, c, ⟨e, h1, h2, h3⟩, hk => by
    have h0 := cwk_0 h3
    have eb : byM W 0 c e = cif (ag W c e) 1000000 1 := if_pos rfl
    by_cases q : ag W c e
    · rw [eb, cif_t q] at h0; omega
    · rw [eb, cif_f q] at h3 h0
      obtain ⟨i1, i2⟩ := cwk_wk h3 (by omega)
      exact ⟨by omega, e, ⟨h1, q, h2⟩, i2⟩
section Mg
variable {h : pH} {l w : Nat} {L W wt sv : Nat → Int} {tk : Int} {d : Nat}
theorem MS_c {h' : pH} (M : MS h l w L W) (e1 : ∀ j, 14 ≤ j → j ≤ 19 → pi h' 417 j = pi h 417 j) (e2 : pi h' 418 = pi h 418) : MS h' l w L W := by
  unfold MS at *
  rw [e2, e1 14 (by omega) (by omega), e1 15 (by omega) (by omega)]
  exact M
theorem MC_c {h' : pH} (M : MC h l w L W wt sv tk) (e1 : ∀ j, 14 ≤ j → j ≤ 19 → pi h' 417 j = pi h 417 j) (e2 : pi h' 418 = pi h 418) : MC h' l w L W wt sv tk := by
  obtain ⟨M0, m1, m2, m3, m4, m5⟩ := M
  have g := e1 16 (by omega) (by omega)
  have g1 := e1 17 (by omega) (by omega)
  have g2 := e1 18 (by omega) (by omega)
  have g3 := e1 19 (by omega) (by omega)
  refine ⟨MS_c M0 e1 e2, ?_, ?_, by rw [g3]; exact m3, by rw [g2]; exact m4, m5⟩
  · intro s hs
    unfold wtM
    rw [g1, g2]
    exact m1 s hs
  · intro s hs
    unfold svM
    rw [g]
    exact m2 s hs
theorem m_against {a b : Int} (M : MS h l w L W) : ∃ n, pf_M_against a b h = some n ∧ 0 ≤ n ∧ n ≤ 12 ∧ (n = 0 ↔ ¬ ag W a b) := by
  obtain ⟨e1, e2, hl, hw, hL, hW, kL, kW⟩ := M
  have k4 := kW.2.2.2.2.1
  unfold pf_M_against
  refine lpf (F := fun n (i : Nat) (x : Int) => pl_M_against_5 a b h (fun x3 => some x3) n x i) (Q := fun r => ∃ n, r = some n ∧ 0 ≤ n ∧ n ≤ 12 ∧ (n = 0 ↔ ¬ ag W a b)) (W 4).toNat (fun i x => 0 ≤ x ∧ x ≤ i ∧ (x = 0 ↔ ¬ ∃ k : Nat, k < i ∧ W (6 + 2 * k) = b ∧ W (7 + 2 * k) = a)) ?_ ?_ fu_ 0 0 (by omega) (by unfold fu_; omega) ⟨by omega, by omega, fun _ ⟨k, y, _⟩ => by omega, fun _ => rfl⟩
  · intro n i x hi ⟨x0, x1, xi⟩
    right
    show ∃ t', pl_M_against_5 a b h _ (n + 1) x i = pl_M_against_5 a b h _ n t' (i + 1 : Nat) ∧ _
    have t1 : (6 + 2 * (i : Int)).toNat = 6 + 2 * i := by omega
    have t2 : (6 + 2 * (i : Int) + 1).toNat = 7 + 2 * i := by omega
    rw [pl_M_against_5]
    unfold pj_M_against_71
    simp (disch := omega) only [e2, wr_eq, tn_l, tn_l2, tn_l3, gib, hW, Int.reduceToNat, t1, t2]
    rw [if_neg (by omega)]
    by_cases q : W (6 + 2 * i) = b ∧ W (7 + 2 * i) = a
    · rw [if_pos q.1, if_pos q.2]
      refine ⟨x + 1, rfl, by omega, by omega, fun y => by omega, fun y => absurd ⟨i, by omega, q⟩ y⟩
    · have hx : (x + 0 = 0 ↔ ¬ ∃ k : Nat, k < i + 1 ∧ W (6 + 2 * k) = b ∧ W (7 + 2 * k) = a) := by
        rw [Int.add_zero, xi]
        constructor
        · intro y ⟨k, y1, y2⟩
          rcases Nat.lt_or_ge k i with z | z
          · exact y ⟨k, z, y2⟩
          · rw [show k = i by omega] at y2; exact q y2
        · intro y ⟨k, y1, y2⟩
          exact y ⟨k, by omega, y2⟩
      by_cases q1 : W (6 + 2 * i) = b
      · rw [if_pos q1, if_neg (fun y => q ⟨q1, y⟩)]
        exact ⟨x + 0, rfl, by omega, by omega, hx⟩
      · rw [if_neg q1]
        exact ⟨x + 0, rfl, by omega, by omega, hx⟩
  · intro n x ⟨x0, x1, xi⟩
    refine ⟨x, ?_, x0, by omega, ?_⟩
    · show pl_M_against_5 a b h _ (n + 1) x ((W 4).toNat : Nat) = _
      rw [pl_M_against_5]
      simp (disch := omega) only [e2, wr_eq, tn_l, gib, hW, Int.reduceToNat]
      rw [if_pos (by omega)]
    · rw [xi]
      unfold ag
      constructor
      · intro y ⟨k, y1, y2⟩; exact y ⟨k, by omega, y2⟩
      · intro y ⟨k, y1, y2⟩; exact y ⟨k, by omega, y2⟩
theorem m_enters {c : Int} {X : Int → Prop} (M : MC h l w L W wt sv tk) (V : SV L (pi h 422) d) (hc : inr L c) (hX : pi h 424 c.toNat = 0 ↔ ¬ X c) (l0 : 0 ≤ pi h 417 23 ∧ pi h 417 23 ≤ 100000) : pf_M_enters c h = some (cif (opn L W (pi h 422) wt tk (pi h 417 24) (pi h 417 23) X c) 1 0) := by
  have kL := M.1.2.2.2.2.2.2.1
  have kW := M.1.2.2.2.2.2.2.2
  have z : 4 ≤ ce L ∧ ce L ≤ 36 := sz_mul kL.1
  have hcc := hc
  obtain ⟨c0, c1⟩ := hc
  have rt := V.1 c.toNat (by omega)
  have lb := ld_bd (S := pi h 422) (wo := pi h 417 24) (x := c) kL kW (MC_WS M)
  have tkb := M.2.2.2.2.2
  unfold pf_M_enters
  rw [gib c0 (by omega)]
  by_cases qX : pi h 424 c.toNat = 0
  · rw [if_pos qX, m_shopIn M.1, bsm]
    have r := shI_r (S := pi h 422) (c := c) (n := NS L)
    have en : (L 4).toNat = NS L := rfl
    rw [en]
    by_cases q1 : 0 ≤ shI (pi h 422) c (NS L)
    · rw [if_pos q1, cif_f (fun y => y.2.1 _ (by omega) (shI_at q1))]
    · rw [if_neg q1]
      have no := shI_no (S := pi h 422) (c := c) (n := NS L) (by omega)
      have e0 := M.1.2.2.2.2.2.1 0 (by omega)
      have e2 := M.1.2.1
      have e4 := M.2.2.2.1
      have hw := M.1.2.2.2.1
      rw [e2, e4]
      simp (disch := omega) only [wr_eq, tn_l, gib, Int.reduceToNat, e0]
      by_cases q2 : pi h 422 c.toNat + tk < W 0
      · rw [if_pos q2, cif_f (fun y => by have := y.2.2.1; omega)]
      · rw [if_neg q2, m_bears M c0 (by omega) rt, bsm, m_loadOf M V.2.2.2.1 c0 c1, bsm, wr_eq (by omega) (by omega)]
        by_cases q3 : br L (pi h 422) tk c < pi h 417 23 + ld L W (pi h 422) wt (pi h 417 24) c
        · rw [if_pos q3, cif_f (fun y => by have := y.2.2.2; omega)]
        · rw [if_neg q3, cif_t ⟨hX.mp qX, no, by omega, by omega⟩]
  · rw [if_neg qX, cif_f (fun y => qX (hX.mpr y.1))]
/-- the reference's rows behind measures -/
def MJ (h : pH) (L : Nat → Int) (O : Int → Prop) (by_ : Int → Int → Int) (to : Int) : Prop :=
  pi h 425 to.toNat = 0 ∧ (∀ c : Nat, (c : Int) < ce L → 0 ≤ pi h 425 c ∧ pi h 425 c ≤ 1000000) ∧ (∀ c : Nat, (c : Int) < ce L → pi h 425 c < 1000000 → ∃ n, cwk L O by_ n (pi h 425 c) c to)
def MO (h : pH) (L : Nat → Int) (O : Int → Prop) : Prop := ∀ c : Nat, (c : Int) < ce L → (O c → pi h 426 c = 1) ∧ (¬ O c → pi h 426 c = 0)
def rlx (D : Nat → Int) (L : Nat → Int) (O : Int → Prop) (by_ : Int → Int → Int) (c : Nat) (k : Int) : Prop := 0 ≤ bs L c k → O (bs L c k) → D (bs L c k).toNat < 1000000 → D c ≤ D (bs L c k).toNat + by_ c (bs L c k)
/-- within one round over all cells: behind cell c's first k sides -/
def MP (h : pH) (L : Nat → Int) (O : Int → Prop) (by_ : Int → Int → Int) (to : Int) (D0 : Nat → Int) (x : Int) (c k : Nat) : Prop :=
  MJ h L O by_ to ∧ ((x = 1 ∧ sm (pi h 425) (ce L).toNat + 1 ≤ sm D0 (ce L).toNat) ∨ (x = 0 ∧ pi h 425 = D0 ∧ (∀ a j : Nat, a < c → j < 4 → rlx D0 L O by_ a j) ∧ (∀ j : Nat, j < k → rlx D0 L O by_ c j)))
theorem m_ms_side {to load mv each : Int} {O : Int → Prop} {D0 : Nat → Int} {K : Int → Int → pH → Option pH} {x : Int} {c : Nat} (M : MS h l w L W) (hO : MO h L O) (hto : inr L to) (hc : (c : Int) < ce L) (he : each = 0 ∨ each = 1) (P : MP h L O (byM W each) to D0 x c 0) : ∃ x' h', pl_M_measures_91 to load mv each K fu_ x c 0 h = K x' c h' ∧ fr (fun b => b = 425) h h' ∧ MP h' L O (byM W each) to D0 x' (c + 1) 0 := by
  have kL := M.2.2.2.2.2.2.1
  have z : 4 ≤ ce L ∧ ce L ≤ 36 := sz_mul kL.1
  have hm := M
  obtain ⟨e1, e2, hl, hw, hL, hW, -, kW⟩ := M
  refine lpf (F := fun n (k : Nat) (t : Int × pH) => pl_M_measures_91 to load mv each K n t.1 c k t.2) (Q := fun r => ∃ x' h', r = K x' c h' ∧ fr (fun b => b = 425) h h' ∧ MP h' L O (byM W each) to D0 x' (c + 1) 0) 4 (fun k t => fr (fun b => b = 425) h t.2 ∧ MP t.2 L O (byM W each) to D0 t.1 c k) ?_ ?_ fu_ 0 (x, h) (by omega) (by unfold fu_; omega) ⟨fr_refl, P⟩
  · intro n k t hk ⟨f, P⟩
    right
    obtain ⟨x, t⟩ := t
    show ∃ t' : Int × pH, pl_M_measures_91 to load mv each K (n + 1) x c k t = pl_M_measures_91 to load mv each K n t'.1 c (k + 1 : Nat) t'.2 ∧ _
    have f : fr (fun b => b = 425) h t := f
    have P : MP t L O (byM W each) to D0 x c k := P
    have M1 : MS t l w L W := MS_c hm (fun j _ _ => fr_i f (by decide)) (fr_fi f (by decide))
    have b0 : -1 ≤ bs L c k ∧ bs L c k < ce L := ⟨be_lo kL.1 (by omega) hc, be_hi kL.1 (by omega) hc⟩
    have stay : (∀ D0' : Nat → Int, pi t 425 = D0' → rlx D0' L O (byM W each) c k) → MP t L O (byM W each) to D0 x c (k + 1) := by
      intro r
      refine ⟨P.1, ?_⟩
      rcases P.2 with y | ⟨y1, y2, y3, y4⟩
      · exact Or.inl y
      · refine Or.inr ⟨y1, y2, y3, fun j hj => ?_⟩
        rcases Nat.lt_or_ge j k with v | v
        · exact y4 j v
        · rw [show j = k by omega]; exact r D0 y2
    have hl6 : l ≤ 6000 := by omega
    rw [pl_M_measures_91, if_neg (by omega), M1.1, m_beside hl6 M1.2.2.2.2.1 kL.1 (by omega) (by omega), bsm, wr_eq (by omega) (by omega)]
    by_cases q1 : bs L c k < 0
    · rw [if_pos q1]
      exact ⟨(x, t), rfl, f, stay (fun D0' _ y => by omega)⟩
    · rw [if_neg q1]
      have ho : (O (bs L c k) → pi t 426 (bs L c k).toNat = 1) ∧ (¬ O (bs L c k) → pi t 426 (bs L c k).toNat = 0) := by
        have := hO (bs L c k).toNat (by omega)
        rw [show (((bs L c k).toNat : Nat) : Int) = bs L c k by omega] at this
        rw [fr_i f (by decide)]
        exact this
      simp (disch := omega) only [gib]
      by_cases q2 : O (bs L c k)
      · rw [if_neg (by have := ho.1 q2; omega)]
        by_cases q3 : pi t 425 (bs L c k).toNat < 1000000
        · rw [if_pos q3]
          have bb := P.1.2.1 (bs L c k).toNat (by omega)
          have bc := P.1.2.1 c hc
          have by0 := byM_bd (W := W) (each := each) (c := c) (e := bs L c k)
          have main : ∀ v, v = byM W each c (bs L c k) → ∃ t' : Int × pH, pj_M_measures_182 to load mv each (pl_M_measures_91 to load mv each K n) K x c k (bs L c k) v t = pl_M_measures_91 to load mv each K n t'.1 c (k + 1 : Nat) t'.2 ∧ fr (fun b => b = 425) h t'.2 ∧ MP t'.2 L O (byM W each) to D0 t'.1 c (k + 1) := by
            intro v ev
            unfold pj_M_measures_182
            simp (disch := omega) only [gib, wr_eq, Int.toNat_natCast]
            by_cases q4 : pi t 425 (bs L c k).toNat + v < pi t 425 c
            · rw [if_pos q4]
              refine ⟨(1, pwI t 425 c (pi t 425 (bs L c k).toNat + v)), rfl, fr_wI f rfl, ⟨?_, ?_, ?_⟩, Or.inl ⟨rfl, ?_⟩⟩
              all_goals show _
              all_goals simp only []
              · by_cases q5 : to.toNat = c
                · have := P.1.1
                  rw [q5] at this
                  omega
                · rw [pi_wIi q5]; exact P.1.1
              · intro a ha
                by_cases q5 : a = c
                · rw [q5, pi_wIs]; omega
                · rw [pi_wIi q5]; exact P.1.2.1 a ha
              · intro a ha hlt
                by_cases q5 : a = c
                · rw [q5, pi_wIs]
                  obtain ⟨m, hm2⟩ := P.1.2.2 (bs L c k).toNat (by omega) q3
                  rw [show (((bs L c k).toNat : Nat) : Int) = bs L c k by omega] at hm2
                  refine ⟨m + 1, bs L c k, ⟨by omega, k, by unfold s4; omega, rfl⟩, q2, ?_⟩
                  rw [ev, show pi t 425 (bs L c k).toNat + byM W each c (bs L c k) - byM W each c (bs L c k) = pi t 425 (bs L c k).toNat by omega]
                  exact hm2
                · rw [pi_wIi q5] at hlt ⊢; exact P.1.2.2 a ha hlt
              · have s := sm_up (D := pi t 425) (c := c) (v := pi t 425 (bs L c k).toNat + v) (by omega) q4 (n := (ce L).toNat) (by omega)
                rw [up1_pi]
                rcases P.2 with y | y
                · have := y.2; omega
                · rw [← y.2.1]; omega
            · rw [if_neg q4]
              refine ⟨(x, t), rfl, f, stay (fun D0' e0 _ _ _ => ?_)⟩
              rw [← e0, ← ev]; omega
          obtain ⟨m, a1, a2, a3, a4⟩ := m_against (a := c) (b := bs L c k) M1
          rcases he with he | he
          · rw [if_pos he, a1, bsm]
            have eb : byM W each c (bs L c k) = cif (ag W c (bs L c k)) 1000000 1 := if_pos he
            by_cases q5 : m ≤ 0
            · rw [if_pos q5]
              exact main 1 (by rw [eb, cif_f (a4.mp (by omega))])
            · rw [if_neg q5]
              exact main 1000000 (by rw [eb, cif_t (Classical.byContradiction fun y => q5 (by have := a4.mpr y; omega))])
          · rw [if_neg (by omega), a1, bsm]
            have eb : byM W each c (bs L c k) = cif (ag W c (bs L c k)) 1 0 := if_neg (by omega)
            by_cases q5 : m ≤ 0
            · rw [if_pos q5]
              exact main 0 (by rw [eb, cif_f (a4.mp (by omega))])
            · rw [if_neg q5]
              exact main 1 (by rw [eb, cif_t (Classical.byContradiction fun y => q5 (by have := a4.mpr y; omega))])
        · rw [if_neg q3]
          exact ⟨(x, t), rfl, f, stay (fun D0' e0 _ _ y => by rw [← e0] at y; exact absurd y q3)⟩
      · rw [if_pos (ho.2 q2)]
        exact ⟨(x, t), rfl, f, stay (fun D0' _ _ y => absurd y q2)⟩
  · intro n t ⟨f, P⟩
    refine ⟨t.1, t.2, ?_, f, P.1, ?_⟩
    · show pl_M_measures_91 to load mv each K (n + 1) t.1 c (4 : Nat) t.2 = _
      rw [pl_M_measures_91, if_pos (by omega)]
    · rcases P.2 with y | ⟨y1, y2, y3, y4⟩
      · exact Or.inl y
      · refine Or.inr ⟨y1, y2, fun a j ha hj => ?_, fun j hj => by omega⟩
        rcases Nat.lt_or_ge a c with v | v
        · exact y3 a j v hj
        · rw [show a = c by omega]; exact y4 j hj
theorem m_ms_round {to load mv each : Int} {O : Int → Prop} {K : Int → pH → Option pH} (M : MS h l w L W) (hO : MO h L O) (hto : inr L to) (he : each = 0 ∨ each = 1) (J : MJ h L O (byM W each) to) : ∃ x' h', pl_M_measures_79 to load mv each K fu_ 0 0 h = K x' h' ∧ fr (fun b => b = 425) h h' ∧ MJ h' L O (byM W each) to ∧ ((x' = 1 ∧ sm (pi h' 425) (ce L).toNat + 1 ≤ sm (pi h 425) (ce L).toNat) ∨ (x' = 0 ∧ ∀ a j : Nat, (a : Int) < ce L → j < 4 → rlx (pi h' 425) L O (byM W each) a j)) := by
  have kL := M.2.2.2.2.2.2.1
  have z : 4 ≤ ce L ∧ ce L ≤ 36 := sz_mul kL.1
  refine lpf (F := fun n (c : Nat) (t : Int × pH) => pl_M_measures_79 to load mv each K n t.1 c t.2) (Q := fun r => ∃ x' h', r = K x' h' ∧ fr (fun b => b = 425) h h' ∧ MJ h' L O (byM W each) to ∧ ((x' = 1 ∧ sm (pi h' 425) (ce L).toNat + 1 ≤ sm (pi h 425) (ce L).toNat) ∨ (x' = 0 ∧ ∀ a j : Nat, (a : Int) < ce L → j < 4 → rlx (pi h' 425) L O (byM W each) a j))) (ce L).toNat (fun c t => fr (fun b => b = 425) h t.2 ∧ MP t.2 L O (byM W each) to (pi h 425) t.1 c 0) ?_ ?_ fu_ 0 (0, h) (by omega) (by unfold fu_; omega) ⟨fr_refl, J, Or.inr ⟨rfl, rfl, fun a j ha => by omega, fun j hj => by omega⟩⟩
  · intro n c t hc ⟨f, P⟩
    right
    have M1 : MS t.2 l w L W := MS_c M (fun j _ _ => fr_i f (by decide)) (fr_fi f (by decide))
    have hO1 : MO t.2 L O := fun c hc => by rw [fr_i f (by decide)]; exact hO c hc
    obtain ⟨x', h', p1, p2, p3⟩ := m_ms_side (load := load) (mv := mv) (K := fun x5 x6 h => pl_M_measures_79 to load mv each K n x5 (wr (x6 + 1)) h) M1 hO1 hto (by omega) he P
    refine ⟨(x', h'), ?_, fr_trans f p2, p3⟩
    show pl_M_measures_79 to load mv each K (n + 1) t.1 c t.2 = pl_M_measures_79 to load mv each K n x' (c + 1 : Nat) h'
    rw [pl_M_measures_79, m_cells M1, bsm, if_neg (by omega), p1, wr_eq (by omega) (by omega)]
    rfl
  · intro n t ⟨f, P⟩
    have M1 : MS t.2 l w L W := MS_c M (fun j _ _ => fr_i f (by decide)) (fr_fi f (by decide))
    refine ⟨t.1, t.2, ?_, f, P.1, ?_⟩
    · show pl_M_measures_79 to load mv each K (n + 1) t.1 ((ce L).toNat : Nat) t.2 = _
      rw [pl_M_measures_79, m_cells M1, bsm, if_pos (by omega)]
    · rcases P.2 with y | ⟨y1, y2, y3, y4⟩
      · exact Or.inl y
      · exact Or.inr ⟨y1, fun a j ha hj => by rw [y2]; exact y3 a j (by omega) hj⟩
theorem m_ms_while {to load mv each : Int} {O : Int → Prop} {x : Int} (M : MS h l w L W) (hO : MO h L O) (hto : inr L to) (he : each = 0 ∨ each = 1) (J : MJ h L O (byM W each) to) (hx : x ≠ 0 ∨ ∀ a j : Nat, (a : Int) < ce L → j < 4 → rlx (pi h 425) L O (byM W each) a j) : ∃ h', pl_M_measures_68 to load mv each (fun h => some h) fu_ x h = some h' ∧ fr (fun b => b = 425) h h' ∧ MJ h' L O (byM W each) to ∧ ∀ a j : Nat, (a : Int) < ce L → j < 4 → rlx (pi h' 425) L O (byM W each) a j := by
  have kL := M.2.2.2.2.2.2.1
  have z : 4 ≤ ce L ∧ ce L ≤ 36 := sz_mul kL.1
  by_cases q0 : x = 0
  · refine ⟨h, ?_, fr_refl, J, ?_⟩
    · rw [show fu_ = 1099511627775 + 1 from rfl, pl_M_measures_68, if_pos q0]
    · rcases hx with y | y
      · exact absurd q0 y
      · exact y
  · have bd : sm (pi h 425) (ce L).toNat ≤ (ce L).toNat * 1000000 := sm_bd (fun c hc => (J.2.1 c (by omega)).2)
    refine lp (F := fun n (t : Int × pH) => pl_M_measures_68 to load mv each (fun h => some h) n t.1 t.2) (Q := fun r => ∃ h', r = some h' ∧ fr (fun b => b = 425) h h' ∧ MJ h' L O (byM W each) to ∧ ∀ a j : Nat, (a : Int) < ce L → j < 4 → rlx (pi h' 425) L O (byM W each) a j) (I := fun t => fr (fun b => b = 425) h t.2 ∧ MJ t.2 L O (byM W each) to ∧ (t.1 = 0 → ∀ a j : Nat, (a : Int) < ce L → j < 4 → rlx (pi t.2 425) L O (byM W each) a j)) (fun t => if t.1 = 0 then 0 else sm (pi t.2 425) (ce L).toNat + 1) ?_ fu_ (x, h) ⟨fr_refl, J, fun y => absurd y q0⟩ ?_
    · intro n t ⟨f, Jt, hr⟩
      obtain ⟨x, t⟩ := t
      have M1 : MS t l w L W := MS_c M (fun j _ _ => fr_i f (by decide)) (fr_fi f (by decide))
      have hO1 : MO t L O := fun c hc => by rw [fr_i f (by decide)]; exact hO c hc
      by_cases q1 : x = 0
      · left
        refine ⟨t, ?_, f, Jt, hr q1⟩
        show pl_M_measures_68 to load mv each _ (n + 1) x t = _
        rw [pl_M_measures_68, if_pos q1]
      · right
        obtain ⟨x', h', p1, p2, p3, p4⟩ := m_ms_round (load := load) (mv := mv) (K := fun x5 h => pl_M_measures_68 to load mv each (fun h => some h) n x5 h) M1 hO1 hto he Jt
        refine ⟨(x', h'), ?_, ⟨fr_trans f p2, p3, ?_⟩, ?_⟩
        · show pl_M_measures_68 to load mv each _ (n + 1) x t = pl_M_measures_68 to load mv each _ n x' h'
          rw [pl_M_measures_68, if_neg q1]
          exact p1
        · intro y
          rcases p4 with v | v
          · have := v.1; exact absurd y (by show ¬ x' = 0; omega)
          · exact v.2
        · show (if x' = 0 then 0 else sm (pi h' 425) (ce L).toNat + 1) < (if x = 0 then 0 else sm (pi t 425) (ce L).toNat + 1)
          rw [if_neg q1]
          rcases p4 with v | v
          · rw [if_neg (by omega)]; have := v.2; omega
          · rw [if_pos v.1]; omega
    · show (if x = 0 then 0 else sm (pi h 425) (ce L).toNat + 1) < fu_
      rw [if_neg q0]
      unfold fu_
      omega
end Mg
