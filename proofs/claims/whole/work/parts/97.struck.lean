/-! the fewest steps against lanes -/
section Wb
variable {L W : Nat → Int} {O : Int → Prop} {to : Int}
theorem by1_bd {c e : Int} : 0 ≤ byM W 1 c e ∧ byM W 1 c e ≤ 1 := by
  unfold byM
  rw [if_neg (by decide)]
  by_cases q : ag W c e
  · rw [cif_t q]; omega
  · rw [cif_f q]; omega
theorem cw_snoc {d b : Int} : ∀ {n : Nat} {k c : Int}, cwk L O (byM W 1) n k c d → sd L d b → O b → cwk L O (byM W 1) (n + 1) (k + byM W 1 d b) c b
  | 0, k, c, h, g, o => by
    obtain ⟨e, k0⟩ := h
    rw [e, k0]
    exact ⟨b, g, o, rfl, by omega⟩
  | n + 1, k, c, ⟨e, h1, h2, h3⟩, g, o => ⟨e, h1, h2, by
    have := cw_snoc h3 g o
    rw [show k - byM W 1 c e + byM W 1 d b = k + byM W 1 d b - byM W 1 c e by omega] at this
    exact this⟩
theorem cw_last {b : Int} : ∀ {n : Nat} {k c : Int}, cwk L O (byM W 1) (n + 1) k c b → ∃ d k', cwk L O (byM W 1) n k' c d ∧ sd L d b ∧ O b ∧ k = k' + byM W 1 d b
  | 0, k, c, ⟨e, h1, h2, h3, h4⟩ => by
    rw [h3] at h1 h2 h4
    exact ⟨c, 0, ⟨rfl, rfl⟩, h1, h2, by omega⟩
  | n + 1, k, c, ⟨e, h1, h2, h3⟩ => by
    obtain ⟨d, k', g1, g2, g3, g4⟩ := cw_last h3
    exact ⟨d, k' + byM W 1 c e, ⟨e, h1, h2, by rw [show k' + byM W 1 c e - byM W 1 c e = k' by omega]; exact g1⟩, g2, g3, by omega⟩
theorem cw_le : ∀ {n : Nat} {k c : Int}, cwk L O (byM W 1) n k c to → k ≤ n
  | 0, k, c, h => by have := h.2; omega
  | n + 1, k, c, ⟨e, h1, h2, h3⟩ => by
    have := cw_le h3
    have := by1_bd (W := W) (c := c) (e := e)
    omega
theorem cw_in (kL : LK L) : ∀ {n : Nat} {k c : Int}, inr L c → cwk L O (byM W 1) n k c to → inr L to
  | 0, k, c, hc, h => by rw [← h.1]; exact hc
  | n + 1, k, c, hc, ⟨e, h1, h2, h3⟩ => cw_in kL (sd_in kL hc h1) h3
def opt (L W : Nat → Int) (O : Int → Prop) (to : Int) (m : Nat) (k c : Int) : Prop := cwk L O (byM W 1) m k c to ∧ (∀ n k', cwk L O (byM W 1) n k' c to → k ≤ k') ∧ ∀ n, n < m → ¬ cwk L O (byM W 1) n k c to
theorem opt_ex {n : Nat} {k c : Int} (h : cwk L O (byM W 1) n k c to) : ∃ m k', opt L W O to m k' c := by
  have k0 := cwk_0 h
  obtain ⟨kk, ⟨n1, h1⟩, h2⟩ := least (P := fun j : Nat => ∃ n, cwk L O (byM W 1) n (j : Int) c to) ⟨k.toNat, n, by rw [show ((k.toNat : Nat) : Int) = k by omega]; exact h⟩
  obtain ⟨m, g1, g2⟩ := least (P := fun n => cwk L O (byM W 1) n (kk : Int) c to) ⟨n1, h1⟩
  refine ⟨m, kk, g1, fun n' k' g => ?_, g2⟩
  have k1 := cwk_0 g
  rcases Int.lt_or_le k' kk with y | y
  · exact absurd ⟨n', by rw [show ((k'.toNat : Nat) : Int) = k' by omega]; exact g⟩ (h2 k'.toNat (by omega))
  · exact y
theorem opt_un {m m' : Nat} {k k' c : Int} (h : opt L W O to m k c) (g : opt L W O to m' k' c) : m = m' := by
  have e : k = k' := by
    have := h.2.1 _ _ g.1
    have := g.2.1 _ _ h.1
    omega
  subst e
  rcases Nat.lt_trichotomy m m' with y | y | y
  · exact absurd h.1 (g.2.2 m y)
  · exact y
  · exact absurd g.1 (h.2.2 m' y)
theorem opt_less (kL : LK L) : ∀ {m : Nat} {k c : Int}, opt L W O to m k c → inr L c → ∀ j, j ≤ m → ∃ e k', inr L e ∧ opt L W O to j k' e
  | 0, k, c, h, hc, j, hj => ⟨c, k, hc, by rw [show j = 0 by omega]; exact h⟩
  | m + 1, k, c, h, hc, j, hj => by
    by_cases q : j = m + 1
    · rw [q]; exact ⟨c, k, hc, h⟩
    · obtain ⟨e, h1, h2, h3⟩ := h.1
      refine opt_less kL (m := m) (k := k - byM W 1 c e) (c := e) ⟨h3, fun n' k' g => ?_, fun n' hn g => ?_⟩ (sd_in kL hc h1) j (by omega)
      · have := h.2.1 (n' + 1) (k' + byM W 1 c e) ⟨e, h1, h2, by rw [show k' + byM W 1 c e - byM W 1 c e = k' by omega]; exact g⟩
        omega
      · exact h.2.2 (n' + 1) (by omega) ⟨e, h1, h2, g⟩
theorem cw_opt (kL : LK L) {n : Nat} {k c : Int} (hc : inr L c) (h : cwk L O (byM W 1) n k c to) : ∃ m k', m ≤ 35 ∧ cwk L O (byM W 1) m k' c to ∧ ∀ n k'', cwk L O (byM W 1) n k'' c to → k' ≤ k'' := by
  obtain ⟨m, k', o⟩ := opt_ex h
  refine ⟨m, k', ?_, o.1, o.2.1⟩
  have z : 4 ≤ ce L ∧ ce L ≤ 36 := sz_mul kL.1
  have l := opt_less kL o hc
  have : ∀ j, j ≤ m → j + 1 ≤ cnb (fun e => ∃ i k, i ≤ j ∧ opt L W O to i k e) 36 := by
    intro j
    induction j with
    | zero =>
      intro _
      obtain ⟨e, k1, h1, h2⟩ := l 0 (by omega)
      have := cnb_lt (P := fun _ => False) (Q := fun e => ∃ i k, i ≤ 0 ∧ opt L W O to i k e) (c := e.toNat) (n := 36) (fun _ _ y => y.elim) (by have := h1.1; have := h1.2; omega) (fun y => y) ⟨0, k1, by omega, by rw [show ((e.toNat : Nat) : Int) = e by have := h1.1; omega]; exact h2⟩
      omega
    | succ j ih =>
      intro hj
      have i0 := ih (by omega)
      obtain ⟨e, k1, h1, h2⟩ := l (j + 1) hj
      have ee : ((e.toNat : Nat) : Int) = e := by have := h1.1; omega
      have := cnb_lt (P := fun e => ∃ i k, i ≤ j ∧ opt L W O to i k e) (Q := fun e => ∃ i k, i ≤ j + 1 ∧ opt L W O to i k e) (c := e.toNat) (n := 36) (fun _ _ ⟨i, k, y1, y2⟩ => ⟨i, k, by omega, y2⟩) (by have := h1.1; have := h1.2; omega) (fun ⟨i, k, y1, y2⟩ => by rw [ee] at y2; have := opt_un y2 h2; omega) ⟨j + 1, k1, by omega, by rw [ee]; exact h2⟩
      omega
  have q := this m (Nat.le_refl _)
  have := cnb_le (P := fun e : Nat => ∃ i k, i ≤ m ∧ opt L W O to i k e) (n := 36)
  omega
def CST (L W : Nat → Int) (O : Int → Prop) (fm to v : Int) : Prop := (v = -1 ∧ ∀ n k, ¬ cwk L O (byM W 1) n k fm to) ∨ (0 ≤ v ∧ (∃ n, cwk L O (byM W 1) n v fm to) ∧ ∀ n k, cwk L O (byM W 1) n k fm to → v ≤ k)
theorem CST_un {fm v v' : Int} (h : CST L W O fm to v) (g : CST L W O fm to v') : v = v' := by
  rcases h with ⟨h1, h2⟩ | ⟨h1, ⟨n, h2⟩, h3⟩ <;> rcases g with ⟨g1, g2⟩ | ⟨g1, ⟨m, g2⟩, g3⟩
  · omega
  · exact absurd g2 (h2 _ _)
  · exact absurd h2 (g2 _ _)
  · have := h3 _ _ g2
    have := g3 _ _ h2
    omega
theorem m_CST {h : pH} {fm : Int} (kL : LK L) (hf : inr L fm) (hto : inr L to) (J : MJ h L O (byM W 1) to) (R : ∀ a j : Nat, (a : Int) < ce L → j < 4 → rlx (pi h 425) L O (byM W 1) a j) : CST L W O fm to (if 1000000 ≤ pi h 425 fm.toNat then -1 else pi h 425 fm.toNat) := by
  have f0 := hf.1
  have f1 := hf.2
  have ef : ((fm.toNat : Nat) : Int) = fm := by omega
  have key : ∀ (n : Nat) (k c : Int), inr L c → k ≤ 35 → cwk L O (byM W 1) n k c to → pi h 425 c.toNat ≤ k := by
    intro n
    induction n with
    | zero => intro k c _ _ ⟨e, k0⟩; rw [e, J.1]; omega
    | succ n ih =>
      intro k c hc hk ⟨e, h1, h2, h3⟩
      have b := by1_bd (W := W) (c := c) (e := e)
      have i := ih (k - byM W 1 c e) e (sd_in kL hc h1) (by omega) h3
      obtain ⟨s0, s, hs, es⟩ := h1
      have c0 := hc.1
      have c1 := hc.2
      have r := R c.toNat s.toNat (by omega) (by unfold s4 at hs; omega)
      unfold rlx at r
      rw [show ((s.toNat : Nat) : Int) = s by unfold s4 at hs; omega, show ((c.toNat : Nat) : Int) = c by omega, es] at r
      have := r s0 h2 (by omega)
      omega
  have fin : ∀ (n : Nat) (k : Int), cwk L O (byM W 1) n k fm to → pi h 425 fm.toNat ≤ k ∧ pi h 425 fm.toNat ≤ 35 := by
    intro n k w
    obtain ⟨m, k', m1, m2, m3⟩ := cw_opt kL hf w
    have := cw_le m2
    have := key m k' fm hf (by omega) m2
    have := m3 _ _ w
    omega
  by_cases q : 1000000 ≤ pi h 425 fm.toNat
  · rw [if_pos q]
    exact Or.inl ⟨rfl, fun n k w => by have := (fin n k w).2; omega⟩
  · rw [if_neg q]
    refine Or.inr ⟨(J.2.1 fm.toNat (by omega)).1, ?_, fun n k w => (fin n k w).1⟩
    obtain ⟨n, hn⟩ := J.2.2 fm.toNat (by omega) (by omega)
    rw [ef] at hn
    exact ⟨n, hn⟩
end Wb
/-- the class's row within a round that began with D0 -/
def RP (L W : Nat → Int) (O : Int → Prop) (fm : Int) (D0 D : Nat → Int) (B : Int) (c k : Nat) : Prop :=
  (D fm.toNat = 0 ∧ ∀ e : Nat, (e : Int) < ce L → D e = -1 ∨ (0 ≤ D e ∧ D e ≤ B ∧ ∃ n, cwk L O (byM W 1) n (D e) fm e))
  ∧ (∀ e : Nat, (e : Int) < ce L → 0 ≤ D0 e → 0 ≤ D e ∧ D e ≤ D0 e)
  ∧ (∀ a j : Nat, a < c → j < 4 → 0 ≤ D0 a → 0 ≤ bs L a j → O (bs L a j) → 0 ≤ D (bs L a j).toNat ∧ D (bs L a j).toNat ≤ D0 a + byM W 1 a (bs L a j))
  ∧ (∀ j : Nat, j < k → 0 ≤ D0 c → 0 ≤ bs L c j → O (bs L c j) → 0 ≤ D (bs L c j).toNat ∧ D (bs L c j).toNat ≤ D0 c + byM W 1 c (bs L c j))
section Cj
variable {h : pH} {a p q : Nat} {L W wt sv S : Nat → Int} {u : Bool} {d : Nat}
theorem c_better {load fm : Int} {O : Int → Prop} {D0 : Nat → Int} {c : Nat} {B : Int} (C : CX h p q L W) (X : WX h p q) (hO : ∀ c : Nat, (c : Int) < ce L → (load ≤ pi h 313 c ↔ O c)) (hf : inr L fm) (hc : (c : Int) < ce L) (hB : 0 ≤ B ∧ B ≤ 100000) (hD : 0 ≤ pi h 314 c ∧ pi h 314 c < B) (P : RP L W O fm D0 (pi h 314) B c 0) : ∃ v h', pf_Wa_betterBeside c load h = some (v, h') ∧ fr (fun b => b = 314) h h' ∧ RP L W O fm D0 (pi h' 314) B (c + 1) 0 ∧ ((v = 0 ∧ pi h' 314 = pi h 314) ∨ v = 1) := by
  have kL := C.2.2.1
  have z : 4 ≤ ce L ∧ ce L ≤ 36 := sz_mul kL.1
  unfold pf_Wa_betterBeside
  refine lpf (F := fun n (k : Nat) (t : Int × pH) => pl_Wa_betterBeside_5 c load (fun x3 h => ia_gd (pz1 x3) (some (x3, h))) n t.1 k t.2) (Q := fun r => ∃ v h', r = some (v, h') ∧ fr (fun b => b = 314) h h' ∧ RP L W O fm D0 (pi h' 314) B (c + 1) 0 ∧ ((v = 0 ∧ pi h' 314 = pi h 314) ∨ v = 1)) 4 (fun k t => fr (fun b => b = 314) h t.2 ∧ RP L W O fm D0 (pi t.2 314) B c k ∧ pi t.2 314 c = pi h 314 c ∧ ((t.1 = 0 ∧ pi t.2 314 = pi h 314) ∨ t.1 = 1)) ?_ ?_ fu_ 0 (0, h) (by omega) (by unfold fu_; omega) ⟨fr_refl, P, rfl, Or.inl ⟨rfl, rfl⟩⟩
  · intro n k t hk ⟨f, P, ec, fl⟩
    right
    obtain ⟨x, t⟩ := t
    have f : fr (fun b => b = 314) h t := f
    have P : RP L W O fm D0 (pi t 314) B c k := P
    have ec : pi t 314 c = pi h 314 c := ec
    have fl : (x = 0 ∧ pi t 314 = pi h 314) ∨ x = 1 := fl
    have C1 : CX t p q L W := CX_fr C f (fun b hb => by omega)
    have X1 : WX t p q := WX_fr X f (by omega)
    have sdv := (C1.1.2.2.2.2.1 c k hc hk).1
    have t1 : ((c : Int) * 4 + k).toNat = 4 * c + k := by omega
    have b0 : -1 ≤ bs L c k ∧ bs L c k < ce L := ⟨be_lo kL.1 (by omega) hc, be_hi kL.1 (by omega) hc⟩
    have keep : (0 ≤ D0 c → 0 ≤ bs L c k → O (bs L c k) → 0 ≤ pi t 314 (bs L c k).toNat ∧ pi t 314 (bs L c k).toNat ≤ D0 c + byM W 1 c (bs L c k)) → ∃ t' : Int × pH, pl_Wa_betterBeside_5 c load (fun x3 h => ia_gd (pz1 x3) (some (x3, h))) n x (k + 1 : Nat) t = pl_Wa_betterBeside_5 c load (fun x3 h => ia_gd (pz1 x3) (some (x3, h))) n t'.1 (k + 1 : Nat) t'.2 ∧ (fr (fun b => b = 314) h t'.2 ∧ RP L W O fm D0 (pi t'.2 314) B c (k + 1) ∧ pi t'.2 314 c = pi h 314 c ∧ ((t'.1 = 0 ∧ pi t'.2 314 = pi h 314) ∨ t'.1 = 1)) := fun v => ⟨(x, t), rfl, f, ⟨P.1, P.2.1, P.2.2.1, fun j hj => by
      rcases Nat.lt_or_ge j k with y | y
      · exact P.2.2.2 j y
      · rw [show j = k by omega]; exact v⟩, ec, fl⟩
    show ∃ t' : Int × pH, pl_Wa_betterBeside_5 c load _ (n + 1) x k t = pl_Wa_betterBeside_5 c load _ n t'.1 (k + 1 : Nat) t'.2 ∧ _
    rw [pl_Wa_betterBeside_5, if_neg (by omega), X1.1]
    simp (disch := omega) only [wr_eq, gib, t1, sdv]
    by_cases y1 : bs L c k = -1
    · rw [if_pos y1]; exact keep (fun _ v => by omega)
    · rw [if_neg y1]
      have eb : (((bs L c k).toNat : Nat) : Int) = bs L c k := by omega
      have ho : load ≤ pi t 313 (bs L c k).toNat ↔ O (bs L c k) := by
        have := hO (bs L c k).toNat (by omega)
        rw [eb] at this
        rw [fr_i f (by omega)]
        exact this
      try simp (disch := omega) only [gib]
      by_cases y2 : pi t 313 (bs L c k).toNat < load
      · rw [if_pos y2]; exact keep (fun _ _ v => by have := ho.mpr v; omega)
      · rw [if_neg y2, c_mayStep C1 X1 ⟨by omega, by omega⟩ ⟨by omega, by omega⟩, bsm, Int.toNat_natCast, ec]
        have oo : O (bs L c k) := ho.mp (by omega)
        have sdc : sd L c (bs L c k) := ⟨by omega, k, by unfold s4; omega, rfl⟩
        have by0 := by1_bd (W := W) (c := c) (e := bs L c k)
        have nec : (bs L c k).toNat ≠ c := fun v => by
          have := be_ne (c := (c : Int)) (s := k) kL.1 (by omega) (by unfold s4; omega)
          have e : be (L 0) (L 1) c k = bs L c k := rfl
          omega
        have pc := P.2.1 c hc
        rw [ec] at pc
        have main : ∀ v, v = byM W 1 c (bs L c k) → ∃ t' : Int × pH, pj_Wa_betterBeside_65 c load (pl_Wa_betterBeside_5 c load (fun x3 h => ia_gd (pz1 x3) (some (x3, h))) n) (fun x3 h => ia_gd (pz1 x3) (some (x3, h))) x k (bs L c k) (pi h 314 c) v t = pl_Wa_betterBeside_5 c load (fun x3 h => ia_gd (pz1 x3) (some (x3, h))) n t'.1 (k + 1 : Nat) t'.2 ∧ (fr (fun b => b = 314) h t'.2 ∧ RP L W O fm D0 (pi t'.2 314) B c (k + 1) ∧ pi t'.2 314 c = pi h 314 c ∧ ((t'.1 = 0 ∧ pi t'.2 314 = pi h 314) ∨ t'.1 = 1)) := by
          intro v ev
          unfold pj_Wa_betterBeside_65 pj_Wa_betterBeside_91
          simp (disch := omega) only [gib, wr_eq]
          have set : (pi t 314 (bs L c k).toNat = -1 ∨ pi h 314 c + v < pi t 314 (bs L c k).toNat) → ∃ t' : Int × pH, pl_Wa_betterBeside_5 c load (fun x3 h => ia_gd (pz1 x3) (some (x3, h))) n 1 (k + 1 : Nat) (pwI t 314 (bs L c k).toNat (pi h 314 c + v)) = pl_Wa_betterBeside_5 c load (fun x3 h => ia_gd (pz1 x3) (some (x3, h))) n t'.1 (k + 1 : Nat) t'.2 ∧ (fr (fun b => b = 314) h t'.2 ∧ RP L W O fm D0 (pi t'.2 314) B c (k + 1) ∧ pi t'.2 314 c = pi h 314 c ∧ ((t'.1 = 0 ∧ pi t'.2 314 = pi h 314) ∨ t'.1 = 1)) := by
            intro lt
            refine ⟨(1, pwI t 314 (bs L c k).toNat (pi h 314 c + v)), rfl, fr_wI f rfl, ?_, ?_, Or.inr rfl⟩
            · show RP L W O fm D0 (pi (pwI t 314 (bs L c k).toNat (pi h 314 c + v)) 314) B c (k + 1)
              rw [up1_pi]
              have wc : ∃ n, cwk L O (byM W 1) n (pi h 314 c) fm c := by
                rcases P.1.2 c hc with y | y
                · rw [ec] at y; omega
                · have := y.2.2; rw [ec] at this; exact this
              obtain ⟨m, wc⟩ := wc
              refine ⟨⟨?_, fun e he => ?_⟩, fun e he v0 => ?_, fun a j ha hj v0 v1 v2 => ?_, fun j hj v0 v1 v2 => ?_⟩
              · rw [up1_n]; exact P.1.1
                intro y
                rw [← y, P.1.1] at lt
                omega
              · by_cases y : e = (bs L c k).toNat
                · right; rw [y, up1_s, eb, ev]; exact ⟨by omega, by omega, m + 1, cw_snoc wc sdc oo⟩
                · rw [up1_n y]; exact P.1.2 e he
              · have g := P.2.1 e he v0
                by_cases y : e = (bs L c k).toNat
                · rw [y, up1_s]; rw [y] at g v0; omega
                · rw [up1_n y]; exact g
              · have g := P.2.2.1 a j ha hj v0 v1 v2
                by_cases y : (bs L a j).toNat = (bs L c k).toNat
                · rw [y, up1_s]; rw [y] at g; omega
                · rw [up1_n y]; exact g
              · by_cases y : (bs L c j).toNat = (bs L c k).toNat
                · rw [y, up1_s]
                  have y2 : bs L c j = bs L c k := by omega
                  rw [y2]
                  have := pc v0
                  omega
                · rw [up1_n y]
                  rcases Nat.lt_or_ge j k with w | w
                  · exact P.2.2.2 j w v0 v1 v2
                  · rw [show j = k by omega] at y; exact absurd rfl y
            · show pi (pwI t 314 _ _) 314 c = _
              rw [pi_wIi (Ne.symm nec)]; exact ec
          by_cases y3 : pi t 314 (bs L c k).toNat = -1
          · rw [if_pos y3]; exact set (Or.inl y3)
          · rw [if_neg y3]
            by_cases y4 : pi t 314 (bs L c k).toNat ≤ pi h 314 c + v
            · rw [if_pos y4]
              refine keep (fun v0 v1 _ => ?_)
              rcases P.1.2 (bs L c k).toNat (by omega) with w | w
              · exact absurd w y3
              · have := pc v0
                omega
            · rw [if_neg y4]; exact set (Or.inr (by omega))
        have eb1 : byM W 1 c (bs L c k) = cif (ag W c (bs L c k)) 1 0 := if_neg (by decide)
        by_cases y3 : ag W c (bs L c k)
        · rw [cif_t y3, if_pos rfl]; exact main 1 (by rw [eb1, cif_t y3])
        · rw [cif_f y3, if_neg (by decide)]; exact main 0 (by rw [eb1, cif_f y3])
  · intro n t ⟨f, P, ec, fl⟩
    refine ⟨t.1, t.2, ?_, f, ⟨P.1, P.2.1, fun a j ha hj => ?_, fun j hj => by omega⟩, fl⟩
    · show pl_Wa_betterBeside_5 c load _ (n + 1) t.1 (4 : Nat) t.2 = _
      rw [pl_Wa_betterBeside_5, if_pos (by omega)]
      rcases fl with v | v
      · rw [v.1]; rfl
      · rw [v]; rfl
    · rcases Nat.lt_or_ge a c with v | v
      · exact P.2.2.1 a j v hj
      · rw [show a = c by omega]; exact P.2.2.2 j hj
theorem por01 : por 0 0 = 0 ∧ por 0 1 = 1 ∧ por 1 0 = 1 ∧ por 1 1 = 1 := by decide
theorem c_fa_round {load fm to r : Int} {O : Int → Prop} {B : Int} {K : Int → Int → pH → Option (Int × pH)} (C : CX h p q L W) (X : WX h p q) (hO : ∀ c : Nat, (c : Int) < ce L → (load ≤ pi h 313 c ↔ O c)) (hf : inr L fm) (hB : 0 ≤ B ∧ B ≤ 10000) (P : RP L W O fm (pi h 314) (pi h 314) B 0 0) : ∃ v h', pl_Wa_fewestAgainst_39 load fm to K fu_ 0 r 0 h = K v r h' ∧ fr (fun b => b = 314) h h' ∧ RP L W O fm (pi h 314) (pi h' 314) (B + 40) (ce L).toNat 0 ∧ ((v = 0 ∧ pi h' 314 = pi h 314) ∨ v = 1) := by
  have kL := C.2.2.1
  have z : 4 ≤ ce L ∧ ce L ≤ 36 := sz_mul kL.1
  refine lpf (F := fun n (c : Nat) (t : Int × pH) => pl_Wa_fewestAgainst_39 load fm to K n t.1 r c t.2) (Q := fun rr => ∃ v h', rr = K v r h' ∧ fr (fun b => b = 314) h h' ∧ RP L W O fm (pi h 314) (pi h' 314) (B + 40) (ce L).toNat 0 ∧ ((v = 0 ∧ pi h' 314 = pi h 314) ∨ v = 1)) (ce L).toNat (fun c t => fr (fun b => b = 314) h t.2 ∧ RP L W O fm (pi h 314) (pi t.2 314) (B + c) c 0 ∧ ((t.1 = 0 ∧ pi t.2 314 = pi h 314) ∨ t.1 = 1)) ?_ ?_ fu_ 0 (0, h) (by omega) (by unfold fu_; omega) ⟨fr_refl, by show RP L W O fm (pi h 314) (pi h 314) (B + (0 : Nat)) 0 0; rw [Int.natCast_zero, Int.add_zero]; exact P, Or.inl ⟨rfl, rfl⟩⟩
  · intro n c t hc ⟨f, P, fl⟩
    right
    obtain ⟨x, t⟩ := t
    have f : fr (fun b => b = 314) h t := f
    have P : RP L W O fm (pi h 314) (pi t 314) (B + c) c 0 := P
    have fl : (x = 0 ∧ pi t 314 = pi h 314) ∨ x = 1 := fl
    have C1 : CX t p q L W := CX_fr C f (fun b hb => by omega)
    have X1 : WX t p q := WX_fr X f (by omega)
    have P' : RP L W O fm (pi h 314) (pi t 314) (B + (c + 1 : Nat)) c 0 := ⟨⟨P.1.1, fun e he => by
      rcases P.1.2 e he with y | y
      · exact Or.inl y
      · exact Or.inr ⟨y.1, by have := y.2.1; omega, y.2.2⟩⟩, P.2⟩
    show ∃ t' : Int × pH, pl_Wa_fewestAgainst_39 load fm to K (n + 1) x r c t = pl_Wa_fewestAgainst_39 load fm to K n t'.1 r (c + 1 : Nat) t'.2 ∧ _
    rw [pl_Wa_fewestAgainst_39, X1.1, c_cells C1, bsm, if_neg (by omega), gib (by omega) (by omega), Int.toNat_natCast]
    unfold pj_Wa_fewestAgainst_79
    rw [wr_eq (by omega) (by omega)]
    by_cases y1 : pi t 314 c = -1
    · have px : por x 0 = x := by rcases fl with v | v; rw [v.1]; exact por01.1; rw [v]; exact por01.2.2.1
      rw [if_pos y1, px]
      refine ⟨(x, t), rfl, f, ⟨P'.1, P'.2.1, fun a j ha hj v0 => ?_, fun j hj => by omega⟩, fl⟩
      rcases Nat.lt_or_ge a c with v | v
      · exact P'.2.2.1 a j v hj v0
      · rw [show a = c by omega] at v0
        have := (P.2.1 c (by omega) v0).1
        omega
    · rw [if_neg y1]
      have hD : 0 ≤ pi t 314 c ∧ pi t 314 c < B + (c + 1 : Nat) := by
        rcases P.1.2 c (by omega) with y | y
        · exact absurd y y1
        · have := y.2.1; exact ⟨y.1, by omega⟩
      obtain ⟨v, h', r1, r2, r3, r4⟩ := c_better (load := load) C1 X1 (fun c hc => by rw [fr_i f (by omega)]; exact hO c hc) hf (by omega) (by omega) hD P'
      rw [r1, bsm]
      simp only []
      rcases r4 with ⟨v0, v1⟩ | v0
      · have px : por x 0 = x := by rcases fl with v | v; rw [v.1]; exact por01.1; rw [v]; exact por01.2.2.1
        rw [v0, if_pos rfl, px]
        refine ⟨(x, h'), rfl, fr_trans f r2, r3, ?_⟩
        rcases fl with w | w
        · exact Or.inl ⟨w.1, by show pi h' 314 = _; rw [v1]; exact w.2⟩
        · exact Or.inr w
      · have px : por x 1 = 1 := by rcases fl with v | v; rw [v.1]; exact por01.2.1; rw [v]; exact por01.2.2.2
        rw [v0, if_neg (by decide), px]
        exact ⟨(1, h'), rfl, fr_trans f r2, r3, Or.inr rfl⟩
  · intro n t ⟨f, P, fl⟩
    have C1 : CX t.2 p q L W := CX_fr C f (fun b hb => by omega)
    have X1 : WX t.2 p q := WX_fr X f (by omega)
    refine ⟨t.1, t.2, ?_, f, ⟨⟨P.1.1, fun e he => ?_⟩, P.2⟩, fl⟩
    · show pl_Wa_fewestAgainst_39 load fm to K (n + 1) t.1 r ((ce L).toNat : Nat) t.2 = _
      rw [pl_Wa_fewestAgainst_39, X1.1, c_cells C1, bsm, if_pos (by omega)]
    · rcases P.1.2 e he with y | y
      · exact Or.inl y
      · exact Or.inr ⟨y.1, by have := y.2.1; omega, y.2.2⟩
theorem c_fewestAgainst {load fm to : Int} {O : Int → Prop} (C : CX h p q L W) (X : WX h p q) (hO : ∀ c : Nat, (c : Int) < ce L → (load ≤ pi h 313 c ↔ O c)) (hf : inr L fm) (ht : inr L to) : ∃ v h', pf_Wa_fewestAgainst load fm to h = some (v, h') ∧ fr (fun b => b = 314) h h' ∧ CST L W O fm to v := by
  have kL := C.2.2.1
  have z : 4 ≤ ce L ∧ ce L ≤ 36 := sz_mul kL.1
  have f0 := hf.1
  have f1 := hf.2
  have t0 := ht.1
  have t1 := ht.2
  have ef : ((fm.toNat : Nat) : Int) = fm := by omega
  have et : ((to.toNat : Nat) : Int) = to := by omega
  unfold pf_Wa_fewestAgainst
  obtain ⟨g, p1, p2, p3⟩ := c_fill (a := 314) (N := 36) (v := -1) (h := h) (by decide +kernel) (by omega)
  rw [p1, bsm, gib f0 (by omega)]
  refine lp (F := fun n (t : Int × Nat × pH) => pl_Wa_fewestAgainst_21 load fm to (fun h => pj_Wa_fewestAgainst_94 load fm to h) n t.1 t.2.1 t.2.2) (Q := fun r => ∃ v h', r = some (v, h') ∧ fr (fun b => b = 314) h h' ∧ CST L W O fm to v) (I := fun t => fr (fun b => b = 314) h t.2.2 ∧ t.2.1 ≤ 36 ∧ RP L W O fm (pi t.2.2 314) (pi t.2.2 314) (40 * t.2.1) 0 0 ∧ (∀ n : Nat, n ≤ t.2.1 → ∀ (k : Int) (e : Nat), (e : Int) < ce L → cwk L O (byM W 1) n k fm e → 0 ≤ pi t.2.2 314 e ∧ pi t.2.2 314 e ≤ k) ∧ (t.1 = 0 → ∀ (n : Nat) (k : Int) (e : Nat), (e : Int) < ce L → cwk L O (byM W 1) n k fm e → 0 ≤ pi t.2.2 314 e ∧ pi t.2.2 314 e ≤ k)) (fun t => 40 - t.2.1) ?_ fu_ (1, 0, pwI g 314 fm.toNat 0) ⟨fr_wI p2 rfl, by show 0 ≤ 36; omega, ?_, ?_, fun v => absurd v (by show ¬ (1 : Int) = 0; decide)⟩ (by show 40 - 0 < fu_; unfold fu_; omega)
  · intro n t ⟨f, i0, P, i1, i2⟩
    obtain ⟨x, r, t⟩ := t
    have f : fr (fun b => b = 314) h t := f
    have i0 : r ≤ 36 := i0
    have P : RP L W O fm (pi t 314) (pi t 314) (40 * r) 0 0 := P
    have i1 : ∀ n : Nat, n ≤ r → ∀ (k : Int) (e : Nat), (e : Int) < ce L → cwk L O (byM W 1) n k fm e → 0 ≤ pi t 314 e ∧ pi t 314 e ≤ k := i1
    have i2 : x = 0 → ∀ (n : Nat) (k : Int) (e : Nat), (e : Int) < ce L → cwk L O (byM W 1) n k fm e → 0 ≤ pi t 314 e ∧ pi t 314 e ≤ k := i2
    have C1 : CX t p q L W := CX_fr C f (fun b hb => by omega)
    have X1 : WX t p q := WX_fr X f (by omega)
    have done : (∀ (n : Nat) (k : Int) (e : Nat), (e : Int) < ce L → cwk L O (byM W 1) n k fm e → 0 ≤ pi t 314 e ∧ pi t 314 e ≤ k) → ∃ v h', pj_Wa_fewestAgainst_94 load fm to t = some (v, h') ∧ fr (fun b => b = 314) h h' ∧ CST L W O fm to v := by
      intro full
      refine ⟨pi t 314 to.toNat, t, ?_, f, ?_⟩
      · unfold pj_Wa_fewestAgainst_94
        rw [gib t0 (by omega)]
      · rcases P.1.2 to.toNat (by omega) with y | y
        · rw [y]
          exact Or.inl ⟨rfl, fun n k w => by have := (full n k to.toNat (by omega) (by rw [et]; exact w)).1; omega⟩
        · refine Or.inr ⟨y.1, ?_, fun n k w => (full n k to.toNat (by omega) (by rw [et]; exact w)).2⟩
          have := y.2.2
          rw [et] at this
          exact this
    show (∃ v h', pl_Wa_fewestAgainst_21 load fm to _ (n + 1) x r t = some (v, h') ∧ _) ∨ ∃ t' : Int × Nat × pH, pl_Wa_fewestAgainst_21 load fm to _ (n + 1) x r t = pl_Wa_fewestAgainst_21 load fm to _ n t'.1 t'.2.1 t'.2.2 ∧ _
    rw [pl_Wa_fewestAgainst_21]
    by_cases q1 : (36 : Int) ≤ r
    · left
      rw [if_pos q1]
      refine done (fun n k e he w => ?_)
      obtain ⟨m, k', m1, m2, m3⟩ := cw_opt kL hf w
      have := i1 m (by omega) k' e he m2
      have := m3 _ _ w
      omega
    · rw [if_neg q1]
      by_cases q2 : x = 0
      · left
        rw [if_pos q2]
        exact done (i2 q2)
      · right
        obtain ⟨v, h', r1, r2, r3, r4⟩ := c_fa_round (load := load) (to := to) (r := r) (K := fun x4 x5 h => pl_Wa_fewestAgainst_21 load fm to (fun h => pj_Wa_fewestAgainst_94 load fm to h) n x4 (wr (x5 + 1)) h) C1 X1 (fun c hc => by rw [fr_i f (by omega)]; exact hO c hc) hf (by omega) P
        have step : ∀ (m : Nat) (k : Int) (e : Nat), (e : Int) < ce L → cwk L O (byM W 1) m k fm e → (∀ j : Nat, j + 1 = m → ∀ (k : Int) (e : Nat), (e : Int) < ce L → cwk L O (byM W 1) j k fm e → 0 ≤ pi t 314 e ∧ pi t 314 e ≤ k) → (m = 0 → 0 ≤ pi t 314 e ∧ pi t 314 e ≤ k) → 0 ≤ pi h' 314 e ∧ pi h' 314 e ≤ k := by
          intro m k e he w hj h0
          cases m with
          | zero =>
            obtain ⟨a1, a2⟩ := h0 rfl
            have := r3.2.1 e he a1
            omega
          | succ j =>
            obtain ⟨c, k', g1, g2, g3, g4⟩ := cw_last w
            have hc := cw_in kL hf g1
            have c0 := hc.1
            have c1 := hc.2
            have ec : ((c.toNat : Nat) : Int) = c := by omega
            obtain ⟨a1, a2⟩ := hj j rfl k' c.toNat (by omega) (by rw [ec]; exact g1)
            obtain ⟨s0, s, hs, es⟩ := g2
            have d := r3.2.2.1 c.toNat s.toNat (by omega) (by unfold s4 at hs; omega) a1
            rw [show ((s.toNat : Nat) : Int) = s by unfold s4 at hs; omega, ec, es] at d
            have d2 := d s0 g3
            rw [Int.toNat_natCast] at d2
            omega
        refine ⟨(v, r + 1, h'), ?_, ⟨fr_trans f r2, by show r + 1 ≤ 36; omega, ?_, ?_, ?_⟩, by show 40 - (r + 1) < 40 - r; omega⟩
        · show _ = pl_Wa_fewestAgainst_21 load fm to _ n v (r + 1 : Nat) h'
          rw [if_neg q2, r1, wr_eq (by omega) (by omega)]
          rfl
        · show RP L W O fm (pi h' 314) (pi h' 314) (40 * (r + 1 : Nat)) 0 0
          refine ⟨⟨r3.1.1, fun e he => ?_⟩, fun e he v => ⟨v, by omega⟩, fun a j ha => by omega, fun j hj => by omega⟩
          rcases r3.1.2 e he with y | y
          · exact Or.inl y
          · exact Or.inr ⟨y.1, by have := y.2.1; omega, y.2.2⟩
        · intro m hm k e he w
          have hm : m ≤ r + 1 := hm
          exact step m k e he w (fun j hj => i1 j (by omega)) (fun h0 => i1 m (by omega) k e he w)
        · intro v0
          have v0 : v = 0 := v0
          rcases r4 with ⟨_, v1⟩ | v1
          · intro m
            induction m with
            | zero => intro k e he w; exact step 0 k e he w (fun j hj => by omega) (fun _ => i1 0 (by omega) k e he w)
            | succ m ih =>
              intro k e he w
              refine step (m + 1) k e he w (fun j hj => ?_) (fun v => by omega)
              have ej : j = m := by omega
              subst ej
              intro k e he w
              have := ih k e he w
              have e2 : pi h' 314 = pi t 314 := v1
              have e3 : pi (v, r + 1, h').2.2 314 = pi h' 314 := rfl
              rw [e3, e2] at this
              exact this
          · omega
  · show RP L W O fm (pi (pwI g 314 fm.toNat 0) 314) (pi (pwI g 314 fm.toNat 0) 314) (40 * (0 : Nat)) 0 0
    refine ⟨⟨pi_wIs, fun e he => ?_⟩, fun e he v => ⟨v, by omega⟩, fun a j ha => by omega, fun j hj => by omega⟩
    by_cases y : e = fm.toNat
    · right; rw [y, pi_wIs]; exact ⟨by omega, by omega, 0, by rw [ef], rfl⟩
    · left; rw [pi_wIi y, p3 e, if_pos (by omega)]
  · intro m hm k e he w
    have hm : m ≤ 0 := hm
    have : m = 0 := by omega
    subst this
    obtain ⟨w1, w2⟩ := w
    show 0 ≤ pi (pwI g 314 fm.toNat 0) 314 e ∧ pi (pwI g 314 fm.toNat 0) 314 e ≤ k
    rw [show e = fm.toNat by omega, pi_wIs]
    omega
end Cj
