/-! the end of a lake: the lake itself -/
theorem stp1 {w lo hi : Int} (w2 : 2 ≤ w ∧ w ≤ 6) (l0 : 0 ≤ lo) (lh : lo < hi) (h35 : hi ≤ 35) : stp w hi lo = 1 ↔ ((hi = lo + 1 ∧ ¬ hi % w = 0) ∨ hi = lo + w) := by
  unfold stp
  have : w = 2 ∨ w = 3 ∨ w = 4 ∨ w = 5 ∨ w = 6 := by omega
  rcases this with e | e | e | e | e <;> rw [e] <;> omega
theorem be4 {w hn c : Int} : (be w hn c 0 = -1 ∨ be w hn c 0 = c - w) ∧ (be w hn c 1 = -1 ∨ be w hn c 1 = c - 1) ∧ (be w hn c 2 = -1 ∨ be w hn c 2 = c + 1) ∧ (be w hn c 3 = -1 ∨ be w hn c 3 = c + w) := by
  have e0 : be w hn c 0 = (if c < w then -1 else c - w) := rfl
  have e1 : be w hn c 1 = (if c % w = 0 then -1 else c - 1) := rfl
  have e2 : be w hn c 2 = (if c % w = w - 1 then -1 else c + 1) := rfl
  have e3 : be w hn c 3 = (if c + w < w * hn then c + w else -1) := rfl
  rw [e0, e1, e2, e3]
  refine ⟨?_, ?_, ?_, ?_⟩
  · split; exact Or.inl rfl; exact Or.inr rfl
  · split; exact Or.inl rfl; exact Or.inr rfl
  · split; exact Or.inl rfl; exact Or.inr rfl
  · split; exact Or.inr rfl; exact Or.inl rfl
section Ud
variable {h g : pH}
/-- the two ends of a crack -/
theorem ends {C : Nat → Int} {k : Nat} (a : 0 ≤ C (2 * k) ∧ C (2 * k) ≤ 35) (b : 0 ≤ C (2 * k + 1) ∧ C (2 * k + 1) ≤ 35) (ne : C (2 * k) ≠ C (2 * k + 1)) : ∃ lo hi : Nat, cLo C k = lo ∧ cHi C k = hi ∧ lo < hi ∧ hi ≤ 35 ∧ ((C (2 * k) = lo ∧ C (2 * k + 1) = hi) ∨ (C (2 * k) = hi ∧ C (2 * k + 1) = lo)) := by
  unfold cHi cLo
  by_cases y : C (2 * k + 1) ≤ C (2 * k)
  · rw [if_pos y]
    exact ⟨(C (2 * k + 1)).toNat, (C (2 * k)).toNat, by omega, by omega, by omega, by omega, Or.inr ⟨by omega, by omega⟩⟩
  · rw [if_neg y]
    exact ⟨(C (2 * k)).toNat, (C (2 * k + 1)).toNat, by omega, by omega, by omega, by omega, Or.inl ⟨by omega, by omega⟩⟩
theorem crk_eq {w : Int} {m : Nat} (w2 : 2 ≤ w ∧ w ≤ 6) (D : D0c h g) (em : pi g 417 11 = m) : (∀ x, x < 36 → cP h w x) ↔ ∀ k, k < m → cGd w (pi g 421) k := by
  obtain ⟨_, d2, d3⟩ := D
  rw [em, Int.toNat_natCast] at d2
  rw [em] at d3
  generalize pi g 421 = C at *
  constructor
  · intro P k hk
    obtain ⟨a, b, ne⟩ := d3 k (by omega)
    obtain ⟨lo, hi, e1, e2, e3, e4, e5⟩ := ends a b ne
    have t : tb (pl h 284 hi) lo = true := (d2 hi lo (by omega) (by omega)).mpr ⟨k, hk, by rcases e5 with e5 | e5; exact Or.inr e5; exact Or.inl e5⟩
    have := (stp1 w2 (by omega) (by omega) (by omega)).mp (P hi (by omega) lo e3 t)
    unfold cGd cFl
    rw [e1, e2]
    exact this
  · intro G x hx y hy t
    obtain ⟨k, hk, e⟩ := (d2 x y hx (by omega)).mp t
    obtain ⟨a, b, ne⟩ := d3 k (by omega)
    obtain ⟨lo, hi, e1, e2, e3, e4, e5⟩ := ends a b ne
    have u := G k hk
    unfold cGd cFl at u
    rw [e1, e2] at u
    have xy : x = hi ∧ y = lo := by omega
    rw [xy.1, xy.2]
    exact (stp1 w2 (by omega) (by omega) (by omega)).mpr u
theorem lake_end {m n4 : Nat} {w hn : Nat} (D : DR0 h g) (e0 : pi g 420 0 = w) (e1 : pi g 420 1 = hn) (em : pi g 417 11 = m) (m68 : m ≤ 67) (e4 : pi g 420 4 = n4) : ∃ a x g', pf_La_isAmiss 280 h = some a ∧ pf_M_isWhole g = some (x, g') ∧ fr (fun b => b = 420) g g' ∧ ((a = 1 ∧ x = 0) ∨ (a = 0 ∧ x = 1 ∧ LK (pi g' 420) ∧ ∀ h', fr (fun b => b = 290 ∨ b = 291) h h' → CHt w hn (pl h 284) h' (w * hn) → LR h' 280 (pi g' 420))) := by
  obtain ⟨da, dt, ds, df, dp, dc, dn⟩ := D
  have q : sz (w : Int) (hn : Int) := by rw [← e0, ← e1]; exact da.2.1
  have w2 : 2 ≤ (w : Int) ∧ (w : Int) ≤ 6 := ⟨q.1, q.2.1⟩
  have z := sz_mul q
  have n6 : n4 ≤ 6 := by have := dp.2.1; omega
  have ceq := crk_eq w2 dc em
  have nmd : (∀ c : Nat, (w : Int) * hn ≤ c → c < 64 → ¬ tb (pl h 280 8) c = true) ↔ pi g 417 9 < (w : Int) * hn := by
    obtain ⟨n1, n2, n3, _⟩ := dn
    constructor
    · intro a
      rcases n3 with n3 | n3
      · omega
      · rcases Classical.em (pi g 417 9 < (w : Int) * hn) with u | u
        · exact u
        · exact absurd n3 (a (pi g 417 9).toNat (by omega) (by omega))
    · intro a c h1 h2 u
      have := n2 c h2 u
      omega
  have shp : sDs (pi h 286) n4 ↔ sDs (fun t => pi g 420 (236 + 4 * t)) n4 := by
    have e : ∀ t, t < n4 → pi h 286 t = pi g 420 (236 + 4 * t) := fun t ht => (dp.2.2 t (by rw [e4]; omega)).1.1
    constructor
    · intro a i hi j hj
      have := a i hi j hj
      rw [e i hi, e j (by omega)] at this
      exact this
    · intro a i hi j hj
      rw [e i hi, e j (by omega)]
      exact a i hi j hj
  have cls := c_amiss (h := h) (n4 := n4) q (by rw [da.1.1]; exact e0) (by rw [da.1.2.1]; exact e1) (by rw [dp.1]; exact e4) n6
  obtain ⟨x, g', a1, a2, a3, a4⟩ := m_isWhole (g := g) (n4 := n4) q e0 e1 em m68 (fun k hk => ⟨(dc.2.2 k (by rw [em]; omega)).1, (dc.2.2 k (by rw [em]; omega)).2.1⟩) e4 n6
  rcases a4 with ⟨x1, ⟨g1, g2, g3⟩, mk⟩ | ⟨x0, ng⟩
  · refine ⟨0, x, g', ?_, a1, a2, Or.inr ⟨rfl, x1, ?_⟩⟩
    · rw [cls, cif_t ⟨nmd.mpr g1, ceq.mpr g2, shp.mpr g3⟩]
    · have ex := dn.2.2.2
      have R0 : pi g' 420 0 = w := by rw [a3 0 (by decide)]; exact e0
      have R1 : pi g' 420 1 = hn := by rw [a3 1 (by decide)]; exact e1
      have ends_ : ∀ k, k < m → ∃ lo hi : Nat, cLo (pi g 421) k = lo ∧ cHi (pi g 421) k = hi ∧ lo < hi ∧ hi ≤ 35 ∧ ((pi g 421 (2 * k) = lo ∧ pi g 421 (2 * k + 1) = hi) ∨ (pi g 421 (2 * k) = hi ∧ pi g 421 (2 * k + 1) = lo)) := fun k hk => ends (dc.2.2 k (by rw [em]; omega)).1 (dc.2.2 k (by rw [em]; omega)).2.1 (dc.2.2 k (by rw [em]; omega)).2.2
      have old0 : ∀ j, 152 ≤ j → j < 224 → pi g 420 j = 0 := fun j j1 j2 => by
        have := dt.2.2.2 (j - 152) (by omega)
        rw [show 152 + (j - 152) = j by omega] at this
        exact this
      have mE : ∀ c : Nat, c < 36 → (pi g' 420 (152 + c) = 1 ↔ ∃ k, k < m ∧ cFl w (pi g 421) k ∧ cLo (pi g 421) k = c) := fun c hc => by
        rw [mk]
        rcases Classical.em (cMk w (pi g 421) m (152 + c)) with u | u
        · rw [cif_t u]
          refine ⟨fun _ => ?_, fun _ => rfl⟩
          obtain ⟨k, hk, v⟩ := u
          obtain ⟨lo, hi, l1, l2, l3, l4, l5⟩ := ends_ k hk
          rcases v with ⟨v1, v2⟩ | ⟨_, _, v2⟩
          · exact ⟨k, hk, v1, by rw [l1] at v2 ⊢; rw [Int.toNat_natCast] at v2; omega⟩
          · rw [l1, Int.toNat_natCast] at v2; omega
        · rw [cif_f u, old0 _ (by omega) (by omega)]
          refine ⟨fun v => by omega, fun ⟨k, hk, v1, v2⟩ => absurd ⟨k, hk, Or.inl ⟨v1, by rw [v2, Int.toNat_natCast]⟩⟩ u⟩
      have mS : ∀ c : Nat, c < 36 → (pi g' 420 (188 + c) = 1 ↔ ∃ k, k < m ∧ ¬ cFl w (pi g 421) k ∧ cHi (pi g 421) k = cLo (pi g 421) k + w ∧ cLo (pi g 421) k = c) := fun c hc => by
        rw [mk]
        rcases Classical.em (cMk w (pi g 421) m (188 + c)) with u | u
        · rw [cif_t u]
          refine ⟨fun _ => ?_, fun _ => rfl⟩
          obtain ⟨k, hk, v⟩ := u
          obtain ⟨lo, hi, l1, l2, l3, l4, l5⟩ := ends_ k hk
          rcases v with ⟨v1, v2⟩ | ⟨v0, v1, v2⟩
          · rw [l1, Int.toNat_natCast] at v2; omega
          · exact ⟨k, hk, v0, v1, by rw [l1] at v2 ⊢; rw [Int.toNat_natCast] at v2; omega⟩
        · rw [cif_f u, old0 _ (by omega) (by omega)]
          refine ⟨fun v => by omega, fun ⟨k, hk, v0, v1, v2⟩ => absurd ⟨k, hk, Or.inr ⟨v0, v1, by rw [v2, Int.toNat_natCast]⟩⟩ u⟩
      have bsE : ∀ c s, bs (pi g' 420) c s = be w hn c s := fun c s => by unfold bs; rw [R0, R1]
      have ceE : ce (pi g' 420) = (w : Int) * hn := by unfold ce; rw [R0, R1]
      have ck0 : ∀ c : Int, ck (pi g' 420) c 0 ↔ pi g' 420 ((188 + be w hn c 0).toNat) = 1 := fun c => by unfold ck; rw [if_pos rfl, bsE]
      have ck1 : ∀ c : Int, ck (pi g' 420) c 1 ↔ pi g' 420 ((152 + be w hn c 1).toNat) = 1 := fun c => by unfold ck; rw [if_neg (by decide), if_pos rfl, bsE]
      have ck2 : ∀ c : Int, ck (pi g' 420) c 2 ↔ pi g' 420 ((152 + c).toNat) = 1 := fun c => by unfold ck; rw [if_neg (by decide), if_neg (by decide), if_pos rfl]
      have ck3 : ∀ c : Int, ck (pi g' 420) c 3 ↔ pi g' 420 ((188 + c).toNat) = 1 := fun c => by unfold ck; rw [if_neg (by decide), if_neg (by decide), if_neg (by decide)]
      -- a crack of the class is a mark of the reference
      have CE : ∀ c d : Nat, (c : Int) < (w : Int) * hn → d < 64 → (tb (pl h 284 c) d = true ↔ ∃ s, s4 s ∧ be w hn c s = d ∧ ck (pi g' 420) c s) := fun c d hc hd => by
        have b0 : be w hn c 0 = (if (c : Int) < w then -1 else (c : Int) - w) := rfl
        have b1 : be w hn c 1 = (if (c : Int) % w = 0 then -1 else (c : Int) - 1) := rfl
        have b2 : be w hn c 2 = (if (c : Int) % w = w - 1 then -1 else (c : Int) + 1) := rfl
        have b3 : be w hn c 3 = (if (c : Int) + w < w * hn then (c : Int) + w else -1) := rfl
        obtain ⟨f0, f1, f2, f3⟩ := be4 (w := w) (hn := hn) (c := c)
        have tbE := dc.2.1 c d (by omega) hd
        rw [em, Int.toNat_natCast] at tbE
        rw [tbE]
        constructor
        · intro ⟨k, hk, e⟩
          obtain ⟨lo, hi, l1, l2, l3, l4, l5⟩ := ends_ k hk
          have G := g2 k hk
          have X := ex.2 k (by rw [em]; omega)
          have hiw : (hi : Int) < (w : Int) * hn := by omega
          have cd : (c = lo ∧ d = hi) ∨ (c = hi ∧ d = lo) := by omega
          rcases Classical.em (cFl w (pi g 421) k) with F | F
          · have F' := F
            unfold cFl at F'
            rw [l1, l2] at F'
            rcases cd with ⟨rfl, rfl⟩ | ⟨rfl, rfl⟩
            · refine ⟨2, Or.inr (Or.inr (Or.inl rfl)), ?_, (ck2 _).mpr ?_⟩
              · rw [b2, if_neg (by
                  intro v
                  have h5 : w = 2 ∨ w = 3 ∨ w = 4 ∨ w = 5 ∨ w = 6 := by omega
                  have F1 := F'.1
                  have F2 := F'.2
                  rw [F1] at F2
                  clear f0 f1 f2 f3 b0 b1 b2 b3 hiw z g1 hc X
                  rcases h5 with rfl | rfl | rfl | rfl | rfl <;> omega)]
                omega
              · rw [show (152 + (c : Int)).toNat = 152 + c by omega]
                exact (mE c (by omega)).mpr ⟨k, hk, F, l1⟩
            · refine ⟨1, Or.inr (Or.inl rfl), ?_, (ck1 _).mpr ?_⟩
              · rw [b1, if_neg F'.2]; omega
              · have : be w hn c 1 = d := by rw [b1, if_neg F'.2]; omega
                rw [this, show (152 + (d : Int)).toNat = 152 + d by omega]
                exact (mE d (by omega)).mpr ⟨k, hk, F, l1⟩
          · have Dp : cHi (pi g 421) k = cLo (pi g 421) k + w := by
              rcases G with G | G
              · exact absurd G F
              · exact G
            have Dp' := Dp
            rw [l1, l2] at Dp'
            rcases cd with ⟨rfl, rfl⟩ | ⟨rfl, rfl⟩
            · refine ⟨3, Or.inr (Or.inr (Or.inr rfl)), ?_, (ck3 _).mpr ?_⟩
              · rw [b3, if_pos (by omega)]; omega
              · rw [show (188 + (c : Int)).toNat = 188 + c by omega]
                exact (mS c (by omega)).mpr ⟨k, hk, F, Dp, l1⟩
            · have : be w hn c 0 = d := by rw [b0, if_neg (by omega)]; omega
              refine ⟨0, Or.inl rfl, this, (ck0 _).mpr ?_⟩
              rw [this, show (188 + (d : Int)).toNat = 188 + d by omega]
              exact (mS d (by omega)).mpr ⟨k, hk, F, Dp, l1⟩
        · intro ⟨s, hs, e, v⟩
          have fin : ∀ k lo hi : Nat, k < m → cLo (pi g 421) k = lo → cHi (pi g 421) k = hi → ((c = lo ∧ d = hi) ∨ (c = hi ∧ d = lo)) → crk (pi g 421) m c d := fun k lo hi hk k1 k2 k3 => by
            obtain ⟨lo', hi', l1, l2, l3, l4, l5⟩ := ends_ k hk
            refine ⟨k, hk, ?_⟩
            omega
          rcases hs with rfl | rfl | rfl | rfl
          · rw [ck0, e, show (188 + (d : Int)).toNat = 188 + d by omega] at v
            obtain ⟨k, hk, _, v1, v2⟩ := (mS d (by omega)).mp v
            exact fin k d c hk v2 (by rw [v1, v2]; omega) (Or.inr ⟨rfl, rfl⟩)
          · rw [ck1, e, show (152 + (d : Int)).toNat = 152 + d by omega] at v
            obtain ⟨k, hk, v1, v2⟩ := (mE d (by omega)).mp v
            exact fin k d c hk v2 (by rw [v1.1, v2]; omega) (Or.inr ⟨rfl, rfl⟩)
          · rw [ck2, show (152 + (c : Int)).toNat = 152 + c by omega] at v
            obtain ⟨k, hk, v1, v2⟩ := (mE c (by omega)).mp v
            exact fin k c d hk v2 (by rw [v1.1, v2]; omega) (Or.inl ⟨rfl, rfl⟩)
          · rw [ck3, show (188 + (c : Int)).toNat = 188 + c by omega] at v
            obtain ⟨k, hk, _, v1, v2⟩ := (mS c (by omega)).mp v
            exact fin k c d hk v2 (by rw [v1, v2]; omega) (Or.inl ⟨rfl, rfl⟩)
      refine ⟨?_, fun h' fh ch => ?_⟩
      · refine ⟨by rw [R0, R1]; exact q, by rw [a3 2 (by decide)]; exact da.2.2, by rw [a3 3 (by decide)]; exact df.2.1, by rw [a3 4 (by decide)]; exact dp.2.1, fun c hc => by rw [a3 _ (by omega)]; exact (dt.1 c hc).2, fun c hc => by rw [a3 _ (by omega)]; exact (dt.2.1 c hc).2, fun c hc => by rw [a3 _ (by omega)]; exact (dt.2.2.1 c hc).2, fun c hc => ?_, fun k hk => by rw [a3 _ (by omega)]; exact df.2.2.1 k hk, fun s hs => ?_, fun s t st ht => ?_⟩
        · by_cases y : c < 36
          · rw [a3 _ (by omega)]; exact (ds c y).2
          · rw [mk]
            rcases Classical.em (cMk w (pi g 421) m (116 + c)) with u | u
            · rw [cif_t u]; exact Or.inr rfl
            · rw [cif_f u]; exact Or.inl (old0 _ (by omega) (by omega))
        · rw [a3 4 (by decide)] at hs
          have S := dp.2.2 s hs
          have E := ex.1 s hs
          rw [a3 (236 + 4 * s) (by omega), a3 (237 + 4 * s) (by omega), a3 (238 + 4 * s) (by omega), a3 (239 + 4 * s) (by omega), R0, R1]
          exact ⟨⟨S.1.2.1, by omega⟩, S.2.1.2, S.2.2.1.2, S.2.2.2.2⟩
        · rw [a3 4 (by decide), e4] at ht
          rw [a3 _ (by omega), a3 _ (by omega)]
          exact fun u => g3 t (by omega) s st u.symm
      · have ph : ∀ b, 280 ≤ b → b ≤ 289 → pi h' b = pi h b ∧ pl h' b = pl h b := fun b u v => ⟨fr_fi fh (by omega), fr_fl fh (by omega)⟩
        refine ⟨⟨by rw [(ph 280 (by decide) (by decide)).1, R0, da.1.1]; exact e0, by rw [(ph 280 (by decide) (by decide)).1, R1, da.1.2.1]; exact e1, by rw [(ph 280 (by decide) (by decide)).1, a3 2 (by decide)]; exact da.1.2.2, by rw [(ph 280 (by decide) (by decide)).1, a3 3 (by decide)]; exact df.1, by rw [(ph 280 (by decide) (by decide)).1, a3 4 (by decide)]; exact dp.1⟩, fun c hc => ⟨by rw [(ph 281 (by decide) (by decide)).1, a3 _ (by omega)]; exact (dt.1 c hc).1, by rw [(ph 282 (by decide) (by decide)).1, a3 _ (by omega)]; exact (dt.2.1 c hc).1, by rw [(ph 283 (by decide) (by decide)).1, a3 _ (by omega)]; exact (dt.2.2.1 c hc).1⟩, fun k hk => ?_, fun s hs => ?_, fun c k hc hk => ?_, fun c hc => ?_, fun c d hc hd => ?_⟩
        · rw [a3 3 (by decide)] at hk
          rw [(ph 285 (by decide) (by decide)).1, a3 _ (by omega)]
          exact df.2.2.2 k hk
        · unfold NS at hs
          rw [a3 4 (by decide)] at hs
          have S := dp.2.2 s (by omega)
          rw [(ph 286 (by decide) (by decide)).1, (ph 287 (by decide) (by decide)).1, (ph 288 (by decide) (by decide)).1, (ph 289 (by decide) (by decide)).1, a3 _ (by omega), a3 _ (by omega), a3 _ (by omega), a3 _ (by omega)]
          exact ⟨S.1.1, S.2.1.1, S.2.2.1.1, S.2.2.2.1⟩
        · rw [ceE] at hc
          have hc' : c < w * hn := by rw [← Int.natCast_mul] at hc; omega
          obtain ⟨p1, p2⟩ := ch.1 c k hc' hk
          refine ⟨by rw [bsE]; exact p1, ?_⟩
          show pi h' 291 (4 * c + k) = nr (pi g' 420) c k
          rw [p2]
          have br := be_range (w := w) (h := hn) (c := c) (s := k) q (by omega) hc
          have sk : s4 (k : Int) := by unfold s4; omega
          have nrE : nr (pi g' 420) c k = cif (be w hn c k < 0) (-1) (cif (ck (pi g' 420) c k) (-1) (be w hn c k)) := by
            unfold nr
            rw [bsE c k]
            by_cases u : be w hn c k < 0
            · rw [if_pos u, cif_t u]
            · rw [if_neg u, cif_f u]
              by_cases v : ck (pi g' 420) c k
              · rw [cif_t v]; exact if_pos v
              · rw [cif_f v]; exact if_neg v
          rw [nrE]
          by_cases u : be w hn c k = -1
          · rw [if_pos u, cif_t (by omega)]
          · rw [if_neg u, cif_f (by omega)]
            obtain ⟨d, ed⟩ : ∃ d : Nat, be w hn c k = d := ⟨(be w hn c k).toNat, by omega⟩
            rw [ed, Int.toNat_natCast]
            have E := CE c d hc (by omega)
            have E' : tb (pl h 284 c) d = true ↔ ck (pi g' 420) c k := by
              rw [E]
              constructor
              · intro ⟨s, hs, s1, s2⟩
                have : s = k := by
                  obtain ⟨f0, f1, f2, f3⟩ := be4 (w := w) (hn := hn) (c := c)
                  clear E p1 p2 nrE CE mE mS ck0 ck1 ck2 ck3 br
                  rcases hs with rfl | rfl | rfl | rfl <;> rcases sk with e | e | e | e <;> rw [e] at ed ⊢ <;> omega
                rw [← this]; exact s2
              · intro v
                exact ⟨k, sk, ed, v⟩
            by_cases v : tb (pl h 284 c) d = true
            · rw [if_pos v, cif_t (E'.mp v)]
            · rw [if_neg v, cif_f (fun y => v (E'.mpr y))]
        · rw [ceE] at hc
          rw [(ph 280 (by decide) (by decide)).2, a3 _ (by omega)]
          exact (ds c (by omega)).1
        · rw [ceE] at hc
          rw [(ph 284 (by decide) (by decide)).2, CE c d hc hd]
          exact ⟨fun ⟨s, u1, u2, u3⟩ => ⟨s, u1, by rw [bsE]; exact u2, u3⟩, fun ⟨s, u1, u2, u3⟩ => ⟨s, u1, by rw [bsE] at u2; exact u2, u3⟩⟩
  · refine ⟨1, x, g', ?_, a1, a2, Or.inl ⟨rfl, x0⟩⟩
    rw [cls, cif_f (fun v => ng ⟨nmd.mp v.1, ceq.mp v.2.1, shp.mp v.2.2⟩)]
end Ud
