/-! drawn: both are the same -/
def mu7 (f : Nat → Int) (m : Nat) : Nat := match m with
  | 0 => 0
  | m + 1 => mu7 f m + (7 - f m).toNat * 16 ^ (7 - m)
theorem mu7_c {f g : Nat → Int} : ∀ {m : Nat}, (∀ i, i < m → f i = g i) → mu7 f m = mu7 g m
  | 0, _ => rfl
  | m + 1, h => by rw [mu7, mu7, mu7_c (m := m) (fun i hi => h i (by omega)), h m (by omega)]
section En
variable {g : pH} {l w : Nat} {L W wt sv : Nat → Int}
def DIs (g : pH) (L W wt sv : Nat → Int) (N m : Nat) (b : Int) (t : pH) : Prop := MF g t ∧ m ≤ N ∧ (0 ≤ b ∧ b ≤ 1000000) ∧ (∀ i, i < m → -1 ≤ pi t 431 i ∧ pi t 431 i ≤ 6) ∧ ∃ Ts : Nat → Nat → Int, (∀ i, i < m → E8 (Ts i) (cst t i) ∧ SV L (Ts i) (31 + i) ∧ mv L W wt sv N (pi g 422) ≤ mv L W wt sv (N - i) (Ts i)) ∧ DST L W wt sv (pi g 422) N m Ts (pi t 431) b (pi t 432)
theorem m_bestRow {N : Nat} {b x3 : Int} {K : Int → Int → pH → Option (Int × pH)} {t : pH} (hN : N ≤ 6) : ∃ t', pl_M_drawsBest_107 N K fu_ b x3 0 t = K b x3 t' ∧ fr (fun c => c = 432) t t' ∧ ∀ i, i < N → pi t' 432 i = pi t 431 i := by
  refine lpf (F := fun n (i : Nat) u => pl_M_drawsBest_107 N K n b x3 i u) (Q := fun r => ∃ t', r = K b x3 t' ∧ fr (fun c => c = 432) t t' ∧ ∀ i, i < N → pi t' 432 i = pi t 431 i) N (fun i u => fr (fun c => c = 432) t u ∧ ∀ j, j < i → pi u 432 j = pi t 431 j) ?_ ?_ fu_ 0 t (by omega) (by unfold fu_; omega) ⟨fr_refl, fun j hj => by omega⟩
  · intro n i u hi ⟨f, k⟩
    right
    refine ⟨pwI u 432 i (pi t 431 i), ?_, fr_wI f rfl, fun j hj => ?_⟩
    · show pl_M_drawsBest_107 N K (n + 1) b x3 i u = pl_M_drawsBest_107 N K n b x3 (i + 1 : Nat) _
      rw [pl_M_drawsBest_107, if_neg (by omega), gib (by omega) (by omega), gib (by omega) (by omega), wr_eq (by omega) (by omega), Int.toNat_natCast, fr_i f (by omega)]
      rfl
    · by_cases y : j = i
      · rw [y, pi_wIs]
      · rw [pi_wIi y]; exact k j (by omega)
  · intro n u ⟨f, k⟩
    refine ⟨u, ?_, f, k⟩
    show pl_M_drawsBest_107 N K (n + 1) b x3 (N : Nat) u = _
    rw [pl_M_drawsBest_107, if_pos (Int.le_refl _)]
theorem m_drawsBest {N : Nat} (M : MC g l w L W wt sv 0) (V : SV L (pi g 422) 31) (Z : ∀ c : Nat, c < 36 → pi g 424 c = 0) (hN : 1 ≤ N ∧ N ≤ 6) : ∃ g', pf_M_drawsBest N g = some (mv L W wt sv N (pi g 422), g') ∧ MF g g' ∧ ∀ i, i < N → pi g' 432 i = orw L W wt sv N (pi g 422) i := by
  have kL := M.1.2.2.2.2.2.2.1
  have kW := M.1.2.2.2.2.2.2.2
  have mb0 := mv_bd (L := L) (W := W) (wt := wt) (sv := sv) (n := N) (S := pi g 422) kL
  obtain ⟨g1, p1, p2, p3⟩ := m_copies (a := 0) (b := 1) (h := g) (by omega) (by omega) (by omega)
  have F1 : MF g g1 := ⟨fr_mono p2 (fun b hb => by unfold MFs; omega), fun j _ _ => fr_i p2 (by omega)⟩
  unfold pf_M_drawsBest
  have p1 : pf_M_copies 0 1 g = some g1 := p1
  rw [p1, bsm]
  refine lp (F := fun n (t : (Nat × Int) × pH) => pl_M_drawsBest_18 N (fun x2 h => some (x2, h)) n t.1.2 ((t.1.1 : Int) - 1) t.2) (Q := fun r => ∃ g', r = some (mv L W wt sv N (pi g 422), g') ∧ MF g g' ∧ ∀ i, i < N → pi g' 432 i = orw L W wt sv N (pi g 422) i) (I := fun t => DIs g L W wt sv N t.1.1 t.1.2 t.2) (fun t => mu7 (pi t.2 431) t.1.1) ?_ fu_ ((1, 1000000), pwI g1 431 0 (-1)) ?_ ?_
  · intro n ⟨⟨m, b⟩, t⟩ ⟨F, mN, bb, rows, Ts, TT, D⟩
    have F : MF g t := F
    have mN : m ≤ N := mN
    have bb : 0 ≤ b ∧ b ≤ 1000000 := bb
    have rows : ∀ i, i < m → -1 ≤ pi t 431 i ∧ pi t 431 i ≤ 6 := rows
    have TT : ∀ i, i < m → E8 (Ts i) (cst t i) ∧ SV L (Ts i) (31 + i) ∧ mv L W wt sv N (pi g 422) ≤ mv L W wt sv (N - i) (Ts i) := TT
    have D : DST L W wt sv (pi g 422) N m Ts (pi t 431) b (pi t 432) := D
    show (∃ g', pl_M_drawsBest_18 N _ (n + 1) b ((m : Int) - 1) t = some (_, g') ∧ _) ∨ ∃ t' : (Nat × Int) × pH, pl_M_drawsBest_18 N _ (n + 1) b ((m : Int) - 1) t = pl_M_drawsBest_18 N _ n t'.1.2 ((t'.1.1 : Int) - 1) t'.2 ∧ DIs g L W wt sv N t'.1.1 t'.1.2 t'.2 ∧ mu7 (pi t'.2 431) t'.1.1 < mu7 (pi t 431) m
    cases m with
    | zero =>
      left
      rw [pl_M_drawsBest_18, if_pos (by decide)]
      rcases D with ⟨j, j1, _⟩ | ⟨D1, D2⟩
      · omega
      · exact ⟨t, by rw [D1], F, D2⟩
    | succ k =>
      right
      have rk := rows k (by omega)
      obtain ⟨E, VT, lo⟩ := TT k (by omega)
      have ek : ((k + 1 : Nat) : Int) - 1 = (k : Int) := by omega
      rw [pl_M_drawsBest_18, ek, if_neg (by omega), gib (by omega) (by omega), gib (by omega) (by omega), gib (by omega) (by omega), Int.toNat_natCast, wr_eq (x := pi t 431 k + 1) (by omega) (by omega), pi_wIs]
      generalize eH : pwI t 431 k (pi t 431 k + 1) = H
      have a31 : pi H 431 = up1 (pi t 431) k (pi t 431 k + 1) := by rw [← eH, up1_pi]
      have a32 : pi H 432 = pi t 432 := by rw [← eH, pi_wIf (by decide)]
      have a22 : pi H 422 = pi t 422 := by rw [← eH, pi_wIf (by decide)]
      have FH : MF g H := by rw [← eH]; exact MF_wI F (by unfold MFs; omega) (Or.inl (by decide))
      have p16 : 0 < 16 ^ (7 - k) := Nat.pow_pos (by decide)
      have mut_ : mu7 (pi t 431) (k + 1) = mu7 (pi t 431) k + (7 - pi t 431 k).toNat * 16 ^ (7 - k) := rfl
      have muk : mu7 (up1 (pi t 431) k (pi t 431 k + 1)) k = mu7 (pi t 431) k := mu7_c (fun i hi => up1_n (by omega))
      have mu1 : mu7 (up1 (pi t 431) k (pi t 431 k + 1)) (k + 1) + 16 ^ (7 - k) = mu7 (pi t 431) (k + 1) := by
        rw [mut_, mu7, muk, up1_s]
        have : ((7 - (pi t 431 k + 1)).toNat + 1) * 16 ^ (7 - k) = (7 - pi t 431 k).toNat * 16 ^ (7 - k) := congrArg (· * 16 ^ (7 - k)) (by omega)
        rw [Nat.add_mul] at this
        omega
      have rowH : ∀ i, i < k → -1 ≤ up1 (pi t 431) k (pi t 431 k + 1) i ∧ up1 (pi t 431) k (pi t 431 k + 1) i ≤ 6 := fun i hi => by rw [up1_n (by omega)]; exact rows i (by omega)
      by_cases y1 : pi t 431 k + 1 ≤ 6
      · rw [if_pos y1]
        obtain ⟨s, es⟩ : ∃ s : Nat, pi t 431 k + 1 = s := ⟨(pi t 431 k + 1).toNat, by omega⟩
        obtain ⟨u, v, q1, q2, q3, q4, q5, q6⟩ := m_draws (h := H) (i := k) (s := s) (T := Ts k) (d := 31 + k) (MF_MC M FH) (fun c hc => by rw [MF_24 FH]; exact Z c hc) (by omega) (by omega) (by rw [a31, up1_s]; exact es) (fun j hj => by rw [E j hj]; unfold cst; rw [a22]) VT (by omega)
        have Fu : MF g u := MF_trans FH q2
        have u31 : pi u 431 = up1 (pi t 431) k (pi t 431 k + 1) := by rw [q4, a31]
        have u32 : pi u 432 = pi t 432 := by rw [q5, a32]
        have cu : ∀ i j, cst u i j = cst t i j := fun i j => by unfold cst; rw [q3 _ (by omega), a22]
        have rowK : ∀ i, i < k + 1 → -1 ≤ up1 (pi t 431) k (pi t 431 k + 1) i ∧ up1 (pi t 431) k (pi t 431 k + 1) i ≤ 6 := fun i hi => by
          by_cases e : i = k
          · rw [e, up1_s]; omega
          · exact rowH i (by omega)
        have TTu : ∀ i, i < k + 1 → E8 (Ts i) (cst u i) ∧ SV L (Ts i) (31 + i) ∧ mv L W wt sv N (pi g 422) ≤ mv L W wt sv (N - i) (Ts i) := fun i hi => ⟨fun j hj => by rw [cu]; exact (TT i hi).1 j hj, (TT i hi).2⟩
        rw [q1, bsm]
        simp only []
        have stay : ∀ b', (0 ≤ b' ∧ b' ≤ 1000000) → ∀ u', MF g u' → pi u' 431 = up1 (pi t 431) k (pi t 431 k + 1) → (∀ i j, cst u' i j = cst t i j) → DST L W wt sv (pi g 422) N (k + 1) Ts (up1 (pi t 431) k (pi t 431 k + 1)) b' (pi u' 432) → ∃ t' : (Nat × Int) × pH, pl_M_drawsBest_18 N (fun x2 h => some (x2, h)) n b' (k : Int) u' = pl_M_drawsBest_18 N (fun x2 h => some (x2, h)) n t'.1.2 ((t'.1.1 : Int) - 1) t'.2 ∧ DIs g L W wt sv N t'.1.1 t'.1.2 t'.2 ∧ mu7 (pi t'.2 431) t'.1.1 < mu7 (pi t 431) (k + 1) := by
          intro b' hb' u' Fu' e31 ec D'
          refine ⟨((k + 1, b'), u'), ?_, ⟨Fu', mN, hb', ?_, Ts, fun i hi => ⟨fun j hj => ?_, (TT i hi).2⟩, ?_⟩, ?_⟩
          · show _ = pl_M_drawsBest_18 N _ n b' (((k + 1 : Nat) : Int) - 1) u'
            rw [ek]
          · show ∀ i, i < k + 1 → -1 ≤ pi u' 431 i ∧ pi u' 431 i ≤ 6
            rw [e31]; exact rowK
          · rw [ec]; exact (TT i hi).1 j hj
          · show DST L W wt sv (pi g 422) N (k + 1) Ts (pi u' 431) b' (pi u' 432)
            rw [e31]; exact D'
          · show mu7 (pi u' 431) (k + 1) < _
            rw [e31]; omega
        rcases q6 with ⟨c, ev⟩ | ⟨c, ev, Ed⟩
        · rw [ev, if_pos rfl]
          exact stay b bb u Fu u31 cu (by rw [u32]; exact DST_con kL D es c)
        · rw [ev, if_neg (by decide), wr_eq (x := (k : Int) + 1) (by omega) (by omega)]
          by_cases y2 : k + 1 = N
          · rw [if_pos (by omega)]
            have lw : pf_M_leftWorth u = some (mv L W wt sv 0 (dwn L W wt sv (Ts k) s)) := by
              rw [m_leftWorth (MF_MC M Fu).1, mv]
              unfold wno
              refine congrArg some (sumw_c (fun t ht => ?_))
              have := NS_le kL
              unfold wnof
              rw [Ed (72 + t) (by omega)]
            have wb := mv_bd (L := L) (W := W) (wt := wt) (sv := sv) (n := 0) (S := dwn L W wt sv (Ts k) s) kL
            obtain ⟨z1, z2⟩ := DST_lea kL y2 D es c lo
            rw [lw, bsm]
            by_cases y3 : mv L W wt sv 0 (dwn L W wt sv (Ts k) s) < b
            · rw [if_pos y3, bsm]
              obtain ⟨u', r1, r2, r3⟩ := m_bestRow (N := N) (b := mv L W wt sv 0 (dwn L W wt sv (Ts k) s)) (x3 := (k : Int)) (t := u) (K := fun x2 x3 h => pl_M_drawsBest_18 N (fun x2 h => some (x2, h)) n x2 x3 h) hN.2
              rw [r1]
              refine stay _ (by omega) u' (MF_trans Fu ⟨fr_mono r2 (fun c hc => by unfold MFs; omega), fun j _ _ => fr_i r2 (by omega)⟩) (by rw [fr_fi r2 (by omega)]; exact u31) (fun i j => by unfold cst; rw [fr_i r2 (by omega)]; exact cu i j) (z1 y3 _ (fun i hi => by rw [r3 i hi, u31]))
            · rw [if_neg y3]
              exact stay b bb u Fu u31 cu (by rw [u32]; exact z2 y3)
          · rw [if_neg (by omega)]
            obtain ⟨u2, c1, c2, c3⟩ := m_copies (a := 0) (b := 2 + k) (h := u) (by omega) (by omega) (by omega)
            have c1 : pf_M_copies 0 ((2 + k : Nat) : Int) u = some u2 := c1
            rw [show wr (2 + (k : Int)) = ((2 + k : Nat) : Int) from by rw [wr_eq (by omega) (by omega)]; omega, c1, bsm, gib (by omega) (by omega), show ((k : Int) + 1).toNat = k + 1 by omega]
            have Fu2 : MF g u2 := MF_trans Fu ⟨fr_mono c2 (fun c hc => by unfold MFs; omega), fun j _ _ => fr_i c2 (by omega)⟩
            have c31 : pi (pwI u2 431 (k + 1) (-1)) 431 = up1 (up1 (pi t 431) k (pi t 431 k + 1)) (k + 1) (-1) := by rw [up1_pi, fr_fi c2 (by omega), u31]
            refine ⟨((k + 2, b), pwI u2 431 (k + 1) (-1)), ?_, ⟨MF_wI Fu2 (by unfold MFs; omega) (Or.inl (by decide)), by show k + 2 ≤ N; omega, bb, ?_, upT Ts (k + 1) (dwn L W wt sv (Ts k) s), fun i hi => ?_, ?_⟩, ?_⟩
            · show _ = pl_M_drawsBest_18 N _ n b (((k + 2 : Nat) : Int) - 1) _
              rw [show ((k + 2 : Nat) : Int) - 1 = (k : Int) + 1 by omega]
            · show ∀ i, i < k + 2 → -1 ≤ pi (pwI u2 431 (k + 1) (-1)) 431 i ∧ pi (pwI u2 431 (k + 1) (-1)) 431 i ≤ 6
              rw [c31]
              intro i hi
              by_cases e : i = k + 1
              · rw [e, up1_s]; omega
              · rw [up1_n e]; exact rowK i (by omega)
            · have hi : i < k + 2 := hi
              show E8 (upT Ts (k + 1) (dwn L W wt sv (Ts k) s) i) (cst (pwI u2 431 (k + 1) (-1)) i) ∧ SV L (upT Ts (k + 1) (dwn L W wt sv (Ts k) s) i) (31 + i) ∧ mv L W wt sv N (pi g 422) ≤ mv L W wt sv (N - i) (upT Ts (k + 1) (dwn L W wt sv (Ts k) s) i)
              unfold upT
              by_cases e : i = k + 1
              · rw [if_pos e, e]
                refine ⟨fun j hj => ?_, SV_dwn kL kW VT c, ?_⟩
                · unfold cst
                  rw [pi_wIa (by decide), c3 _, if_pos (by omega), Ed j hj]
                  exact congrArg _ (by omega)
                · have gm := mv_le (sv := sv) (n := N - (k + 1)) kL c
                  rw [show N - (k + 1) + 1 = N - k by omega] at gm
                  omega
              · rw [if_neg e]
                refine ⟨fun j hj => ?_, (TT i (by omega)).2⟩
                have := (TT i (by omega)).1 j hj
                rw [this, ← cu i j]
                unfold cst
                rw [pi_wIa (by decide), c3 _, if_neg (by omega)]
            · show DST L W wt sv (pi g 422) N (k + 2) (upT Ts (k + 1) (dwn L W wt sv (Ts k) s)) (pi (pwI u2 431 (k + 1) (-1)) 431) b (pi (pwI u2 431 (k + 1) (-1)) 432)
              rw [c31, pi_wIf (by decide), fr_fi c2 (by omega), u32]
              exact DST_psh kL (by omega) D es c
            · show mu7 (pi (pwI u2 431 (k + 1) (-1)) 431) (k + 2) < _
              rw [c31, mu7, up1_s]
              have m1 : mu7 (up1 (up1 (pi t 431) k (pi t 431 k + 1)) (k + 1) (-1)) (k + 1) = mu7 (up1 (pi t 431) k (pi t 431 k + 1)) (k + 1) := mu7_c (fun i hi => up1_n (by omega))
              rw [m1]
              have q2' : 16 ^ (7 - k) = 16 ^ (7 - (k + 1)) * 16 := by rw [← Nat.pow_succ]; exact congrArg _ (by omega)
              have q3' : 0 < 16 ^ (7 - (k + 1)) := Nat.pow_pos (by decide)
              have q4' : ((7 : Int) - -1).toNat = 8 := rfl
              rw [q4']
              omega
      · rw [if_neg y1, wr_eq (x := (k : Int) + -1) (by omega) (by omega)]
        refine ⟨((k, b), H), ?_, ⟨FH, by show k ≤ N; omega, bb, ?_, Ts, fun i hi => ⟨fun j hj => ?_, (TT i (by have hi : i < k := hi; omega)).2⟩, ?_⟩, ?_⟩
        · show _ = pl_M_drawsBest_18 N _ n b ((k : Int) - 1) H
          rw [show (k : Int) + -1 = (k : Int) - 1 by omega]
        · show ∀ i, i < k → -1 ≤ pi H 431 i ∧ pi H 431 i ≤ 6
          rw [a31]; exact rowH
        · have hi : i < k := hi
          rw [(TT i (by omega)).1 j hj]
          unfold cst
          rw [a22]
        · show DST L W wt sv (pi g 422) N k Ts (pi H 431) b (pi H 432)
          rw [a31, a32]
          exact DST_pop kL D (by omega)
        · show mu7 (pi H 431) k < _
          rw [a31, muk, mut_]
          have : 1 * 16 ^ (7 - k) ≤ (7 - pi t 431 k).toNat * 16 ^ (7 - k) := Nat.mul_le_mul_right _ (by omega)
          omega
  · refine ⟨MF_wI F1 (by unfold MFs; omega) (Or.inl (by decide)), by show 1 ≤ N; omega, by show (0 : Int) ≤ 1000000 ∧ (1000000 : Int) ≤ 1000000; omega, fun i hi => ?_, fun _ => pi g 422, fun i hi => ⟨fun j hj => ?_, ?_, ?_⟩, Or.inl ⟨0, by show 0 < 1; omega, by omega, fun i hi => by rw [show i = 0 by omega]; rfl, fun i hi => by omega, ?_, fun i a c => ?_, ?_⟩⟩
    · have hi : i < 1 := hi
      show -1 ≤ pi (pwI g1 431 0 (-1)) 431 i ∧ pi (pwI g1 431 0 (-1)) 431 i ≤ 6
      rw [show i = 0 by omega, pi_wIs]; omega
    · have hi : i < 1 := hi
      show pi g 422 j = cst (pwI g1 431 0 (-1)) i j
      unfold cst
      rw [show i = 0 by omega, pi_wIa (by decide), p3 _, if_pos (by omega)]
      exact congrArg _ (by omega)
    · have hi : i < 1 := hi
      rw [show i = 0 by omega]; exact V
    · have hi : i < 1 := hi
      rw [show i = 0 by omega]; exact Int.le_refl _
    · show pi (pwI g1 431 0 (-1)) 431 0 < _
      rw [pi_wIs]; omega
    · have c : i < 1 := c
      omega
    · show mv L W wt sv N (pi g 422) < 1000000
      omega
  · show mu7 (pi (pwI g1 431 0 (-1)) 431) 1 < fu_
    rw [mu7, mu7, pi_wIs]
    unfold fu_
    decide
end En
theorem p_drawn {x y z n days o : Int} (ho : o < 2147483648) : asks (pf_I_drawn x y z n days o) (pf_M_drawn x y z n days o) := by
  by_cases q0 : 1 ≤ days ∧ days ≤ 6
  · by_cases q1 : o = 0 ∨ (10 ≤ o ∧ o < 10 + days)
    · refine ask_gx (x := x) (y := y) (z := z) (n := n) (-2) (kc := fun v1 => (if v1.1 = 0 then (some ((-2), v1.2)) else (if o < 10 then (pj_I_drawn_50 x y z n days o 0 v1.2) else (if (wr (10 + days)) ≤ o then (pj_I_drawn_50 x y z n days o 0 v1.2) else (pj_I_drawn_50 x y z n days o 1 v1.2))))) (km := fun v2 => (if v2.1 = 0 then (some ((-2), v2.2)) else ((pf_M_drawsBest days v2.2).bind fun v3 => (if o = 0 then (some (v3.1, v3.2)) else (ia_gd (pib (wr (o - 10)) 6) (if (pi v3.2 432 (Int.toNat (wr (o - 10)))) = 6 then (some ((-1), v3.2)) else (ia_gd (pib (wr (o - 10)) 6) (some (pi v3.2 432 (Int.toNat (wr (o - 10))), v3.2))))))))) (fun h => by unfold pf_I_drawn; rw [if_neg (by omega), if_neg (by omega)]) (fun h => ?_) (fun _ => rfl) (fun _ => rfl) ?_
      · unfold pf_M_drawn
        rw [m_isIn, bsm, if1, if_pos q0, m_isIn, bsm, if1, wr_eq (by omega) (by omega)]
        by_cases o0 : o = 0
        · rw [if_pos o0]; rfl
        · rw [if_neg o0, if_pos (by omega)]; rfl
      · intro p q l w L W S h g ⟨C, K, M, eS, Z, V, TT⟩
        have kL := C.2.2.1
        have hW := WS0 kL
        subst eS
        obtain ⟨N, rfl⟩ : ∃ N : Nat, days = N := ⟨days.toNat, by omega⟩
        obtain ⟨g', m1, m2, m3⟩ := m_drawsBest (N := N) M V Z (by omega)
        have mb0 := mv_bd (L := L) (W := W) (wt := wt0 L) (sv := sv0 L) (n := N) (S := pi g 422) kL
        obtain ⟨h1, b1, b2, b3⟩ := c_become (a := 349) (b := 303) (h := pwI h 345 6 N) (SC_fr K (fr_wI fr_refl rfl : fr (fun b => b = 345) h _) (fun b hb => by omega)) kL (by omega) (by omega)
        have f1 : fr CGs h h1 := fr_trans (fr_wI fr_refl (by unfold CGs; omega)) (fr_mono b2 (fun b hb => by unfold SF at hb; unfold CGs; omega))
        have f2 : fr CGs h (pwI h1 345 0 1000) := fr_wI f1 (by unfold CGs; omega)
        have C2 : CX (pwI h1 345 0 1000) p q L W := CX_fr C f2 (fun b hb => hb.1)
        have K2 : SC (pwI h1 345 0 1000) (349 + 8 * 0) p q L W (wt0 L) (sv0 L) false (pi g 422) := SC_fr b3 (fr_wI fr_refl rfl : fr (fun b => b = 345) h1 _) (fun b hb => by omega)
        have e6 : pi (pwI h1 345 0 1000) 345 6 = ((0 + N : Nat) : Int) := by rw [pi_wIi (by decide), fr_i b2 (by unfold SF; omega), pi_wIs]; omega
        obtain ⟨h2, r1, r2, r3, r4, r5, r6⟩ := c_tryDay (p := p) (q := q) hW N 10 (by omega) 0 (pwI h1 345 0 1000) (pi g 422) 31 1000 (by omega) C2 K2 V (by omega) e6 pi_wIs (by omega)
        have r1 : pfr_Dr_tryDay 10 0 (pwI h1 345 0 1000) = some h2 := r1
        have f3 : fr CGs h h2 := fr_trans f2 (fr_mono r2 (fun b hb => by unfold DFs at hb; unfold CGs; omega))
        have rd : ∀ fl_ , pj_I_drawn_50 x y z n N o fl_ h = (if o = 0 then (if fl_ = 0 then some (pi h2 345 0, h2) else ia_gd (pib (wr (o - 10)) 6) (some (pi h2 346 (Int.toNat (wr (o - 10))), h2))) else (if fl_ = 0 then some (-2, h) else ia_gd (pib (wr (o - 10)) 6) (some (pi h2 346 (Int.toNat (wr (o - 10))), h2)))) := by
          intro fl_
          have rdy : pf_Dr_ready 303 N h = some (pwI h1 345 0 1000) := by
            unfold pf_Dr_ready
            rw [show min (N : Int) 6 = N by omega, b1, bsm]
          unfold pj_I_drawn_50 pj_I_drawn_65
          rw [rdy, bsm, r1, bsm]
          by_cases e1 : o = 0
          · rw [if_pos e1, if_pos e1]
          · rw [if_neg e1, if_neg e1]
            by_cases e2 : fl_ = 0
            · rw [if_pos e2, if_pos e2]
            · rw [if_neg e2, if_neg e2, if_neg e2]
        rcases r6 with ⟨s1, s2, s3, s4⟩ | ⟨s1, s2, s3⟩
        · simp only []
          rw [if_neg (show ¬ (1 : Int) = 0 by decide), if_neg (show ¬ (1 : Int) = 0 by decide), m1, bsm, rd, rd, wr_eq (x := 10 + (N : Int)) (by omega) (by omega)]
          by_cases o0 : o = 0
          · rw [if_pos (by omega), if_pos o0, if_pos rfl, if_pos o0, s2]
            exact ⟨_, h2, g', rfl, f3, rfl, MF_MG m2⟩
          · have o10 : 10 ≤ o ∧ o < 10 + N := by omega
            have s4' := s4 (o - 10).toNat (by omega)
            have m3' := m3 (o - 10).toNat (by omega)
            have o6 := orw_6 (L := L) (W := W) (wt := wt0 L) (sv := sv0 L) (S := pi g 422) (N := N) (i := (o - 10).toNat) kL
            rw [Nat.zero_add] at s4'
            rw [if_neg (by omega), if_neg (by omega), if_neg o0, if_neg (by decide), if_neg o0, wr_eq (by omega) (by omega), gib (by omega) (by omega), gib (by omega) (by omega), gib (by omega) (by omega), s4', m3']
            unfold rwv
            by_cases k6 : orw L W (wt0 L) (sv0 L) N (pi g 422) (o - 10).toNat = 6
            · rw [if_pos k6, if_pos (by omega)]
              exact ⟨_, h2, g', rfl, f3, rfl, MF_MG m2⟩
            · rw [if_neg k6, if_neg (by omega)]
              exact ⟨_, h2, g', rfl, f3, rfl, MF_MG m2⟩
        · omega
    · refine ask_no (-2) (c_no (x := x) (y := y) (z := z) (n := n) (-2) (kc := fun v1 => (if v1.1 = 0 then (some ((-2), v1.2)) else (if o < 10 then (pj_I_drawn_50 x y z n days o 0 v1.2) else (if (wr (10 + days)) ≤ o then (pj_I_drawn_50 x y z n days o 0 v1.2) else (pj_I_drawn_50 x y z n days o 1 v1.2))))) (fun h => by unfold pf_I_drawn; rw [if_neg (by omega), if_neg (by omega)]) (fun _ => rfl) ?_) (fun g B I => ⟨g, ?_, MG_refl⟩)
      · intro p q L W S h C K V
        refine ⟨h, ?_, fr_refl⟩
        rw [n10]
        simp only []
        have e : pj_I_drawn_50 x y z n days o 0 h = some (-2, h) := by
          unfold pj_I_drawn_50
          rw [if_neg (by omega), if_pos rfl]
        rw [wr_eq (by omega) (by omega)]
        by_cases o1 : o < 10
        · rw [if_pos o1, e]
        · rw [if_neg o1, if_pos (by omega), e]
      · unfold pf_M_drawn
        rw [m_isIn, bsm, if1, if_pos q0, if_neg (by omega), m_isIn, bsm, if1, wr_eq (by omega) (by omega), if_neg (by omega)]
  · intro h A R e I
    refine ⟨-2, h, h, ?_, fr_refl, ?_, MG_refl⟩
    · unfold pf_I_drawn
      by_cases d1 : days < 1
      · rw [if_pos d1]
      · rw [if_neg d1, if_pos (by omega)]
    · unfold pf_M_drawn
      rw [m_isIn, bsm, if1, if_neg q0]
