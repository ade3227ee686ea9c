/-! both readings of a text -/
def GOT (sr : Nat) (h g : pH) : Prop := (sr = 0 → LR h 280 (pi g 420) ∧ LK (pi g 420)) ∧ (sr = 1 → WR h 292 (pi g 420) ∧ WK (pi g 420)) ∧ (sr = 2 → PR h 296 (pi g 420) ∧ PK (pi g 420))
theorem read_both {sr n : Nat} {B : Nat → Int} {X G : pH} {x2 : Int} (ht : sr < 3) (o : OC X) (n6 : n ≤ 600) (by_ : ∀ i, i < n → (-128 ≤ pi X 66 i ∧ pi X 66 i ≤ 127) ∧ B i = pi X 66 i % 256) (m2 : pi G 417 2 = n) (mb : ∀ i, i < n → pi G 418 (10 + i) = B i ∧ 0 ≤ B i ∧ B i ≤ 255) (m4 : pi G 418 4 = 0) (m5 : pi G 418 5 = -1) : ∃ r h' g', pf_Re_read 66 n sr X = some (r, h') ∧ fr (fun b => 279 ≤ b ∧ b ≤ 302) X h' ∧ FMT G g' ∧ ((r = 0 ∧ pj_M_text_79 sr x2 G = some (-1, g') ∧ pi h' 279 3 = pi g' 418 4 ∧ pi h' 279 4 = pi g' 418 5) ∨ (r = 1 ∧ pj_M_text_79 sr x2 G = pj_M_text_171 sr x2 g' ∧ pi g' 418 4 = 0 ∧ pi g' 418 5 = -1 ∧ GOT sr h' g')) := by
  have k66 : (kd_D 66).2 = 600 := by decide +kernel
  have emin : min (n : Int) (wr ((kd_D 66).2 : Nat)) = n := by
    rw [k66, wr_eq (by decide) (by decide)]; omega
  generalize eX1 : pwI (pwI (pwR X 279 6 66) 279 7 (n : Int)) 279 8 (sr : Int) = X1
  have fX : fr (fun b => b = 279) X X1 := by rw [← eX1]; exact fr_wI (fr_wI (fr_wR fr_refl rfl) rfl) rfl
  have x6 : pr X1 279 6 = 66 := by
    rw [← eX1]
    show pr (pwR X 279 6 66) 279 6 = 66
    exact pr_wRs
  have x7 : pi X1 279 7 = n := by rw [← eX1, pi_wIi (by decide), pi_wIs]
  have x8 : pi X1 279 8 = sr := by rw [← eX1, pi_wIs]
  obtain ⟨v1, a1, a2, a3, a4, a5, ⟨a6, a7, a8, a9, a10, a11⟩, a12⟩ := c_clear (h := X1)
  have cb : CBx v1 B n := ⟨by rw [a3]; exact x6, by rw [a4]; exact x7, n6, fun i hi => by rw [fr_i a2 (by omega), fr_i fX (by decide)]; exact by_ i hi⟩
  generalize eG1 : pwI (pwI G 417 3 0) 417 8 0 = G1
  have fG : FMT G G1 := by
    rw [← eG1]
    exact ⟨fr_wI (fr_wI fr_refl (Or.inl rfl)) (Or.inl rfl), fun j hj => by rw [pi_wIi (by omega), pi_wIi (by omega)], fun j _ _ => by rw [pi_wIa (by decide), pi_wIa (by decide)]⟩
  have G3 : pi G1 417 3 = 0 := by rw [← eG1, pi_wIi (by decide), pi_wIs]
  have G8 : pi G1 417 8 = 0 := by rw [← eG1, pi_wIs]
  have G18 : ∀ j, pi G1 418 j = pi G 418 j := fun j => by rw [← eG1, pi_wIa (by decide), pi_wIa (by decide)]
  obtain ⟨g1, b1, b2, b3, b4, b5, b6⟩ := m_begins (g := G1) ht
  have fG1 : FMT G1 g1 := ⟨fr_mono b2 (fun b hb => by omega), fun j hj => b3 j (by omega) (by omega), fun j _ _ => fr_i b2 (by decide)⟩
  have mb1 : MB g1 B n := ⟨by rw [b3 2 (by decide) (by decide), fG.2.1 2 (by decide)]; exact m2, n6, fun i hi => by rw [fr_i b2 (by decide), G18]; exact mb i hi⟩
  obtain ⟨h2, g2, s, c1, c2, c3, c4, I⟩ := LIs_start (sr := sr) ht cb a8 a6 a7 (by rw [a5]; exact x8) ⟨a9, a10, a11⟩ a12 mb1 (by rw [b3 3 (by decide) (by decide)]; exact G3) (by rw [b3 8 (by decide) (by decide)]; exact G8) b4 b5 (by rw [fr_i b2 (by decide), G18]; exact m4) (by rw [fr_i b2 (by decide), G18]; exact m5) b6
  have f02 : fr (fun b => 279 ≤ b ∧ b ≤ 302) X h2 := fr_trans (fr_mono fX (fun b hb => by omega)) (fr_trans a2 (fr_mono c2.1 (fun b hb => by omega)))
  have o2 : OC h2 := OC_fr o f02
  obtain ⟨h3, g3, d1, d2, d3, d4⟩ := text_loop (B := B) (n := n) (a1 := 66) (sr := sr) (x2 := (n : Int)) (x3 := (sr : Int)) (x2' := x2) ht 600 (h := h2) (g := g2) (s := s) (f := 0) (q := -1) (x4 := 0) (k1 := fu_) (k2 := fu_) (by omega) (by unfold fu_; omega) (by unfold fu_; omega) (by omega) o2 I
  have hC : pf_Re_read 66 n sr X = pl_Re_read_31 66 n sr (fun h => some (0, h)) (fun h => pj_Re_read_61 66 n sr h) fu_ ((0 : Nat) : Int) h2 := by
    unfold pf_Re_read
    rw [emin, eX1, a1, bsm, c1, bsm]
    rfl
  have hM : pj_M_text_79 sr x2 G = pj_M_text_142 sr x2 g3 := by
    unfold pj_M_text_79
    rw [eG1, b1, bsm, c3, bsm]
    exact d3 _
  have F3 : fr (fun b => 279 ≤ b ∧ b ≤ 302) X h3 := fr_trans f02 d1
  have M3 : FMT G g3 := FMT_trans fG (FMT_trans fG1 (FMT_trans (MN_FMT (MA_MN c4)) d2))
  have neg1 : ∀ g', pi g' 418 4 ≠ 0 → pj_M_text_171 sr x2 g' = some (-1, g') := fun g' hg => by
    unfold pj_M_text_171
    rw [if_neg hg]
  rcases d4 with ⟨y1, y2, y3, y4⟩ | ⟨y1, f', q', J⟩
  · refine ⟨0, h3, g3, by rw [hC]; exact y1 _, F3, M3, Or.inl ⟨rfl, ?_, by rw [y2, y3], y4⟩⟩
    rw [hM]
    unfold pj_M_text_142
    rw [if_neg (by rw [y3]; decide), neg1 g3 (by rw [y3]; decide)]
  · have hC' : pf_Re_read 66 n sr X = pj_Re_read_61 66 n sr h3 := by rw [hC]; exact y1 _
    obtain ⟨e1, e2, e3, e4, e5, e6, e7⟩ := J
    rcases e5 with ⟨_, m1, mw, mf, mq, mk⟩ | ⟨w1, _⟩
    · have m1 : MT g3 B n n := m1
      have mf : pi g3 418 4 = f' := mf
      have mq : pi g3 418 5 = q' := mq
      have mk : FOK n f' q' := mk
      by_cases f0 : f' = 0
      · have q1 : q' = -1 := by unfold FOK at mk; omega
        have dr := e7 f0
        by_cases s0 : sr = 0
        · subst s0
          have D : DR0 h3 g3 := dr
          have cn := e6.2.2.2.1 rfl
          have szz := D.1.2.1
          obtain ⟨w, ew⟩ : ∃ w : Nat, pi g3 420 0 = w := ⟨(pi g3 420 0).toNat, by have := szz.1; omega⟩
          obtain ⟨hn, eh⟩ : ∃ w : Nat, pi g3 420 1 = w := ⟨(pi g3 420 1).toNat, by have := szz.2.2.1; omega⟩
          obtain ⟨m, em⟩ : ∃ m : Nat, pi g3 417 11 = m := ⟨(pi g3 417 11).toNat, by omega⟩
          obtain ⟨n4, e44⟩ : ∃ m : Nat, pi g3 420 4 = m := ⟨(pi g3 420 4).toNat, by have := D.2.2.2.2.1.2.1; omega⟩
          obtain ⟨a, x, g4, l1, l2, l3, l4⟩ := lake_end D ew eh em (by omega) e44
          have qq : 2 ≤ w ∧ w ≤ 6 ∧ 2 ≤ hn ∧ hn ≤ 6 := by
            rw [ew, eh] at szz
            obtain ⟨p1, p2, p3, p4⟩ := szz
            omega
          have M4 : FMT g3 g4 := ⟨fr_mono l3 (fun b hb => by omega), fun j _ => fr_i l3 (by decide), fun j _ _ => fr_i l3 (by decide)⟩
          have g44 : pi g4 418 4 = 0 := by rw [fr_i l3 (by decide), mf]; exact f0
          have g45 : pi g4 418 5 = -1 := by rw [fr_i l3 (by decide), mq]; exact q1
          have c61 : pj_Re_read_61 66 n ((0 : Nat) : Int) h3 = (if a = 0 then pj_Re_read_94 66 n ((0 : Nat) : Int) h3 else ((pf_Re_note 4 (pi h3 279 7) h3).bind fun v6 => pj_Re_read_94 66 n ((0 : Nat) : Int) v6)) := by
            unfold pj_Re_read_61
            rw [e4, if_pos (by decide), e2, if_pos f0, l1, bsm]
          have c142 : pj_M_text_142 ((0 : Nat) : Int) x2 g3 = (if x = 0 then ((pf_M_also 4 (pi g4 417 4) g4).bind fun v15 => pj_M_text_171 ((0 : Nat) : Int) x2 v15) else pj_M_text_171 ((0 : Nat) : Int) x2 g4) := by
            unfold pj_M_text_142
            rw [mf, if_pos f0, if_pos (by decide), l2, bsm]
          rcases l4 with ⟨a1', x0⟩ | ⟨a0, x1, kL, toL⟩
          · obtain ⟨Hn, n1, n2, n3, n4', n5, n6', n7⟩ := c_note (k := 4) (a := pi h3 279 7) e2 e3
            obtain ⟨H, ch1, ch2, _⟩ := c_chart (h := Hn) qq (by rw [fr_i n2 (by decide), D.1.1.1]; exact ew) (by rw [fr_i n2 (by decide), D.1.1.2.1]; exact eh)
            rw [if_pos f0] at n6' n7
            obtain ⟨g5, u1, u2, u3, u4, u5⟩ := m_also (g := g4) (k := 4) (at_ := pi g4 417 4) (f := 0) (q := -1) (by rw [fr_i l3 (by decide)]; exact mw) g44 g45 (Or.inl rfl)
            rw [if_pos rfl] at u4 u5
            have p3 : pi H 279 3 = 4 := by rw [fr_i ch2 (by decide)]; exact n6'
            refine ⟨0, H, g5, ?_, fr_trans F3 (fr_trans (fr_mono n2 (fun b hb => by omega)) (fr_mono ch2 (fun b hb => by omega))), FMT_trans M3 (FMT_trans M4 (MN_FMT u2)), Or.inl ⟨rfl, ?_, by rw [p3, u4], ?_⟩⟩
            · rw [hC', c61, if_neg (by omega), n1, bsm]
              unfold pj_Re_read_94 pj_Re_read_101
              rw [ch1, bsm, if_neg (by rw [p3]; decide)]
            · rw [hM, c142, if_pos x0, u1, bsm, neg1 g5 (by rw [u4]; decide)]
            · rw [fr_i ch2 (by decide), n7, u5, fr_i l3 (by decide), m1.2.2.1]
              exact e1.1.2.1
          · obtain ⟨H, ch1, ch2, ch3⟩ := c_chart (h := h3) qq (by rw [D.1.1.1]; exact ew) (by rw [D.1.1.2.1]; exact eh)
            refine ⟨1, H, g4, ?_, fr_trans F3 (fr_mono ch2 (fun b hb => by omega)), FMT_trans M3 M4, Or.inr ⟨rfl, ?_, g44, g45, fun _ => ⟨toL H ch2 ch3, kL⟩, fun v => absurd v (by decide), fun v => absurd v (by decide)⟩⟩
            · rw [hC', c61, if_pos a0]
              unfold pj_Re_read_94 pj_Re_read_101
              rw [ch1, bsm, if_pos (by rw [fr_i ch2 (by decide), e2]; exact f0)]
            · rw [hM, c142, if_neg (by omega)]
        · refine ⟨1, h3, g3, ?_, F3, M3, Or.inr ⟨rfl, ?_, by rw [mf]; exact f0, by rw [mq]; exact q1, fun v => absurd v s0, fun v => ?_, fun v => ?_⟩⟩
          · rw [hC']
            unfold pj_Re_read_61 pj_Re_read_101
            rw [e4, if_neg (by omega), if_pos (by rw [e2]; exact f0)]
          · rw [hM]
            unfold pj_M_text_142
            rw [if_pos (by rw [mf]; exact f0), if_neg (by omega)]
          · subst v; exact dr
          · subst v; exact dr
      · refine ⟨0, h3, g3, ?_, F3, M3, Or.inl ⟨rfl, ?_, by rw [e2, mf], by rw [e3, mq]⟩⟩
        · rw [hC']
          unfold pj_Re_read_61 pj_Re_read_101
          rw [e2, if_neg f0, if_neg f0]
          split <;> rfl
        · rw [hM]
          unfold pj_M_text_142
          rw [if_neg (by rw [mf]; exact f0), neg1 g3 (by rw [mf]; exact f0)]
    · have w1 : (0 : Nat) = 1 := w1
      omega
