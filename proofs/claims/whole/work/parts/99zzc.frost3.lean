/-! lakes: the line of frosts -/
def FD (h0 t u : pH) (i : Nat) : Prop := fr (fun b => b = 279 ∨ b = 280 ∨ b = 285 ∨ b = 301) h0 t ∧ pl t 280 = pl h0 280 ∧ (∀ j, j ≠ 10 → pi t 280 j = pi h0 280 j) ∧ pi t 280 10 = i ∧ i ≤ 12 ∧ (∀ k, k < 12 → -20 ≤ pi u 420 (224 + k) ∧ pi u 420 (224 + k) ≤ 20) ∧ ∀ k, k < i → pi t 285 k = pi u 420 (224 + k)
section Ty
variable {h g : pH} {B : Nat → Int} {n s : Nat} {f q : Int}
theorem FD_step {h0 t u t' u' : pH} {i : Nat} {v a : Int} (d : FD h0 t u i) (i12 : i < 12) (vr : -20 ≤ v ∧ v ≤ 20) (F : F2 (pwI (pwI (NHp t i a) 280 10 ((i : Int) + 1)) 285 i v) t') (eu : ∀ j, pi u' 420 j = if j = 224 + i then v else pi u 420 j) : FD h0 t' u' (i + 1) := by
  obtain ⟨d1, d2, d3, d4, d5, d6, d7⟩ := d
  have nf : fr (fun b => b = 301) t (NHp t i a) := by
    unfold NHp
    split
    · exact fr_wI fr_refl rfl
    · exact fr_refl
  refine ⟨fr_trans d1 (fr_trans (fr_wI (fr_wI (fr_mono nf (fun b hb => by omega)) (by omega)) (by omega)) (fr_mono F (fun b hb => by omega))), ?_, fun j hj => ?_, ?_, by omega, fun k hk => ?_, fun k hk => ?_⟩
  · rw [fr_fl F (by decide), ← d2]
    show pl (NHp t i a) 280 = _
    exact fr_fl nf (by decide)
  · rw [fr_i F (by decide), pi_wIa (by decide), pi_wIi hj, fr_i nf (by decide)]; exact d3 j hj
  · rw [fr_i F (by decide), pi_wIa (by decide), pi_wIs]; rfl
  · rw [eu]
    by_cases e : 224 + k = 224 + i
    · rw [if_pos e]; exact vr
    · rw [if_neg e]; exact d6 k hk
  · rw [fr_i F (by decide), eu, pi_wI]
    by_cases e : k = i
    · rw [if_pos ⟨rfl, e⟩, if_pos (by omega)]
    · rw [if_neg (fun u => e u.2), if_neg (by omega), pi_wIa (by decide), fr_i nf (by decide)]
      exact d7 k (by omega)
theorem frost_exit {t u : pH} {i k1 k2 : Nat} (c : CTx t B n s) (ms : MST u B n (0, s, f, q)) (n2 : kd B n s ≠ 2) (n3 : kd B n s ≠ 3) : pl_Re_readNumbers_46 6 (fun h => some (0, h)) (fun h => some (1, h)) (k1 + 1) 34 i t = some (1, t) ∧ ∀ K, pl_M_frostLine_11 K (k2 + 1) 0 i u = K i u := by
  rcases ms with ⟨_, m2, m3, _⟩ | ⟨m1, _⟩
  · have m2 : MT u B n s := m2
    refine ⟨?_, fun K => ?_⟩
    · rw [pl_Re_readNumbers_46]
      by_cases y : (600 : Int) ≤ i
      · rw [if_pos y]
      · rw [if_neg y, c.2.2.2.2.1, if_neg n2, if_neg n3]
    · rw [pl_M_frostLine_11, if_pos m3, if_pos rfl, m2.2.2.2.2.1, if_neg (fun v => n2 (tkm_1.mp v)), if_neg (fun v => n3 (tkm_5.mp v))]
  · have m1 : (0 : Nat) = 1 := m1
    omega
theorem frost_stop {u : pH} {i k2 : Nat} {T : Nat × Nat × Int × Int} (ms : MST u B n T) (w : T.1 = 1) {x : Int} : ∀ K, pl_M_frostLine_11 K (k2 + 1) x i u = K i u := fun K => by
  rcases ms with ⟨a, _⟩ | ⟨_, _, a, _⟩
  · omega
  · rw [pl_M_frostLine_11, if_neg (by omega)]
theorem frost_loop {h0 : pH} (N : Nat) : ∀ {t u : pH} {s i : Nat} {f q : Int} {k1 k2 : Nat}, n - s ≤ N → N < k1 → N + 1 < k2 → n ≤ 600 → 1 ≤ i → i ≤ s → CTx t B n s → pi t 279 3 = f → pi t 279 4 = q → pi t 279 8 = 0 → MST u B n (0, s, f, q) → (f = 0 → FD h0 t u i) → ∃ r t' u' T, ∃ i' : Nat, pl_Re_readNumbers_46 6 (fun h => some (0, h)) (fun h => some (1, h)) k1 34 i t = some (r, t') ∧ (∀ K, pl_M_frostLine_11 K k2 0 i u = K i' u') ∧ 1 ≤ i' ∧ KP t t' ∧ CSx t' B n T ∧ MST u' B n T ∧ FRM u u' ∧ ((T.1 = 1 ∧ r = 0) ∨ (T.1 = 0 ∧ r = 1 ∧ s ≤ T.2.1 ∧ (T.2.2.1 = 0 → f = 0 ∧ FD h0 t' u' i'))) := by
  induction N with
  | zero =>
    intro t u s i f q k1 k2 hN hk1 hk2 n6 i1 is c ef eq e8 ms fd
    have kd0 := (af_ok (B := B) c.2.1).2.2.2.2.2
    have n2 : kd B n s ≠ 2 := fun v => by have := kd0 (by omega); omega
    have n3 : kd B n s ≠ 3 := fun v => by have := kd0 (by omega); omega
    obtain ⟨a, rfl⟩ : ∃ a, k1 = a + 1 := ⟨k1 - 1, by omega⟩
    obtain ⟨b, rfl⟩ : ∃ b, k2 = b + 1 := ⟨k2 - 1, by omega⟩
    obtain ⟨x1, x2⟩ := frost_exit (i := i) (k1 := a) (k2 := b) c ms n2 n3
    exact ⟨1, t, u, (0, s, f, q), i, x1, x2, i1, KP_refl, Or.inl ⟨rfl, c, ef, eq⟩, ms, FRM_refl, Or.inr ⟨rfl, rfl, Nat.le_refl _, fun v => ⟨v, fd v⟩⟩⟩
  | succ N ih =>
    intro t u s i f q k1 k2 hN hk1 hk2 n6 i1 is c ef eq e8 ms fd
    obtain ⟨a, rfl⟩ : ∃ a, k1 = a + 1 := ⟨k1 - 1, by omega⟩
    obtain ⟨b, rfl⟩ : ∃ b, k2 = b + 1 := ⟨k2 - 1, by omega⟩
    by_cases k : kd B n s = 2 ∨ kd B n s = 3
    · have sn := (af_ok (B := B) c.2.1).2.2.2.2.2 (by omega)
      have k3 : kd B n s ≠ 2 → kd B n s = 3 := fun v => by rcases k with k | k; exact absurd k v; exact k
      have i600 : ¬ (600 : Int) ≤ i := by omega
      have i1000 : i < 1000 := by omega
      have iw : wr ((i : Int) + 1) = ((i + 1 : Nat) : Int) := by rw [wr_eq (by omega) (by omega)]; rfl
      obtain ⟨r, t1, u1, T, p1, p2, p3, p4, p5, p6, p7⟩ := frost_step (i := i) c ef eq e8 ms i1000 (fun v _ => (fd v).2.2.2.1)
      have sl : sl_n 34 = 1 := by decide +kernel
      have pc : psc 34 0 = 102 := by decide +kernel
      have e1 : ∀ m : Nat, pl_Re_readNumbers_46 6 (fun h => some (0, h)) (fun h => some (1, h)) (m + 1) 34 i t = (if r = 0 then some (0, t1) else pl_Re_readNumbers_46 6 (fun h => some (0, h)) (fun h => some (1, h)) m 34 ((i + 1 : Nat) : Int) t1) := fun m => by
        have e75 : pj_Re_readNumbers_75 6 (pl_Re_readNumbers_46 6 (fun h => some (0, h)) (fun h => some (1, h)) m) (fun h => some (0, h)) (fun h => some (1, h)) 34 i t = (if r = 0 then some (0, t1) else pl_Re_readNumbers_46 6 (fun h => some (0, h)) (fun h => some (1, h)) m 34 ((i + 1 : Nat) : Int) t1) := by
          unfold pj_Re_readNumbers_75
          rw [gib (by decide) (by rw [sl]; decide), pc, p1, bsm, iw]
        rw [pl_Re_readNumbers_46, if_neg i600, c.2.2.2.2.1]
        by_cases k2 : kd B n s = 2
        · rw [if_pos k2]; exact e75
        · rw [if_neg k2, if_pos (k3 k2), if_pos rfl]; exact e75
      have e2 : ∀ (m : Nat) K, pl_M_frostLine_11 K (m + 1) 0 i u = pl_M_frostLine_11 K m 0 ((i + 1 : Nat) : Int) u1 := fun m K => by
        rcases ms with ⟨_, m2, m3, _⟩ | ⟨m1, _⟩
        · have m2 : MT u B n s := m2
          rw [pl_M_frostLine_11, if_pos m3, if_pos rfl, m2.2.2.2.2.1]
          by_cases k2 : kd B n s = 2
          · rw [if_pos (tkm_1.mpr k2), p2]
          · rw [if_neg (fun v => k2 (tkm_1.mp v)), if_pos (tkm_5.mpr (k3 k2)), p2]
        · have m1 : (0 : Nat) = 1 := m1
          omega
      rcases p7 with ⟨y1, y2⟩ | ⟨y1, y2, y3, y4⟩
      · obtain ⟨b', rfl⟩ : ∃ b', b = b' + 1 := ⟨b - 1, by clear iw; omega⟩
        refine ⟨0, t1, u1, T, i + 1, by rw [e1, if_pos y2], fun K => by rw [e2]; exact frost_stop p5 y1 K, Nat.succ_pos _, p3, p4, p5, p6, Or.inl ⟨y1, rfl⟩⟩
      · obtain ⟨tw, ts, tf, tq⟩ := T
        obtain rfl : tw = 0 := y1
        have y3 : s < ts := y3
        rcases p4 with ⟨_, d2, d3, d4⟩ | ⟨d1, _⟩
        · have d2 : CTx t1 B n ts := d2
          have d3 : pi t1 279 3 = tf := d3
          have d4 : pi t1 279 4 = tq := d4
          have nums : n - ts ≤ N ∧ N < a ∧ N + 1 < b ∧ 1 ≤ i + 1 ∧ i + 1 ≤ ts := by clear y4 iw k3 e1 e2; omega
          have y4 : tf = 0 → _ := y4
          obtain ⟨r', t2, u2, T2, i2, q1, q2, q3, q4, q5, q6, q7, q8⟩ := ih (t := t1) (u := u1) (s := ts) (i := i + 1) (f := tf) (q := tq) (k1 := a) (k2 := b) nums.1 nums.2.1 nums.2.2.1 n6 nums.2.2.2.1 nums.2.2.2.2 d2 d3 d4 (by rw [p3.2.1 8 (by omega)]; exact e8) p5 (fun v => by
            obtain ⟨z1, z2, vv, aa, z3, z4, z5⟩ := y4 v
            exact FD_step (fd z1) z2 z3 z4 z5)
          refine ⟨r', t2, u2, T2, i2, by rw [e1, if_neg (by rw [y2]; decide)]; exact q1, fun K => by rw [e2]; exact q2 K, q3, KP_trans p3 q4, q5, q6, FRM_trans p6 q7, ?_⟩
          rcases q8 with q8 | ⟨z1, z2, z3, z4⟩
          · exact Or.inl q8
          · exact Or.inr ⟨z1, z2, Nat.le_trans (Nat.le_of_lt y3) z3, fun v => ⟨(y4 (z4 v).1).1, (z4 v).2⟩⟩
        · have d1 : (0 : Nat) = 1 := d1
          omega
    · have n2 : kd B n s ≠ 2 := fun v => k (Or.inl v)
      have n3 : kd B n s ≠ 3 := fun v => k (Or.inr v)
      obtain ⟨x1, x2⟩ := frost_exit (i := i) (k1 := a) (k2 := b) c ms n2 n3
      exact ⟨1, t, u, (0, s, f, q), i, x1, x2, i1, KP_refl, Or.inl ⟨rfl, c, ef, eq⟩, ms, FRM_refl, Or.inr ⟨rfl, rfl, Nat.le_refl _, fun v => ⟨v, fd v⟩⟩⟩
theorem lake_frost (o : OC h) (I : LIs 0 DR0 h g B n s f q) (k1 : kd B n s = 1) (wl_ : wdl B n s = (6 : Nat)) : LNs 0 DR0 B n h g s (pf_Re_readLine h) (pf_M_lakeLine g) := by
  have no := lake_ov (l := 7) I (by decide) (by decide) (by decide)
  obtain ⟨g1, t1, t2, t3, e4⟩ := lake_takes I k1 wl_ (by decide)
  obtain ⟨c, ef, eq, e8, ms, CNN, drr⟩ := I
  have n600 := c.1.2.2.1
  have sn := c.2.1
  have nxs := nx_ok (B := B) sn
  have s1 := nxs.2.2.1 (by omega)
  have n1 := CNN.1
  have n2 := CNN.2.1
  have n3 := CNN.2.2.1
  have w0 : fr (fun b => b = 280) h (pwI h 280 10 0) := fr_wI fr_refl rfl
  have e9 : ∀ j, pi (pwI h 280 10 0) 279 j = pi h 279 j := fun j => fr_i w0 (by decide)
  have ov7 : ¬ (f = 0 ∧ ovr (pwI h 280 10 0) 7) := fun v => no ⟨v.1, by have := v.2; unfold ovr at *; rw [e9, e9, e9] at this; exact this⟩
  obtain ⟨h1, o1, o2, o3, o4, o5, o6, o7, o8, o9, o10, o11⟩ := c_open (h := pwI h 280 10 0) (B := B) (n := n) (s := s) (f := f) (q := q) (l := 7) (by decide) (CT_TF c (fr_mono w0 (fun b hb => by omega))) (by rw [e9]; exact ef) (by rw [e9]; exact eq) (by rw [e9]; clear CNN; omega) (by rw [e9]; clear CNN; omega) (by rw [e9]; clear CNN; omega)
  rw [cif_f ov7] at o10 o11
  rw [e9, if_neg (by decide), Int.add_zero] at o7 o8 o9
  rw [e9] at o6
  have o1 : pf_Re_openLine 6 h = some h1 := by
    rw [← o1]
    unfold pf_Re_openLine
    rw [if_pos rfl, if_neg (by decide), if_neg (by decide), if_neg (by decide), if_pos (by decide)]
    unfold pj_Re_openLine_71 pj_Re_openLine_98
    rfl
  obtain ⟨h2, a1, a2, a3⟩ := c_go o5
  have f12 : F2 (pwI h 280 10 0) h2 := fr_trans o2 a2.1
  have e82 : pi h2 279 8 = 0 := by rw [a2.2.1 8 (by decide), o6]; exact e8
  have ef2 : pi h2 279 3 = f := by rw [a2.2.1 3 (by decide)]; exact o10
  have eq2 : pi h2 279 4 = q := by rw [a2.2.1 4 (by decide)]; exact o11
  have hd : pf_Re_readLine h = (pf_Re_readNumbers 6 h2).bind fun v4 => (if v4.1 = 0 then (some (0, v4.2)) else (if (pi v4.2 279 9) = 4 then (if (pi v4.2 279 3) = 0 then ((pf_Re_tellLine 6 v4.2).bind fun v6 => (pj_Re_readLine_59 v6)) else (pj_Re_readLine_59 v4.2)) else ((pf_Re_refuse v4.2).bind fun v7 => (ia_gd (pz1 v7.1) (some (v7.1, v7.2)))))) := by
    unfold pf_Re_readLine
    rw [c_line o c (show (0 : Nat) < 3 by decide) e8, bsm, if_pos (show kd B n s = 1 ∧ loS 0 ≤ wdl B n s ∧ wdl B n s < hiS 0 from ⟨k1, by rw [wl_]; decide, by rw [wl_]; decide⟩), wl_, if_neg (by decide), show ((6 : Nat) : Int) = 6 from rfl, o1, bsm, a1, bsm]
  have kp2 : fr (fun b => 279 ≤ b ∧ b ≤ 302) h h2 := fr_trans (fr_mono w0 (fun b hb => by omega)) (fr_mono f12 (fun b hb => by omega))
  -- the reference's start
  have ms0 : MST (pwI g1 420 3 0) B n (0, nx B n s, f, q) := MST_n t3 (fun j _ => pi_wIa (by decide)) (fun j _ => pi_wIa (by decide))
  have fd0 : f = 0 → FD h h2 (pwI g1 420 3 0) 0 := fun v => by
    have df := (drr v).2.2.2.1
    refine ⟨fr_trans (fr_mono w0 (fun b hb => by omega)) (fr_mono f12 (fun b hb => by omega)), by rw [fr_fl f12 (by decide)]; rfl, fun j hj => by rw [fr_i f12 (by decide), pi_wIi hj], by rw [fr_i f12 (by decide), pi_wIs]; rfl, by decide, fun k hk => ?_, fun k hk => by omega⟩
    rw [pi_wIi (by omega), fr_i t2.1 (by decide)]
    exact df.2.2.1 k hk
  have sl : sl_n 34 = 1 := by decide +kernel
  have pc : psc 34 0 = 102 := by decide +kernel
  obtain ⟨r0, x1, u1, T1, p1, p2, p3, p4, p5, p6, p7⟩ := frost_step (i := 0) a3 ef2 eq2 e82 ms0 (by decide) (fun v _ => (fd0 v).2.2.2.1)
  have all : ∃ r h4 u4 T, ∃ i' : Nat, pf_Re_readNumbers 6 h2 = some (r, h4) ∧ pf_M_frostLine g1 = pj_M_frostLine_120 i' u4 ∧ 1 ≤ i' ∧ KP h2 h4 ∧ CSx h4 B n T ∧ MST u4 B n T ∧ FRM (pwI g1 420 3 0) u4 ∧ ((T.1 = 1 ∧ r = 0) ∨ (T.1 = 0 ∧ r = 1 ∧ nx B n s ≤ T.2.1 ∧ (T.2.2.1 = 0 → f = 0 ∧ FD h h4 u4 i'))) := by
    have p1' : pf_Re_readNumber 6 102 0 h2 = some (r0, x1) := p1
    have e1 : pf_Re_readNumbers 6 h2 = (if r0 = 0 then some (0, x1) else pl_Re_readNumbers_46 6 (fun h => some (0, h)) (fun h => some (1, h)) fu_ 34 ((1 : Nat) : Int) x1) := by
      unfold pf_Re_readNumbers
      rw [show pf_Re_numbersOf 6 h2 = some 34 from nOf 6 (by decide) h2, bsm, show fu_ = 1099511627774 + 1 + 1 from rfl, pl_Re_readNumbers_7, sl, if_neg (by decide), gib (by decide) (by decide), show Int.toNat 0 = 0 from rfl, pc, p1', bsm]
      simp only []
      by_cases y : r0 = 0
      · rw [if_pos y, if_pos y]
      · rw [if_neg y, if_neg y, pl_Re_readNumbers_7, sl, if_pos (by decide)]
        unfold pf_Re_hasMore
        rw [if_pos rfl, bsm, if_neg (by decide)]
        rfl
    have e2 : pf_M_frostLine g1 = pl_M_frostLine_11 (fun x2 h => pj_M_frostLine_120 x2 h) 1099511627775 0 ((1 : Nat) : Int) u1 := by
      unfold pf_M_frostLine
      have w8 : pi (pwI g1 420 3 0) 417 8 = 0 := by
        rcases ms0 with ⟨_, _, m3, _⟩ | ⟨m1, _⟩
        · exact m3
        · have m1 : (0 : Nat) = 1 := m1
          omega
      rw [show fu_ = 1099511627775 + 1 from rfl, pl_M_frostLine_11, if_pos w8, if_neg (by decide)]
      exact p2 _ _
    rcases p7 with ⟨y1, y2⟩ | ⟨y1, y2, y3, y4⟩
    · refine ⟨0, x1, u1, T1, 1, by rw [e1, if_pos y2], ?_, by decide, p3, p4, p5, p6, Or.inl ⟨y1, rfl⟩⟩
      rw [e2, show (1099511627775 : Nat) = 1099511627774 + 1 from rfl, frost_stop p5 y1]
    · obtain ⟨tw, ts, tf, tq⟩ := T1
      obtain rfl : tw = 0 := y1
      have y3 : nx B n s < ts := y3
      rcases p4 with ⟨_, d2, d3, d4⟩ | ⟨d1, _⟩
      · have d2 : CTx x1 B n ts := d2
        have d3 : pi x1 279 3 = tf := d3
        have d4 : pi x1 279 4 = tq := d4
        have nums : n - ts ≤ 600 ∧ 1 ≤ ts := by clear y4 e1 e2 fd0 drr CNN; omega
        have y4 : tf = 0 → _ := y4
        obtain ⟨r', x2, u2, T2, i2, q1, q2, q3, q4, q5, q6, q7, q8⟩ := frost_loop (h0 := h) (B := B) (n := n) 600 (t := x1) (u := u1) (s := ts) (i := 1) (f := tf) (q := tq) (k1 := fu_) (k2 := 1099511627775) nums.1 (by unfold fu_; decide) (by decide) n600 (by decide) nums.2 d2 d3 d4 (by rw [p3.2.1 8 (by omega)]; exact e82) p5 (fun v => by
          obtain ⟨z1, z2, vv, aa, z3, z4, z5⟩ := y4 v
          exact FD_step (fd0 z1) z2 z3 z4 z5)
        refine ⟨r', x2, u2, T2, i2, by rw [e1, if_neg (by rw [y2]; decide)]; exact q1, by rw [e2, q2], q3, KP_trans p3 q4, q5, q6, FRM_trans p6 q7, ?_⟩
        rcases q8 with q8 | ⟨z1, z2, z3, z4⟩
        · exact Or.inl q8
        · exact Or.inr ⟨z1, z2, Nat.le_trans (Nat.le_of_lt y3) z3, fun v => ⟨(y4 (z4 v).1).1, (z4 v).2⟩⟩
      · have d1 : (0 : Nat) = 1 := d1
        omega
  clear p1 p2 p3 p4 p5 p6 p7
  obtain ⟨r, h4, u4, T, i', q1, q2, q3, q4, q5, q6, q7, q8⟩ := all
  obtain ⟨x3, hx3⟩ : ∃ x3 : Int, x3 = (if (12 : Int) ≤ i' then 12 else (i' : Int)) := ⟨_, rfl⟩
  have e120 : pf_M_frostLine g1 = some (pwI u4 420 3 x3) := by
    rw [q2]
    unfold pj_M_frostLine_120
    rw [hx3]
    by_cases y : (12 : Int) ≤ i'
    · rw [if_pos y, if_pos y]
    · rw [if_neg y, if_neg y]
  obtain ⟨g', d1, d2, d3, d4⟩ := m_endsLine (g := pwI u4 420 3 x3) (MST_n q6 (fun j _ => pi_wIa (by decide)) (fun j _ => pi_wIa (by decide)))
  have ey : pf_M_lakeLine g = some g' := by
    unfold pf_M_lakeLine
    rw [t1, bsm]
    simp only []
    rw [if_neg (by decide), k44 (by decide), k84 (by decide), k152 (by decide)]
    unfold pj_M_lakeLine_162
    rw [if_pos (by decide), e120, bsm, k172 (by decide), k191 (by decide), k203 (by decide), d1]
  have fm : FMT g g' := FMT_trans (MN_FMT (MA_MN t2)) (FMT_trans (FMT_w (Or.inl rfl)) (FMT_trans q7.1 (FMT_trans (FMT_w (Or.inl rfl)) (MN_FMT d3))))
  have e84 : pi h4 279 8 = 0 := by rw [q4.2.1 8 (by decide)]; exact e82
  have tl : pf_Re_tellLine 6 h4 = some h4 := by
    have : pf_Re_tellLine ((6 : Nat) : Int) h4 = pf_Re_tellLake ((6 : Nat) : Int) h4 := tll e84
    exact this
  obtain ⟨r', h', x1, x2, x3', x4⟩ := c_lineEnd (l := 6) (h4 := h4) (T := T) (r := r) q5 (by rcases q8 with ⟨a, b⟩ | ⟨a, b, _⟩; exact Or.inr ⟨a, b⟩; exact Or.inl ⟨a, b⟩) (fun _ _ _ => ⟨h4, tl, fr_refl⟩)
  have er : pf_Re_readLine h = some (r', h') := by rw [hd, q1, bsm]; exact x1
  have frh : fr (fun b => 279 ≤ b ∧ b ≤ 302) h h' := fr_trans kp2 (fr_trans q4.1 x2.1)
  rcases x4 with ⟨w1, r0'⟩ | ⟨w00, r1, w0', k4, okk⟩
  · rw [r0'] at er
    exact ln_wrong er ey frh fm x3' d2 w1
  · rcases q8 with ⟨a, _⟩ | ⟨_, _, le, dd⟩
    · omega
    · obtain ⟨tw, ts, tf, tq⟩ := T
      obtain rfl : tw = 0 := w0'
      have k4 : kd B n ts = 4 := k4
      have le : nx B n s ≤ ts := le
      have y3 : estp B n (0, ts, tf, tq) = (0, nx B n ts, tf, tq) := by
        unfold estp
        rw [cif_t rfl, cif_t k4]
      rw [y3] at x3' d2
      have tn : ts ≤ n := by
        rcases q5 with ⟨_, z, _⟩ | ⟨z, _⟩
        · exact z.2.1
        · have z : (0 : Nat) = 1 := z
          omega
      have s2 := (nx_ok (B := B) (n := n) (s := ts) tn).2.2.1 (by rw [k4]; decide)
      rcases x3' with ⟨_, z2, z3, z4⟩ | ⟨z1, _⟩
      · have z2 : CTx h' B n (nx B n ts) := z2
        have z3 : pi h' 279 3 = tf := z3
        have z4 : pi h' 279 4 = tq := z4
        have cnt : ∀ j, 13 ≤ j → j ≤ 15 → pi h' 279 j = pi h 279 j := fun j u v => by
          rw [x2.2.1 j (by omega), q4.2.1 j (by omega), a2.2.1 j (by omega)]
          rcases (show j = 13 ∨ j = 14 ∨ j = 15 by omega) with rfl | rfl | rfl
          · exact o7
          · exact o8
          · exact o9
        have R : ∀ j, pi g' 420 j = if j = 3 then x3 else pi u4 420 j := fun j => by
          rw [MN_i d3 (by decide), pi_wI]
          by_cases e : j = 3
          · rw [if_pos ⟨rfl, e⟩, if_pos e]
          · rw [if_neg (fun u => e u.2), if_neg e]
        have Ro : ∀ j, j ≠ 3 → (j < 224 ∨ 236 ≤ j) → pi g' 420 j = pi g 420 j := fun j a b => by rw [R, if_neg a, q7.2.2.2.2 j b, pi_wIi a, fr_i t2.1 (by decide)]
        have e11 : pi g' 417 11 = pi g 417 11 := by rw [d3.2.1 11 (by decide), pi_wIa (by decide), q7.2.2.1, pi_wIa (by decide), t2.2 11 (by decide)]
        have e9' : pi g' 417 9 = pi g 417 9 := by rw [d4, pi_wIa (by decide), q7.2.1, pi_wIa (by decide), t2.2 9 (by decide)]
        have e21 : pi g' 421 = pi g 421 := by rw [MN_i d3 (by decide), pi_wIf (by decide), q7.2.2.2.1, pi_wIf (by decide), fr_fi t2.1 (by decide)]
        have slt : s < nx B n ts := by omega
        refine ⟨r', h', g', er, ey, frh, fm, Or.inr ⟨r1, nx B n ts, tf, tq, slt, z2, z3, z4, by rw [x2.2.1 8 (by decide)]; exact e84, d2, CN_same CNN (Nat.le_of_lt slt) (cnt 13 (by decide) (by decide)) (cnt 14 (by decide) (by decide)) (cnt 15 (by decide) (by decide)) (Ro 4 (by decide) (by decide)) (Ro 0 (by decide) (by decide)) e11, fun f0 => ?_⟩⟩
        have f0 : tf = 0 := f0
        obtain ⟨f00, b1, b2, b3, b4, b5, b6, b7⟩ := dd f0
        obtain ⟨h5, tz1, tz2⟩ := okk f0
        have tz1 : pf_Re_tellLine 6 h4 = some h5 := tz1
        rw [tl] at tz1
        have : h5 = h4 := by cases tz1; rfl
        subst this
        obtain ⟨da, dt, ds, df, dp, dc, dn⟩ := drr f00
        have x3i : x3 = i' := by rw [hx3]; split <;> omega
        have p0 : ∀ j, j ≠ 10 → pi h' 280 j = pi h 280 j := fun j hj => by rw [fr_i tz2.1 (by decide)]; exact b3 j hj
        have pb : ∀ b, 281 ≤ b → b ≤ 300 → b ≠ 285 → pi h' b = pi h b ∧ pl h' b = pl h b := fun b u v w => ⟨by rw [fr_fi tz2.1 (by omega), fr_fi b1 (by omega)], by rw [fr_fl tz2.1 (by omega), fr_fl b1 (by omega)]⟩
        have pl0 : pl h' 280 = pl h 280 := by rw [fr_fl tz2.1 (by decide)]; exact b2
        refine ⟨D0a_c da (fun j hj => p0 j (by omega)) (fun j hj => Ro j (by omega) (by omega)), D0t_c dt ⟨(pb 281 (by decide) (by decide) (by decide)).1, (pb 282 (by decide) (by decide) (by decide)).1, (pb 283 (by decide) (by decide) (by decide)).1⟩ (fun j j1 j2 => Ro j (by omega) (by omega)) (fun j j1 j2 => Ro j (by omega) (by omega)), D0s_c ds (by rw [pl0]) (fun j j1 j2 => Ro j (by omega) (by omega)), ⟨?_, ?_, fun k hk => ?_, fun k hk => ?_⟩, D0p_c dp (p0 11 (by decide)) ⟨(pb 286 (by decide) (by decide) (by decide)).1, (pb 287 (by decide) (by decide) (by decide)).1, (pb 288 (by decide) (by decide) (by decide)).1, (pb 289 (by decide) (by decide) (by decide)).1⟩ (Ro 4 (by decide) (by decide)) (fun j j1 j2 => Ro j (by omega) (by omega)), D0c_c dc (pb 284 (by decide) (by decide) (by decide)).2 e21 e11, D0n_c dn (by rw [pl0]) e9' (EX_c dn.2.2.2 dp.2.1 (Ro 4 (by decide) (by decide)) (fun j j1 j2 => Ro j (by omega) (by omega)) e21 e11 (by rw [e9']; exact Int.le_refl _))⟩
        · rw [fr_i tz2.1 (by decide), b4, R, if_pos rfl, x3i]
        · rw [R, if_pos rfl, x3i]; omega
        · rw [R, if_neg (by omega)]; exact b6 k hk
        · rw [R, if_pos rfl, x3i] at hk
          rw [R, if_neg (by omega), fr_i tz2.1 (by decide)]
          exact b7 k (by omega)
      · have z1 : (0 : Nat) = 1 := z1
        omega
theorem lake_line (o : OC h) (I : LIs 0 DR0 h g B n s f q) : LNs 0 DR0 B n h g s (pf_Re_readLine h) (pf_M_lakeLine g) := by
  by_cases k : kd B n s = 1 ∧ loS 0 ≤ wdl B n s ∧ wdl B n s < hiS 0
  · obtain ⟨k1, k2, k3⟩ := k
    have k2 : (0 : Int) ≤ wdl B n s := k2
    have k3 : wdl B n s < 10 := k3
    rcases (show wdl B n s = 0 ∨ wdl B n s = 1 ∨ wdl B n s = 2 ∨ wdl B n s = 3 ∨ wdl B n s = 4 ∨ wdl B n s = 5 ∨ wdl B n s = 6 ∨ wdl B n s = 7 ∨ wdl B n s = 8 ∨ wdl B n s = 9 by omega) with w | w | w | w | w | w | w | w | w | w
    · exact lake_size o I k1 w
    · exact lake_all o I k1 w
    · exact lake_ice (l := 2) o I k1 w (Or.inl ⟨rfl, rfl, rfl, rfl⟩)
    · exact lake_ice (l := 3) o I k1 w (Or.inr (Or.inl ⟨rfl, rfl, rfl, rfl⟩))
    · exact lake_ice (l := 4) o I k1 w (Or.inr (Or.inr ⟨rfl, rfl, rfl, rfl⟩))
    · exact lake_crack o I k1 w
    · exact lake_frost o I k1 w
    · exact lake_bear o I k1 w
    · exact lake_shore o I k1 w
    · exact lake_shop o I k1 w
  · have II := I
    obtain ⟨c, ef, eq, e8, ms, _, _⟩ := I
    rcases ms with ⟨_, m2, m3, m4, m5, m6⟩ | ⟨m1, _⟩
    · have m2 : MT g B n s := m2
      have m4 : pi g 418 4 = f := m4
      have m5 : pi g 418 5 = q := m5
      have m6 : FOK s f q := m6
      obtain ⟨g1, t1, t2, t3, t4⟩ := (m_takes (lo := 1) (hi := 10) m2 m3 m4 m5 (by unfold FOK at m6; omega) (by decide)).2 (fun v => k ⟨v.1, by show (0 : Int) ≤ _; omega, by show _ < (10 : Int); omega⟩)
      obtain ⟨g', d1, d2, d3, d4⟩ := m_endsLine t4
      have es : estp B n (1, s, 1, (s : Int)) = (1, s, 1, (s : Int)) := by unfold estp; rw [cif_f (by show ¬ (1 : Nat) = 0; decide)]
      rw [es] at d2
      refine noline_gen o II (by decide) k (g' := g') ?_ d2 (FMT_trans (MN_FMT t2) (MN_FMT d3))
      unfold pf_M_lakeLine
      rw [t1, bsm]
      simp only []
      rw [if_neg (by decide), k44 (by decide), k84 (by decide), k152 (by decide), k162 (by decide), k172 (by decide), k191 (by decide), k203 (by decide), d1]
    · have m1 : (0 : Nat) = 1 := m1
      omega
end Ty
