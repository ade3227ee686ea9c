/-! rows of cells: shore and bar -/
def l99 : Nat → Int := fun _ => 99
def lmx (B : Nat → Int) (n s m : Nat) (x : Int) : Prop := ∃ i, i < m ∧ x = vl B n (skp B n s i)
def ltl (l : Nat) (v : Int) (H : pH) : pH := if l = 8 then pwL (pwL H 280 8 (pl H 280 8 ||| plshl 1 v)) 280 7 (pl H 280 7 ||| plshl 1 v) else pwL H 292 7 (pl H 292 7 ||| plshl 1 v)
def lXs (B : Nat → Int) (n l s : Nat) (h : pH) (k : Nat) : pH := match k with
  | 0 => h
  | k + 1 => ltl l (vl B n (skp B n s k)) (NHp (lXs B n l s h k) k (vl B n (skp B n s k)))
section Tq
variable {h g : pH} {B : Nat → Int} {n s : Nat} {f q : Int}
theorem c_ltell {l sr : Nat} {v : Int} (hl : (l = 8 ∧ sr = 0) ∨ (l = 15 ∧ sr = 1)) (e8 : pi h 279 8 = sr) : pf_Re_tellNumber l 99 v h = some (ltl l v h) ∧ TF h (ltl l v h) := by
  unfold pf_Re_tellNumber pj_Re_tellNumber_19 pj_Re_tellNumber_35 ltl
  rw [e8]
  rcases hl with ⟨rfl, rfl⟩ | ⟨rfl, rfl⟩
  · rw [if_pos (by decide), if_pos rfl, c_bit, bsm, if_neg (by decide), if_pos (by decide), c_bit, bsm, if_pos rfl]
    exact ⟨rfl, fr_wL (fr_wL fr_refl (by omega)) (by omega)⟩
  · rw [if_neg (by decide), if_neg (by decide), if_neg (by decide), if_pos (by decide), c_bit, bsm, if_neg (by decide)]
    exact ⟨rfl, fr_wL fr_refl (by omega)⟩
theorem F2_ltl {h1 : pH} {l : Nat} {v : Int} (a : F2 h h1) : F2 (ltl l v h) (ltl l v h1) := by
  have e1 : pl h1 280 = pl h 280 := fr_fl a (by decide)
  have e2 : pl h1 292 = pl h 292 := fr_fl a (by decide)
  unfold ltl
  rw [e1, e2]
  split
  · intro b hb k
    obtain ⟨x1, x2, x3⟩ := a b hb k
    refine ⟨x1, ?_, x3⟩
    rw [pl_wL, pl_wL, pl_wL, pl_wL, x2]
  · intro b hb k
    obtain ⟨x1, x2, x3⟩ := a b hb k
    refine ⟨x1, ?_, x3⟩
    rw [pl_wL, pl_wL, x2]
theorem skp_lo {s k : Nat} (sn : s ≤ n) (all : ∀ j, j < k → kd B n (skp B n s j) = 2) : s + k ≤ skp B n s k := by
  induction k with
  | zero => exact Nat.le_refl _
  | succ k ih =>
    have i := ih (fun j hj => all j (by omega))
    have b := bnd_skp (B := B) (n := n) (s := s) (k := k) sn
    have := (nx_ok (B := B) b.1).2.2.1 (by rw [all k (by omega)]; decide)
    show s + (k + 1) ≤ nx B n (skp B n s k)
    omega
theorem list_m (sn : s ≤ n) (k0 : kd B n s = 2) : ∃ m, 1 ≤ m ∧ (∀ j, j < m → kd B n (skp B n s j) = 2) ∧ kd B n (skp B n s m) ≠ 2 := by
  have ex : ∃ m, kd B n (skp B n s m) ≠ 2 := by
    rcases Classical.em (∃ m, kd B n (skp B n s m) ≠ 2) with u | u
    · exact u
    · exfalso
      have all : ∀ j, kd B n (skp B n s j) = 2 := fun j => by
        rcases Classical.em (kd B n (skp B n s j) = 2) with v | v
        · exact v
        · exact absurd ⟨j, v⟩ u
      have := skp_lo (B := B) (k := n + 1) sn (fun j _ => all j)
      have := (bnd_skp (B := B) (n := n) (s := s) (k := n + 1) sn).1
      omega
  obtain ⟨m, m1, m2⟩ := least ex
  refine ⟨m, ?_, fun j hj => ?_, m1⟩
  · rcases Nat.eq_zero_or_pos m with e | e
    · rw [e] at m1; exact absurd k0 m1
    · exact e
  · rcases Classical.em (kd B n (skp B n s j) = 2) with v | v
    · exact v
    · exact absurd v (m2 j hj)
theorem nT_go {j m : Nat} (all : ∀ j, j < m → kd B n (skp B n s j) = 2) : j ≤ m → (nTs B n l99 (0, s, f, q) j).1 = 0 ∧ (nTs B n l99 (0, s, f, q) j).2.1 = skp B n s j := by
  induction j with
  | zero => intro _; exact ⟨rfl, rfl⟩
  | succ j ih =>
    intro hj
    obtain ⟨i1, i2⟩ := ih (by omega)
    have w : (nTs B n l99 (0, s, f, q) (j + 1)).1 = 0 := by
      show (nstp B n _ (nTs B n l99 (0, s, f, q) j)).1 = 0
      unfold nstp
      rw [cif_t i1, i2, cif_t (all j (by omega))]
      rcases Classical.em ((nTs B n l99 (0, s, f, q) j).2.2.1 = 0 ∧ bdL (l99 j) (vl B n (skp B n (0, s, f, q).2.1 j)) (vl B n (skp B n (0, s, f, q).2.1 (j - 1))) j) with v | v
      · rw [cif_t v]
      · rw [cif_f v]
    exact ⟨w, (nTs_w w).2.1⟩
/-- one number of the row -/
theorem c_one {l sr i : Nat} {h0 : pH} (hl : (l = 8 ∧ sr = 0) ∨ (l = 15 ∧ sr = 1)) (e8 : pi h 279 8 = sr) (ii : i < 1000) {T : Nat × Nat × Int × Int} (w : T.1 = 0) (cs : CSx h B n T) (k : kd B n T.2.1 = 2) (sh : T.2.2.1 = 0 → F2 h0 h) : ∃ h', pf_Re_readNumber l 99 i h = some (1, h') ∧ KP h h' ∧ CSx h' B n (nstp B n (¬ (0 ≤ vl B n T.2.1 ∧ vl B n T.2.1 ≤ 35)) T) ∧ ((nstp B n (¬ (0 ≤ vl B n T.2.1 ∧ vl B n T.2.1 ≤ 35)) T).2.2.1 = 0 → F2 (ltl l (vl B n T.2.1) (NHp h0 i (vl B n T.2.1))) h') := by
  obtain ⟨tw, ts, tf, tq⟩ := T
  obtain rfl : tw = 0 := w
  rcases cs with ⟨_, d2, d3, d4⟩ | ⟨d1, _⟩
  · have d2 : CTx h B n ts := d2
    have d3 : pi h 279 3 = tf := d3
    have d4 : pi h 279 4 = tq := d4
    have k : kd B n ts = 2 := k
    have ct := c_ltell (h := NHp h i (vl B n ts)) (l := l) (v := vl B n ts) hl (by rw [fr_i (NHp_TF (h := h)) (by omega)]; exact e8)
    obtain ⟨r, t', r1, r2, r3, r4, r5⟩ := c_rdn (x1 := (l : Int)) (x2 := 99) (i := i) (H2 := ltl l (vl B n ts) (NHp h i (vl B n ts))) (by omega) (by decide) d2 d3 d4 ii (fun _ _ _ => ct)
    have eb : nstp B n (bdL 99 (vl B n ts) (pi h 301 (i - 1)) i) (0, ts, tf, tq) = nstp B n (¬ (0 ≤ vl B n ts ∧ vl B n ts ≤ 35)) (0, ts, tf, tq) := nstp_c (fun _ _ _ => bdL_p (by decide))
    rw [eb] at r3
    obtain ⟨s1, s2⟩ := r5 k
    rw [s1] at r1
    refine ⟨t', r1, r2, r3, fun f0 => ?_⟩
    have w1 : (nstp B n (¬ (0 ≤ vl B n ts ∧ vl B n ts ≤ 35)) (0, ts, tf, tq)).1 = 0 := by
      unfold nstp
      rw [cif_t rfl, cif_t k]
      rcases Classical.em (tf = 0 ∧ ¬ (0 ≤ vl B n ts ∧ vl B n ts ≤ 35)) with u | u
      · rw [cif_t u]
      · rw [cif_f u]
    obtain ⟨f1, nb⟩ := (nstp_w w1).2.2.2 f0
    exact fr_trans (F2_ltl (F2_NHp (sh f1))) (s2 f1 (fun v => nb ((bdL_p (by decide)).mp v))).1
  · have d1 : (0 : Nat) = 1 := d1
    omega
theorem c_list {l sr m : Nat} (hl : (l = 8 ∧ sr = 0) ∨ (l = 15 ∧ sr = 1)) (e8 : pi h 279 8 = sr) (c : CTx h B n s) (ef : pi h 279 3 = f) (eq : pi h 279 4 = q) (m1 : 1 ≤ m) (all : ∀ j, j < m → kd B n (skp B n s j) = 2) (no : kd B n (skp B n s m) ≠ 2) : ∃ h', pf_Re_readNumbers l h = some (1, h') ∧ KP h h' ∧ CSx h' B n (nTs B n l99 (0, s, f, q) m) ∧ ((nTs B n l99 (0, s, f, q) m).2.2.1 = 0 → F2 (lXs B n l s h m) h') := by
  have sn := c.2.1
  have n600 := c.1.2.2.1
  have lo := skp_lo (B := B) (k := m) sn all
  have hi := (bnd_skp (B := B) (n := n) (s := s) (k := m) sn).1
  have sl : sl_n 42 = 1 := by decide +kernel
  have p0 : psc 42 0 = 99 := by decide +kernel
  have nst : ∀ j, j < m → nTs B n l99 (0, s, f, q) (j + 1) = nstp B n (¬ (0 ≤ vl B n (nTs B n l99 (0, s, f, q) j).2.1 ∧ vl B n (nTs B n l99 (0, s, f, q) j).2.1 ≤ 35)) (nTs B n l99 (0, s, f, q) j) := fun j hj => (nTs_s (fun _ _ e => by rw [e]; exact (bdL_p (show l99 j ≠ 111 from (by decide : (99 : Int) ≠ 111))).symm)).symm
  have nof : ∀ g, pf_Re_numbersOf l g = some 42 := by
    rcases hl with ⟨rfl, _⟩ | ⟨rfl, _⟩
    · exact nOf 8 (by decide)
    · exact nOf 15 (by decide)
  have hm : ∀ g, pf_Re_hasMore l g = some 1 := fun g => by
    unfold pf_Re_hasMore
    rcases hl with ⟨rfl, _⟩ | ⟨rfl, _⟩
    · rfl
    · rfl
  unfold pf_Re_readNumbers
  rw [nof, bsm]
  have st0 := c_one (i := 0) (h0 := h) hl e8 (by decide) (T := (0, s, f, q)) rfl (Or.inl ⟨rfl, c, ef, eq⟩) (all 0 (by omega)) (fun _ => fr_refl)
  obtain ⟨h1, a1, a2, a3, a4⟩ := st0
  have st1 := nst 0 (by omega)
  have a3 : CSx h1 B n (nTs B n l99 (0, s, f, q) 1) := by rw [st1]; exact a3
  have a4 : (nTs B n l99 (0, s, f, q) 1).2.2.1 = 0 → F2 (lXs B n l s h 1) h1 := by rw [st1]; exact a4
  have e1 : pl_Re_readNumbers_7 l (fun h => some (0, h)) (fun a2 h => (pf_Re_hasMore l h).bind fun v4 => (if v4 = 0 then (some (1, h)) else (pl_Re_readNumbers_46 l (fun h => some (0, h)) (fun h => some (1, h)) fu_ a2 1 h))) fu_ 42 0 h = pl_Re_readNumbers_46 l (fun h => some (0, h)) (fun h => some (1, h)) fu_ 42 1 h1 := by
    rw [show fu_ = 1099511627774 + 1 + 1 from rfl, pl_Re_readNumbers_7, sl, if_neg (by decide), gib (by decide) (by decide), show Int.toNat 0 = 0 from rfl, p0]
    have a1' : pf_Re_readNumber l 99 0 h = some (1, h1) := a1
    rw [a1', bsm]
    simp only []
    rw [if_neg (by decide), pl_Re_readNumbers_7, sl, if_pos (by decide), hm, bsm, if_neg (by decide)]
  rw [e1]
  refine lpf (F := fun k (i : Nat) t => pl_Re_readNumbers_46 l (fun h => some (0, h)) (fun h => some (1, h)) k 42 i t) (Q := fun r => ∃ h', r = some (1, h') ∧ KP h h' ∧ CSx h' B n (nTs B n l99 (0, s, f, q) m) ∧ ((nTs B n l99 (0, s, f, q) m).2.2.1 = 0 → F2 (lXs B n l s h m) h')) m (fun i t => 1 ≤ i ∧ KP h t ∧ CSx t B n (nTs B n l99 (0, s, f, q) i) ∧ ((nTs B n l99 (0, s, f, q) i).2.2.1 = 0 → F2 (lXs B n l s h i) t)) ?_ ?_ fu_ 1 h1 m1 (by unfold fu_; omega) ⟨Nat.le_refl _, a2, a3, a4⟩
  · intro k i t hi' ⟨i1, kp, cs, sh⟩
    right
    obtain ⟨g1, g2⟩ := nT_go (f := f) (q := q) all (j := i) (by omega)
    have ki : kd B n (nTs B n l99 (0, s, f, q) i).2.1 = 2 := by rw [g2]; exact all i hi'
    obtain ⟨t', b1, b2, b3, b4⟩ := c_one (i := i) (h0 := lXs B n l s h i) hl (by rw [kp.2.1 8 (by omega)]; exact e8) (by omega) g1 cs ki sh
    have st := nst i hi'
    rw [← st] at b3 b4
    have ck : pi t 279 9 = 2 := by
      rcases cs with ⟨_, d2, _⟩ | ⟨d1, _⟩
      · rw [d2.2.2.2.2.1]; exact ki
      · omega
    refine ⟨t', ?_, by omega, KP_trans kp b2, b3, fun v => ?_⟩
    · show pl_Re_readNumbers_46 l _ _ (k + 1) 42 i t = pl_Re_readNumbers_46 l _ _ k 42 (i + 1 : Nat) t'
      rw [pl_Re_readNumbers_46, if_neg (by omega), ck, if_pos rfl]
      unfold pj_Re_readNumbers_75
      rw [gib (by decide) (by rw [sl]; decide), p0, b1, bsm]
      simp only []
      rw [if_neg (by decide), wr_eq (by omega) (by omega)]; rfl
    · have := b4 v
      rw [g2] at this
      exact this
  · intro k t ⟨i1, kp, cs, sh⟩
    refine ⟨t, ?_, kp, cs, sh⟩
    show pl_Re_readNumbers_46 l _ _ (k + 1) 42 (m : Nat) t = _
    obtain ⟨g1, g2⟩ := nT_go (f := f) (q := q) all (j := m) (Nat.le_refl _)
    have ck : pi t 279 9 ≠ 2 := by
      rcases cs with ⟨_, d2, _⟩ | ⟨d1, _⟩
      · rw [d2.2.2.2.2.1, g2]; exact no
      · omega
    rw [pl_Re_readNumbers_46]
    by_cases y : (600 : Int) ≤ m
    · rw [if_pos y]
    · rw [if_neg y, if_neg ck]
      by_cases u : pi t 279 9 = 3
      · rw [if_pos u, if_neg (by omega)]
      · rw [if_neg u]
/-- the row read by the reference -/
theorem m_list {m : Nat} {a0 : Nat} (ha : a0 = 116 ∨ a0 = 30) (c : MST g B n (0, s, f, q)) (sn : s ≤ n) (n6 : n ≤ 600) (m1 : 1 ≤ m) (all : ∀ j, j < m → kd B n (skp B n s j) = 2) (no : kd B n (skp B n s m) ≠ 2) : ∃ g', pf_M_cellsLine a0 g = some g' ∧ MST g' B n (nTs B n l99 (0, s, f, q) m) ∧ FMT g g' ∧ pi g' 417 11 = pi g 417 11 ∧ pi g' 421 = pi g 421 ∧ (∀ j, j < a0 → pi g' 420 j = pi g 420 j) ∧ ((nTs B n l99 (0, s, f, q) m).2.2.1 = 0 → (∀ j, pi g' 420 j = cif (∃ i, i < m ∧ j = a0 + (vl B n (skp B n s i)).toNat) 1 (pi g 420 j)) ∧ pi g 417 9 ≤ pi g' 417 9 ∧ (∀ i, i < m → vl B n (skp B n s i) ≤ pi g' 417 9) ∧ (pi g' 417 9 = pi g 417 9 ∨ lmx B n s m (pi g' 417 9))) := by
  have lo := skp_lo (B := B) (k := m) sn all
  have hi := (bnd_skp (B := B) (n := n) (s := s) (k := m) sn).1
  have nst : ∀ j, j < m → nTs B n l99 (0, s, f, q) (j + 1) = nstp B n (¬ (0 ≤ vl B n (nTs B n l99 (0, s, f, q) j).2.1 ∧ vl B n (nTs B n l99 (0, s, f, q) j).2.1 ≤ 35)) (nTs B n l99 (0, s, f, q) j) := fun j hj => (nTs_s (fun _ _ e => by rw [e]; exact (bdL_p (show l99 j ≠ 111 from (by decide : (99 : Int) ≠ 111))).symm)).symm
  unfold pf_M_cellsLine
  refine lpf (F := fun k (i : Nat) (t : Int × pH) => pl_M_cellsLine_2 a0 (fun h => some h) k t.1 t.2) (Q := fun r => ∃ g', r = some g' ∧ MST g' B n (nTs B n l99 (0, s, f, q) m) ∧ FMT g g' ∧ pi g' 417 11 = pi g 417 11 ∧ pi g' 421 = pi g 421 ∧ (∀ j, j < a0 → pi g' 420 j = pi g 420 j) ∧ ((nTs B n l99 (0, s, f, q) m).2.2.1 = 0 → (∀ j, pi g' 420 j = cif (∃ i, i < m ∧ j = a0 + (vl B n (skp B n s i)).toNat) 1 (pi g 420 j)) ∧ pi g 417 9 ≤ pi g' 417 9 ∧ (∀ i, i < m → vl B n (skp B n s i) ≤ pi g' 417 9) ∧ (pi g' 417 9 = pi g 417 9 ∨ lmx B n s m (pi g' 417 9)))) m (fun i t => t.1 = (if i = 0 then 1 else 0) ∧ MST t.2 B n (nTs B n l99 (0, s, f, q) i) ∧ FMT g t.2 ∧ pi t.2 417 11 = pi g 417 11 ∧ pi t.2 421 = pi g 421 ∧ (∀ j, j < a0 → pi t.2 420 j = pi g 420 j) ∧ ((nTs B n l99 (0, s, f, q) i).2.2.1 = 0 → (∀ j, pi t.2 420 j = cif (∃ i', i' < i ∧ j = a0 + (vl B n (skp B n s i')).toNat) 1 (pi g 420 j)) ∧ pi g 417 9 ≤ pi t.2 417 9 ∧ (∀ i', i' < i → vl B n (skp B n s i') ≤ pi t.2 417 9) ∧ (pi t.2 417 9 = pi g 417 9 ∨ lmx B n s i (pi t.2 417 9)))) ?_ ?_ fu_ 0 (1, g) (by omega) (by unfold fu_; omega) ⟨rfl, c, FMT_refl, rfl, rfl, fun _ _ => rfl, fun _ => ⟨fun j => by rw [cif_f (fun ⟨i, a, _⟩ => by omega)], Int.le_refl _, fun i hi => by omega, Or.inl rfl⟩⟩
  · intro k i ⟨x, t⟩ hi' ⟨ex, ms, fm, e11, e21, low, sh⟩
    right
    have ex : x = (if i = 0 then 1 else 0) := ex
    have ms : MST t B n (nTs B n l99 (0, s, f, q) i) := ms
    obtain ⟨g1, g2⟩ := nT_go (f := f) (q := q) all (j := i) (by omega)
    have ki := all i hi'
    obtain ⟨t1, b1, b2, b3, b4⟩ := m_cellOf ms
    have st := nst i hi'
    rw [← st] at b2
    have tk : pi t 417 8 = 0 ∧ pi t 417 5 = 1 := by
      rcases ms with ⟨_, d2, d3, _⟩ | ⟨d1, _⟩
      · exact ⟨d3, by rw [d2.2.2.2.2.1]; exact tkm_1.mpr (by rw [g2]; exact ki)⟩
      · omega
    have nv : nvl B n 0 35 (nTs B n l99 (0, s, f, q) i) = cif (0 ≤ vl B n (skp B n s i) ∧ vl B n (skp B n s i) ≤ 35) (vl B n (skp B n s i)) (-1) := by
      unfold nvl
      rw [g2]
      rcases Classical.em (0 ≤ vl B n (skp B n s i) ∧ vl B n (skp B n s i) ≤ 35) with u | u
      · rw [cif_t ⟨g1, ki, u⟩, cif_t u]
      · rw [cif_f (fun v => u v.2.2), cif_f u]
    rw [nv] at b1 b4
    have s21 : pj_M_cellsLine_21 a0 (pl_M_cellsLine_2 a0 (fun h => some h) k) (fun h => some h) t = (if cif (0 ≤ vl B n (skp B n s i) ∧ vl B n (skp B n s i) ≤ 35) (vl B n (skp B n s i)) (-1) < 0 then pl_M_cellsLine_2 a0 (fun h => some h) k 0 t1 else (ia_gd (pib (wr ((a0 : Int) + cif (0 ≤ vl B n (skp B n s i) ∧ vl B n (skp B n s i) ≤ 35) (vl B n (skp B n s i)) (-1))) 260) (pl_M_cellsLine_2 a0 (fun h => some h) k 0 (pwI t1 420 (Int.toNat (wr ((a0 : Int) + cif (0 ≤ vl B n (skp B n s i) ∧ vl B n (skp B n s i) ≤ 35) (vl B n (skp B n s i)) (-1)))) 1)))) := by
      unfold pj_M_cellsLine_21
      rw [b1, bsm]
    have hd : pl_M_cellsLine_2 a0 (fun h => some h) (k + 1) x t = pj_M_cellsLine_21 a0 (pl_M_cellsLine_2 a0 (fun h => some h) k) (fun h => some h) t := by
      rw [pl_M_cellsLine_2, if_pos tk.1, ex]
      by_cases i0 : i = 0
      · rw [if_pos i0, if_neg (by decide)]
      · rw [if_neg i0, if_pos rfl, if_pos tk.2]
    show ∃ t' : Int × pH, pl_M_cellsLine_2 a0 _ (k + 1) x t = pl_M_cellsLine_2 a0 _ k t'.1 t'.2 ∧ _
    rw [hd, s21]
    have fmt1 : FMT g t1 := FMT_trans fm (MN_FMT b3)
    have e111 : pi t1 417 11 = pi g 417 11 := by rw [b3.2.1 11 (by omega)]; exact e11
    have e211 : pi t1 421 = pi g 421 := by rw [MN_i b3 (by decide)]; exact e21
    have e420 : pi t1 420 = pi t 420 := MN_i b3 (by decide)
    rcases Classical.em (0 ≤ vl B n (skp B n s i) ∧ vl B n (skp B n s i) ≤ 35) with u | u
    · rw [cif_t u] at b4 ⊢
      rw [if_neg (by omega), wr_eq (by omega) (by omega), gib (by omega) (by omega), show ((a0 : Int) + vl B n (skp B n s i)).toNat = a0 + (vl B n (skp B n s i)).toNat by omega]
      refine ⟨(0, pwI t1 420 (a0 + (vl B n (skp B n s i)).toNat) 1), rfl, ?_, MST_n b2 (fun j _ => pi_wIa (by decide)) (fun j _ => pi_wIa (by decide)), FMT_trans fmt1 (FMT_w (Or.inl rfl)), by show pi (pwI t1 420 _ 1) 417 11 = _; rw [pi_wIa (by decide)]; exact e111, by show pi (pwI t1 420 _ 1) 421 = _; rw [pi_wIf (by decide)]; exact e211, fun j hj => ?_, fun f0 => ?_⟩
      · show (0 : Int) = _
        rw [if_neg (by omega)]
      · show pi (pwI t1 420 _ 1) 420 j = _
        rw [pi_wIi (by omega), e420]
        exact low j hj
      · have w1 := (nT_go (f := f) (q := q) all (j := i + 1) (by omega)).1
        rw [st] at f0 w1
        obtain ⟨sh1, sh2, sh3, sh4⟩ := sh ((nstp_w w1).2.2.2 f0).1
        have sh1 : ∀ j, pi t 420 j = cif (∃ i', i' < i ∧ j = a0 + (vl B n (skp B n s i')).toNat) 1 (pi g 420 j) := sh1
        have sh2 : pi g 417 9 ≤ pi t 417 9 := sh2
        have sh3 : ∀ i', i' < i → vl B n (skp B n s i') ≤ pi t 417 9 := sh3
        have sh4 : pi t 417 9 = pi g 417 9 ∨ lmx B n s i (pi t 417 9) := sh4
        have e9 : pi (pwI t1 420 (a0 + (vl B n (skp B n s i)).toNat) 1) 417 9 = max (pi t 417 9) (vl B n (skp B n s i)) := by rw [pi_wIa (by decide)]; exact b4
        refine ⟨fun j => ?_, ?_, fun i' hi2 => ?_, ?_⟩
        · show pi (pwI t1 420 _ 1) 420 j = _
          by_cases e : j = a0 + (vl B n (skp B n s i)).toNat
          · rw [e, pi_wIs, cif_t ⟨i, by omega, rfl⟩]
          · rw [pi_wIi e, e420, sh1 j]
            rcases Classical.em (∃ i', i' < i ∧ j = a0 + (vl B n (skp B n s i')).toNat) with v | v
            · obtain ⟨i', v1, v2⟩ := v
              rw [cif_t ⟨i', v1, v2⟩, cif_t ⟨i', by omega, v2⟩]
            · rw [cif_f v, cif_f (fun ⟨i', v1, v2⟩ => by
                by_cases e2 : i' = i
                · rw [e2] at v2; exact e v2
                · exact v ⟨i', by omega, v2⟩)]
        · show _ ≤ pi (pwI t1 420 _ 1) 417 9
          rw [e9]; omega
        · show _ ≤ pi (pwI t1 420 _ 1) 417 9
          rw [e9]
          by_cases e2 : i' = i
          · rw [e2]; omega
          · have := sh3 i' (by omega); omega
        · show pi (pwI t1 420 _ 1) 417 9 = _ ∨ lmx B n s (i + 1) (pi (pwI t1 420 _ 1) 417 9)
          rw [e9]
          rcases Int.le_total (vl B n (skp B n s i)) (pi t 417 9) with v | v
          · rcases sh4 with w | ⟨i', w1, w2⟩
            · left; omega
            · right; exact ⟨i', by omega, by omega⟩
          · right; exact ⟨i, by omega, by omega⟩
    · rw [cif_f u] at b4 ⊢
      rw [if_pos (by decide)]
      refine ⟨(0, t1), rfl, by show (0 : Int) = _; rw [if_neg (by omega)], b2, fmt1, e111, e211, fun j hj => by show pi t1 420 j = _; rw [e420]; exact low j hj, fun f0 => ?_⟩
      have w1 := (nT_go (f := f) (q := q) all (j := i + 1) (by omega)).1
      rw [st] at f0 w1
      have := ((nstp_w w1).2.2.2 f0).2
      rw [g2] at this
      exact absurd u this
  · intro k ⟨x, t⟩ ⟨ex, ms, fm, e11, e21, low, sh⟩
    have ex : x = (if m = 0 then 1 else 0) := ex
    have ms : MST t B n (nTs B n l99 (0, s, f, q) m) := ms
    refine ⟨t, ?_, ms, fm, e11, e21, low, sh⟩
    obtain ⟨g1, g2⟩ := nT_go (f := f) (q := q) all (j := m) (Nat.le_refl _)
    show pl_M_cellsLine_2 a0 _ (k + 1) x t = _
    rw [pl_M_cellsLine_2, ex, if_neg (show ¬ m = 0 by omega)]
    rcases ms with ⟨_, d2, d3, _⟩ | ⟨d1, _⟩
    · rw [if_pos d3, if_pos rfl, d2.2.2.2.2.1, if_neg (fun v => no (by rw [← g2]; exact tkm_1.mp v))]
    · omega
end Tq
