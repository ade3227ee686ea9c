/-! loops -/
theorem lp {σ β : Type} {F : Nat → σ → β} {I : σ → Prop} {Q : β → Prop} (μ : σ → Nat) (st : ∀ n s, I s → Q (F (n + 1) s) ∨ ∃ s', F (n + 1) s = F n s' ∧ I s' ∧ μ s' < μ s) : ∀ n s, I s → μ s < n → Q (F n s) := by
  intro n
  induction n with
  | zero => intro s _ h; omega
  | succ n ih =>
    intro s hi hm
    rcases st n s hi with q | ⟨s', e, i', m'⟩
    · exact q
    · rw [e]; exact ih s' i' (by omega)
theorem lpf {τ β : Type} {F : Nat → Nat → τ → β} {Q : β → Prop} (N : Nat) (I : Nat → τ → Prop) (st : ∀ n i t, i < N → I i t → Q (F (n + 1) i t) ∨ ∃ t', F (n + 1) i t = F n (i + 1) t' ∧ I (i + 1) t') (en : ∀ n t, I N t → Q (F (n + 1) N t)) : ∀ n i t, i ≤ N → N - i < n → I i t → Q (F n i t) := by
  intro n
  induction n with
  | zero => intro i t _ h; omega
  | succ n ih =>
    intro i t hi hm hI
    by_cases q : i = N
    · subst q; exact en n t hI
    · rcases st n i t (by omega) hI with z | ⟨t', e, i'⟩
      · exact z
      · rw [e]; exact ih (i + 1) t' (by omega) (by omega) i'
/-! bits -/
def tb (y : Int64) (c : Nat) : Bool := y.toBitVec.getLsbD c
theorem tb_ext {x y : Int64} (h : ∀ i, i < 64 → tb x i = tb y i) : x = y := Int64.toBitVec_inj.1 (BitVec.eq_of_getLsbD_eq h)
theorem tb_or {x y : Int64} {i : Nat} : tb (x ||| y) i = (tb x i || tb y i) := BitVec.getLsbD_or
theorem tb_and {x y : Int64} {i : Nat} : tb (x &&& y) i = (tb x i && tb y i) := BitVec.getLsbD_and
theorem tb_xor {x y : Int64} {i : Nat} : tb (x ^^^ y) i = (tb x i ^^ tb y i) := BitVec.getLsbD_xor
theorem tb_0 {i : Nat} : tb 0 i = false := BitVec.getLsbD_zero
theorem tb_m1 {i : Nat} (h : i < 64) : tb (-1) i = true := by
  have e : ∀ i, i < 64 → tb (-1) i = true := by decide
  exact e i h
theorem tb_hi {y : Int64} {i : Nat} (h : 64 ≤ i) : tb y i = false := BitVec.getLsbD_of_ge _ _ h
theorem tb_nx {x : Int64} {i : Nat} (h : i < 64) : tb (x ^^^ (-1)) i = !(tb x i) := by rw [tb_xor, tb_m1 h]; cases tb x i <;> rfl
theorem bit_a : ∀ n, n < 64 → (plshl 1 (n : Nat)).toBitVec = 1#64 <<< n := by decide +kernel
theorem shl_a : ∀ n, n < 64 → ((Int32.ofInt (n : Nat)).toInt64 &&& 63).toBitVec.smod 64 = BitVec.ofNat 64 n := by decide +kernel
theorem ush_a : ∀ n, n < 64 → ((Int32.ofInt (n : Nat)).toInt64.toUInt64 &&& Int64.toUInt64 63) = UInt64.ofNat n := by decide +kernel
theorem tb_shl {y : Int64} {n i : Nat} (hn : n < 64) (hi : i < 64) : tb (plshl y n) i = (decide (n ≤ i) && tb y (i - n)) := by
  unfold tb plshl
  rw [Int64.toBitVec_shiftLeft, shl_a n hn, BitVec.getLsbD_shiftLeft', BitVec.toNat_ofNat, Nat.mod_eq_of_lt (by omega), decide_eq_true hi, Bool.true_and]
  by_cases q : n ≤ i
  · rw [decide_eq_true q, decide_eq_false (by omega)]; rfl
  · rw [decide_eq_false q, decide_eq_true (by omega)]; rfl
theorem tb_bit {n i : Nat} (hn : n < 64) (hi : i < 64) : tb (plshl 1 n) i = decide (i = n) := by
  rw [tb_shl hn hi]
  unfold tb
  rw [show (1 : Int64).toBitVec = 1#64 from rfl, BitVec.getLsbD_one]
  by_cases q : i = n
  · rw [decide_eq_true q, decide_eq_true (by omega), decide_eq_true (by omega : i - n = 0)]; rfl
  · rw [decide_eq_false q]
    by_cases z : n ≤ i
    · rw [decide_eq_false (by omega : ¬ i - n = 0)]; simp
    · rw [decide_eq_false z]; rfl
theorem tb_ush {y : Int64} {n i : Nat} (hn : n < 64) : tb (plush y n) i = tb y (n + i) := by
  unfold tb plush
  rw [ush_a n hn]
  show ((y.toUInt64 >>> UInt64.ofNat n).toBitVec).getLsbD i = _
  rw [UInt64.toBitVec_shiftRight]
  show (y.toBitVec >>> ((BitVec.ofNat 64 n) % 64#64)).getLsbD i = _
  rw [BitVec.ushiftRight_eq', BitVec.getLsbD_ushiftRight]
  congr 2
  rw [BitVec.toNat_umod, BitVec.toNat_ofNat]
  show n % 2 ^ 64 % 64 = n
  omega
theorem tb_shr {y : Int64} {n i : Nat} (hn : n + i < 64) : tb (plshr y n) i = tb y (n + i) := by
  unfold tb plshr
  rw [Int64.toBitVec_shiftRight, shl_a n (by omega), BitVec.sshiftRight_eq', BitVec.toNat_ofNat, Nat.mod_eq_of_lt (by omega), BitVec.getLsbD_sshiftRight, if_pos hn, decide_eq_false (by omega)]
  rfl
theorem tb_1 {i : Nat} : tb 1 i = decide (i = 0) := by
  unfold tb
  rw [show (1 : Int64).toBitVec = 1#64 from rfl, BitVec.getLsbD_one]
  simp
theorem and1 {x : Int64} : x &&& 1 = if tb x 0 = true then 1 else 0 := by
  apply tb_ext
  intro i hi
  rw [tb_and, tb_1]
  by_cases q : i = 0
  · subst q
    cases tb x 0 <;> simp [tb_0, tb_1]
  · rw [decide_eq_false q, Bool.and_false]
    split
    · rw [tb_1, decide_eq_false q]
    · rw [tb_0]
theorem plc_0 {u v : Int64} : plc u v = 0 ↔ u = v := by
  unfold plc lg_cmp
  constructor
  · intro h
    split at h
    · exact absurd h (by decide)
    · split at h
      · assumption
      · exact absurd h (by decide)
  · rintro rfl
    rw [if_neg (by simp), if_pos rfl]
    rfl
theorem c_hasBit {y : Int64} {n : Nat} {h : pH} (hn : n < 64) : pf_I_hasBit y n h = some (if tb y n = true then 1 else 0) := by
  unfold pf_I_hasBit
  have e : tb (plush y n) 0 = tb y n := by rw [tb_ush hn]; rfl
  by_cases q : tb y n = true
  · rw [if_neg (fun z => by rw [plc_0, and1, e, if_pos q] at z; exact absurd z (by decide)), if_pos q]
  · rw [if_pos (by rw [plc_0, and1, e, if_neg q]), if_neg q]
theorem c_bit {x : Int} {h : pH} : pf_I_bit x h = some (plshl 1 x) := rfl
theorem shr1 {y : Int64} {n : Nat} (hn : n < 64) : plc ((plshr y n) &&& 1) 1 = 0 ↔ tb y n = true := by
  rw [plc_0, and1, tb_shr (by omega)]
  show (if tb y n = true then (1 : Int64) else 0) = 1 ↔ _
  by_cases q : tb y n = true
  · rw [if_pos q]; simp [q]
  · rw [if_neg q]
    constructor
    · intro z; exact absurd z (by decide)
    · intro z; exact absurd z q
theorem ush1 {y : Int64} {n : Nat} (hn : n < 64) : plc ((plush y n) &&& 1) 0 = 0 ↔ ¬ tb y n = true := by
  rw [plc_0, and1, tb_ush hn]
  show (if tb y n = true then (1 : Int64) else 0) = 0 ↔ _
  by_cases q : tb y n = true
  · rw [if_pos q]
    constructor
    · intro z; exact absurd z (by decide)
    · intro z; exact absurd q z
  · rw [if_neg q]; simp [q]
/-! rows filled -/
theorem c_fill_l {a N : Nat} {v : Int} {k : pH → Option pH} (hN : (kd_D a).2 = N) (hb : N ≤ 1000) {n : Nat} {h : pH} (hn : N < n) : ∃ h', pl_Ar_fill_5 a v k n 0 N h = k h' ∧ fr (fun b => b = a) h h' ∧ ∀ j, pi h' a j = if j < N then v else pi h a j := by
  refine lpf (F := fun n (i : Nat) h => pl_Ar_fill_5 a v k n i N h) (Q := fun r => ∃ h', r = k h' ∧ fr (fun b => b = a) h h' ∧ ∀ j, pi h' a j = if j < N then v else pi h a j) N (fun i t => fr (fun b => b = a) h t ∧ ∀ j, pi t a j = if j < i then v else pi h a j) ?_ ?_ n 0 h (by omega) (by omega) ⟨fr_refl, fun j => by rw [if_neg (by omega)]⟩
  · intro n i t hi ⟨f, g⟩
    right
    refine ⟨pwI t a i v, ?_, fr_wI f rfl, fun j => ?_⟩
    · show pl_Ar_fill_5 a v k (n + 1) i N t = pl_Ar_fill_5 a v k n (i + 1 : Nat) N _
      rw [pl_Ar_fill_5, if_neg (by omega), hN]
      simp (disch := omega) only [wr_eq, gib, Int.toNat_natCast]
      rfl
    · by_cases q : j = i
      · rw [q, pi_wIs, if_pos (by omega)]
      · rw [pi_wIi q, g j]
        by_cases z : j < i
        · rw [if_pos z, if_pos (by omega)]
        · rw [if_neg z, if_neg (by omega)]
  · intro n t ⟨f, g⟩
    refine ⟨t, ?_, f, g⟩
    show pl_Ar_fill_5 a v k (n + 1) N N t = k t
    rw [pl_Ar_fill_5, if_pos (by omega)]
theorem c_fill {a N : Nat} {v : Int} {h : pH} (hN : (kd_D a).2 = N) (hb : N ≤ 1000) : ∃ h', pf_Ar_fill a v h = some h' ∧ fr (fun b => b = a) h h' ∧ ∀ j, pi h' a j = if j < N then v else pi h a j := by
  unfold pf_Ar_fill
  rw [hN, wr_eq (by omega) (by omega)]
  exact c_fill_l hN hb (by unfold fu_; omega)
theorem c_fill2 {a N : Nat} {v : Int64} {h : pH} (hN : (kd_D a).2 = N) (hb : N ≤ 1000) : ∃ h', pf_Ar_fill2 a v h = some h' ∧ fr (fun b => b = a) h h' ∧ ∀ j, pl h' a j = if j < N then v else pl h a j := by
  unfold pf_Ar_fill2
  rw [hN, wr_eq (by omega) (by omega)]
  refine lpf (F := fun n (i : Nat) h => pl_Ar_fill2_6 a v (fun h => some h) n i N h) (Q := fun r => ∃ h', r = some h' ∧ fr (fun b => b = a) h h' ∧ ∀ j, pl h' a j = if j < N then v else pl h a j) N (fun i t => fr (fun b => b = a) h t ∧ ∀ j, pl t a j = if j < i then v else pl h a j) ?_ ?_ fu_ 0 h (by omega) (by unfold fu_; omega) ⟨fr_refl, fun j => by rw [if_neg (by omega)]⟩
  · intro n i t hi ⟨f, g⟩
    right
    refine ⟨pwL t a i v, ?_, fr_wL f rfl, fun j => ?_⟩
    · show pl_Ar_fill2_6 a v _ (n + 1) i N t = pl_Ar_fill2_6 a v _ n (i + 1 : Nat) N _
      rw [pl_Ar_fill2_6, if_neg (by omega), hN]
      simp (disch := omega) only [wr_eq, gib, Int.toNat_natCast]
      rfl
    · by_cases q : j = i
      · rw [q, pl_wLs, if_pos (by omega)]
      · rw [pl_wLi q, g j]
        by_cases z : j < i
        · rw [if_pos z, if_pos (by omega)]
        · rw [if_neg z, if_neg (by omega)]
  · intro n t ⟨f, g⟩
    refine ⟨t, ?_, f, g⟩
    show pl_Ar_fill2_6 a v _ (n + 1) N N t = some t
    rw [pl_Ar_fill2_6, if_pos (by omega)]
