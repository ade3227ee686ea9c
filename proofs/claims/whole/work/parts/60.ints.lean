/-! the plain functions over Int: words and lemmas -/
abbrev pH : Type := (Nat → Nat → Int) × (Nat → Nat → Int64) × (Nat → Nat → Nat)
def pi (h : pH) (a k : Nat) : Int := h.1 a k
def pl (h : pH) (a k : Nat) : Int64 := h.2.1 a k
def pr (h : pH) (a k : Nat) : Nat := h.2.2 a k
def vw (h : ia_H) : pH := (fun a k => (ia_i h a k).toInt, ia_l h, ia_r h)
def pwI (h : pH) (a i : Nat) (x : Int) : pH := (ia_up h.1 a i x, h.2)
def pwL (h : pH) (a i : Nat) (x : Int64) : pH := (h.1, ia_up h.2.1 a i x, h.2.2)
def pwR (h : pH) (a i : Nat) (x : Nat) : pH := (h.1, h.2.1, ia_up h.2.2 a i x)
def pcpI (h : pH) (a b sp dp n : Nat) : pH := ((fun c j => if c = b then va_cpy (h.1 a) (h.1 b) sp dp n j else h.1 c j), h.2)
def pcpL (h : pH) (a b sp dp n : Nat) : pH := (h.1, (fun c j => if c = b then va_cpy (h.2.1 a) (h.2.1 b) sp dp n j else h.2.1 c j), h.2.2)
abbrev e2 (r : Int32 × ia_H) : Int × pH := (r.1.toInt, vw r.2)
abbrev e3 (r : Int64 × ia_H) : Int64 × pH := (r.1, vw r.2)
abbrev e4 (r : Nat × ia_H) : Nat × pH := (r.1, vw r.2)
def rq {α β : Type} (em : α → β) (x : Option α) (y : Option β) : Prop := x.map em = y
def wr (x : Int) : Int := x.bmod 4294967296
theorem fst2 {v : Int32 × ia_H} {V : Int × pH} (e : e2 v = V) : v.1.toInt = V.1 := by rw [← e]
theorem snd2 {v : Int32 × ia_H} {V : Int × pH} (e : e2 v = V) : vw v.2 = V.2 := by rw [← e]
theorem fst3 {v : Int64 × ia_H} {V : Int64 × pH} (e : e3 v = V) : v.1 = V.1 := by rw [← e]
theorem snd3 {v : Int64 × ia_H} {V : Int64 × pH} (e : e3 v = V) : vw v.2 = V.2 := by rw [← e]
theorem fst4 {v : Nat × ia_H} {V : Nat × pH} (e : e4 v = V) : v.1 = V.1 := by rw [← e]
theorem snd4 {v : Nat × ia_H} {V : Nat × pH} (e : e4 v = V) : vw v.2 = V.2 := by rw [← e]
theorem rl_some {α β : Type} {em : α → β} {a : α} {b : β} (h : em a = b) : rq em (some a) (some b) := by unfold rq; rw [Option.map_some, h]
theorem rl_someid {α : Type} {a b : α} (h : a = b) : rq (id : α → α) (some a) (some b) := by rw [h]; rfl
theorem rl_some2 {x : Int32} {X : Int} {h : ia_H} {H : pH} (e : x.toInt = X) (f : vw h = H) : rq e2 (some (x, h)) (some (X, H)) := by rw [← e, ← f]; rfl
theorem rl_some3 {x X : Int64} {h : ia_H} {H : pH} (e : x = X) (f : vw h = H) : rq e3 (some (x, h)) (some (X, H)) := by rw [← e, ← f]; rfl
theorem rl_some4 {x X : Nat} {h : ia_H} {H : pH} (e : x = X) (f : vw h = H) : rq e4 (some (x, h)) (some (X, H)) := by rw [← e, ← f]; rfl
theorem rl_ite {α β : Type} {em : α → β} {c c' : Prop} [Decidable c] [Decidable c'] {x x' : Option α} {y y' : Option β} (h : c ↔ c') (h1 : rq em x y) (h2 : rq em x' y') : rq em (if c then x else x') (if c' then y else y') := by
  by_cases q : c
  · rw [if_pos q, if_pos (h.mp q)]; exact h1
  · rw [if_neg q, if_neg (fun z => q (h.mpr z))]; exact h2
theorem rl_gd {α β : Type} {em : α → β} {b b' : Bool} {x : Option α} {y : Option β} (h : b = b') (h1 : rq em x y) : rq em (ia_gd b x) (ia_gd b' y) := by
  rw [← h]
  cases b with
  | true => exact h1
  | false => exact rfl
theorem rl_bind {α β γ δ : Type} {em : α → β} {en : γ → δ} {x : Option α} {y : Option β} {g : α → Option γ} {G : β → Option δ} (h : rq em x y) (h1 : ∀ v V, em v = V → rq en (g v) (G V)) : rq en (x.bind g) (y.bind G) := by
  unfold rq at h
  rw [← h]
  cases x with
  | none => exact rfl
  | some a => exact h1 a _ rfl
theorem wr_eq {x : Int} (h1 : -2147483648 ≤ x) (h2 : x < 2147483648) : wr x = x := by
  unfold wr
  rw [Int.bmod_def]
  split <;> omega
theorem wr_lo (x : Int) : -2147483648 ≤ wr x := by
  unfold wr
  rw [Int.bmod_def]
  split <;> omega
theorem wr_hi (x : Int) : wr x < 2147483648 := by
  unfold wr
  rw [Int.bmod_def]
  split <;> omega
section Ix
variable {x y : Int32} {a b : Int}
theorem ad (hx : x.toInt = a) (hy : y.toInt = b) : (x + y).toInt = wr (a + b) := by rw [← hx, ← hy, Int32.toInt_add]; rfl
theorem sb (hx : x.toInt = a) (hy : y.toInt = b) : (x - y).toInt = wr (a - b) := by rw [← hx, ← hy, Int32.toInt_sub]; rfl
theorem ml (hx : x.toInt = a) (hy : y.toInt = b) : (x * y).toInt = wr (a * b) := by rw [← hx, ← hy, Int32.toInt_mul]; rfl
theorem dv (hx : x.toInt = a) (hy : y.toInt = b) : (x / y).toInt = wr (Int.tdiv a b) := by rw [← hx, ← hy, Int32.toInt_div]; rfl
theorem ng (hx : x.toInt = a) : (-x).toInt = wr (-a) := by rw [← hx, Int32.toInt_neg]; rfl
theorem tI_lo (x : Int32) : -2147483648 ≤ x.toInt := by have := Int32.le_toInt x; omega
theorem tI_hi (x : Int32) : x.toInt < 2147483648 := by have := Int32.toInt_lt x; omega
theorem rm (hx : x.toInt = a) (hy : y.toInt = b) : (x - x / y * y).toInt = Int.tmod a b := by
  rw [sb hx (ml (dv hx hy) hy)]
  have h1 : wr (a - wr (wr (Int.tdiv a b) * b)) = wr (a - Int.tdiv a b * b) := by
    unfold wr
    rw [Int.bmod_eq_bmod_iff_bmod_sub_eq_zero]
    rw [show (a - ((Int.tdiv a b).bmod 4294967296 * b).bmod 4294967296 - (a - Int.tdiv a b * b)) = Int.tdiv a b * b - ((Int.tdiv a b).bmod 4294967296 * b).bmod 4294967296 by omega]
    rw [← Int.bmod_eq_bmod_iff_bmod_sub_eq_zero]
    simp
  rw [h1]
  have h2 : a - Int.tdiv a b * b = Int.tmod a b := by
    have := Int.mul_tdiv_add_tmod a b
    rw [Int.mul_comm] at this
    omega
  rw [h2]
  have l := tI_lo x
  have u := tI_hi x
  rw [hx] at l u
  have hn : (Int.tmod a b).natAbs ≤ a.natAbs := by rw [Int.natAbs_tmod]; exact Nat.mod_le _ _
  rcases Int.lt_or_le a 0 with q | q
  · have h3 := Int.tmod_nonneg (a := -a) b (by omega)
    rw [Int.neg_tmod] at h3
    exact wr_eq (by omega) (by omega)
  · have h3 := Int.tmod_nonneg (a := a) b q
    exact wr_eq (by omega) (by omega)
theorem c_lt (hx : x.toInt = a) (hy : y.toInt = b) : x < y ↔ a < b := by rw [← hx, ← hy]; exact Int32.lt_iff_toInt_lt
theorem c_le (hx : x.toInt = a) (hy : y.toInt = b) : x ≤ y ↔ a ≤ b := by rw [← hx, ← hy]; exact Int32.le_iff_toInt_le
theorem c_eq (hx : x.toInt = a) (hy : y.toInt = b) : x = y ↔ a = b := by rw [← hx, ← hy]; exact Int32.toInt_inj.symm
theorem tnI (hx : x.toInt = a) : x.toNatClampNeg = Int.toNat a := by rw [← hx]; rfl
theorem ofn {n m : Nat} (h : n = m) : (Int32.ofNat n).toInt = wr (m : Nat) := by rw [← h, Int32.toInt_ofNat']; rfl
theorem kdn {n m : Nat} (h : n = m) : (kd_D n).2 = (kd_D m).2 := by rw [h]
theorem c_nadd {n m k j : Nat} (h : n = m) (h2 : k = j) : n + k = m + j := by rw [h, h2]
theorem c_nmul {n m k j : Nat} (h : n = m) (h2 : k = j) : n * k = m * j := by rw [h, h2]
theorem vI {h : ia_H} {H : pH} {n m k j : Nat} (e : vw h = H) (h1 : n = m) (h2 : k = j) : (ia_i h n k).toInt = pi H m j := by rw [← e, h1, h2]; rfl
theorem vL {h : ia_H} {H : pH} {n m k j : Nat} (e : vw h = H) (h1 : n = m) (h2 : k = j) : ia_l h n k = pl H m j := by rw [← e, h1, h2]; rfl
theorem vR {h : ia_H} {H : pH} {n m k j : Nat} (e : vw h = H) (h1 : n = m) (h2 : k = j) : ia_r h n k = pr H m j := by rw [← e, h1, h2]; rfl
theorem wI_ {h : ia_H} {H : pH} {n m k j : Nat} (e : vw h = H) (h1 : n = m) (h2 : k = j) (hx : x.toInt = a) : vw (ia_wI h n k x) = pwI H m j a := by
  rw [← e, h1, h2, ← hx]
  unfold vw pwI ia_wI
  refine Prod.ext ?_ rfl
  funext c d
  simp only [ia_i, ia_up]
  split <;> rfl
theorem wL_ {h : ia_H} {H : pH} {n m k j : Nat} {u v : Int64} (e : vw h = H) (h1 : n = m) (h2 : k = j) (hx : u = v) : vw (ia_wL h n k u) = pwL H m j v := by
  rw [← e, h1, h2, ← hx]; rfl
theorem wR_ {h : ia_H} {H : pH} {n m k j u v : Nat} (e : vw h = H) (h1 : n = m) (h2 : k = j) (hx : u = v) : vw (ia_wR h n k u) = pwR H m j v := by
  rw [← e, h1, h2, ← hx]; rfl
theorem cpI_ {h : ia_H} {H : pH} {n m k j s t u v w z : Nat} (e : vw h = H) (h1 : n = m) (h2 : k = j) (h3 : s = t) (h4 : u = v) (h5 : w = z) : vw (ia_cpI h n k s u w) = pcpI H m j t v z := by
  rw [← e, h1, h2, h3, h4, h5]
  unfold vw pcpI ia_cpI
  refine Prod.ext ?_ rfl
  funext c d
  simp only [ia_i, va_cpy]
  split
  · split <;> rfl
  · rfl
theorem cpL_ {h : ia_H} {H : pH} {n m k j s t u v w z : Nat} (e : vw h = H) (h1 : n = m) (h2 : k = j) (h3 : s = t) (h4 : u = v) (h5 : w = z) : vw (ia_cpL h n k s u w) = pcpL H m j t v z := by
  rw [← e, h1, h2, h3, h4, h5]; rfl
def pand (a b : Int) : Int := (Int32.ofInt a &&& Int32.ofInt b).toInt
def por (a b : Int) : Int := (Int32.ofInt a ||| Int32.ofInt b).toInt
def pxor (a b : Int) : Int := (Int32.ofInt a ^^^ Int32.ofInt b).toInt
def pshl (a b : Int) : Int := (Int32.ofInt a <<< (Int32.ofInt b &&& 31)).toInt
def pshr (a b : Int) : Int := (Int32.ofInt a >>> (Int32.ofInt b &&& 31)).toInt
def push (a b : Int) : Int := (((Int32.ofInt a).toUInt32 >>> ((Int32.ofInt b).toUInt32 &&& Int32.toUInt32 31)).toInt32).toInt
def p8 (a : Int) : Int := ((Int32.ofInt a).toInt8.toInt32).toInt
def pl2i (a : Int64) : Int := a.toInt32.toInt
def pvb (a : Int) : Int := (vp_nar .byte (Int32.ofInt a)).toInt
def pvz (a : Int) : Int := (vp_nar .boolean (Int32.ofInt a)).toInt
def pabs (a : Int) : Int := if 0 ≤ a then a else wr (0 - a)
def plc (u v : Int64) : Int := (lg_cmp u v).toInt
def psc (s j : Nat) : Int := (sl_c s j).toInt
def p64 (a : Int) : Int64 := (Int32.ofInt a).toInt64
def plush (u : Int64) (a : Int) : Int64 := ((u.toUInt64 >>> ((Int32.ofInt a).toInt64.toUInt64 &&& Int64.toUInt64 63)).toInt64)
def plshl (u : Int64) (a : Int) : Int64 := u <<< ((Int32.ofInt a).toInt64 &&& 63)
def plshr (u : Int64) (a : Int) : Int64 := u >>> ((Int32.ofInt a).toInt64 &&& 63)
theorem pand_ (hx : x.toInt = a) (hy : y.toInt = b) : (x &&& y).toInt = pand a b := by rw [← hx, ← hy]; unfold pand; rw [Int32.ofInt_toInt, Int32.ofInt_toInt]
theorem por_ (hx : x.toInt = a) (hy : y.toInt = b) : (x ||| y).toInt = por a b := by rw [← hx, ← hy]; unfold por; rw [Int32.ofInt_toInt, Int32.ofInt_toInt]
theorem pxor_ (hx : x.toInt = a) (hy : y.toInt = b) : (x ^^^ y).toInt = pxor a b := by rw [← hx, ← hy]; unfold pxor; rw [Int32.ofInt_toInt, Int32.ofInt_toInt]
theorem pshl_ (hx : x.toInt = a) (hy : y.toInt = b) : (x <<< (y &&& 31)).toInt = pshl a b := by rw [← hx, ← hy]; unfold pshl; rw [Int32.ofInt_toInt, Int32.ofInt_toInt]
theorem pshr_ (hx : x.toInt = a) (hy : y.toInt = b) : (x >>> (y &&& 31)).toInt = pshr a b := by rw [← hx, ← hy]; unfold pshr; rw [Int32.ofInt_toInt, Int32.ofInt_toInt]
theorem push_ (hx : x.toInt = a) (hy : y.toInt = b) : ((x.toUInt32 >>> (y.toUInt32 &&& Int32.toUInt32 31)).toInt32).toInt = push a b := by rw [← hx, ← hy]; unfold push; rw [Int32.ofInt_toInt, Int32.ofInt_toInt]
theorem p8_ (hx : x.toInt = a) : (x.toInt8.toInt32).toInt = p8 a := by rw [← hx]; unfold p8; rw [Int32.ofInt_toInt]
theorem pl2i_ {u v : Int64} (hx : u = v) : u.toInt32.toInt = pl2i v := by rw [← hx]; rfl
theorem pvb_ (hx : x.toInt = a) : (vp_nar .byte x).toInt = pvb a := by rw [← hx]; unfold pvb; rw [Int32.ofInt_toInt]
theorem pvz_ (hx : x.toInt = a) : (vp_nar .boolean x).toInt = pvz a := by rw [← hx]; unfold pvz; rw [Int32.ofInt_toInt]
theorem pabs_ (hx : x.toInt = a) : (ia_abs x).toInt = pabs a := by
  unfold ia_abs pabs
  by_cases q : 0 ≤ x
  · rw [if_pos q, if_pos ((c_le (by decide) hx).mp q)]; exact hx
  · rw [if_neg q, if_neg (fun z => q ((c_le (by decide) hx).mpr z))]; exact sb (by decide) hx
theorem pmax_ (hx : x.toInt = a) (hy : y.toInt = b) : (ia_max x y).toInt = max a b := by
  unfold ia_max
  by_cases q : x < y
  · rw [if_pos q, hy]; have := (c_lt hx hy).mp q; omega
  · rw [if_neg q, hx]; have : ¬ a < b := fun z => q ((c_lt hx hy).mpr z); omega
theorem pmin_ (hx : x.toInt = a) (hy : y.toInt = b) : (ia_min x y).toInt = min a b := by
  unfold ia_min
  by_cases q : y < x
  · rw [if_pos q, hy]; have := (c_lt hy hx).mp q; omega
  · rw [if_neg q, hx]; have : ¬ b < a := fun z => q ((c_lt hy hx).mpr z); omega
theorem plc_ {u v s t : Int64} (h : u = v) (h2 : s = t) : (lg_cmp u s).toInt = plc v t := by rw [h, h2]; rfl
theorem psc_ {u v s t : Nat} (h : u = v) (h2 : s = t) : (sl_c u s).toInt = psc v t := by rw [h, h2]; rfl
theorem p64_ (hx : x.toInt = a) : x.toInt64 = p64 a := by rw [← hx]; unfold p64; rw [Int32.ofInt_toInt]
theorem plush_ {u v : Int64} (h : u = v) (hx : x.toInt = a) : ((u.toUInt64 >>> (x.toInt64.toUInt64 &&& Int64.toUInt64 63)).toInt64) = plush v a := by rw [h, ← hx]; unfold plush; rw [Int32.ofInt_toInt]
theorem plshl_ {u v : Int64} (h : u = v) (hx : x.toInt = a) : u <<< (x.toInt64 &&& 63) = plshl v a := by rw [h, ← hx]; unfold plshl; rw [Int32.ofInt_toInt]
theorem plshr_ {u v : Int64} (h : u = v) (hx : x.toInt = a) : u >>> (x.toInt64 &&& 63) = plshr v a := by rw [h, ← hx]; unfold plshr; rw [Int32.ofInt_toInt]
theorem c_ladd {u v s t : Int64} (h : u = v) (h2 : s = t) : u + s = v + t := by rw [h, h2]
theorem c_lsub {u v s t : Int64} (h : u = v) (h2 : s = t) : u - s = v - t := by rw [h, h2]
theorem c_lmul {u v s t : Int64} (h : u = v) (h2 : s = t) : u * s = v * t := by rw [h, h2]
theorem c_land {u v s t : Int64} (h : u = v) (h2 : s = t) : u &&& s = v &&& t := by rw [h, h2]
theorem c_lor {u v s t : Int64} (h : u = v) (h2 : s = t) : u ||| s = v ||| t := by rw [h, h2]
theorem c_lxor {u v s t : Int64} (h : u = v) (h2 : s = t) : u ^^^ s = v ^^^ t := by rw [h, h2]
def pib (a : Int) (n : Nat) : Bool := decide (0 ≤ a) && decide (a < n)
def pnz (a : Int) : Bool := !(decide (a = 0))
def pz1 (a : Int) : Bool := decide (a = 0) || decide (a = 1)
def pcb (s d n : Int) (na nb : Nat) : Bool := decide (0 ≤ s) && (decide (0 ≤ d) && (decide (0 ≤ n) && (decide (s + n ≤ na) && decide (d + n ≤ nb))))
def pfb (k : Nat) (f : Nat → Int) (sp n : Nat) : Bool := match k with
  | 100 => true
  | 101 => (List.range n).all fun j => decide (f (sp + j) = 0) || decide (f (sp + j) = 1)
  | _ => (List.range n).all fun j => decide (-128 ≤ f (sp + j)) && decide (f (sp + j) ≤ 127)
theorem pib_ {n m : Nat} (hx : x.toInt = a) (h : n = m) : ia_ib x n = pib a m := by
  rw [← hx, ← h]
  unfold ia_ib pib
  have q := c_lt (x := x) (y := 0) rfl (b := 0) (by decide)
  rw [show x.toNatClampNeg = x.toInt.toNat from rfl]
  rw [Bool.eq_iff_iff]
  simp only [Bool.not_eq_true', Bool.or_eq_false_iff, decide_eq_false_iff_not, Bool.and_eq_true, decide_eq_true_eq, q]
  omega
theorem pnz_ (hx : x.toInt = a) : ia_nz x = pnz a := by
  unfold ia_nz pnz
  rw [decide_eq_decide.mpr (c_eq (y := 0) hx (b := 0) (by decide))]
theorem pz1_ (hx : x.toInt = a) : ia_z1 x = pz1 a := by
  unfold ia_z1 pz1
  rw [decide_eq_decide.mpr (c_eq (y := 0) hx (b := 0) (by decide)), decide_eq_decide.mpr (c_eq (y := 1) hx (b := 1) (by decide))]
theorem pcb_ {z : Int32} {c : Int} {n m j k : Nat} (hx : x.toInt = a) (hy : y.toInt = b) (hz : z.toInt = c) (h : n = m) (h2 : j = k) : ia_cb x y z n j = pcb a b c m k := by
  rw [← hx, ← hy, ← hz, ← h, ← h2]
  unfold ia_cb pcb
  have q1 := c_lt (x := x) (y := 0) rfl (b := 0) (by decide)
  have q2 := c_lt (x := y) (y := 0) rfl (b := 0) (by decide)
  have q3 := c_lt (x := z) (y := 0) rfl (b := 0) (by decide)
  rw [show x.toNatClampNeg = x.toInt.toNat from rfl, show y.toNatClampNeg = y.toInt.toNat from rfl, show z.toNatClampNeg = z.toInt.toNat from rfl]
  rw [Bool.eq_iff_iff]
  simp only [Bool.not_eq_true', decide_eq_false_iff_not, Bool.and_eq_true, decide_eq_true_eq, q1, q2, q3]
  omega
theorem pfb_ {k : Nat} {h : ia_H} {H : pH} {n m s t u v : Nat} (e : vw h = H) (h1 : n = m) (h2 : s = t) (h3 : u = v) : ia_fb k (ia_i h n) s u = pfb k (pi H m) t v := by
  rw [← e, h1, h2, h3]
  rcases (show k = 100 ∨ k = 101 ∨ (k ≠ 100 ∧ k ≠ 101) by omega) with rfl | rfl | ⟨k1, k2⟩
  · rfl
  · show (List.range v).all _ = (List.range v).all _
    congr 1
    funext j
    show (ia_i h m (t + j) == 0 || ia_i h m (t + j) == 1) = _
    rw [Bool.eq_iff_iff]
    simp only [Bool.or_eq_true, beq_iff_eq, decide_eq_true_eq]
    rw [c_eq (x := ia_i h m (t + j)) rfl (y := 0) (b := 0) (by decide), c_eq (x := ia_i h m (t + j)) rfl (y := 1) (b := 1) (by decide)]
    exact Iff.rfl
  · have l : ia_fb k (ia_i h m) t v = (List.range v).all fun j => fits .byte (.int (ia_i h m (t + j))) := by
      unfold ia_fb
      split <;> simp_all
    have r : pfb k (pi (vw h) m) t v = (List.range v).all fun j => decide (-128 ≤ pi (vw h) m (t + j)) && decide (pi (vw h) m (t + j) ≤ 127) := by
      unfold pfb
      split <;> simp_all
    rw [l, r]
    congr 1
    funext j
    show (decide (-128 ≤ ia_i h m (t + j)) && decide (ia_i h m (t + j) ≤ 127)) = _
    rw [decide_eq_decide.mpr (c_le (x := -128) (a := -128) (by decide) (y := ia_i h m (t + j)) rfl), decide_eq_decide.mpr (c_le (y := 127) (b := 127) (x := ia_i h m (t + j)) rfl (by decide))]
    rfl
theorem bbq {n m k j : Nat} (h : n = m) (h2 : k = j) : (n == k) = (m == j) := by rw [h, h2]
end Ix
theorem m_100 : (-100 : Int32).toInt = -100 := by decide
theorem m_20 : (-20 : Int32).toInt = -20 := by decide
theorem m_8 : (-8 : Int32).toInt = -8 := by decide
theorem m_2 : (-2 : Int32).toInt = -2 := by decide
theorem m_1 : (-1 : Int32).toInt = -1 := by decide
theorem n_0 : (0 : Int32).toInt = 0 := by decide
theorem n_1 : (1 : Int32).toInt = 1 := by decide
theorem n_2 : (2 : Int32).toInt = 2 := by decide
theorem n_3 : (3 : Int32).toInt = 3 := by decide
theorem n_4 : (4 : Int32).toInt = 4 := by decide
theorem n_5 : (5 : Int32).toInt = 5 := by decide
theorem n_6 : (6 : Int32).toInt = 6 := by decide
theorem n_7 : (7 : Int32).toInt = 7 := by decide
theorem n_8 : (8 : Int32).toInt = 8 := by decide
theorem n_9 : (9 : Int32).toInt = 9 := by decide
theorem n_10 : (10 : Int32).toInt = 10 := by decide
theorem n_11 : (11 : Int32).toInt = 11 := by decide
theorem n_12 : (12 : Int32).toInt = 12 := by decide
theorem n_13 : (13 : Int32).toInt = 13 := by decide
theorem n_14 : (14 : Int32).toInt = 14 := by decide
theorem n_15 : (15 : Int32).toInt = 15 := by decide
theorem n_16 : (16 : Int32).toInt = 16 := by decide
theorem n_17 : (17 : Int32).toInt = 17 := by decide
theorem n_18 : (18 : Int32).toInt = 18 := by decide
theorem n_19 : (19 : Int32).toInt = 19 := by decide
theorem n_20 : (20 : Int32).toInt = 20 := by decide
theorem n_21 : (21 : Int32).toInt = 21 := by decide
theorem n_22 : (22 : Int32).toInt = 22 := by decide
theorem n_23 : (23 : Int32).toInt = 23 := by decide
theorem n_24 : (24 : Int32).toInt = 24 := by decide
theorem n_25 : (25 : Int32).toInt = 25 := by decide
theorem n_26 : (26 : Int32).toInt = 26 := by decide
theorem n_30 : (30 : Int32).toInt = 30 := by decide
theorem n_32 : (32 : Int32).toInt = 32 := by decide
theorem n_35 : (35 : Int32).toInt = 35 := by decide
theorem n_36 : (36 : Int32).toInt = 36 := by decide
theorem n_39 : (39 : Int32).toInt = 39 := by decide
theorem n_40 : (40 : Int32).toInt = 40 := by decide
theorem n_44 : (44 : Int32).toInt = 44 := by decide
theorem n_45 : (45 : Int32).toInt = 45 := by decide
theorem n_48 : (48 : Int32).toInt = 48 := by decide
theorem n_57 : (57 : Int32).toInt = 57 := by decide
theorem n_59 : (59 : Int32).toInt = 59 := by decide
theorem n_60 : (60 : Int32).toInt = 60 := by decide
theorem n_61 : (61 : Int32).toInt = 61 := by decide
theorem n_68 : (68 : Int32).toInt = 68 := by decide
theorem n_72 : (72 : Int32).toInt = 72 := by decide
theorem n_79 : (79 : Int32).toInt = 79 := by decide
theorem n_80 : (80 : Int32).toInt = 80 := by decide
theorem n_95 : (95 : Int32).toInt = 95 := by decide
theorem n_96 : (96 : Int32).toInt = 96 := by decide
theorem n_97 : (97 : Int32).toInt = 97 := by decide
theorem n_99 : (99 : Int32).toInt = 99 := by decide
theorem n_100 : (100 : Int32).toInt = 100 := by decide
theorem n_102 : (102 : Int32).toInt = 102 := by decide
theorem n_104 : (104 : Int32).toInt = 104 := by decide
theorem n_110 : (110 : Int32).toInt = 110 := by decide
theorem n_111 : (111 : Int32).toInt = 111 := by decide
theorem n_112 : (112 : Int32).toInt = 112 := by decide
theorem n_115 : (115 : Int32).toInt = 115 := by decide
theorem n_116 : (116 : Int32).toInt = 116 := by decide
theorem n_122 : (122 : Int32).toInt = 122 := by decide
theorem n_127 : (127 : Int32).toInt = 127 := by decide
theorem n_144 : (144 : Int32).toInt = 144 := by decide
theorem n_152 : (152 : Int32).toInt = 152 := by decide
theorem n_188 : (188 : Int32).toInt = 188 := by decide
theorem n_224 : (224 : Int32).toInt = 224 := by decide
theorem n_236 : (236 : Int32).toInt = 236 := by decide
theorem n_255 : (255 : Int32).toInt = 255 := by decide
theorem n_260 : (260 : Int32).toInt = 260 := by decide
theorem n_600 : (600 : Int32).toInt = 600 := by decide
theorem n_610 : (610 : Int32).toInt = 610 := by decide
theorem n_999 : (999 : Int32).toInt = 999 := by decide
theorem n_1000 : (1000 : Int32).toInt = 1000 := by decide
theorem n_1024 : (1024 : Int32).toInt = 1024 := by decide
theorem n_1130 : (1130 : Int32).toInt = 1130 := by decide
theorem n_1266 : (1266 : Int32).toInt = 1266 := by decide
theorem n_1632 : (1632 : Int32).toInt = 1632 := by decide
theorem n_12345 : (12345 : Int32).toInt = 12345 := by decide
theorem n_20000 : (20000 : Int32).toInt = 20000 := by decide
theorem n_1000000 : (1000000 : Int32).toInt = 1000000 := by decide
theorem n_1103515245 : (1103515245 : Int32).toInt = 1103515245 := by decide
