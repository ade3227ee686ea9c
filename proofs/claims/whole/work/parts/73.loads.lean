/-! loads and heat -/
def one (S g : Nat → Int) (wo x : Int) (n : Nat) : Int := match n with
  | 0 => 0
  | n + 1 => one S g wo x n + (if S (72 + n) = x ∧ (n : Int) ≠ wo then g n else 0)
def on1 (S g : Nat → Int) (wo x : Int) (n : Nat) : Int := if x < 0 then 0 else one S g wo x n
def NS (L : Nat → Int) : Nat := (L 4).toNat
/-- what lies on a cell -/
noncomputable def ld (L W S wt : Nat → Int) (wo x : Int) : Int :=
  one S wt wo x (NS L) + on1 S (fun s => wt s * W 2 / 10) wo (nr L x 0) (NS L) + on1 S (fun s => wt s * W 2 / 10) wo (nr L x 1) (NS L) + on1 S (fun s => wt s * W 2 / 10) wo (nr L x 2) (NS L) + on1 S (fun s => wt s * W 2 / 10) wo (nr L x 3) (NS L)
noncomputable def ht (L S sv : Nat → Int) (x : Int) : Int :=
  one S sv (-1) x (NS L) + on1 S (fun s => sv s / 2) (-1) (nr L x 0) (NS L) + on1 S (fun s => sv s / 2) (-1) (nr L x 1) (NS L) + on1 S (fun s => sv s / 2) (-1) (nr L x 2) (NS L) + on1 S (fun s => sv s / 2) (-1) (nr L x 3) (NS L)
theorem mb {a b A B : Int} (h1 : 0 ≤ a) (h2 : a ≤ A) (h3 : 0 ≤ b) (h4 : b ≤ B) : 0 ≤ a * b ∧ a * b ≤ A * B := ⟨Int.mul_nonneg h1 h3, Int.mul_le_mul h2 h4 h3 (by omega)⟩
theorem one_z {S g : Nat → Int} {wo x : Int} : ∀ {n : Nat}, (∀ s, s < n → S (72 + s) ≠ x) → one S g wo x n = 0
  | 0, _ => rfl
  | n + 1, h => by
    rw [one, one_z (fun s hs => h s (by omega)), if_neg (fun q => h n (by omega) q.1)]
    rfl
theorem one_bd {S g : Nat → Int} {wo x B : Int} (hB : 0 ≤ B) : ∀ {n : Nat}, n ≤ 6 → (∀ s, s < n → 0 ≤ g s ∧ g s ≤ B) → 0 ≤ one S g wo x n ∧ one S g wo x n ≤ n * B
  | 0, _, _ => by simp [one]
  | n + 1, h6, h => by
    have i := one_bd (S := S) (g := g) (wo := wo) (x := x) hB (n := n) (by omega) (fun s hs => h s (by omega))
    have q := h n (by omega)
    rw [one]
    have e : ((n + 1 : Nat) : Int) * B = n * B + B := by rw [Int.natCast_add, Int.add_mul]; simp
    rw [e]
    split <;> omega
theorem on1_bd {S g : Nat → Int} {wo x B : Int} (hB : 0 ≤ B) {n : Nat} (h6 : n ≤ 6) (h : ∀ s, s < n → 0 ≤ g s ∧ g s ≤ B) : 0 ≤ on1 S g wo x n ∧ on1 S g wo x n ≤ 6 * B := by
  unfold on1
  have i := one_bd (S := S) (g := g) (wo := wo) (x := x) hB h6 h
  have e : (n : Int) * B ≤ 6 * B := Int.mul_le_mul_of_nonneg_right (by omega) hB
  split <;> omega
theorem shI_r {S : Nat → Int} {c : Int} : ∀ {n : Nat}, -1 ≤ shI S c n ∧ shI S c n < n
  | 0 => by simp [shI]
  | n + 1 => by
    have i := shI_r (S := S) (c := c) (n := n)
    rw [shI]
    split <;> omega
theorem shI_at {S : Nat → Int} {c : Int} : ∀ {n : Nat}, 0 ≤ shI S c n → S (72 + (shI S c n).toNat) = c
  | 0, h => by simp [shI] at h
  | n + 1, h => by
    rw [shI] at h ⊢
    split
    · rename_i q; rw [Int.toNat_natCast]; exact q
    · rename_i q; rw [if_neg q] at h; exact shI_at h
theorem shI_no {S : Nat → Int} {c : Int} : ∀ {n : Nat}, shI S c n < 0 → ∀ s, s < n → S (72 + s) ≠ c
  | 0, _, s, hs => by omega
  | n + 1, h, s, hs => by
    rw [shI] at h
    split at h
    · omega
    · rename_i q
      rcases Nat.lt_or_ge s n with z | z
      · exact shI_no h s z
      · rw [show s = n by omega]; exact q
def DSn (S : Nat → Int) (n : Nat) : Prop := ∀ s t, s < t → t < n → 0 ≤ S (72 + s) → S (72 + s) ≠ S (72 + t)
theorem one_shI {S g : Nat → Int} {wo x : Int} (hx : 0 ≤ x) : ∀ {n : Nat}, DSn S n → one S g wo x n = if 0 ≤ shI S x n ∧ shI S x n ≠ wo then g (shI S x n).toNat else 0
  | 0, _ => by simp [one, shI]
  | n + 1, h => by
    have hd : DSn S n := fun s t h1 h2 h3 => h s t h1 (by omega) h3
    rw [one, shI]
    by_cases q : S (72 + n) = x
    · have z : one S g wo x n = 0 := one_z (fun s hs e => h s n hs (by omega) (by omega) (by omega))
      rw [if_pos q, z]
      by_cases w : (n : Int) ≠ wo
      · rw [if_pos ⟨q, w⟩, if_pos ⟨by omega, w⟩, Int.toNat_natCast]; omega
      · rw [if_neg (fun e => w e.2), if_neg (fun e => w e.2)]; omega
    · rw [if_neg (fun e => q e.1), if_neg q, one_shI hx hd]; omega
/-- what a state can be; at most d days are gone -/
def SV (L S : Nat → Int) (d : Nat) : Prop :=
  (∀ c : Nat, (c : Int) < ce L → 0 ≤ S c ∧ S c ≤ 99) ∧ (∀ c : Nat, (c : Int) < ce L → 0 ≤ S (36 + c) ∧ S (36 + c) ≤ 9) ∧ (∀ s : Nat, s < NS L → -2 ≤ S (72 + s) ∧ S (72 + s) < ce L) ∧ DSn S (NS L) ∧ (0 ≤ S 78 ∧ S 78 ≤ d) ∧ (0 ≤ S 79 ∧ S 79 ≤ 6000 * d)
/-- weights and stoves can be so -/
def WS (L wt sv : Nat → Int) : Prop := ∀ s, s < NS L → (1 ≤ wt s ∧ wt s ≤ 200) ∧ (0 ≤ sv s ∧ sv s ≤ 9)
/-- the reference's surroundings: lake, law, weights, stoves, inches more -/
def MC (h : pH) (l w : Nat) (L W wt sv : Nat → Int) (tk : Int) : Prop :=
  MS h l w L W ∧ (∀ s, s < NS L → wtM h L s = wt s) ∧ (∀ s, s < NS L → svM h L s = sv s) ∧ pi h 417 19 = tk ∧ (0 ≤ pi h 417 18 ∧ pi h 417 18 ≤ 100) ∧ (0 ≤ tk ∧ tk ≤ 100)
theorem NS_le {L : Nat → Int} (k : LK L) : NS L ≤ 6 := by have := k.2.2.2.1; unfold NS; omega
theorem NS_eq {L : Nat → Int} (k : LK L) : ((NS L : Nat) : Int) = L 4 := by have := k.2.2.2.1; unfold NS; omega
theorem MC_WS {h : pH} {l w : Nat} {L W wt sv : Nat → Int} {tk : Int} (M : MC h l w L W wt sv tk) : WS L wt sv := by
  obtain ⟨M, h1, h2, -, h3, -⟩ := M
  have kL := M.2.2.2.2.2.2.1
  intro s hs
  have r := kL.2.2.2.2.2.2.2.2.2.1 s (by have := NS_eq kL; omega)
  rw [← h1 s hs, ← h2 s hs]
  unfold wtM svM
  constructor <;> split <;> omega
section Mc
variable {h : pH} {l w : Nat} {L W wt sv : Nat → Int} {tk : Int}
theorem m_loadOf_s {c wo : Int} {k : Int → Option Int} (M : MC h l w L W wt sv tk) (hd : DSn (pi h 422) (NS L)) (c0 : 0 ≤ c) (c1 : c < ce L) {s acc : Int} (s' : Int) {n : Nat} (es : s + 1 = s') (s0 : 0 ≤ s) (s3 : s < 4) (a0 : 0 ≤ acc) (a1 : acc ≤ 100000) : pl_M_loadOf_29 c wo h k (n + 1) acc s = pl_M_loadOf_29 c wo h k n (acc + on1 (pi h 422) (fun s => wt s * W 2 / 10) wo (nr L c s) (NS L)) s' := by
  have hW := MC_WS M
  subst es
  obtain ⟨M, h1, h2, -, h3, -⟩ := M
  have kL := M.2.2.2.2.2.2.1
  have kW := M.2.2.2.2.2.2.2
  have en := NS_eq kL
  rw [pl_M_loadOf_29, if_neg (by omega), M.1, m_near (by have := M.2.2.1; omega) M.2.2.2.2.1 kL.1 c0 c1, bsm]
  unfold pj_M_loadOf_63 pj_M_loadOf_103 on1
  by_cases q : 0 ≤ nr L c s
  · rw [if_neg (show ¬ nr L c s < 0 by omega), if_pos q, m_shopIn M, bsm, one_shI q hd, show (L 4).toNat = NS L from rfl]
    have r := shI_r (S := pi h 422) (c := nr L c s) (n := NS L)
    by_cases z : shI (pi h 422) (nr L c s) (NS L) < 0
    · rw [if_pos z, if_neg (by omega), wr_eq (by omega) (by omega), wr_eq (by omega) (by omega)]
    · rw [if_neg z]
      by_cases z2 : shI (pi h 422) (nr L c s) (NS L) = wo
      · rw [if_pos z2, if_neg (fun e => e.2 z2), wr_eq (by omega) (by omega), wr_eq (by omega) (by omega)]
      · rw [if_neg z2, if_pos ⟨by omega, z2⟩]
        have e : shI (pi h 422) (nr L c s) (NS L) = ((shI (pi h 422) (nr L c s) (NS L)).toNat : Nat) := by omega
        have hs : (shI (pi h 422) (nr L c s) (NS L)).toNat < NS L := by omega
        generalize (shI (pi h 422) (nr L c s) (NS L)).toNat = t at e hs ⊢
        rw [e, m_weightOf M (by omega) h3, bsm, h1 t hs]
        have hw := hW t hs
        have hm := mb (a := wt t) (b := W 2) (A := 200) (B := 10) (by omega) (by omega) kW.2.2.1.1 kW.2.2.1.2
        obtain ⟨e1, e2, hl, hw, hL, hWW, -, -⟩ := M
        simp (disch := omega) only [e2, wr_eq, tn_l, gib, hWW, Int.reduceToNat, td_p]
  · rw [if_neg q, if_pos (show nr L c s < 0 by omega), if_pos (by omega), wr_eq (by omega) (by omega), wr_eq (by omega) (by omega)]
theorem fu5 : fu_ = 1099511627771 + 1 + 1 + 1 + 1 + 1 := rfl
theorem sh_bd (kW : WK W) (hW : WS L wt sv) : ∀ s, s < NS L → 0 ≤ (fun s => wt s * W 2 / 10) s ∧ (fun s => wt s * W 2 / 10) s ≤ 200 := by
  intro s hs
  have hw := hW s hs
  have hm := mb (a := wt s) (b := W 2) (A := 200) (B := 10) (by omega) (by omega) kW.2.2.1.1 kW.2.2.1.2
  show 0 ≤ wt s * W 2 / 10 ∧ wt s * W 2 / 10 ≤ 200
  omega
theorem ld_bd {S : Nat → Int} {wo x : Int} (kL : LK L) (kW : WK W) (hW : WS L wt sv) : 0 ≤ ld L W S wt wo x ∧ ld L W S wt wo x ≤ 7200 := by
  have b := sh_bd kW hW
  have n6 := NS_le kL
  have i0 := one_bd (S := S) (g := wt) (wo := wo) (x := x) (B := 200) (by omega) n6 (fun s hs => by have := hW s hs; omega)
  have i1 := on1_bd (S := S) (wo := wo) (x := nr L x 0) (B := 200) (by omega) n6 b
  have i2 := on1_bd (S := S) (wo := wo) (x := nr L x 1) (B := 200) (by omega) n6 b
  have i3 := on1_bd (S := S) (wo := wo) (x := nr L x 2) (B := 200) (by omega) n6 b
  have i4 := on1_bd (S := S) (wo := wo) (x := nr L x 3) (B := 200) (by omega) n6 b
  unfold ld
  omega
theorem m_loadOf {c wo : Int} (M : MC h l w L W wt sv tk) (hd : DSn (pi h 422) (NS L)) (c0 : 0 ≤ c) (c1 : c < ce L) : pf_M_loadOf c wo h = some (ld L W (pi h 422) wt wo c) := by
  have hW := MC_WS M
  have kL := M.1.2.2.2.2.2.2.1
  have kW := M.1.2.2.2.2.2.2.2
  have n6 := NS_le kL
  have en := NS_eq kL
  have b := sh_bd kW hW
  have i0 := one_bd (S := pi h 422) (g := wt) (wo := wo) (x := c) (B := 200) (by omega) n6 (fun s hs => by have := hW s hs; omega)
  have i1 := on1_bd (S := pi h 422) (wo := wo) (x := nr L c 0) (B := 200) (by omega) n6 b
  have i2 := on1_bd (S := pi h 422) (wo := wo) (x := nr L c 1) (B := 200) (by omega) n6 b
  have i3 := on1_bd (S := pi h 422) (wo := wo) (x := nr L c 2) (B := 200) (by omega) n6 b
  have i4 := on1_bd (S := pi h 422) (wo := wo) (x := nr L c 3) (B := 200) (by omega) n6 b
  have main : pl_M_loadOf_29 c wo h (fun x4 => some x4) fu_ (one (pi h 422) wt wo c (NS L)) 0 = some (ld L W (pi h 422) wt wo c) := by
    rw [fu5, m_loadOf_s (s := 0) M hd c0 c1 1 (by decide) (by omega) (by omega) (by omega) (by omega), m_loadOf_s (s := 1) M hd c0 c1 2 (by decide) (by omega) (by omega) (by omega) (by omega), m_loadOf_s (s := 2) M hd c0 c1 3 (by decide) (by omega) (by omega) (by omega) (by omega), m_loadOf_s (s := 3) M hd c0 c1 4 (by decide) (by omega) (by omega) (by omega) (by omega), pl_M_loadOf_29, if_pos (by omega)]
    rfl
  unfold pf_M_loadOf
  rw [m_shopIn M.1, bsm, show (L 4).toNat = NS L from rfl]
  have r := shI_r (S := pi h 422) (c := c) (n := NS L)
  rw [one_shI c0 hd] at main
  by_cases z : shI (pi h 422) c (NS L) < 0
  · rw [if_pos z]
    rw [if_neg (by omega)] at main
    exact main
  · rw [if_neg z]
    by_cases z2 : shI (pi h 422) c (NS L) = wo
    · rw [if_pos z2]
      rw [if_neg (fun e => e.2 z2)] at main
      exact main
    · rw [if_neg z2]
      rw [if_pos ⟨by omega, z2⟩] at main
      have e : shI (pi h 422) c (NS L) = ((shI (pi h 422) c (NS L)).toNat : Nat) := by omega
      have hs : (shI (pi h 422) c (NS L)).toNat < NS L := by omega
      generalize (shI (pi h 422) c (NS L)).toNat = t at e hs main ⊢
      rw [e, m_weightOf M.1 (by omega) M.2.2.2.2.1, bsm, M.2.1 t hs]
      exact main
/-- what a cell bears -/
def br (L S : Nat → Int) (tk c : Int) : Int := (S c.toNat + tk) * (S c.toNat + tk) / L 2
theorem m_bears {c : Int} (M : MC h l w L W wt sv tk) (c0 : 0 ≤ c) (c1 : c < 36) (hS : 0 ≤ pi h 422 c.toNat ∧ pi h 422 c.toNat ≤ 99) : pf_M_bears c h = some (br L (pi h 422) tk c) := by
  obtain ⟨M, -, -, h4, -, h5⟩ := M
  have kL := M.2.2.2.2.2.2.1
  obtain ⟨e1, e2, hl, hw, hL, hWW, -, -⟩ := M
  have q := kL.2.1
  have hm := mb (a := pi h 422 c.toNat + tk) (b := pi h 422 c.toNat + tk) (A := 199) (B := 199) (by omega) (by omega) (by omega) (by omega)
  have hdv : 0 ≤ (pi h 422 c.toNat + tk) * (pi h 422 c.toNat + tk) / L 2 := Int.ediv_nonneg hm.1 (by omega)
  have hdv2 : (pi h 422 c.toNat + tk) * (pi h 422 c.toNat + tk) / L 2 ≤ (pi h 422 c.toNat + tk) * (pi h 422 c.toNat + tk) := Int.ediv_le_self _ hm.1
  unfold pf_M_bears br
  simp (disch := omega) only [e1, h4, wr_eq, tn_l, gib, gnz, hL, Int.reduceToNat, td_p]
end Mc
