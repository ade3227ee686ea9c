/-! sawn: the reference's triples -/
def szt (a b c : Int) : Int := if a = c then 1 else if a = b then 2 else if b = c then 2 else 3
def CT (L W S wt : Nat → Int) (ld fm to a b c : Int) : Prop := ¬ isw L W (opn L W S wt 0 (-1) ld (cutX fm to a b c)) fm to
/-- v is the least size among the triples P that cut -/
def SJ (L W S wt : Nat → Int) (ld fm to v : Int) (P : Int → Int → Int → Prop) : Prop := 1 ≤ v ∧ v ≤ 4 ∧ (v < 4 → ∃ a b c, inr L a ∧ inr L b ∧ inr L c ∧ a ≤ b ∧ b ≤ c ∧ CT L W S wt ld fm to a b c ∧ szt a b c ≤ v) ∧ ∀ a b c, 0 ≤ a → a ≤ b → b ≤ c → c < ce L → P a b c → CT L W S wt ld fm to a b c → v ≤ szt a b c
theorem szt_bd {a b c : Int} : 1 ≤ szt a b c ∧ szt a b c ≤ 3 := by
  unfold szt
  split
  · omega
  · split
    · omega
    · split <;> omega
section Dj
variable {h : pH} {l w : Nat} {L W wt sv S : Nat → Int} {d : Nat}
theorem SJ_up {ld fm to v : Int} {P P' : Int → Int → Int → Prop} (J : SJ L W S wt ld fm to v P) (g : ∀ a b c, 0 ≤ a → a ≤ b → b ≤ c → c < ce L → P' a b c → P a b c ∨ v ≤ szt a b c ∨ ¬ CT L W S wt ld fm to a b c) : SJ L W S wt ld fm to v P' :=
  ⟨J.1, J.2.1, J.2.2.1, fun a b c h1 h2 h3 h4 h5 h6 => by
    rcases g a b c h1 h2 h3 h4 h5 with k | k | k
    · exact J.2.2.2 a b c h1 h2 h3 h4 k h6
    · exact k
    · exact absurd h6 k⟩
theorem m_sw99 {x y z n ld fm to v a b : Int} {K : Int → Int → Int → pH → Option (Int × pH)} (M : MC h l w L W wt sv 0) (V : SV L (pi h 422) d) (Z : ∀ c : Nat, c < 36 → pi h 424 c = 0) (hf : inr L fm) (ht : inr L to) (l0 : 0 ≤ ld ∧ ld ≤ 100000) (ha : inr L a) (hb : inr L b) (ab : a ≤ b) (J : SJ L W (pi h 422) wt ld fm to v (fun a' b' _ => a' < a ∨ (a' = a ∧ b' < b))) : ∃ v' h', pl_M_sawn_99 x y z n ld fm to K fu_ v a b b h = K v' a b h' ∧ MF h h' ∧ pi h' 422 = pi h 422 ∧ SJ L W (pi h 422) wt ld fm to v' (fun a' b' _ => a' < a ∨ (a' = a ∧ b' < b + 1)) := by
  have kL := M.1.2.2.2.2.2.2.1
  have zz : 4 ≤ ce L ∧ ce L ≤ 36 := sz_mul kL.1
  obtain ⟨b0, b1⟩ := hb
  have eb : ((b.toNat : Nat) : Int) = b := by omega
  have i0 := lpf (F := fun m (i : Nat) (t : Int × pH) => pl_M_sawn_99 x y z n ld fm to K m t.1 a b i t.2) (Q := fun r => ∃ v' h', r = K v' a b h' ∧ MF h h' ∧ pi h' 422 = pi h 422 ∧ SJ L W (pi h 422) wt ld fm to v' (fun a' b' _ => a' < a ∨ (a' = a ∧ b' < b + 1))) (ce L).toNat (fun i t => b ≤ i ∧ MF h t.2 ∧ pi t.2 422 = pi h 422 ∧ SJ L W (pi h 422) wt ld fm to t.1 (fun a' b' c' => a' < a ∨ (a' = a ∧ (b' < b ∨ (b' = b ∧ c' < i))))) ?_ ?_ fu_ b.toNat (v, h) (by omega) (by unfold fu_; omega) ⟨by omega, MF_refl, rfl, SJ_up J (fun a' b' c' _ _ _ _ k => by omega)⟩
  · rw [← eb] at i0 ⊢
    exact i0
  · intro m i ⟨v, t⟩ hi ⟨bi, f, es, J⟩
    simp only [] at f es J
    have Mt := MF_MC M f
    have e1 : pl_M_sawn_99 x y z n ld fm to K (m + 1) v a b i t = if v ≤ 1 then K v a b t else pj_M_sawn_144 x y z n ld fm to (pl_M_sawn_99 x y z n ld fm to K m) K v a b i (szt a b i) t := by
      rw [pl_M_sawn_99, m_cells Mt.1, bsm, if_neg (by omega)]
      unfold szt
      by_cases q1 : a = (i : Int)
      · rw [if_pos q1, if_pos q1]
      · rw [if_neg q1, if_neg q1]
        by_cases q2 : a = b
        · rw [if_pos q2, if_pos q2]
        · rw [if_neg q2, if_neg q2]
          by_cases q3 : b = (i : Int)
          · rw [if_pos q3, if_pos q3]
          · rw [if_neg q3, if_neg q3]
    have e2 : wr ((i : Int) + 1) = ((i + 1 : Nat) : Int) := by rw [wr_eq (by omega) (by omega)]; rfl
    by_cases q1 : v ≤ 1
    · left
      refine ⟨v, t, ?_, f, es, SJ_up J (fun a' b' c' _ _ _ _ _ => by have := szt_bd (a := a') (b := b') (c := c'); omega)⟩
      show pl_M_sawn_99 x y z n ld fm to K (m + 1) v a b i t = _
      rw [e1, if_pos q1]
    · right
      by_cases q2 : v ≤ szt a b i
      · refine ⟨(v, t), ?_, by omega, f, es, SJ_up J (fun a' b' c' _ _ _ _ k => ?_)⟩
        · show pl_M_sawn_99 x y z n ld fm to K (m + 1) v a b i t = _
          rw [e1, if_neg q1, pj_M_sawn_144, if_pos q2, e2]
        · by_cases y : a' = a ∧ b' = b ∧ c' = i
          · right; left; rw [y.1, y.2.1, y.2.2]; exact q2
          · left; omega
      · obtain ⟨h3, w1, w2, w3⟩ := m_isCut (fm := fm) (to := to) (ld := ld) (a := a) (b := b) (c := i) Mt (by rw [es]; exact V) (fun c hc => by rw [MF_24 f]; exact Z c hc) hf ht l0 ha ⟨b0, b1⟩ ⟨by omega, by omega⟩
        rw [es] at w1 w3
        by_cases q3 : isw L W (opn L W (pi h 422) wt 0 (-1) ld (cutX fm to a b i)) fm to
        · refine ⟨(v, h3), ?_, by omega, MF_trans f w2, w3, SJ_up J (fun a' b' c' _ _ _ _ k => ?_)⟩
          · show pl_M_sawn_99 x y z n ld fm to K (m + 1) v a b i t = _
            rw [e1, if_neg q1, pj_M_sawn_144, if_neg q2, w1, bsm, cif_t q3, e2]
            simp only []
            rw [if_pos trivial]
          · by_cases y : a' = a ∧ b' = b ∧ c' = i
            · right; right; rw [y.1, y.2.1, y.2.2]; exact fun z => z q3
            · left; omega
        · have sb := szt_bd (a := a) (b := b) (c := i)
          refine ⟨(szt a b i, h3), ?_, by omega, MF_trans f w2, w3, sb.1, by omega, fun _ => ⟨a, b, i, ha, ⟨b0, b1⟩, ⟨by omega, by omega⟩, ab, bi, q3, Int.le_refl _⟩, fun a' b' c' g1 g2 g3 g4 g5 g6 => ?_⟩
          · show pl_M_sawn_99 x y z n ld fm to K (m + 1) v a b i t = _
            rw [e1, if_neg q1, pj_M_sawn_144, if_neg q2, w1, bsm, cif_f q3, e2]
            simp only []
            rw [if_neg (show ¬ (1 : Int) = 0 by decide)]
          · show szt a b i ≤ szt a' b' c'
            by_cases y : a' = a ∧ b' = b ∧ c' = i
            · rw [y.1, y.2.1, y.2.2]; exact Int.le_refl _
            · have := J.2.2.2 a' b' c' g1 g2 g3 g4 (by omega) g6
              omega
  · intro m ⟨v, t⟩ ⟨bi, f, es, J⟩
    simp only [] at f es J
    refine ⟨v, t, ?_, f, es, SJ_up J (fun a' b' c' _ _ _ _ k => by omega)⟩
    show pl_M_sawn_99 x y z n ld fm to K (m + 1) v a b ((ce L).toNat : Nat) t = _
    rw [pl_M_sawn_99, m_cells (MF_MC M f).1, bsm, if_pos (by omega)]
theorem m_sw86 {x y z n ld fm to v a : Int} {K : Int → Int → pH → Option (Int × pH)} (M : MC h l w L W wt sv 0) (V : SV L (pi h 422) d) (Z : ∀ c : Nat, c < 36 → pi h 424 c = 0) (hf : inr L fm) (ht : inr L to) (l0 : 0 ≤ ld ∧ ld ≤ 100000) (ha : inr L a) (J : SJ L W (pi h 422) wt ld fm to v (fun a' _ _ => a' < a)) : ∃ v' h', pl_M_sawn_86 x y z n ld fm to K fu_ v a a h = K v' a h' ∧ MF h h' ∧ pi h' 422 = pi h 422 ∧ SJ L W (pi h 422) wt ld fm to v' (fun a' _ _ => a' < a + 1) := by
  have kL := M.1.2.2.2.2.2.2.1
  have zz : 4 ≤ ce L ∧ ce L ≤ 36 := sz_mul kL.1
  obtain ⟨a0, a1⟩ := ha
  have eb : ((a.toNat : Nat) : Int) = a := by omega
  have i0 := lpf (F := fun m (i : Nat) (t : Int × pH) => pl_M_sawn_86 x y z n ld fm to K m t.1 a i t.2) (Q := fun r => ∃ v' h', r = K v' a h' ∧ MF h h' ∧ pi h' 422 = pi h 422 ∧ SJ L W (pi h 422) wt ld fm to v' (fun a' _ _ => a' < a + 1)) (ce L).toNat (fun i t => a ≤ i ∧ MF h t.2 ∧ pi t.2 422 = pi h 422 ∧ SJ L W (pi h 422) wt ld fm to t.1 (fun a' b' _ => a' < a ∨ (a' = a ∧ b' < i))) ?_ ?_ fu_ a.toNat (v, h) (by omega) (by unfold fu_; omega) ⟨by omega, MF_refl, rfl, SJ_up J (fun a' b' c' _ _ _ _ k => by omega)⟩
  · rw [← eb] at i0 ⊢
    exact i0
  · intro m i ⟨v, t⟩ hi ⟨bi, f, es, J⟩
    simp only [] at f es J
    right
    have Mt := MF_MC M f
    obtain ⟨v', h3, w1, w2, w3, w4⟩ := m_sw99 (x := x) (y := y) (z := z) (n := n) (K := fun x8 x9 x10 h => pl_M_sawn_86 x y z n ld fm to K m x8 x9 (wr (x10 + 1)) h) (h := t) (fm := fm) (to := to) (ld := ld) (v := v) (a := a) (b := i) Mt (by rw [es]; exact V) (fun c hc => by rw [MF_24 f]; exact Z c hc) hf ht l0 ⟨a0, a1⟩ ⟨by omega, by omega⟩ bi (by rw [es]; exact J)
    rw [es] at w3 w4
    refine ⟨(v', h3), ?_, by omega, MF_trans f w2, w3, SJ_up w4 (fun a' b' c' _ _ _ _ k => by omega)⟩
    show pl_M_sawn_86 x y z n ld fm to K (m + 1) v a i t = _
    rw [pl_M_sawn_86, m_cells Mt.1, bsm, if_neg (by omega), w1, wr_eq (by omega) (by omega)]
    rfl
  · intro m ⟨v, t⟩ ⟨bi, f, es, J⟩
    simp only [] at f es J
    refine ⟨v, t, ?_, f, es, SJ_up J (fun a' b' c' _ _ _ _ k => by omega)⟩
    show pl_M_sawn_86 x y z n ld fm to K (m + 1) v a ((ce L).toNat : Nat) t = _
    rw [pl_M_sawn_86, m_cells (MF_MC M f).1, bsm, if_pos (by omega)]
theorem m_sw73 {x y z n ld fm to : Int} (M : MC h l w L W wt sv 0) (V : SV L (pi h 422) d) (Z : ∀ c : Nat, c < 36 → pi h 424 c = 0) (hf : inr L fm) (ht : inr L to) (l0 : 0 ≤ ld ∧ ld ≤ 100000) : ∃ v' h', pj_M_sawn_67 x y z n ld fm to h = some (v', h') ∧ MF h h' ∧ SJ L W (pi h 422) wt ld fm to v' (fun _ _ _ => True) := by
  have kL := M.1.2.2.2.2.2.2.1
  have zz : 4 ≤ ce L ∧ ce L ≤ 36 := sz_mul kL.1
  unfold pj_M_sawn_67
  refine lpf (F := fun m (i : Nat) (t : Int × pH) => pl_M_sawn_73 x y z n ld fm to (fun x8 h => some (x8, h)) m t.1 i t.2) (Q := fun r => ∃ v' h', r = some (v', h') ∧ MF h h' ∧ SJ L W (pi h 422) wt ld fm to v' (fun _ _ _ => True)) (ce L).toNat (fun i t => MF h t.2 ∧ pi t.2 422 = pi h 422 ∧ SJ L W (pi h 422) wt ld fm to t.1 (fun a' _ _ => a' < i)) ?_ ?_ fu_ 0 (4, h) (by omega) (by unfold fu_; omega) ⟨MF_refl, rfl, by show (1 : Int) ≤ 4; omega, by show (4 : Int) ≤ 4; omega, fun k => absurd k (by show ¬ (4 : Int) < 4; omega), fun a b c g1 _ _ _ g5 => absurd g5 (by show ¬ a < ((0 : Nat) : Int); omega)⟩
  · intro m i ⟨v, t⟩ hi ⟨f, es, J⟩
    simp only [] at f es J
    right
    have Mt := MF_MC M f
    obtain ⟨v', h3, w1, w2, w3, w4⟩ := m_sw86 (x := x) (y := y) (z := z) (n := n) (K := fun x8 x9 h => pl_M_sawn_73 x y z n ld fm to (fun x8 h => some (x8, h)) m x8 (wr (x9 + 1)) h) (h := t) (fm := fm) (to := to) (ld := ld) (v := v) (a := i) Mt (by rw [es]; exact V) (fun c hc => by rw [MF_24 f]; exact Z c hc) hf ht l0 ⟨by omega, by omega⟩ (by rw [es]; exact J)
    rw [es] at w3 w4
    refine ⟨(v', h3), ?_, MF_trans f w2, w3, SJ_up w4 (fun a' b' c' _ _ _ _ k => by omega)⟩
    show pl_M_sawn_73 x y z n ld fm to _ (m + 1) v i t = _
    rw [pl_M_sawn_73, m_cells Mt.1, bsm, if_neg (by omega), w1, wr_eq (by omega) (by omega)]
    rfl
  · intro m ⟨v, t⟩ ⟨f, es, J⟩
    simp only [] at f es J
    refine ⟨v, t, ?_, f, SJ_up J (fun a' b' c' _ _ _ _ _ => by left; omega)⟩
    show pl_M_sawn_73 x y z n ld fm to (fun x8 h => some (x8, h)) (m + 1) v ((ce L).toNat : Nat) t = _
    rw [pl_M_sawn_73, m_cells (MF_MC M f).1, bsm, if_pos (by omega)]
theorem szt_1 {a b c : Int} (h : a = c) : szt a b c = 1 := if_pos h
theorem szt_2 {a b c : Int} (h : a = b ∨ b = c) : szt a b c ≤ 2 := by
  unfold szt
  split
  · omega
  · split
    · omega
    · split
      · omega
      · exact absurd h (fun y => by omega)
theorem tri2 {x y : Int} : ∃ a b c, (a = x ∨ a = y) ∧ (b = x ∨ b = y) ∧ (c = x ∨ c = y) ∧ a ≤ b ∧ b ≤ c ∧ (x = a ∨ x = b ∨ x = c) ∧ (y = a ∨ y = b ∨ y = c) ∧ szt a b c ≤ 2 := by
  rcases Int.le_total x y with k | k
  · exact ⟨x, x, y, Or.inl rfl, Or.inl rfl, Or.inr rfl, Int.le_refl _, k, Or.inl rfl, Or.inr (Or.inr rfl), szt_2 (Or.inl rfl)⟩
  · exact ⟨y, y, x, Or.inr rfl, Or.inr rfl, Or.inl rfl, Int.le_refl _, k, Or.inr (Or.inr rfl), Or.inl rfl, szt_2 (Or.inl rfl)⟩
theorem tri3 {x y z : Int} : ∃ a b c, (a = x ∨ a = y ∨ a = z) ∧ (b = x ∨ b = y ∨ b = z) ∧ (c = x ∨ c = y ∨ c = z) ∧ a ≤ b ∧ b ≤ c ∧ (x = a ∨ x = b ∨ x = c) ∧ (y = a ∨ y = b ∨ y = c) ∧ (z = a ∨ z = b ∨ z = c) := by
  rcases Int.le_total x y with k | k <;> rcases Int.le_total y z with k2 | k2 <;> rcases Int.le_total x z with k3 | k3
  · exact ⟨x, y, z, by omega, by omega, by omega, by omega, by omega, by omega, by omega, by omega⟩
  · exact ⟨x, y, z, by omega, by omega, by omega, by omega, by omega, by omega, by omega, by omega⟩
  · exact ⟨x, z, y, by omega, by omega, by omega, by omega, by omega, by omega, by omega, by omega⟩
  · exact ⟨z, x, y, by omega, by omega, by omega, by omega, by omega, by omega, by omega, by omega⟩
  · exact ⟨y, x, z, by omega, by omega, by omega, by omega, by omega, by omega, by omega, by omega⟩
  · exact ⟨y, z, x, by omega, by omega, by omega, by omega, by omega, by omega, by omega, by omega⟩
  · exact ⟨z, y, x, by omega, by omega, by omega, by omega, by omega, by omega, by omega, by omega⟩
  · exact ⟨z, y, x, by omega, by omega, by omega, by omega, by omega, by omega, by omega, by omega⟩
theorem tri {X : List Int} (h1 : 1 ≤ X.length) (h3 : X.length ≤ 3) : ∃ a b c, a ∈ X ∧ b ∈ X ∧ c ∈ X ∧ a ≤ b ∧ b ≤ c ∧ (∀ e, e ∈ X → e = a ∨ e = b ∨ e = c) ∧ szt a b c ≤ X.length := by
  match X, h1, h3 with
  | [x], _, _ => exact ⟨x, x, x, List.mem_cons_self, List.mem_cons_self, List.mem_cons_self, Int.le_refl _, Int.le_refl _, fun e he => Or.inl (List.mem_singleton.mp he), by rw [szt_1 rfl]; exact Int.le_refl _⟩
  | [x, y], _, _ =>
    obtain ⟨a, b, c, g1, g2, g3, g4, g5, g6, g7, g8⟩ := tri2 (x := x) (y := y)
    refine ⟨a, b, c, by simpa using g1, by simpa using g2, by simpa using g3, g4, g5, fun e he => ?_, g8⟩
    simp only [List.mem_cons, List.not_mem_nil, or_false] at he
    rcases he with rfl | rfl
    · exact g6
    · exact g7
  | [x, y, z], _, _ =>
    obtain ⟨a, b, c, g1, g2, g3, g4, g5, g6, g7, g8⟩ := tri3 (x := x) (y := y) (z := z)
    refine ⟨a, b, c, by simpa using g1, by simpa using g2, by simpa using g3, g4, g5, fun e he => ?_, szt_bd.2⟩
    simp only [List.mem_cons, List.not_mem_nil, or_false] at he
    rcases he with rfl | rfl | rfl
    · exact g6
    · exact g7
    · exact g8
/-- the three cells of a triple, each once -/
theorem tri_l {a b c : Int} (ab : a ≤ b) (bc : b ≤ c) : ∃ X : List Int, (X.length : Int) ≤ szt a b c ∧ ∀ e, e ∈ X ↔ e = a ∨ e = b ∨ e = c := by
  unfold szt
  by_cases q1 : a = c
  · rw [if_pos q1]
    refine ⟨[a], Int.le_refl _, fun e => ?_⟩
    rw [List.mem_singleton]; omega
  · rw [if_neg q1]
    by_cases q2 : a = b
    · rw [if_pos q2]
      refine ⟨[a, c], Int.le_refl _, fun e => ?_⟩
      simp only [List.mem_cons, List.not_mem_nil, or_false]; omega
    · rw [if_neg q2]
      by_cases q3 : b = c
      · rw [if_pos q3]
        refine ⟨[a, b], Int.le_refl _, fun e => ?_⟩
        simp only [List.mem_cons, List.not_mem_nil, or_false]; omega
      · rw [if_neg q3]
        refine ⟨[a, b, c], Int.le_refl _, fun e => ?_⟩
        simp only [List.mem_cons, List.not_mem_nil, or_false]
theorem sawn_eq {ld fm to v r : Int} (kL : LK L) (hf : inr L fm) (yy : wy L W S wt fm to ld) (nd : dst L W (opn L W S wt 0 (-1) ld no0) to fm ≠ 1) (J : SJ L W S wt ld fm to v (fun _ _ _ => True)) (F : FC L W (opn L W S wt 0 (-1) ld no0) fm to r) : r = v := by
  have ne : fm ≠ to := yy.1
  have c4 := CB_4 kL hf ne nd
  rcases F with ⟨k, k4, rk, ck, kl⟩ | ⟨-, no⟩
  · have up : v ≤ k := by
      by_cases q4 : k = 4
      · have := J.2.1; omega
      · obtain ⟨X, x1, x2, x3⟩ := (CB_iff kL hf ne).mp ck
        have xn : 1 ≤ X.length := by
          rcases Nat.eq_zero_or_pos X.length with y | y
          · exfalso
            have : X = [] := List.length_eq_zero_iff.mp y
            rw [this] at x3
            exact x3 (isw_from kL hf (fun e _ _ o => ⟨o, List.not_mem_nil⟩) yy)
          · exact y
        obtain ⟨a, b, c, g1, g2, g3, g4, g5, g6, g7⟩ := tri xn (by omega)
        have s := J.2.2.2 a b c (x2 a g1).2.2.1 g4 g5 (x2 c g3).2.2.2 trivial (fun y => x3 (isw_from kL hf (fun e _ _ o => ⟨⟨fun z => z, o.2⟩, fun z => o.1 ⟨g6 e z, (x2 e z).1, (x2 e z).2.1⟩⟩) y))
        omega
    have lo : (k : Int) ≤ v := by
      rcases Int.lt_or_le v 4 with q | q
      · obtain ⟨a, b, c, g1, g2, g3, g4, g5, g6, g7⟩ := J.2.2.1 q
        obtain ⟨X, x1, x2⟩ := tri_l g4 g5
        have v1 := J.1
        apply Classical.byContradiction
        intro no
        refine kl v.toNat (by omega) ((CB_iff kL hf ne).mpr ⟨X.filter (fun e => decide (e ≠ fm ∧ e ≠ to)), ?_, fun x hx => ?_, fun y => ?_⟩)
        · have := List.length_filter_le (fun e => decide (e ≠ fm ∧ e ≠ to)) X
          omega
        · obtain ⟨h1, h2⟩ := List.mem_filter.mp hx
          have h3 := of_decide_eq_true h2
          refine ⟨h3.1, h3.2, ?_⟩
          rcases (x2 x).mp h1 with rfl | rfl | rfl
          · exact g1
          · exact g2
          · exact g3
        · exact g6 (isw_from kL hf (fun e _ _ o => ⟨fun z => o.2 (List.mem_filter.mpr ⟨(x2 e).mpr z.1, decide_eq_true z.2⟩), o.1.2⟩) y)
      · omega
    omega
  · exact absurd c4 (no 4 (Nat.le_refl _))
end Dj
theorem p_sawn {x y z n ld fm to : Int} : asks (pf_I_sawn x y z n ld fm to) (pf_M_sawn x y z n ld fm to) := by
  refine ask_trip (x := x) (y := y) (z := z) (n := n) (load := ld) (fm := fm) (to := to) (-1) (km := fun v2 => (if v2.1 = 0 then (some ((-1), v2.2)) else ((pf_M_isWay fm to ld ((-1)) v2.2).bind fun v3 => (if v3.1 = 0 then (some (0, v3.2)) else ((pf_M_steps fm to v3.2).bind fun v4 => (if v4 = 1 then ((pf_M_against fm to v3.2).bind fun v9 => (if v9 = 0 then (some ((-1), v3.2)) else (pj_M_sawn_67 x y z n ld fm to v3.2))) else (pj_M_sawn_67 x y z n ld fm to v3.2))))))) (fun _ => rfl) (fun _ => rfl) (fun _ => rfl) (fun _ => rfl) (fun v g => by unfold pf_M_sawn; rw [m_isLoad, bsm, if1, if_neg v]) (fun v g => by unfold pf_M_sawn; rw [m_isLoad, bsm, if1, if_pos v]) (fun _ => rfl) ?_
  intro hl ne p q l w L W S h g ⟨C, K, M, eS, Z, V, TT⟩ hf ht
  have kL := C.2.2.1
  have zz : 4 ≤ ce L ∧ ce L ≤ 36 := sz_mul kL.1
  subst eS
  obtain ⟨h1, p1, p2, -, -, p5, p6⟩ := c_survey (tk := 0) (WS0 kL) C K V (by omega) (by omega) (by omega)
  obtain ⟨r, h2, c1, c2, F⟩ := c_fewest (ld := ld) (fm := fm) (to := to) (O := opn L W (pi g 422) (wt0 L) 0 (-1) ld no0) hf ht ne hl.1 (CX_fr C p2 (fun b hb => by omega)) p5 (fun c hc => by rw [p6 c hc]; exact rmv_opn hl.1)
  obtain ⟨g1, m1, m2, m3⟩ := m_way1 (fm := fm) (to := to) (load := ld) M V Z hf ht (by omega)
  have f2 : fr CGs h h2 := fr_trans (fr_mono p2 (fun b hb => by unfold CGs; omega)) (fr_mono c2 (fun b hb => by unfold CGs; omega))
  have M1 := MF_MC M m2
  obtain ⟨hf0, hf1⟩ := hf
  obtain ⟨ht0, ht1⟩ := ht
  have hf : inr L fm := ⟨hf0, hf1⟩
  have ht : inr L to := ⟨ht0, ht1⟩
  simp only []
  rw [if_neg (show ¬ (1 : Int) = 0 by decide), if_neg (show ¬ (1 : Int) = 0 by decide), p1, bsm, c1, bsm, m1, bsm]
  by_cases yy : wy L W (pi g 422) (wt0 L) fm to ld
  · rw [cif_t yy]
    simp only []
    rw [if_neg (show ¬ (1 : Int) = 0 by decide), m_steps M1.1 ⟨hf0, by omega⟩ ⟨ht0, by omega⟩, bsm]
    obtain ⟨na, a1, -, -, a2⟩ := m_against (a := fm) (b := to) M1.1
    have s1 := stp_1 (w := L 0) (h := L 1) kL.1 hf0 hf1 ht0 ht1
    obtain ⟨v', g2, s1', s2, s3⟩ := m_sw73 (x := x) (y := y) (z := z) (n := n) (fm := fm) (to := to) (ld := ld) M1 (by rw [m3]; exact V) (fun c hc => by rw [MF_24 m2]; exact Z c hc) hf ht (by omega)
    rw [m3] at s3
    have d1 : dst L W (opn L W (pi g 422) (wt0 L) 0 (-1) ld no0) to fm = 1 ↔ stp (L 0) fm to = 1 ∧ ¬ ag W fm to := by
      rw [s1]
      refine ⟨fun e => ?_, fun ⟨e1, e2⟩ => ?_⟩
      · obtain ⟨m, e', k1, -⟩ := dst_ex (dst_ge.mp yy.2)
        have : m = 1 := by omega
        subst this
        obtain ⟨x', s, rr⟩ := k1
        have rr' : x' = to := rr
        subst rr'
        exact ⟨s.1.2, s.2.1⟩
      · exact dst_un (v := 1) ⟨to, ⟨⟨ht0, e1⟩, e2, isw_open yy⟩, rfl⟩ (fun j hj zz => by
          have : j = 0 := by omega
          rw [this] at zz
          exact ne zz)
    by_cases q1 : stp (L 0) fm to = 1
    · rw [if_pos q1, a1, bsm]
      by_cases q2 : na = 0
      · rw [if_pos q2]
        have dd := d1.mpr ⟨q1, a2.mp q2⟩
        have er : r = -1 := by
          rcases F with ⟨k, -, -, ck, -⟩ | ⟨e, -⟩
          · exact absurd ck (CB_no kL hf ne dd)
          · exact e
        rw [er]
        exact ⟨_, h2, g1, rfl, f2, rfl, MF_MG m2⟩
      · rw [if_neg q2, s1']
        rw [sawn_eq kL hf yy (fun e => q2 (a2.mpr (d1.mp e).2)) s3 F]
        exact ⟨_, h2, g2, rfl, f2, rfl, MF_MG (MF_trans m2 s2)⟩
    · rw [if_neg q1, s1']
      rw [sawn_eq kL hf yy (fun e => q1 (d1.mp e).1) s3 F]
      exact ⟨_, h2, g2, rfl, f2, rfl, MF_MG (MF_trans m2 s2)⟩
  · rw [cif_f yy]
    have c0 : CB L W fm to 0 (opn L W (pi g 422) (wt0 L) 0 (-1) ld no0) := yy
    have er : r = 0 := by
      rcases F with ⟨k, -, rk, -, kl⟩ | ⟨-, no⟩
      · rcases Nat.eq_zero_or_pos k with e | e
        · omega
        · exact absurd c0 (kl 0 e)
      · exact absurd c0 (no 0 (by omega))
    rw [er]
    exact ⟨_, h2, g1, rfl, f2, rfl, MF_MG m2⟩
