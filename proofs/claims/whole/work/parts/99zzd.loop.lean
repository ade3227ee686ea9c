/-! the lines of a text, one after another -/
theorem OC_fr {h h' : pH} (o : OC h) (f : fr (fun b => 279 ≤ b ∧ b ≤ 302) h h') : OC h' := by
  unfold OC at *
  rw [fr_fi f (by decide), fr_fi f (by decide)]
  exact o
def mln (sr : Nat) (g : pH) : Option pH := if sr = 0 then pf_M_lakeLine g else (if sr = 1 then pf_M_lawLine g else pf_M_planLine g)
def DRs (sr : Nat) : pH → pH → Prop := if sr = 0 then DR0 else (if sr = 1 then DR1 else DR2)
section Tz
variable {B : Nat → Int} {n : Nat}
theorem any_line {h g : pH} {s sr : Nat} {f q : Int} (ht : sr < 3) (o : OC h) (I : LIs sr (DRs sr) h g B n s f q) : LNs sr (DRs sr) B n h g s (pf_Re_readLine h) (mln sr g) := by
  rcases (show sr = 0 ∨ sr = 1 ∨ sr = 2 by omega) with rfl | rfl | rfl
  · exact lake_line o I
  · exact law_line o I
  · exact plan_line o I
/-- how the reading of a text ends -/
def TEx (sr : Nat) (B : Nat → Int) (n : Nat) (h g : pH) (x : (pH → Option (Int × pH)) → Option (Int × pH)) (y : (pH → Option (Int × pH)) → Option (Int × pH)) : Prop := ∃ h' g', fr (fun b => 279 ≤ b ∧ b ≤ 302) h h' ∧ FMT g g' ∧ (∀ K, y K = K g') ∧ (((∀ K, x K = some (0, h')) ∧ pi h' 279 3 = 1 ∧ pi g' 418 4 = 1 ∧ pi h' 279 4 = pi g' 418 5) ∨ ((∀ K, x K = K h') ∧ ∃ f' q', LIs sr (DRs sr) h' g' B n n f' q'))
theorem text_loop {a1 sr : Nat} {x2 x3 x2' : Int} (ht : sr < 3) (N : Nat) : ∀ {h g : pH} {s : Nat} {f q : Int} {x4 : Nat} {k1 k2 : Nat}, n - s ≤ N → N < k1 → N + 1 < k2 → x4 ≤ s → OC h → LIs sr (DRs sr) h g B n s f q → TEx sr B n h g (fun K => pl_Re_read_31 a1 x2 x3 (fun h => some (0, h)) K k1 x4 h) (fun K => pl_M_text_98 sr x2' K k2 g) := by
  induction N with
  | zero =>
    intro h g s f q x4 k1 k2 hN hk1 hk2 le o I
    have sn := I.1.2.1
    have n600 := I.1.1.2.2.1
    obtain ⟨a, rfl⟩ : ∃ a, k1 = a + 1 := ⟨k1 - 1, by omega⟩
    obtain ⟨b, rfl⟩ : ∃ b, k2 = b + 1 := ⟨k2 - 1, by omega⟩
    obtain rfl : s = n := by omega
    have k0 : kd B s s = 0 := by
      rcases Classical.em (kd B s s = 0) with u | u
      · exact u
      · have := (af_ok (B := B) sn).2.2.2.2.2 u; omega
    rcases I.2.2.2.2.1 with ⟨_, m2, m3, _⟩ | ⟨m1, _⟩
    · have m2 : MT g B s s := m2
      refine ⟨h, g, fr_refl, FMT_refl, fun K => ?_, Or.inr ⟨fun K => ?_, f, q, I⟩⟩
      · show pl_M_text_98 sr x2' K (b + 1) g = K g
        rw [pl_M_text_98, if_pos m3, m2.2.2.2.2.1, if_pos (tkm_0.mpr k0)]
      · show pl_Re_read_31 a1 x2 x3 _ K (a + 1) x4 h = K h
        rw [pl_Re_read_31, if_neg (by omega), I.1.2.2.2.2.1, if_pos k0]
    · have m1 : (0 : Nat) = 1 := m1
      omega
  | succ N ih =>
    intro h g s f q x4 k1 k2 hN hk1 hk2 le o I
    have sn := I.1.2.1
    have n600 := I.1.1.2.2.1
    obtain ⟨a, rfl⟩ : ∃ a, k1 = a + 1 := ⟨k1 - 1, by omega⟩
    obtain ⟨b, rfl⟩ : ∃ b, k2 = b + 1 := ⟨k2 - 1, by omega⟩
    rcases I.2.2.2.2.1 with ⟨_, m2, m3, _⟩ | ⟨m1, _⟩
    · have m2 : MT g B n s := m2
      by_cases k0 : kd B n s = 0
      · obtain rfl : s = n := (af_ok (B := B) sn).2.2.2.1 k0
        refine ⟨h, g, fr_refl, FMT_refl, fun K => ?_, Or.inr ⟨fun K => ?_, f, q, I⟩⟩
        · show pl_M_text_98 sr x2' K (b + 1) g = K g
          rw [pl_M_text_98, if_pos m3, m2.2.2.2.2.1, if_pos (tkm_0.mpr k0)]
        · show pl_Re_read_31 a1 x2 x3 _ K (a + 1) x4 h = K h
          rw [pl_Re_read_31, if_neg (by omega), I.1.2.2.2.2.1, if_pos k0]
      · have i6 : ¬ (600 : Int) < x4 := by omega
        have iw : ∀ _ : Unit, wr ((x4 : Int) + 1) = ((x4 + 1 : Nat) : Int) := fun _ => by rw [wr_eq (by omega) (by omega)]; rfl
        obtain ⟨r, h1, g1, e1, e2, f1, f2, e3⟩ := any_line ht o I
        have E1 : ∀ K (m : Nat), pl_Re_read_31 a1 x2 x3 (fun h => some (0, h)) K (m + 1) x4 h = (if r = 0 then some (0, h1) else pl_Re_read_31 a1 x2 x3 (fun h => some (0, h)) K m ((x4 + 1 : Nat) : Int) h1) := fun K m => by
          rw [pl_Re_read_31, if_neg i6, I.1.2.2.2.2.1, if_neg k0, e1, bsm, iw ()]
        have E2 : ∀ K (m : Nat), pl_M_text_98 sr x2' K (m + 1) g = pl_M_text_98 sr x2' K m g1 := fun K m => by
          rw [pl_M_text_98, if_pos m3, m2.2.2.2.2.1, if_neg (fun v => k0 (tkm_0.mp v))]
          unfold mln at e2
          rcases (show sr = 0 ∨ sr = 1 ∨ sr = 2 by clear iw; omega) with rfl | rfl | rfl
          · rw [if_pos rfl] at e2
            rw [if_pos (by decide), e2, bsm]
          · rw [if_neg (by decide), if_pos rfl] at e2
            rw [if_neg (by decide), if_pos (by decide), e2, bsm]
          · rw [if_neg (by decide), if_neg (by decide)] at e2
            rw [if_neg (by decide), if_neg (by decide), e2, bsm]
        rcases e3 with ⟨r0, w1, w2, w3, w4⟩ | ⟨r1, s', f', q', lt, I'⟩
        · obtain ⟨b', rfl⟩ : ∃ b', b = b' + 1 := ⟨b - 1, by clear iw; omega⟩
          refine ⟨h1, g1, f1, f2, fun K => ?_, Or.inl ⟨fun K => ?_, w1, w3, w4⟩⟩
          · show pl_M_text_98 sr x2' K (b' + 1 + 1) g = K g1
            rw [E2, pl_M_text_98, if_neg (by rw [w2]; decide)]
          · show pl_Re_read_31 a1 x2 x3 _ K (a + 1) x4 h = _
            rw [E1, if_pos r0]
        · have nums : n - s' ≤ N ∧ N < a ∧ N + 1 < b ∧ x4 + 1 ≤ s' := by clear iw I' E1 E2; omega
          obtain ⟨h2, g2, z1, z2, z3, z4⟩ := ih (h := h1) (g := g1) (s := s') (f := f') (q := q') (x4 := x4 + 1) (k1 := a) (k2 := b) nums.1 nums.2.1 nums.2.2.1 nums.2.2.2 (OC_fr o f1) I'
          refine ⟨h2, g2, fr_trans f1 z1, FMT_trans f2 z2, fun K => ?_, ?_⟩
          · show pl_M_text_98 sr x2' K (b + 1) g = _
            rw [E2]; exact z3 K
          · have E1' : ∀ K, pl_Re_read_31 a1 x2 x3 (fun h => some (0, h)) K (a + 1) x4 h = pl_Re_read_31 a1 x2 x3 (fun h => some (0, h)) K a ((x4 + 1 : Nat) : Int) h1 := fun K => by rw [E1, if_neg (by rw [r1]; decide)]
            rcases z4 with ⟨y1, y2⟩ | ⟨y1, y2⟩
            · refine Or.inl ⟨fun K => ?_, y2⟩
              show pl_Re_read_31 a1 x2 x3 _ K (a + 1) x4 h = _
              rw [E1']; exact y1 K
            · refine Or.inr ⟨fun K => ?_, y2⟩
              show pl_Re_read_31 a1 x2 x3 _ K (a + 1) x4 h = _
              rw [E1']; exact y1 K
    · have m1 : (0 : Nat) = 1 := m1
      omega
end Tz
