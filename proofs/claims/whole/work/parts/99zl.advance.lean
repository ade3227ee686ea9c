/-! the class's tokens -/
def CBx (h : pH) (B : Nat → Int) (n : Nat) : Prop := pr h 279 6 = 66 ∧ pi h 279 7 = n ∧ n ≤ 600 ∧ ∀ i, i < n → (-128 ≤ pi h 66 i ∧ pi h 66 i ≤ 127) ∧ B i = pi h 66 i % 256
def CTx (h : pH) (B : Nat → Int) (n s : Nat) : Prop := CBx h B n ∧ s ≤ n ∧ pi h 279 11 = s ∧ pi h 279 12 = af B n s ∧ pi h 279 9 = kd B n s ∧ (kd B n s = 2 → pi h 279 10 = vl B n s)
def CA (h h' : pH) : Prop := fr (fun b => b = 279) h h' ∧ (∀ j, (j < 9 ∨ 12 < j) → pi h' 279 j = pi h 279 j) ∧ pl h' 279 = pl h 279 ∧ pr h' 279 = pr h 279
theorem CA_refl {h : pH} : CA h h := ⟨fr_refl, fun _ _ => rfl, rfl, rfl⟩
theorem CA_trans {h h1 h2 : pH} (a : CA h h1) (b : CA h1 h2) : CA h h2 := ⟨fr_trans a.1 b.1, fun j hj => by rw [b.2.1 j hj, a.2.1 j hj], by rw [b.2.2.1, a.2.2.1], by rw [b.2.2.2, a.2.2.2]⟩
theorem CA_w {h h1 : pH} {i : Nat} {x : Int} (a : CA h h1) (hi : 9 ≤ i ∧ i ≤ 12) : CA h (pwI h1 279 i x) := ⟨fr_wI a.1 rfl, fun j hj => by rw [pi_wIi (by omega)]; exact a.2.1 j hj, a.2.2.1, a.2.2.2⟩
section Td
variable {h : pH} {B : Nat → Int} {n s : Nat}
theorem CB_CA {h' : pH} (c : CBx h B n) (a : CA h h') : CBx h' B n := by
  obtain ⟨c1, c2, c3, c4⟩ := c
  exact ⟨by rw [a.2.2.2]; exact c1, by rw [a.2.1 7 (by omega)]; exact c2, c3, fun i hi => by rw [fr_i a.1 (by omega)]; exact c4 i hi⟩
theorem c_isLetter {i : Nat} (c : CBx h B n) (hi : i < n) : pf_Re_isLetter i h = some (if lt_ (B i) = true then 1 else 0) := by
  obtain ⟨c1, c2, c3, c4⟩ := c
  have q := c4 i hi
  unfold pf_Re_isLetter
  rw [c1, gd_t (show ((66 : Nat) == 66) = true from rfl), gib (by omega) (by omega), gd_t (show ((66 : Nat) == 66) = true from rfl), gib (by omega) (by omega), Int.toNat_natCast]
  by_cases y : lt_ (B i) = true
  · have y' := lt_i.mp y
    rw [if_neg (by omega), if_neg (by omega), if_pos y]
  · rw [if_neg y]
    rw [lt_i] at y
    by_cases u : pi h 66 i < 97
    · rw [if_pos u]
    · rw [if_neg u, if_pos (by omega)]
theorem c_isDigit {i : Nat} (c : CBx h B n) (hi : i < n) : pf_Re_isDigit i h = some (if dg (B i) = true then 1 else 0) := by
  obtain ⟨c1, c2, c3, c4⟩ := c
  have q := c4 i hi
  unfold pf_Re_isDigit
  rw [c1, gd_t (show ((66 : Nat) == 66) = true from rfl), gib (by omega) (by omega), gd_t (show ((66 : Nat) == 66) = true from rfl), gib (by omega) (by omega), Int.toNat_natCast]
  by_cases y : dg (B i) = true
  · have y' := dg_i.mp y
    rw [if_neg (by omega), if_neg (by omega), if_pos y]
  · rw [if_neg y]
    rw [dg_i] at y
    by_cases u : pi h 66 i < 48
    · rw [if_pos u]
    · rw [if_neg u, if_pos (by omega)]
theorem c_skip {p : Nat} {K : pH → Option pH} (c : CBx h B n) (hp : pi h 279 11 = p) (pn : p ≤ n) : ∃ h', pl_Re_advance_8 K fu_ h = K h' ∧ CA h h' ∧ pi h' 279 11 = skb B n p := by
  refine lp (F := fun m t => pl_Re_advance_8 K m t) (Q := fun r => ∃ h', r = K h' ∧ CA h h' ∧ pi h' 279 11 = skb B n p) (I := fun t => CA h t ∧ ∃ a : Nat, pi t 279 11 = a ∧ a ≤ n ∧ skb B n a = skb B n p) (fun t => n - (pi t 279 11).toNat) ?_ fu_ h ⟨CA_refl, p, hp, pn, rfl⟩ (by rw [hp]; unfold fu_; have := c.2.2.1; omega)
  intro m t ⟨f, a, e, an, es⟩
  have ct := CB_CA c f
  obtain ⟨c1, c2, c3, c4⟩ := ct
  show (∃ h', pl_Re_advance_8 K (m + 1) t = K h' ∧ _) ∨ ∃ t', pl_Re_advance_8 K (m + 1) t = pl_Re_advance_8 K m t' ∧ _
  rw [pl_Re_advance_8, c2, e]
  by_cases y : n ≤ a
  · left
    rw [if_pos (by omega)]
    exact ⟨t, rfl, f, by rw [e, ← es]; unfold skb; rw [rnn_e1 y]⟩
  · have q := c4 a (by omega)
    have sp : bl (B a) = true → ∃ t', pj_Re_advance_47 (pl_Re_advance_8 K m) K t = pl_Re_advance_8 K m t' ∧ (CA h t' ∧ ∃ b : Nat, pi t' 279 11 = b ∧ b ≤ n ∧ skb B n b = skb B n p) ∧ n - (pi t' 279 11).toNat < n - a := fun k => by
      refine ⟨_, rfl, ⟨CA_w f (by omega), a + 1, ?_, by omega, ?_⟩, ?_⟩
      · rw [pi_wIs, e, wr_eq (by omega) (by omega)]; omega
      · rw [← es]; unfold skb; rw [rnn_s (p := a) (by omega) k]
      · rw [pi_wIs, e, wr_eq (by omega) (by omega)]; omega
    rw [if_neg (by omega), c1, gd_t (show ((66 : Nat) == 66) = true from rfl), gib (by omega) (by omega), gd_t (show ((66 : Nat) == 66) = true from rfl), gib (by omega) (by omega), Int.toNat_natCast]
    by_cases y1 : pi t 66 a = 32
    · right
      rw [if_pos y1]
      exact sp (bl_i.mpr (Or.inl (by omega)))
    · rw [if_neg y1]
      by_cases y2 : pi t 66 a = 10
      · right
        rw [if_pos y2]
        exact sp (bl_i.mpr (Or.inr (by omega)))
      · left
        rw [if_neg y2]
        exact ⟨t, rfl, f, by rw [e, ← es]; unfold skb; rw [rnn_e2 (p := a) (bf.mpr (fun k => by rcases bl_i.mp k with v | v <;> omega))]⟩
theorem c_letters {a : Nat} (c : CBx h B n) (ha : pi h 279 12 = a) (an : a ≤ n) : ∃ h', pf_Re_takeLetters h = some h' ∧ CA h h' ∧ pi h' 279 12 = rnn B n lt_ a ∧ pi h' 279 9 = 1 ∧ pi h' 279 11 = pi h 279 11 := by
  unfold pf_Re_takeLetters
  refine lp (F := fun m t => pl_Re_takeLetters_5 (fun h => some h) m t) (Q := fun r => ∃ h', r = some h' ∧ CA h h' ∧ pi h' 279 12 = rnn B n lt_ a ∧ pi h' 279 9 = 1 ∧ pi h' 279 11 = pi h 279 11) (I := fun t => CA h t ∧ pi t 279 9 = 1 ∧ pi t 279 11 = pi h 279 11 ∧ ∃ b : Nat, pi t 279 12 = b ∧ b ≤ n ∧ rnn B n lt_ b = rnn B n lt_ a) (fun t => n - (pi t 279 12).toNat) ?_ fu_ (pwI h 279 9 1) ⟨CA_w CA_refl (by omega), pi_wIs, pi_wIi (by decide), a, by rw [pi_wIi (by decide)]; exact ha, an, rfl⟩ (by rw [pi_wIi (by decide), ha]; unfold fu_; have := c.2.2.1; omega)
  intro m t ⟨f, e9, e11, b, e, bn, es⟩
  have ct := CB_CA c f
  have c3 := ct.2.2.1
  show (∃ h', pl_Re_takeLetters_5 _ (m + 1) t = some h' ∧ _) ∨ ∃ t', pl_Re_takeLetters_5 _ (m + 1) t = pl_Re_takeLetters_5 _ m t' ∧ _
  rw [pl_Re_takeLetters_5, ct.2.1, e]
  by_cases y : n ≤ b
  · left
    rw [if_pos (by omega)]
    exact ⟨t, rfl, f, by rw [e, ← es, rnn_e1 y], e9, e11⟩
  · rw [if_neg (by omega), c_isLetter ct (by omega), bsm]
    by_cases k : lt_ (B b) = true
    · right
      rw [if_pos k, if_neg (by decide)]
      refine ⟨_, rfl, ⟨CA_w f (by omega), by rw [pi_wIi (by decide)]; exact e9, by rw [pi_wIi (by decide)]; exact e11, b + 1, by rw [pi_wIs, wr_eq (by omega) (by omega)]; omega, by omega, by rw [← es, rnn_s (p := b) (by omega) k]⟩, ?_⟩
      rw [pi_wIs, wr_eq (by omega) (by omega)]; omega
    · left
      rw [if_neg k, if_pos rfl]
      exact ⟨t, rfl, f, by rw [e, ← es, rnn_e2 (bf.mpr k)], e9, e11⟩
theorem c_digits (c : CBx h B n) (hs : pi h 279 11 = s) (ha : pi h 279 12 = ((s + 1 : Nat) : Int)) (sn : s < n) (k0 : dg (B s) = true) : ∃ h', pf_Re_takeDigits h = some h' ∧ CA h h' ∧ pi h' 279 12 = rnn B n dg s ∧ pi h' 279 11 = s ∧ pi h' 279 9 = (if rnn B n dg s ≤ s + 2 then 2 else 5) ∧ pi h' 279 10 = (if rnn B n dg s = s + 1 then B s - 48 else 10 * (B s - 48) + B (s + 1) - 48) := by
  have c3 := c.2.2.1
  have q0 := c.2.2.2 s sn
  have k0' := dg_i.mp k0
  unfold pf_Re_takeDigits
  rw [c.1, gd_t (show ((66 : Nat) == 66) = true from rfl), hs, gib (by omega) (by omega), Int.toNat_natCast]
  have ev : wr (pi h 66 s - 48) = B s - 48 := by rw [wr_eq (by omega) (by omega)]; omega
  rw [ev]
  refine lp (F := fun m t => pl_Re_takeDigits_16 (fun h => pj_Re_takeDigits_88 h) m t) (Q := fun r => ∃ h', r = some h' ∧ CA h h' ∧ pi h' 279 12 = rnn B n dg s ∧ pi h' 279 11 = s ∧ pi h' 279 9 = (if rnn B n dg s ≤ s + 2 then 2 else 5) ∧ pi h' 279 10 = (if rnn B n dg s = s + 1 then B s - 48 else 10 * (B s - 48) + B (s + 1) - 48)) (I := fun t => CA h t ∧ pi t 279 11 = s ∧ ∃ b : Nat, pi t 279 12 = b ∧ s + 1 ≤ b ∧ b ≤ n ∧ rnn B n dg b = rnn B n dg s ∧ pi t 279 10 = (if b = s + 1 then B s - 48 else 10 * (B s - 48) + B (s + 1) - 48)) (fun t => n - (pi t 279 12).toNat) ?_ fu_ (pwI h 279 10 (B s - 48)) ⟨CA_w CA_refl (by omega), by rw [pi_wIi (by decide)]; exact hs, s + 1, by rw [pi_wIi (by decide)]; exact ha, Nat.le_refl _, by omega, (rnn_s sn k0).symm, by rw [pi_wIs, if_pos rfl]⟩ (by rw [pi_wIi (by decide), ha]; unfold fu_; omega)
  intro m t ⟨f, e11, b, e, b1, bn, es, ev⟩
  have ct := CB_CA c f
  show (∃ h', pl_Re_takeDigits_16 _ (m + 1) t = some h' ∧ _) ∨ ∃ t', pl_Re_takeDigits_16 _ (m + 1) t = pl_Re_takeDigits_16 _ m t' ∧ _
  have fin : rnn B n dg b = b → ∃ h', pj_Re_takeDigits_88 t = some h' ∧ CA h h' ∧ pi h' 279 12 = rnn B n dg s ∧ pi h' 279 11 = s ∧ pi h' 279 9 = (if rnn B n dg s ≤ s + 2 then 2 else 5) ∧ pi h' 279 10 = (if rnn B n dg s = s + 1 then B s - 48 else 10 * (B s - 48) + B (s + 1) - 48) := fun r => by
    unfold pj_Re_takeDigits_88
    rw [← es, r, e, e11, wr_eq (x := (s : Int) + 2) (by omega) (by omega)]
    by_cases y : b ≤ s + 2
    · rw [if_pos (by omega), if_pos y]
      exact ⟨_, rfl, CA_w f (by omega), by rw [pi_wIi (by decide)]; exact e, by rw [pi_wIi (by decide)]; exact e11, pi_wIs, by rw [pi_wIi (by decide)]; exact ev⟩
    · rw [if_neg (by omega), if_neg y]
      exact ⟨_, rfl, CA_w f (by omega), by rw [pi_wIi (by decide)]; exact e, by rw [pi_wIi (by decide)]; exact e11, pi_wIs, by rw [pi_wIi (by decide)]; exact ev⟩
  rw [pl_Re_takeDigits_16, ct.2.1, e]
  by_cases y : n ≤ b
  · left
    rw [if_pos (by omega)]
    exact fin (rnn_e1 y)
  · have q := ct.2.2.2 b (by omega)
    rw [if_neg (by omega), c_isDigit ct (by omega), bsm]
    by_cases k : dg (B b) = true
    · right
      have k' := dg_i.mp k
      rw [if_pos k, if_neg (by decide), e11, wr_eq (x := (s : Int) + 1) (by omega) (by omega)]
      unfold pj_Re_takeDigits_75
      by_cases y1 : b = s + 1
      · rw [if_pos y1] at ev
        have e1 : wr (wr (wr ((B s - 48) * 10) + pi t 66 b) - 48) = 10 * (B s - 48) + B (s + 1) - 48 := by
          rw [wr_eq (x := (B s - 48) * 10) (by omega) (by omega), wr_eq (x := (B s - 48) * 10 + pi t 66 b) (by omega) (by omega), wr_eq (by omega) (by omega), ← y1]
          omega
        rw [if_pos (by omega), ct.1, gd_t (show ((66 : Nat) == 66) = true from rfl), gib (by omega) (by omega), Int.toNat_natCast, ev, e1]
        refine ⟨_, rfl, ⟨CA_w (CA_w f (by omega)) (by omega), by rw [pi_wIi (by decide), pi_wIi (by decide)]; exact e11, b + 1, ?_, by omega, by omega, by rw [← es, rnn_s (p := b) (by omega) k], by rw [pi_wIi (by decide), pi_wIs, if_neg (by omega)]⟩, ?_⟩
        · rw [pi_wIs, pi_wIi (by decide), e, wr_eq (by omega) (by omega)]; omega
        · rw [pi_wIs, pi_wIi (by decide), e, wr_eq (by omega) (by omega)]; omega
      · rw [if_neg (by omega)]
        rw [if_neg y1] at ev
        refine ⟨_, rfl, ⟨CA_w f (by omega), by rw [pi_wIi (by decide)]; exact e11, b + 1, ?_, by omega, by omega, by rw [← es, rnn_s (p := b) (by omega) k], by rw [pi_wIi (by decide), ev, if_neg (by omega)]⟩, ?_⟩
        · rw [pi_wIs, e, wr_eq (by omega) (by omega)]; omega
        · rw [pi_wIs, e, wr_eq (by omega) (by omega)]; omega
    · left
      rw [if_neg k, if_pos rfl]
      exact fin (rnn_e2 (bf.mpr k))
theorem c_advance {p : Nat} (c : CBx h B n) (hp : pi h 279 12 = p) (pn : p ≤ n) : ∃ h', pf_Re_advance h = some h' ∧ CA h h' ∧ CTx h' B n (skb B n p) := by
  unfold pf_Re_advance
  have a0 : CA h (pwI h 279 11 (pi h 279 12)) := CA_w CA_refl (by omega)
  obtain ⟨h1, p1, p2, p3⟩ := c_skip (K := fun h => pj_Re_advance_60 h) (CB_CA c a0) (by rw [pi_wIs]; exact hp) pn
  obtain ⟨s1, s2, s3⟩ := skb_ok (B := B) pn
  rw [p1]
  generalize skb B n p = s at *
  have A1 := CA_trans a0 p2
  have C1 := CB_CA c A1
  have c3 := C1.2.2.1
  unfold pj_Re_advance_60
  generalize eH : pwI h1 279 12 (min (wr (pi h1 279 11 + 1)) (pi h1 279 7)) = H
  have AH : CA h H := by rw [← eH]; exact CA_w A1 (by omega)
  have CH := CB_CA c AH
  have e11 : pi H 279 11 = s := by rw [← eH, pi_wIi (by decide)]; exact p3
  have e12 : pi H 279 12 = min ((s : Int) + 1) n := by rw [← eH, pi_wIs, p3, C1.2.1, wr_eq (by omega) (by omega)]
  rw [e11, CH.2.1]
  by_cases y : n ≤ s
  · rw [if_neg (by omega)]
    have k0 : kd B n s = 0 := if_pos y
    have a0 : af B n s = n := if_pos y
    refine ⟨_, rfl, CA_w AH (by omega), CB_CA c (CA_w AH (by omega)), s2, by rw [pi_wIi (by decide)]; exact e11, ?_, by rw [pi_wIs, k0], fun k => by omega⟩
    rw [pi_wIi (by decide), e12, a0]; omega
  · have q := CH.2.2.2 s (by omega)
    rw [if_pos (by omega), c_isLetter CH (by omega), bsm]
    by_cases y1 : lt_ (B s) = true
    · rw [if_pos y1, if_neg (by decide)]
      have k0 : kd B n s = 1 := by unfold kd; rw [if_neg y, if_pos y1]
      have a0 : af B n s = rnn B n lt_ s := by unfold af; rw [if_neg y, if_pos y1]
      obtain ⟨h2, r1, r2, r3, r4, r5⟩ := c_letters (a := s + 1) CH (by rw [e12]; omega) (by omega)
      rw [r1, bsm]
      refine ⟨h2, rfl, CA_trans AH r2, CB_CA c (CA_trans AH r2), s2, by rw [r5]; exact e11, by rw [r3, a0, rnn_s (p := s) (by omega) y1], by rw [r4, k0], fun k => by omega⟩
    · rw [if_neg y1, if_pos rfl, c_isDigit CH (by omega), bsm]
      by_cases y2 : dg (B s) = true
      · rw [if_pos y2, if_neg (by decide)]
        have k0 : kd B n s = if rnn B n dg s ≤ s + 2 then 2 else 5 := by unfold kd; rw [if_neg y, if_neg y1, if_pos y2]
        have a0 : af B n s = rnn B n dg s := by unfold af; rw [if_neg y, if_neg y1, if_pos y2]
        obtain ⟨h2, r1, r2, r3, r4, r5, r6⟩ := c_digits CH e11 (by rw [e12]; omega) (by omega) y2
        rw [r1, bsm]
        refine ⟨h2, rfl, CA_trans AH r2, CB_CA c (CA_trans AH r2), s2, r4, by rw [r3, a0], by rw [r5, k0], fun k => ?_⟩
        rw [r6]
        unfold vl
        rw [a0]
      · have a0 : af B n s = s + 1 := by unfold af; rw [if_neg y, if_neg y1, if_neg y2]
        have k0 : kd B n s = if B s = 45 then 3 else (if B s = 59 then 4 else 5) := by unfold kd; rw [if_neg y, if_neg y1, if_neg y2]
        have e12' : pi H 279 12 = ((s + 1 : Nat) : Int) := by rw [e12]; omega
        rw [if_neg y2, if_pos rfl, CH.1, gd_t (show ((66 : Nat) == 66) = true from rfl), gib (by omega) (by omega), gd_t (show ((66 : Nat) == 66) = true from rfl), gib (by omega) (by omega), Int.toNat_natCast]
        have done : ∀ v, kd B n s = v → v ≠ 2 → ∃ h', some (pwI H 279 9 v) = some h' ∧ CA h h' ∧ CTx h' B n s := fun v ev nv => ⟨_, rfl, CA_w AH (by omega), CB_CA c (CA_w AH (by omega)), s2, by rw [pi_wIi (by decide)]; exact e11, by rw [pi_wIi (by decide), e12', a0], by rw [pi_wIs, ev], fun k => by omega⟩
        by_cases y3 : pi H 66 s = 45
        · rw [if_pos y3]
          exact done 3 (by rw [k0, if_pos (by omega)]) (by decide)
        · rw [if_neg y3]
          by_cases y4 : pi H 66 s = 59
          · rw [if_pos y4]
            exact done 4 (by rw [k0, if_neg (by omega), if_pos (by omega)]) (by decide)
          · rw [if_neg y4]
            exact done 5 (by rw [k0, if_neg (by omega), if_neg (by omega)]) (by decide)
end Td
/-! the reference's tokens -/
def MB (g : pH) (B : Nat → Int) (n : Nat) : Prop := pi g 417 2 = n ∧ n ≤ 600 ∧ ∀ i, i < n → pi g 418 (10 + i) = B i ∧ 0 ≤ B i ∧ B i ≤ 255
def tkm (k w : Int) : Int := if k = 0 then 0 else (if k = 1 then (if w = -1 then 4 else 3) else (if k = 2 then 1 else (if k = 3 then 5 else (if k = 4 then 2 else 4))))
def MT (g : pH) (B : Nat → Int) (n s : Nat) : Prop := MB g B n ∧ s ≤ n ∧ pi g 417 4 = s ∧ pi g 417 3 = af B n s ∧ pi g 417 5 = tkm (kd B n s) (wdl B n s) ∧ (kd B n s = 2 → pi g 417 6 = vl B n s) ∧ (kd B n s = 1 → wdl B n s ≠ -1 → pi g 417 7 = wdl B n s + 1)
def MA (g g' : pH) : Prop := fr (fun b => b = 417) g g' ∧ ∀ j, (j < 3 ∨ 7 < j) → pi g' 417 j = pi g 417 j
theorem MA_refl {h : pH} : MA h h := ⟨fr_refl, fun _ _ => rfl⟩
theorem MA_trans {h h1 h2 : pH} (a : MA h h1) (b : MA h1 h2) : MA h h2 := ⟨fr_trans a.1 b.1, fun j hj => by rw [b.2 j hj, a.2 j hj]⟩
theorem MA_w {h h1 : pH} {i : Nat} {x : Int} (a : MA h h1) (hi : 3 ≤ i ∧ i ≤ 7) : MA h (pwI h1 417 i x) := ⟨fr_wI a.1 rfl, fun j hj => by rw [pi_wIi (by omega)]; exact a.2 j hj⟩
section Te
variable {g : pH} {B : Nat → Int} {n s : Nat}
theorem MB_MA {g' : pH} (c : MB g B n) (a : MA g g') : MB g' B n := ⟨by rw [a.2 2 (by omega)]; exact c.1, c.2.1, fun i hi => by rw [fr_i a.1 (by omega)]; exact c.2.2 i hi⟩
theorem m_byteAt {p : Nat} (c : MB g B n) (pn : p ≤ n) : pf_M_byteAt p g = some (if p < n then B p else -1) := by
  obtain ⟨c1, c2, c3⟩ := c
  unfold pf_M_byteAt
  rw [c1]
  by_cases y : p < n
  · rw [if_neg (by omega), if_pos y, wr_eq (by omega) (by omega), gib (by omega) (by omega), show (10 + (p : Int)).toNat = 10 + p by omega, (c3 p y).1]
  · rw [if_pos (by omega), if_neg y]
theorem m_isLetter {x : Int} : pf_M_isLetter x g = some (if lt_ x = true then 1 else 0) := by
  unfold pf_M_isLetter
  by_cases y : lt_ x = true
  · have := lt_i.mp y
    rw [if_neg (by omega), if_neg (by omega), if_pos y]
  · rw [if_neg y]
    rw [lt_i] at y
    by_cases u : x < 97
    · rw [if_pos u]
    · rw [if_neg u, if_pos (by omega)]
theorem m_isDigit {x : Int} : pf_M_isDigit x g = some (if dg x = true then 1 else 0) := by
  unfold pf_M_isDigit
  by_cases y : dg x = true
  · have := dg_i.mp y
    rw [if_neg (by omega), if_neg (by omega), if_pos y]
  · rw [if_neg y]
    rw [dg_i] at y
    by_cases u : x < 48
    · rw [if_pos u]
    · rw [if_neg u, if_pos (by omega)]
theorem m_wordOf {v : Int} : pf_M_wordOf v g = some (if wl v = -1 then 99 else wl v + 1) := by
  have f : ∀ {a b c d e : Int} {r : Int}, wr (wr (wr (wr (wr (wr (wr (a * 32) + b) * 32) + c) * 1024) + wr (d * 32)) + e) = r → pf_M_five a b c d e g = some r := fun {a b c d e r} k => by rw [← k]; rfl
  have t : ∀ {a b c : Int} {r : Int}, wr (wr (wr (wr (a * 32) + b) * 32) + c) = r → pf_M_three a b c g = some r := fun {a b c r} k => by rw [← k]; rfl
  unfold pf_M_wordOf wl
  rw [f (r := 632645) (by decide), bsm, t (r := 1420) (by decide), bsm, t (r := 9317) (by decide), bsm, f (r := 637431) (by decide), bsm, f (r := 758827) (by decide), bsm, f (r := 3736683) (by decide), bsm, f (r := 6897268) (by decide), bsm, f (r := 70706) (by decide), bsm, f (r := 20201029) (by decide), bsm, f (r := 631280) (by decide), bsm, f (r := 12748404) (by decide), bsm, f (r := 1574484) (by decide), bsm, f (r := 20186693) (by decide), bsm, f (r := 595412) (by decide), bsm, f (r := 394693) (by decide), bsm, t (r := 2098) (by decide), bsm, t (r := 4153) (by decide), bsm, f (r := 442053) (by decide), bsm, t (r := 15558) (by decide), bsm, t (r := 239) (by decide), bsm, f (r := 20681904) (by decide), bsm]
  by_cases q0 : v = 632645
  · rw [if_pos q0, if_pos q0]; rfl
  rw [if_neg q0, if_neg q0]
  by_cases q1 : v = 1420
  · rw [if_pos q1, if_pos q1]; rfl
  rw [if_neg q1, if_neg q1]
  by_cases q2 : v = 9317
  · rw [if_pos q2, if_pos q2]; rfl
  rw [if_neg q2, if_neg q2]
  by_cases q3 : v = 637431
  · rw [if_pos q3, if_pos q3]; rfl
  rw [if_neg q3, if_neg q3]
  by_cases q4 : v = 758827
  · rw [if_pos q4, if_pos q4]; rfl
  rw [if_neg q4, if_neg q4]
  by_cases q5 : v = 3736683
  · rw [if_pos q5, if_pos q5]; rfl
  rw [if_neg q5, if_neg q5]
  by_cases q6 : v = 6897268
  · rw [if_pos q6, if_pos q6]; rfl
  rw [if_neg q6, if_neg q6]
  by_cases q7 : v = 70706
  · rw [if_pos q7, if_pos q7]; rfl
  rw [if_neg q7, if_neg q7]
  by_cases q8 : v = 20201029
  · rw [if_pos q8, if_pos q8]; rfl
  rw [if_neg q8, if_neg q8]
  by_cases q9 : v = 631280
  · rw [if_pos q9, if_pos q9]; rfl
  rw [if_neg q9, if_neg q9]
  by_cases q10 : v = 12748404
  · rw [if_pos q10, if_pos q10]; rfl
  rw [if_neg q10, if_neg q10]
  by_cases q11 : v = 1574484
  · rw [if_pos q11, if_pos q11]; rfl
  rw [if_neg q11, if_neg q11]
  by_cases q12 : v = 20186693
  · rw [if_pos q12, if_pos q12]; rfl
  rw [if_neg q12, if_neg q12]
  by_cases q13 : v = 595412
  · rw [if_pos q13, if_pos q13]; rfl
  rw [if_neg q13, if_neg q13]
  by_cases q14 : v = 394693
  · rw [if_pos q14, if_pos q14]; rfl
  rw [if_neg q14, if_neg q14]
  by_cases q15 : v = 2098
  · rw [if_pos q15, if_pos q15]; rfl
  rw [if_neg q15, if_neg q15]
  by_cases q16 : v = 4153
  · rw [if_pos q16, if_pos q16]; rfl
  rw [if_neg q16, if_neg q16]
  by_cases q17 : v = 442053
  · rw [if_pos q17, if_pos q17]; rfl
  rw [if_neg q17, if_neg q17]
  by_cases q18 : v = 15558
  · rw [if_pos q18, if_pos q18]; rfl
  rw [if_neg q18, if_neg q18]
  by_cases q19 : v = 239
  · rw [if_pos q19, if_pos q19]; rfl
  rw [if_neg q19, if_neg q19]
  by_cases q20 : v = 20681904
  · rw [if_pos q20, if_pos q20]; rfl
  rw [if_neg q20, if_neg q20]
  rfl
theorem m_skip {p : Nat} {K : pH → Option pH} (c : MB g B n) (hp : pi g 417 3 = p) (pn : p ≤ n) : ∃ g', pl_M_advance_0 K fu_ g = K g' ∧ MA g g' ∧ pi g' 417 3 = skb B n p := by
  have c2 := c.2.1
  refine lp (F := fun m t => pl_M_advance_0 K m t) (Q := fun r => ∃ g', r = K g' ∧ MA g g' ∧ pi g' 417 3 = skb B n p) (I := fun t => MA g t ∧ ∃ a : Nat, pi t 417 3 = a ∧ a ≤ n ∧ skb B n a = skb B n p) (fun t => n - (pi t 417 3).toNat) ?_ fu_ g ⟨MA_refl, p, hp, pn, rfl⟩ (by rw [hp]; unfold fu_; omega)
  intro m t ⟨f, a, e, an, es⟩
  have ct := MB_MA c f
  show (∃ h', pl_M_advance_0 K (m + 1) t = K h' ∧ _) ∨ ∃ t', pl_M_advance_0 K (m + 1) t = pl_M_advance_0 K m t' ∧ _
  have fin : rnn B n bl a = a → ∃ h', K t = K h' ∧ MA g h' ∧ pi h' 417 3 = skb B n p := fun r => ⟨t, rfl, f, by rw [e, ← es]; unfold skb; rw [r]⟩
  rw [pl_M_advance_0, e, m_byteAt ct an, bsm, bsm]
  by_cases y : a < n
  · have q := ct.2.2 a y
    have sp : bl (B a) = true → ∃ t', pj_M_advance_26 (pl_M_advance_0 K m) K t = pl_M_advance_0 K m t' ∧ (MA g t' ∧ ∃ b : Nat, pi t' 417 3 = b ∧ b ≤ n ∧ skb B n b = skb B n p) ∧ n - (pi t' 417 3).toNat < n - a := fun k => by
      refine ⟨_, rfl, ⟨MA_w f (by omega), a + 1, ?_, by omega, ?_⟩, ?_⟩
      · rw [pi_wIs, e, wr_eq (by omega) (by omega)]; omega
      · rw [← es]; unfold skb; rw [rnn_s (p := a) (by omega) k]
      · rw [pi_wIs, e, wr_eq (by omega) (by omega)]; omega
    rw [if_pos y]
    by_cases y1 : B a = 10
    · right
      rw [if_pos y1]
      exact sp (bl_i.mpr (Or.inr y1))
    · rw [if_neg y1]
      by_cases y2 : B a = 32
      · right
        rw [if_pos y2]
        exact sp (bl_i.mpr (Or.inl y2))
      · left
        rw [if_neg y2]
        exact fin (rnn_e2 (bf.mpr (fun k => by rcases bl_i.mp k with v | v <;> omega)))
  · left
    rw [if_neg y, if_neg (by decide), if_neg (by decide)]
    exact fin (rnn_e1 (by omega))
theorem m_letters {K : Int → pH → Option pH} (c : MB g B n) (hs : pi g 417 4 = s) (ha : pi g 417 3 = s) (sn : s ≤ n) : ∃ g', pl_M_advance_77 K fu_ 0 g = K (wv B s (min (rnn B n lt_ s - s) 5)) g' ∧ MA g g' ∧ pi g' 417 3 = rnn B n lt_ s ∧ pi g' 417 4 = s := by
  have c2 := c.2.1
  have wvb : ∀ k, k ≤ 5 → (∀ i, i < k → 97 ≤ B (s + i) ∧ B (s + i) ≤ 122) → 0 ≤ wv B s k ∧ wv B s k < 33554432 := by
    have s1 : ∀ k (M : Int), (0 ≤ wv B s k ∧ wv B s k ≤ M) → (97 ≤ B (s + k) ∧ B (s + k) ≤ 122) → 0 ≤ wv B s (k + 1) ∧ wv B s (k + 1) ≤ 32 * M + 26 := fun k M a b => by rw [wv]; omega
    intro k hk hh
    have a0 : 0 ≤ wv B s 0 ∧ wv B s 0 ≤ 0 := by rw [wv_0]; omega
    rcases (show k = 0 ∨ k = 1 ∨ k = 2 ∨ k = 3 ∨ k = 4 ∨ k = 5 by omega) with rfl | rfl | rfl | rfl | rfl | rfl
    · omega
    · have t := s1 0 _ a0 (hh 0 (by omega)); exact ⟨t.1, Int.lt_of_le_of_lt t.2 (by decide)⟩
    · have a1 := s1 0 _ a0 (hh 0 (by omega))
      have t := s1 1 _ a1 (hh 1 (by omega)); exact ⟨t.1, Int.lt_of_le_of_lt t.2 (by decide)⟩
    · have a1 := s1 0 _ a0 (hh 0 (by omega))
      have a2 := s1 1 _ a1 (hh 1 (by omega))
      have t := s1 2 _ a2 (hh 2 (by omega)); exact ⟨t.1, Int.lt_of_le_of_lt t.2 (by decide)⟩
    · have a1 := s1 0 _ a0 (hh 0 (by omega))
      have a2 := s1 1 _ a1 (hh 1 (by omega))
      have a3 := s1 2 _ a2 (hh 2 (by omega))
      have t := s1 3 _ a3 (hh 3 (by omega)); exact ⟨t.1, Int.lt_of_le_of_lt t.2 (by decide)⟩
    · have a1 := s1 0 _ a0 (hh 0 (by omega))
      have a2 := s1 1 _ a1 (hh 1 (by omega))
      have a3 := s1 2 _ a2 (hh 2 (by omega))
      have a4 := s1 3 _ a3 (hh 3 (by omega))
      have t := s1 4 _ a4 (hh 4 (by omega)); exact ⟨t.1, Int.lt_of_le_of_lt t.2 (by decide)⟩
  refine lp (F := fun m (t : Int × pH) => pl_M_advance_77 K m t.1 t.2) (Q := fun r => ∃ g', r = K (wv B s (min (rnn B n lt_ s - s) 5)) g' ∧ MA g g' ∧ pi g' 417 3 = rnn B n lt_ s ∧ pi g' 417 4 = s) (I := fun t => MA g t.2 ∧ pi t.2 417 4 = s ∧ ∃ a : Nat, pi t.2 417 3 = a ∧ s ≤ a ∧ a ≤ n ∧ rnn B n lt_ a = rnn B n lt_ s ∧ t.1 = wv B s (min (a - s) 5) ∧ ∀ i, s ≤ i → i < a → 97 ≤ B i ∧ B i ≤ 122) (fun t => n - (pi t.2 417 3).toNat) ?_ fu_ (0, g) ⟨MA_refl, hs, s, ha, Nat.le_refl _, sn, rfl, by show (0 : Int) = _; rw [Nat.sub_self]; rfl, fun i a b => by omega⟩ (by show n - (pi g 417 3).toNat < fu_; rw [ha]; unfold fu_; omega)
  intro m ⟨x, t⟩ ⟨f, e4, a, e, sa, an, es, ex, all⟩
  have f : MA g t := f
  have e4 : pi t 417 4 = s := e4
  have e : pi t 417 3 = a := e
  have ex : x = wv B s (min (a - s) 5) := ex
  have ct := MB_MA c f
  show (∃ h', pl_M_advance_77 K (m + 1) x t = K _ h' ∧ _) ∨ ∃ t' : Int × pH, pl_M_advance_77 K (m + 1) x t = pl_M_advance_77 K m t'.1 t'.2 ∧ _ ∧ n - (pi t'.2 417 3).toNat < n - (pi t 417 3).toNat
  rw [pl_M_advance_77, e, m_byteAt ct an, bsm, bsm, m_isLetter, bsm, e4, wr_eq (x := (a : Int) - s) (by omega) (by omega)]
  have fin : rnn B n lt_ a = a → ∃ h', K x t = K (wv B s (min (rnn B n lt_ s - s) 5)) h' ∧ MA g h' ∧ pi h' 417 3 = rnn B n lt_ s ∧ pi h' 417 4 = s := fun r => ⟨t, by rw [← es, r, ex], f, by rw [← es, r]; exact e, e4⟩
  by_cases y : a < n
  · have q := ct.2.2 a y
    rw [if_pos y]
    by_cases k : lt_ (B a) = true
    · right
      have k' := lt_i.mp k
      rw [if_pos k, if_neg (by decide)]
      unfold pj_M_advance_121
      have all' : ∀ i, s ≤ i → i < a + 1 → 97 ≤ B i ∧ B i ≤ 122 := fun i i1 i2 => by
        by_cases u : i = a
        · rw [u]; exact k'
        · exact all i i1 (by omega)
      have w3 : pi (pwI t 417 3 (wr (pi t 417 3 + 1))) 417 3 = ((a + 1 : Nat) : Int) := by rw [pi_wIs, e, wr_eq (by omega) (by omega)]; omega
      by_cases y5 : 5 ≤ (a : Int) - s
      · rw [if_pos y5]
        refine ⟨(x, pwI t 417 3 (wr (pi t 417 3 + 1))), rfl, ⟨MA_w f (by omega), by show pi (pwI t 417 3 _) 417 4 = _; rw [pi_wIi (by decide)]; exact e4, a + 1, w3, by omega, by omega, by rw [← es, rnn_s (p := a) y k], ?_, all'⟩, ?_⟩
        · show x = _
          rw [ex, show min (a + 1 - s) 5 = min (a - s) 5 by omega]
        · show n - (pi (pwI t 417 3 _) 417 3).toNat < _
          rw [w3]; omega
      · rw [if_neg y5]
        have wb := wvb (a - s) (by omega) (fun i hi => all (s + i) (by omega) (by omega))
        have ew : wr (wr (wr (32 * x) + B a) - 96) = wv B s (a + 1 - s) := by
          rw [ex, show min (a - s) 5 = a - s by omega, wr_eq (x := 32 * wv B s (a - s)) (by omega) (by omega), wr_eq (x := 32 * wv B s (a - s) + B a) (by omega) (by omega), wr_eq (by omega) (by omega), show a + 1 - s = (a - s) + 1 by omega, wv, show s + (a - s) = a by omega]
        rw [ew]
        refine ⟨(wv B s (a + 1 - s), pwI t 417 3 (wr (pi t 417 3 + 1))), rfl, ⟨MA_w f (by omega), by show pi (pwI t 417 3 _) 417 4 = _; rw [pi_wIi (by decide)]; exact e4, a + 1, w3, by omega, by omega, by rw [← es, rnn_s (p := a) y k], ?_, all'⟩, ?_⟩
        · show wv B s (a + 1 - s) = _
          rw [show min (a + 1 - s) 5 = a + 1 - s by omega]
        · show n - (pi (pwI t 417 3 _) 417 3).toNat < _
          rw [w3]; omega
    · left
      rw [if_neg k, if_pos rfl]
      exact fin (rnn_e2 (bf.mpr k))
  · left
    rw [if_neg y, if_pos (by decide)]
    exact fin (rnn_e1 (by omega))
theorem m_digits {K : pH → Option pH} (c : MB g B n) (hs : pi g 417 4 = s) (ha : pi g 417 3 = s) (h6 : pi g 417 6 = 0) (sn : s < n) (k0 : dg (B s) = true) : ∃ g', pl_M_advance_193 K fu_ g = K g' ∧ MA g g' ∧ pi g' 417 3 = rnn B n dg s ∧ pi g' 417 4 = s ∧ pi g' 417 6 = (if rnn B n dg s = s + 1 then B s - 48 else 10 * (B s - 48) + B (s + 1) - 48) := by
  have c2 := c.2.1
  have k0' := dg_i.mp k0
  refine lp (F := fun m t => pl_M_advance_193 K m t) (Q := fun r => ∃ g', r = K g' ∧ MA g g' ∧ pi g' 417 3 = rnn B n dg s ∧ pi g' 417 4 = s ∧ pi g' 417 6 = (if rnn B n dg s = s + 1 then B s - 48 else 10 * (B s - 48) + B (s + 1) - 48)) (I := fun t => MA g t ∧ pi t 417 4 = s ∧ ∃ a : Nat, pi t 417 3 = a ∧ s ≤ a ∧ a ≤ n ∧ rnn B n dg a = rnn B n dg s ∧ pi t 417 6 = (if a = s then 0 else (if a = s + 1 then B s - 48 else 10 * (B s - 48) + B (s + 1) - 48))) (fun t => n - (pi t 417 3).toNat) ?_ fu_ g ⟨MA_refl, hs, s, ha, Nat.le_refl _, by omega, rfl, by rw [if_pos rfl]; exact h6⟩ (by rw [ha]; unfold fu_; omega)
  intro m t ⟨f, e4, a, e, sa, an, es, ev⟩
  have ct := MB_MA c f
  show (∃ h', pl_M_advance_193 K (m + 1) t = K h' ∧ _) ∨ ∃ t', pl_M_advance_193 K (m + 1) t = pl_M_advance_193 K m t' ∧ _
  rw [pl_M_advance_193, e, m_byteAt ct an, bsm, bsm, m_isDigit, bsm, e4, wr_eq (x := (a : Int) - s) (by omega) (by omega)]
  have ne : rnn B n dg a = a → a ≠ s := fun r u => by
    have := rnn_s (B := B) (n := n) (P := dg) (p := s) sn k0
    have := (rnn_ok (B := B) (n := n) (P := dg) (p := s + 1) rfl).1
    rw [u] at r
    omega
  have fin : rnn B n dg a = a → ∃ h', K t = K h' ∧ MA g h' ∧ pi h' 417 3 = rnn B n dg s ∧ pi h' 417 4 = s ∧ pi h' 417 6 = (if rnn B n dg s = s + 1 then B s - 48 else 10 * (B s - 48) + B (s + 1) - 48) := fun r => ⟨t, rfl, f, by rw [← es, r]; exact e, e4, by rw [ev, if_neg (ne r), ← es, r]⟩
  by_cases y : a < n
  · have q := ct.2.2 a y
    rw [if_pos y]
    by_cases k : dg (B a) = true
    · right
      have k' := dg_i.mp k
      rw [if_pos k, if_neg (by decide)]
      unfold pj_M_advance_243
      by_cases y2 : 2 ≤ (a : Int) - s
      · rw [if_pos y2]
        refine ⟨_, rfl, ⟨MA_w f (by omega), by rw [pi_wIi (by decide)]; exact e4, a + 1, by rw [pi_wIs, e, wr_eq (by omega) (by omega)]; omega, by omega, by omega, by rw [← es, rnn_s (p := a) y k], by rw [pi_wIi (by decide), ev, if_neg (by omega), if_neg (by omega), if_neg (by omega), if_neg (by omega)]⟩, ?_⟩
        rw [pi_wIs, e, wr_eq (by omega) (by omega)]; omega
      · rw [if_neg y2]
        have ew : wr (wr (wr (10 * pi t 417 6) + B a) - 48) = (if a + 1 = s + 1 then B s - 48 else 10 * (B s - 48) + B (s + 1) - 48) := by
          rw [ev]
          by_cases u : a = s
          · rw [if_pos u, if_pos (by omega), wr_eq (x := 10 * 0) (by omega) (by omega), wr_eq (x := 10 * 0 + B a) (by omega) (by omega), wr_eq (by omega) (by omega), u]
            omega
          · rw [if_neg u, if_pos (by omega), if_neg (by omega), wr_eq (x := 10 * (B s - 48)) (by omega) (by omega), wr_eq (x := 10 * (B s - 48) + B a) (by omega) (by omega), wr_eq (by omega) (by omega), show a = s + 1 by omega]
        rw [ew]
        refine ⟨_, rfl, ⟨MA_w (MA_w f (by omega)) (by omega), by rw [pi_wIi (by decide), pi_wIi (by decide)]; exact e4, a + 1, by rw [pi_wIs, pi_wIi (by decide), e, wr_eq (by omega) (by omega)]; omega, by omega, by omega, by rw [← es, rnn_s (p := a) y k], by rw [pi_wIi (by decide), pi_wIs, if_neg (show ¬ a + 1 = s by omega)]⟩, ?_⟩
        rw [pi_wIs, pi_wIi (by decide), e, wr_eq (by omega) (by omega)]; omega
    · left
      rw [if_neg k, if_pos rfl]
      exact fin (rnn_e2 (bf.mpr k))
  · left
    rw [if_neg y, if_pos (by decide)]
    exact fin (rnn_e1 (by omega))
theorem m_advance {p : Nat} (c : MB g B n) (hp : pi g 417 3 = p) (pn : p ≤ n) : ∃ g', pf_M_advance g = some g' ∧ MA g g' ∧ MT g' B n (skb B n p) := by
  unfold pf_M_advance
  have HK := m_skip (K := fun h => (pf_M_byteAt (pi (pwI h 417 4 (pi h 417 3)) 417 3) (pwI h 417 4 (pi h 417 3))).bind fun v3 => (if 0 ≤ v3 then ((pf_M_isLetter v3 (pwI h 417 4 (pi h 417 3))).bind fun v4 => (if v4 = 0 then ((pf_M_isDigit v3 (pwI h 417 4 (pi h 417 3))).bind fun v5 => (if v5 = 0 then (if v3 = 59 then (some (pwI (pwI (pwI h 417 4 (pi h 417 3)) 417 3 (wr ((pi (pwI h 417 4 (pi h 417 3)) 417 3) + 1))) 417 5 2)) else (if v3 = 45 then (some (pwI (pwI (pwI h 417 4 (pi h 417 3)) 417 3 (wr ((pi (pwI h 417 4 (pi h 417 3)) 417 3) + 1))) 417 5 5)) else (some (pwI (pwI (pwI h 417 4 (pi h 417 3)) 417 3 (wr ((pi (pwI h 417 4 (pi h 417 3)) 417 3) + 1))) 417 5 4)))) else (pl_M_advance_193 (fun h => if (wr ((pi h 417 3) - (pi h 417 4))) ≤ 2 then (some (pwI h 417 5 1)) else (some (pwI h 417 5 4))) fu_ (pwI (pwI h 417 4 (pi h 417 3)) 417 6 0)))) else (pl_M_advance_77 (fun x2 h => if (wr ((pi h 417 3) - (pi h 417 4))) ≤ 5 then ((pf_M_wordOf x2 h).bind fun v12 => (pj_M_advance_157 v12 h)) else (pj_M_advance_157 99 h)) fu_ 0 (pwI h 417 4 (pi h 417 3))))) else (some (pwI (pwI h 417 4 (pi h 417 3)) 417 5 0)))) c hp pn
  obtain ⟨g1, p1, p2, p3⟩ := HK
  obtain ⟨s1, s2, s3⟩ := skb_ok (B := B) pn
  rw [p1]
  generalize skb B n p = s at *
  have c2 := c.2.1
  generalize eH : pwI g1 417 4 (pi g1 417 3) = H
  have AH : MA g H := by rw [← eH]; exact MA_w p2 (by omega)
  have CH := MB_MA c AH
  have e4 : pi H 417 4 = s := by rw [← eH, pi_wIs]; exact p3
  have e3 : pi H 417 3 = s := by rw [← eH, pi_wIi (by decide)]; exact p3
  rw [e3, m_byteAt CH s2, bsm]
  by_cases y : n ≤ s
  · rw [if_neg (by omega)]
    have k0 : kd B n s = 0 := if_pos y
    have a0 : af B n s = n := if_pos y
    refine ⟨_, rfl, MA_w AH (by omega), MB_MA c (MA_w AH (by omega)), s2, by rw [pi_wIi (by decide)]; exact e4, by rw [pi_wIi (by decide), e3, a0]; omega, by rw [pi_wIs, k0]; rfl, fun k => by omega, fun k => by omega⟩
  · have q := CH.2.2 s (by omega)
    rw [if_pos (by omega), if_pos (by omega), m_isLetter, bsm]
    by_cases y1 : lt_ (B s) = true
    · rw [if_pos y1, if_neg (by decide)]
      have k0 : kd B n s = 1 := by unfold kd; rw [if_neg y, if_pos y1]
      have a0 : af B n s = rnn B n lt_ s := by unfold af; rw [if_neg y, if_pos y1]
      obtain ⟨g2, r1, r2, r3, r4⟩ := m_letters (K := fun x2 h => if (wr ((pi h 417 3) - (pi h 417 4))) ≤ 5 then ((pf_M_wordOf x2 h).bind fun v12 => (pj_M_advance_157 v12 h)) else (pj_M_advance_157 99 h)) CH e4 e3 s2
      obtain ⟨o1, o2, o3, o4⟩ := rnn_ok (B := B) (n := n) (P := lt_) (p := s) rfl
      have o2 := o2 s2
      rw [r1]
      rw [r3, r4, wr_eq (by omega) (by omega)]
      have fin : ∀ v, v = (if wdl B n s = -1 then 99 else wdl B n s + 1) → ∃ g', pj_M_advance_157 v g2 = some g' ∧ MA g g' ∧ MT g' B n s := fun v ev => by
        unfold pj_M_advance_157
        rw [pi_wIs]
        by_cases u : wdl B n s = -1
        · rw [if_pos u] at ev
          rw [if_pos ev]
          refine ⟨_, rfl, MA_w (MA_w (MA_trans AH r2) (by omega)) (by omega), MB_MA c (MA_w (MA_w (MA_trans AH r2) (by omega)) (by omega)), s2, by rw [pi_wIi (by decide), pi_wIi (by decide)]; exact r4, by rw [pi_wIi (by decide), pi_wIi (by decide), r3, a0], by rw [pi_wIs, k0]; unfold tkm; rw [if_neg (by decide), if_pos rfl, if_pos u], fun k => by omega, fun _ k => absurd u k⟩
        · have lr : wdl B n s < 21 := by
            unfold wdl
            split
            · rcases wl_c (v := wv B s (rnn B n lt_ s - s)) with e | ⟨l, l1, l2, l3⟩ <;> omega
            · omega
          rw [if_neg u] at ev
          rw [if_neg (by omega)]
          refine ⟨_, rfl, MA_w (MA_w (MA_trans AH r2) (by omega)) (by omega), MB_MA c (MA_w (MA_w (MA_trans AH r2) (by omega)) (by omega)), s2, by rw [pi_wIi (by decide), pi_wIi (by decide)]; exact r4, by rw [pi_wIi (by decide), pi_wIi (by decide), r3, a0], by rw [pi_wIs, k0]; unfold tkm; rw [if_neg (by decide), if_pos rfl, if_neg u], fun k => by omega, fun _ k => by rw [pi_wIi (by decide), pi_wIs]; exact ev⟩
      by_cases u : rnn B n lt_ s - s ≤ 5
      · rw [if_pos (by omega), show min (rnn B n lt_ s - s) 5 = rnn B n lt_ s - s by omega, m_wordOf, bsm]
        exact fin _ (by unfold wdl; rw [if_pos u])
      · rw [if_neg (by omega)]
        exact fin _ (by unfold wdl; rw [if_neg u, if_pos rfl])
    · rw [if_neg y1, if_pos rfl, m_isDigit, bsm]
      by_cases y2 : dg (B s) = true
      · rw [if_pos y2, if_neg (by decide)]
        have k0 : kd B n s = if rnn B n dg s ≤ s + 2 then 2 else 5 := by unfold kd; rw [if_neg y, if_neg y1, if_pos y2]
        have a0 : af B n s = rnn B n dg s := by unfold af; rw [if_neg y, if_neg y1, if_pos y2]
        have A6 : MA g (pwI H 417 6 0) := MA_w AH (by omega)
        obtain ⟨g2, r1, r2, r3, r4, r5⟩ := m_digits (K := fun h => if (wr ((pi h 417 3) - (pi h 417 4))) ≤ 2 then (some (pwI h 417 5 1)) else (some (pwI h 417 5 4))) (MB_MA c A6) (by rw [pi_wIi (by decide)]; exact e4) (by rw [pi_wIi (by decide)]; exact e3) pi_wIs (by omega) y2
        obtain ⟨o1, o2, o3, o4⟩ := rnn_ok (B := B) (n := n) (P := dg) (p := s) rfl
        have o2 := o2 s2
        rw [r1]
        rw [r3, r4, wr_eq (by omega) (by omega)]
        by_cases u : rnn B n dg s ≤ s + 2
        · rw [if_pos u] at k0
          rw [if_pos (by omega)]
          refine ⟨_, rfl, MA_w (MA_trans A6 r2) (by omega), MB_MA c (MA_w (MA_trans A6 r2) (by omega)), s2, by rw [pi_wIi (by decide)]; exact r4, by rw [pi_wIi (by decide), r3, a0], by rw [pi_wIs, k0]; rfl, fun k => ?_, fun k => by omega⟩
          rw [pi_wIi (by decide), r5]
          unfold vl
          rw [a0]
        · rw [if_neg u] at k0
          rw [if_neg (by omega)]
          exact ⟨_, rfl, MA_w (MA_trans A6 r2) (by omega), MB_MA c (MA_w (MA_trans A6 r2) (by omega)), s2, by rw [pi_wIi (by decide)]; exact r4, by rw [pi_wIi (by decide), r3, a0], by rw [pi_wIs, k0]; rfl, fun k => by omega, fun k => by omega⟩
      · have a0 : af B n s = s + 1 := by unfold af; rw [if_neg y, if_neg y1, if_neg y2]
        have k0 : kd B n s = if B s = 45 then 3 else (if B s = 59 then 4 else 5) := by unfold kd; rw [if_neg y, if_neg y1, if_neg y2]
        rw [if_neg y2, if_pos rfl, wr_eq (by omega) (by omega)]
        have done : ∀ v k, kd B n s = k → tkm k (wdl B n s) = v → k ≠ 2 → k ≠ 1 → ∃ g', some (pwI (pwI H 417 3 ((s : Int) + 1)) 417 5 v) = some g' ∧ MA g g' ∧ MT g' B n s := fun v k ek ev n2 n1 => ⟨_, rfl, MA_w (MA_w AH (by omega)) (by omega), MB_MA c (MA_w (MA_w AH (by omega)) (by omega)), s2, by rw [pi_wIi (by decide), pi_wIi (by decide)]; exact e4, by rw [pi_wIi (by decide), pi_wIs, a0]; omega, by rw [pi_wIs, ek, ev], fun u => by omega, fun u => by omega⟩
        by_cases y3 : B s = 59
        · rw [if_pos y3]
          exact done 2 4 (by rw [k0, if_neg (by omega), if_pos y3]) rfl (by decide) (by decide)
        · rw [if_neg y3]
          by_cases y4 : B s = 45
          · rw [if_pos y4]
            exact done 5 3 (by rw [k0, if_pos y4]) rfl (by decide) (by decide)
          · rw [if_neg y4]
            exact done 4 5 (by rw [k0, if_neg y4, if_neg y3]) rfl (by decide) (by decide)
end Te
