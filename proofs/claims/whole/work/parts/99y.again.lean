/-! what is told hangs on the first ints alone -/
theorem LK_ext {L T : Nat → Int} (e : ∀ j, j < 260 → T j = L j) (k : LK L) : LK T := by
  obtain ⟨k0, k1, k2, k3, k4, k5, k6, k7, k8, k9, k10⟩ := k
  refine ⟨by rw [e 0 (by omega), e 1 (by omega)]; exact k0, by rw [e 2 (by omega)]; exact k1, by rw [e 3 (by omega)]; exact k2, by rw [e 4 (by omega)]; exact k3, fun c hc => by rw [e _ (by omega)]; exact k4 c hc, fun c hc => by rw [e _ (by omega)]; exact k5 c hc, fun c hc => by rw [e _ (by omega)]; exact k6 c hc, fun c hc => by rw [e _ (by omega)]; exact k7 c hc, fun c hc => by rw [e _ (by omega)]; exact k8 c hc, fun s hs => ?_, fun s t hs ht => ?_⟩
  · rw [e 4 (by omega)] at hs
    rw [e (236 + 4 * s) (by omega), e (237 + 4 * s) (by omega), e (238 + 4 * s) (by omega), e (239 + 4 * s) (by omega), e 0 (by omega), e 1 (by omega)]
    exact k9 s hs
  · rw [e 4 (by omega)] at ht
    rw [e (236 + 4 * s) (by omega), e (236 + 4 * t) (by omega)]
    exact k10 s t hs ht
theorem ixc_lt {L : Nat → Int} (hz : sz (L 0) (L 1)) {c s : Int} (c0 : 0 ≤ c) (c1 : c < ce L) : ixc L c s < 260 := by
  have z : 4 ≤ ce L ∧ ce L ≤ 36 := sz_mul hz
  have b0 : bs L c 0 < ce L := be_hi hz c0 c1
  have b1 : bs L c 1 < ce L := be_hi hz c0 c1
  unfold ixc
  repeat' split
  all_goals omega
theorem LR_ext {h : pH} {p : Nat} {L T : Nat → Int} (e : ∀ j, j < 260 → T j = L j) (kL : LK L) (k : LR h p L) : LR h p T := by
  have z : 4 ≤ ce L ∧ ce L ≤ 36 := sz_mul kL.1
  have n6 := NS_le kL
  have l3 := kL.2.2.1
  have ec : ce T = ce L := by unfold ce; rw [e 0 (by omega), e 1 (by omega)]
  have en : NS T = NS L := by unfold NS; rw [e 4 (by omega)]
  have eb : ∀ c s, bs T c s = bs L c s := fun c s => by unfold bs; rw [e 0 (by omega), e 1 (by omega)]
  have ei : ∀ c s, ixc T c s = ixc L c s := fun c s => by unfold ixc; rw [eb, eb]
  obtain ⟨⟨r0, r1, r2, r3, r4⟩, r5, r6, r7, r8, r9, r10⟩ := k
  refine ⟨⟨by rw [e _ (by omega)]; exact r0, by rw [e _ (by omega)]; exact r1, by rw [e _ (by omega)]; exact r2, by rw [e _ (by omega)]; exact r3, by rw [e _ (by omega)]; exact r4⟩, fun c hc => by rw [e _ (by omega), e _ (by omega), e _ (by omega)]; exact r5 c hc, fun k hk => ?_, fun s hs => ?_, fun c k hc hk => ?_, fun c hc => ?_, fun c d hc hd => ?_⟩
  · rw [e 3 (by omega)] at hk
    rw [e _ (by omega)]
    exact r6 k hk
  · rw [en] at hs
    rw [e (236 + 4 * s) (by omega), e (237 + 4 * s) (by omega), e (238 + 4 * s) (by omega), e (239 + 4 * s) (by omega)]
    exact r7 s hs
  · rw [ec] at hc
    have en2 : nr T c k = nr L c k := by rw [nr_def, nr_def, eb, ei, e _ (ixc_lt kL.1 (by omega) hc)]
    rw [eb, en2]
    exact r8 c k hc hk
  · rw [ec] at hc
    rw [e _ (by omega)]
    exact r9 c hc
  · rw [ec] at hc
    have ek : ∀ s, ck T c s ↔ ck L c s := fun s => by
      show T (ixc T c s) = 1 ↔ L (ixc L c s) = 1
      rw [ei, e _ (ixc_lt kL.1 (by omega) hc)]
    simp only [eb, ek]
    exact r10 c d hc hd
theorem WK_ext {W T : Nat → Int} (e : ∀ j, j < 68 → T j = W j) (k : WK W) : WK T := by
  obtain ⟨k0, k1, k2, k3, k4, k5, k6⟩ := k
  refine ⟨by rw [e _ (by omega)]; exact k0, by rw [e _ (by omega)]; exact k1, by rw [e _ (by omega)]; exact k2, by rw [e _ (by omega)]; exact k3, by rw [e _ (by omega)]; exact k4, fun s hs => ?_, fun c hc => by rw [e _ (by omega)]; exact k6 c hc⟩
  rw [e 4 (by omega)] at hs
  rw [e (6 + 2 * s) (by omega), e (7 + 2 * s) (by omega)]
  exact k5 s hs
theorem WR_ext {h : pH} {p : Nat} {W T : Nat → Int} (e : ∀ j, j < 68 → T j = W j) (kW : WK W) (k : WR h p W) : WR h p T := by
  have w4 := kW.2.2.2.2.1
  obtain ⟨⟨r0, r1, r2, r3, r4⟩, r5, r6, r7⟩ := k
  refine ⟨⟨by rw [e _ (by omega)]; exact r0, by rw [e _ (by omega)]; exact r1, by rw [e _ (by omega)]; exact r2, by rw [e _ (by omega)]; exact r3, by rw [e _ (by omega)]; exact r4⟩, fun k hk => ?_, fun c hc => by rw [e _ (by omega)]; exact r6 c hc, fun c d hc hd => (r7 c d hc hd).trans ⟨fun ⟨k, a, b, g⟩ => ?_, fun ⟨k, a, b, g⟩ => ?_⟩⟩
  · rw [e 4 (by omega)] at hk
    rw [e (6 + 2 * k) (by omega), e (7 + 2 * k) (by omega)]
    exact r5 k hk
  · exact ⟨k, by rw [e 4 (by omega)]; exact a, by rw [e _ (by omega)]; exact b, by rw [e _ (by omega)]; exact g⟩
  · rw [e 4 (by omega)] at a
    rw [e _ (by omega)] at b g
    exact ⟨k, a, b, g⟩
theorem PK_ext {P T : Nat → Int} (e : ∀ j, j < 122 → T j = P j) (k : PK P) : PK T := by
  obtain ⟨k0, k1⟩ := k
  refine ⟨by rw [e _ (by omega)]; exact k0, fun k hk => ?_⟩
  rw [e 0 (by omega)] at hk
  rw [e (1 + 4 * k) (by omega), e (2 + 4 * k) (by omega), e (3 + 4 * k) (by omega), e (4 + 4 * k) (by omega)]
  exact k1 k hk
theorem PR_ext {h : pH} {r : Nat} {P T : Nat → Int} (e : ∀ j, j < 122 → T j = P j) (kP : PK P) (k : PR h r P) : PR h r T := by
  have p0 := kP.1
  refine ⟨by rw [e _ (by omega)]; exact k.1, fun i hi => ?_⟩
  rw [e 0 (by omega)] at hi
  rw [e (1 + 4 * i) (by omega), e (2 + 4 * i) (by omega), e (3 + 4 * i) (by omega), e (4 + 4 * i) (by omega)]
  exact k.2 i hi
theorem TR_ext {h : pH} {t : Nat} {A T : Nat → Int} (e : ∀ j, j < 1632 → T j = A j) (R : TR h t A) : TR h t T := by
  obtain ⟨a0, a1, ⟨a2, a3⟩, a4, a5, a6, a7⟩ := R
  have e0 := e 0 (by omega)
  have e1 := e 1 (by omega)
  have e2 := e 2 (by omega)
  have e3 := e 3 (by omega)
  have e4 := e 4 (by omega)
  have e5 := e 5 (by omega)
  refine ⟨by rw [e0, e1, e2]; exact a0, by rw [e0, e1, e2]; exact a1, ⟨by rw [e3, e4, e5]; exact a2, by rw [e3]; exact a3⟩, fun i hi => ?_, fun i hi => ?_, fun i hi => ?_, fun i hi => ?_⟩
  · rw [e3] at hi
    rw [e _ (by omega)]
    exact a4 i hi
  · rw [e0] at hi
    have q : ∀ j, j < 260 → lk T i j = lk A i j := fun j hj => e _ (by omega)
    exact ⟨LR_ext q (a5 i hi).2 (a5 i hi).1, LK_ext q (a5 i hi).2⟩
  · rw [e1] at hi
    have q : ∀ j, j < 68 → lw T i j = lw A i j := fun j hj => e _ (by omega)
    exact ⟨WR_ext q (a6 i hi).2 (a6 i hi).1, WK_ext q (a6 i hi).2⟩
  · rw [e2] at hi
    have q : ∀ j, j < 122 → pn T i j = pn A i j := fun j hj => e _ (by omega)
    exact ⟨PR_ext q (a7 i hi).2 (a7 i hi).1, PK_ext q (a7 i hi).2⟩
/-! the reference's copies -/
theorem m_image_l {x : Nat} (hx : x < 3) {h : pH} : ∃ h', pl_M_image_20 x (fun h => some (1, h)) fu_ 0 h = some (1, h') ∧ fr (fun b => b = 418) h h' ∧ ∀ j, pi h' 418 j = if 1632 * (x + 1) ≤ j ∧ j < 1632 * (x + 1) + 1632 then pi h 418 (j - 1632 * (x + 1)) else pi h 418 j := by
  refine lpf (F := fun n (i : Nat) t => pl_M_image_20 x (fun h => some (1, h)) n i t) (Q := fun r => ∃ h', r = some (1, h') ∧ fr (fun b => b = 418) h h' ∧ ∀ j, pi h' 418 j = if 1632 * (x + 1) ≤ j ∧ j < 1632 * (x + 1) + 1632 then pi h 418 (j - 1632 * (x + 1)) else pi h 418 j) 1632 (fun i t => fr (fun b => b = 418) h t ∧ ∀ j, pi t 418 j = if 1632 * (x + 1) ≤ j ∧ j < 1632 * (x + 1) + i then pi h 418 (j - 1632 * (x + 1)) else pi h 418 j) ?_ ?_ fu_ 0 h (by omega) (by unfold fu_; omega) ⟨fr_refl, fun j => by rw [if_neg (by omega)]⟩
  · intro n i t hi ⟨f, g⟩
    right
    refine ⟨pwI t 418 (1632 * (x + 1) + i) (pi t 418 i), ?_, fr_wI f rfl, fun j => ?_⟩
    · show pl_M_image_20 x _ (n + 1) i t = pl_M_image_20 x _ n (i + 1 : Nat) _
      rw [pl_M_image_20, if_neg (by omega), wr_eq (x := (x : Int) + 1) (by omega) (by omega), wr_eq (x := 1632 * ((x : Int) + 1)) (by omega) (by omega), wr_eq (x := 1632 * ((x : Int) + 1) + (i : Int)) (by omega) (by omega), wr_eq (x := (i : Int) + 1) (by omega) (by omega), gib (by omega) (by omega), gib (by omega) (by omega), Int.toNat_natCast, show (1632 * ((x : Int) + 1) + (i : Int)).toNat = 1632 * (x + 1) + i by omega]
      rfl
    · by_cases y : j = 1632 * (x + 1) + i
      · rw [y, pi_wIs, if_pos (by omega), g i, if_neg (by omega)]
        exact congrArg _ (by omega)
      · rw [pi_wIi y, g j]
        by_cases v : 1632 * (x + 1) ≤ j ∧ j < 1632 * (x + 1) + i
        · rw [if_pos v, if_pos (by omega)]
        · rw [if_neg v, if_neg (by omega)]
  · intro n t ⟨f, g⟩
    refine ⟨t, ?_, f, g⟩
    show pl_M_image_20 x _ (n + 1) (1632 : Nat) t = some (1, t)
    rw [pl_M_image_20, if_pos (by decide)]
theorem m_again_l {x : Nat} (hx : x < 3) {h : pH} : ∃ h', pl_M_again_22 x (fun h => some (1, h)) fu_ 0 h = some (1, h') ∧ fr (fun b => b = 418) h h' ∧ ∀ j, pi h' 418 j = if j < 1632 then pi h 418 (1632 * (x + 1) + j) else pi h 418 j := by
  refine lpf (F := fun n (i : Nat) t => pl_M_again_22 x (fun h => some (1, h)) n i t) (Q := fun r => ∃ h', r = some (1, h') ∧ fr (fun b => b = 418) h h' ∧ ∀ j, pi h' 418 j = if j < 1632 then pi h 418 (1632 * (x + 1) + j) else pi h 418 j) 1632 (fun i t => fr (fun b => b = 418) h t ∧ ∀ j, pi t 418 j = if j < i then pi h 418 (1632 * (x + 1) + j) else pi h 418 j) ?_ ?_ fu_ 0 h (by omega) (by unfold fu_; omega) ⟨fr_refl, fun j => by rw [if_neg (by omega)]⟩
  · intro n i t hi ⟨f, g⟩
    right
    refine ⟨pwI t 418 i (pi t 418 (1632 * (x + 1) + i)), ?_, fr_wI f rfl, fun j => ?_⟩
    · show pl_M_again_22 x _ (n + 1) i t = pl_M_again_22 x _ n (i + 1 : Nat) _
      rw [pl_M_again_22, if_neg (by omega), wr_eq (x := (x : Int) + 1) (by omega) (by omega), wr_eq (x := 1632 * ((x : Int) + 1)) (by omega) (by omega), wr_eq (x := 1632 * ((x : Int) + 1) + (i : Int)) (by omega) (by omega), wr_eq (x := (i : Int) + 1) (by omega) (by omega), gib (by omega) (by omega), gib (by omega) (by omega), Int.toNat_natCast, show (1632 * ((x : Int) + 1) + (i : Int)).toNat = 1632 * (x + 1) + i by omega]
      rfl
    · by_cases y : j = i
      · rw [y, pi_wIs, if_pos (by omega), g _, if_neg (by omega)]
      · rw [pi_wIi y, g j]
        by_cases v : j < i
        · rw [if_pos v, if_pos (by omega)]
        · rw [if_neg v, if_neg (by omega)]
  · intro n t ⟨f, g⟩
    refine ⟨t, ?_, f, g⟩
    show pl_M_again_22 x _ (n + 1) (1632 : Nat) t = some (1, t)
    rw [pl_M_again_22, if_pos (by decide)]
theorem pvz1 : pvz 1 = 1 := by decide
theorem p_image {x : Int} : keeps (pf_I_image x) (pf_M_image x) := by
  intro h I
  unfold pf_I_image pf_M_image
  rw [pvz1]
  by_cases q : 0 ≤ x ∧ x < 3
  · obtain ⟨k, rfl⟩ : ∃ k : Nat, x = k := ⟨x.toNat, by omega⟩
    have hk : k < 3 := by omega
    obtain ⟨R, mi, im⟩ := I
    obtain ⟨h1, p1, p2, p3⟩ := c_ToB (a := 119 + 53 * k) R (by omega)
    have e1 : (118 + 1) + 53 * Int.toNat (k : Int) = 119 + 53 * k := by omega
    rw [if_neg (by omega), if_pos (by omega), gib (by omega) (by omega), e1, p1, bsm, gib (by omega) (by omega), Int.toNat_natCast]
    obtain ⟨h2, r1, r2, r3⟩ := m_image_l (x := k) hk (h := pwI (pwI h1 278 k 1) 419 k 1)
    refine ⟨1, pwI h1 278 k 1, h2, rfl, ?_, ?_⟩
    · rw [m_isIn, bsm, if1, if_pos (by omega), gib (by omega) (by omega), r1]
    · have f : fr (fun b => (119 + 53 * k ≤ b ∧ b ≤ 119 + 53 * k + 52) ∨ b = 278 ∨ b = 419 ∨ b = 418) h h2 := fr_trans (fr_wI (fr_wI (fr_mono p2 (fun b hb => Or.inl hb)) (by omega)) (by omega)) (fr_mono r2 (fun b hb => by omega))
      have f2 : fr (fun b => b = 278 ∨ b = 419 ∨ b = 418) h1 h2 := fr_trans (fr_wI (fr_wI fr_refl (by omega)) (by omega)) (fr_mono r2 (fun b hb => by omega))
      have e18 : pi h1 418 = pi h 418 := fr_fi p2 (by omega)
      have r3' : ∀ j, pi h2 418 j = if 1632 * (k + 1) ≤ j ∧ j < 1632 * (k + 1) + 1632 then pi h 418 (j - 1632 * (k + 1)) else pi h 418 j := fun j => by
        rw [r3 j]
        simp (disch := omega) only [pi_wIa, e18]
      refine ⟨TR_ext (A := pi h 418) (fun j hj => by rw [r3' j, if_neg (by omega)]) (TR_fr R f (fun i hi y => by omega)), ?_, fun i hi => ?_⟩
      · unfold MI at *
        rw [fr_fi f (by omega), fr_fi f (by omega)]
        exact mi
      · have e7 : pi h2 278 i = if i = k then 1 else pi h 278 i := by
          rw [fr_i r2 (by omega), pi_wIa (by decide)]
          by_cases y : i = k
          · rw [if_pos y, y, pi_wIs]
          · rw [if_neg y, pi_wIi y, fr_i p2 (by omega)]
        have e9 : pi h2 419 i = if i = k then 1 else pi h 419 i := by
          rw [fr_i r2 (by omega)]
          by_cases y : i = k
          · rw [if_pos y, y, pi_wIs]
          · rw [if_neg y, pi_wIi y, pi_wIa (by decide), fr_i p2 (by omega)]
        rw [e7, e9]
        by_cases y : i = k
        · rw [if_pos y, if_pos y, y]
          refine ⟨Or.inr rfl, rfl, fun _ => TR_ext (A := pi h 418) (fun j hj => ?_) (TR_fr p3 f2 (fun i hi y => by omega))⟩
          rw [r3' _, if_pos (by omega)]
          exact congrArg _ (by omega)
        · obtain ⟨c1, c2, c3⟩ := im i hi
          rw [if_neg y, if_neg y]
          refine ⟨c1, c2, fun v => TR_ext (fun j hj => ?_) (TR_fr (c3 v) f (fun i hi y => by omega))⟩
          rw [r3' _, if_neg (by omega)]
  · refine ⟨0, h, h, ?_, ?_, I⟩
    · by_cases y : x < 0
      · rw [if_pos y]
      · rw [if_neg y, if_neg (by omega)]
    · rw [m_isIn, bsm, if1, if_neg (by omega)]
theorem p_again {x : Int} : keeps (pf_I_again x) (pf_M_again x) := by
  intro h I
  unfold pf_I_again pf_M_again
  by_cases q : 0 ≤ x ∧ x < 3
  · obtain ⟨k, rfl⟩ : ∃ k : Nat, x = k := ⟨x.toNat, by omega⟩
    have hk : k < 3 := by omega
    obtain ⟨d1, d2, d3⟩ := I.2.2 k hk
    rw [if_neg (by omega), if_neg (by omega), gib (by omega) (by omega), Int.toNat_natCast]
    by_cases t0 : pi h 278 k = 0
    · refine ⟨0, h, h, by rw [if_pos t0], ?_, I⟩
      rw [m_isIn, bsm, if1, if_pos (by omega), gib (by omega) (by omega), d2, if_pos t0]
    · have t1 : pi h 278 k = 1 := by omega
      obtain ⟨h1, p1, p2, p3⟩ := c_ToB (a := 65) (d3 t1) (by omega)
      have e1 : (118 + 1) + 53 * k = 119 + 53 * k := by omega
      rw [if_neg t0, gib (by omega) (by omega), e1, p1, bsm]
      obtain ⟨h2, r1, r2, r3⟩ := m_again_l (x := k) hk (h := h1)
      refine ⟨1, h1, h2, rfl, ?_, ?_⟩
      · rw [m_isIn, bsm, if1, if_pos (by omega), gib (by omega) (by omega), fr_i p2 (by omega), d2, if_neg t0, r1]
      · obtain ⟨R, mi, im⟩ := I
        have f : fr (fun b => (65 ≤ b ∧ b ≤ 65 + 52) ∨ b = 418) h h2 := fr_trans (fr_mono p2 (fun b hb => Or.inl hb)) (fr_mono r2 (fun b hb => by omega))
        have e18 : pi h1 418 = pi h 418 := fr_fi p2 (by omega)
        refine ⟨TR_ext (A := fun j => pi h 418 (1632 * (k + 1) + j)) (fun j hj => by rw [r3 j, if_pos (by omega), e18]) (TR_fr p3 r2 (fun i hi y => by omega)), ?_, fun i hi => ?_⟩
        · unfold MI at *
          rw [fr_fi f (by omega), fr_fi f (by omega)]
          exact mi
        · obtain ⟨c1, c2, c3⟩ := im i hi
          rw [fr_i f (by omega), fr_i f (by omega)]
          refine ⟨c1, c2, fun v => TR_ext (fun j hj => ?_) (TR_fr (c3 v) f (fun i hi y => by omega))⟩
          rw [r3 _, if_neg (by omega), e18]
  · refine ⟨0, h, h, ?_, ?_, I⟩
    · by_cases y : x < 0
      · rw [if_pos y]
      · rw [if_neg y, if_pos (by omega)]
    · rw [m_isIn, bsm, if1, if_neg (by omega)]
