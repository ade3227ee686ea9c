/-! the reference: is there a way, the short way -/
section Mh
variable {h : pH} {l w : Nat} {L W wt sv : Nat → Int} {tk : Int} {d : Nat}
theorem pvz_c {p : Prop} : pvz (cif p 1 0) = cif p 1 0 := by
  by_cases q : p
  · rw [cif_t q]; decide
  · rw [cif_f q]; decide
theorem m_measures {to load mv each : Int} {X : Int → Prop} (M : MC h l w L W wt sv tk) (V : SV L (pi h 422) d) (hto : inr L to) (l0 : 0 ≤ load ∧ load ≤ 100000) (he : each = 0 ∨ each = 1) (hX : ∀ c : Nat, (c : Int) < ce L → (pi h 424 c = 0 ↔ ¬ X c)) : ∃ h', pf_M_measures to load mv each h = some h' ∧ fr (fun b => b = 417 ∨ b = 425 ∨ b = 426) h h' ∧ (∀ j, j ≠ 23 → j ≠ 24 → pi h' 417 j = pi h 417 j) ∧ MO h' L (opn L W (pi h 422) wt tk mv load X) ∧ MJ h' L (opn L W (pi h 422) wt tk mv load X) (byM W each) to ∧ ∀ a j : Nat, (a : Int) < ce L → j < 4 → rlx (pi h' 425) L (opn L W (pi h 422) wt tk mv load X) (byM W each) a j := by
  have kL := M.1.2.2.2.2.2.2.1
  have z : 4 ≤ ce L ∧ ce L ≤ 36 := sz_mul kL.1
  have hti := hto
  obtain ⟨to0, to1⟩ := hto
  unfold pf_M_measures
  refine lpf (F := fun n (c : Nat) t => pl_M_measures_13 to load mv each (fun h => ia_gd (pib to 36) (pl_M_measures_68 to load mv each (fun h => some h) fu_ (pi h 426 (Int.toNat to)) h)) n c t) (Q := fun r => ∃ h', r = some h' ∧ fr (fun b => b = 417 ∨ b = 425 ∨ b = 426) h h' ∧ (∀ j, j ≠ 23 → j ≠ 24 → pi h' 417 j = pi h 417 j) ∧ MO h' L (opn L W (pi h 422) wt tk mv load X) ∧ MJ h' L (opn L W (pi h 422) wt tk mv load X) (byM W each) to ∧ ∀ a j : Nat, (a : Int) < ce L → j < 4 → rlx (pi h' 425) L (opn L W (pi h 422) wt tk mv load X) (byM W each) a j) (ce L).toNat (fun c t => fr (fun b => b = 417 ∨ b = 425 ∨ b = 426) h t ∧ (∀ j, j ≠ 23 → j ≠ 24 → pi t 417 j = pi h 417 j) ∧ pi t 417 23 = load ∧ pi t 417 24 = mv ∧ ∀ a : Nat, a < c → pi t 425 a = (if (a : Int) = to then 0 else 1000000) ∧ pi t 426 a = cif (opn L W (pi h 422) wt tk mv load X a) 1 0) ?_ ?_ fu_ 0 _ (by omega) (by unfold fu_; omega) ⟨fr_wI (fr_wI fr_refl (Or.inl rfl)) (Or.inl rfl), fun j j1 j2 => by rw [pi_wIi j2, pi_wIi j1], by rw [pi_wIi (by decide), pi_wIs], pi_wIs, fun a ha => by omega⟩
  · intro n c t hc ⟨f, m7, t1, t2, g⟩
    right
    have M1 : MC t l w L W wt sv tk := MC_c M (fun j j1 j2 => m7 j (by omega) (by omega)) (fr_fi f (by omega))
    have e422 : pi t 422 = pi h 422 := fr_fi f (by omega)
    have main : ∀ v : Int, v = (if (c : Int) = to then 0 else 1000000) → ∃ t', pj_M_measures_40 to load mv each (pl_M_measures_13 to load mv each (fun h => ia_gd (pib to 36) (pl_M_measures_68 to load mv each (fun h => some h) fu_ (pi h 426 (Int.toNat to)) h)) n) (fun h => ia_gd (pib to 36) (pl_M_measures_68 to load mv each (fun h => some h) fu_ (pi h 426 (Int.toNat to)) h)) c 425 c v t = pl_M_measures_13 to load mv each (fun h => ia_gd (pib to 36) (pl_M_measures_68 to load mv each (fun h => some h) fu_ (pi h 426 (Int.toNat to)) h)) n (c + 1 : Nat) t' ∧ (fr (fun b => b = 417 ∨ b = 425 ∨ b = 426) h t' ∧ (∀ j, j ≠ 23 → j ≠ 24 → pi t' 417 j = pi h 417 j) ∧ pi t' 417 23 = load ∧ pi t' 417 24 = mv ∧ ∀ a : Nat, a < c + 1 → pi t' 425 a = (if (a : Int) = to then 0 else 1000000) ∧ pi t' 426 a = cif (opn L W (pi h 422) wt tk mv load X a) 1 0) := by
      intro v ev
      unfold pj_M_measures_40
      have f2 : fr (fun b => b = 417 ∨ b = 425 ∨ b = 426) h (pwI t 425 c v) := fr_wI f (Or.inr (Or.inl rfl))
      have M2 : MC (pwI t 425 c v) l w L W wt sv tk := MC_c M1 (fun j j1 j2 => pi_wIa (by decide)) (pi_wIf (by decide))
      have e2 : pi (pwI t 425 c v) 422 = pi h 422 := by rw [pi_wIf (by decide)]; exact e422
      have en := m_enters (c := c) (X := X) M2 (by rw [e2]; exact V) ⟨by omega, by omega⟩ (by rw [Int.toNat_natCast, pi_wIa (by decide), fr_i f (by omega)]; exact hX c (by omega)) (by rw [pi_wIa (by decide), t1]; exact l0)
      rw [e2, pi_wIa (by decide), pi_wIa (by decide), t1, t2] at en
      simp (disch := omega) only [gib, Int.toNat_natCast, wr_eq]
      rw [en, bsm, pvz_c]
      refine ⟨_, rfl, fr_wI f2 (Or.inr (Or.inr rfl)), fun j j1 j2 => by rw [pi_wIa (by decide), pi_wIa (by decide)]; exact m7 j j1 j2, by rw [pi_wIa (by decide), pi_wIa (by decide)]; exact t1, by rw [pi_wIa (by decide), pi_wIa (by decide)]; exact t2, fun a ha => ?_⟩
      by_cases q : a = c
      · rw [q, pi_wIa (by decide), pi_wIs, pi_wIs]; exact ⟨ev, rfl⟩
      · rw [pi_wIa (by decide), pi_wIi q, pi_wIi q, pi_wIa (by decide)]; exact g a (by omega)
    show ∃ t', pl_M_measures_13 to load mv each _ (n + 1) c t = pl_M_measures_13 to load mv each _ n (c + 1 : Nat) t' ∧ _
    rw [pl_M_measures_13, m_cells M1.1, bsm, if_neg (by omega)]
    by_cases q : (c : Int) = to
    · rw [if_pos q]; exact main 0 (by rw [if_pos q])
    · rw [if_neg q]; exact main 1000000 (by rw [if_neg q])
  · intro n t ⟨f, m7, t1, t2, g⟩
    have M1 : MC t l w L W wt sv tk := MC_c M (fun j j1 j2 => m7 j (by omega) (by omega)) (fr_fi f (by omega))
    have hO : MO t L (opn L W (pi h 422) wt tk mv load X) := fun a ha => by
      have := (g a (by omega)).2
      exact ⟨fun y => by rw [this, cif_t y], fun y => by rw [this, cif_f y]⟩
    have et : ((to.toNat : Nat) : Int) = to := by omega
    have gt := g to.toNat (by omega)
    rw [et, if_pos rfl] at gt
    have J : MJ t L (opn L W (pi h 422) wt tk mv load X) (byM W each) to := by
      refine ⟨gt.1, fun a ha => ?_, fun a ha hlt => ?_⟩
      · rw [(g a (by omega)).1]; split <;> omega
      · rw [(g a (by omega)).1] at hlt ⊢
        by_cases q : (a : Int) = to
        · rw [if_pos q]; exact ⟨0, q, rfl⟩
        · rw [if_neg q] at hlt; omega
    obtain ⟨h', p1, p2, p3, p4⟩ := m_ms_while (load := load) (mv := mv) (x := pi t 426 to.toNat) M1.1 hO hti he J (by
      by_cases q : opn L W (pi h 422) wt tk mv load X to
      · left; rw [gt.2, cif_t q]; omega
      · right
        intro a j ha hj b0 bo bl
        have bi : bs L a j < ce L := be_hi kL.1 (by omega) ha
        rw [(g (bs L a j).toNat (by omega)).1] at bl
        rw [show (((bs L a j).toNat : Nat) : Int) = bs L a j by omega] at bl
        by_cases q2 : bs L a j = to
        · rw [q2] at bo; exact absurd bo q
        · rw [if_neg q2] at bl; omega)
    refine ⟨h', ?_, fr_trans f (fr_mono p2 (fun b hb => Or.inr (Or.inl hb))), fun j j1 j2 => by rw [fr_i p2 (by decide)]; exact m7 j j1 j2, fun a ha => by rw [fr_i p2 (by decide)]; exact hO a ha, p3, p4⟩
    show pl_M_measures_13 to load mv each _ (n + 1) ((ce L).toNat : Nat) t = _
    rw [pl_M_measures_13, m_cells M1.1, bsm, if_pos (by omega), gib to0 (by omega)]
    exact p1
/-- the reference's row of steps -/
noncomputable def dsM (L W : Nat → Int) (O : Int → Prop) (to c : Int) : Int := if dst L W O to c < 0 then 1000000 else dst L W O to c
theorem MJ_dst {O : Int → Prop} {to : Int} (kL : LK L) (hto : inr L to) (J : MJ h L O (byM W 0) to) (R : ∀ a j : Nat, (a : Int) < ce L → j < 4 → rlx (pi h 425) L O (byM W 0) a j) (c : Nat) (hc : (c : Int) < ce L) : pi h 425 c = dsM L W O to c := by
  have key := dst_of (W := W) (O := O) (to := to) kL (D := fun c => pi h 425 c.toNat) (fun c => pi h 425 c.toNat < 1000000) ⟨by show pi h 425 to.toNat < 1000000; rw [J.1]; omega, J.1⟩ (fun c hc hs => by
    have b := J.2.1 c.toNat (by have := hc.1; have := hc.2; omega)
    obtain ⟨n, hn⟩ := J.2.2 c.toNat (by have := hc.1; have := hc.2; omega) hs
    rw [show ((c.toNat : Nat) : Int) = c by have := hc.1; omega] at hn
    obtain ⟨y1, y2⟩ := cwk_wk hn hs
    refine ⟨b.1, ?_⟩
    show wk L W O (pi h 425 c.toNat).toNat c to
    rw [y1, Int.toNat_natCast]
    exact y2) (fun c e hc he s hs hb => by
    obtain ⟨⟨s0, k, hk, ek⟩, s1, s2⟩ := s
    have c0 := hc.1
    have c1 := hc.2
    have r := R c.toNat k.toNat (by omega) (by unfold s4 at hk; omega)
    unfold rlx at r
    rw [show ((k.toNat : Nat) : Int) = k by unfold s4 at hk; omega, show ((c.toNat : Nat) : Int) = c by omega, ek] at r
    have r2 := r s0 s2 hs
    rw [show byM W 0 c e = 1 by unfold byM; rw [if_pos rfl, cif_f s1]] at r2
    have hb2 : pi h 425 e.toNat ≤ 35 := hb
    exact ⟨by show pi h 425 c.toNat < 1000000; omega, r2⟩) c ⟨by omega, hc⟩
  have b := J.2.1 c hc
  have k1 : pi h 425 c < 1000000 → dst L W O to c = pi h 425 c := by have := key.1; rw [Int.toNat_natCast] at this; exact this
  have k2 : ¬ pi h 425 c < 1000000 → dst L W O to c = -1 := by have := key.2; rw [Int.toNat_natCast] at this; exact this
  unfold dsM
  by_cases q : pi h 425 c < 1000000
  · rw [k1 q, if_neg (by omega)]
  · rw [k2 q, if_pos (by omega)]; omega
theorem dsM_r {O : Int → Prop} {to c : Int} (kL : LK L) (hc : inr L c) : 0 ≤ dsM L W O to c ∧ dsM L W O to c ≤ 1000000 := by
  have := dst_hi (W := W) (O := O) (to := to) kL hc
  unfold dsM
  split <;> omega
/-- one of two cells from which there is a way -/
def isw (L W : Nat → Int) (O : Int → Prop) (c to : Int) : Prop := c ≠ to ∧ 0 ≤ dst L W O to c
theorem m_isWay {c to load mv : Int} {X : Int → Prop} (M : MC h l w L W wt sv tk) (V : SV L (pi h 422) d) (hc : inr L c) (hto : inr L to) (l0 : 0 ≤ load ∧ load ≤ 100000) (hX : ∀ c : Nat, (c : Int) < ce L → (pi h 424 c = 0 ↔ ¬ X c)) : ∃ h', pf_M_isWay c to load mv h = some (cif (isw L W (opn L W (pi h 422) wt tk mv load X) c to) 1 0, h') ∧ fr (fun b => b = 417 ∨ b = 425 ∨ b = 426) h h' ∧ (∀ j, j ≠ 23 → j ≠ 24 → pi h' 417 j = pi h 417 j) ∧ (c ≠ to → MO h' L (opn L W (pi h 422) wt tk mv load X) ∧ ∀ a : Nat, (a : Int) < ce L → pi h' 425 a = dsM L W (opn L W (pi h 422) wt tk mv load X) to a) := by
  have kL := M.1.2.2.2.2.2.2.1
  have z : 4 ≤ ce L ∧ ce L ≤ 36 := sz_mul kL.1
  unfold pf_M_isWay
  by_cases q : c = to
  · refine ⟨h, by rw [if_pos q, cif_f (fun y => y.1 q)], fr_refl, fun _ _ _ => rfl, fun y => absurd q y⟩
  · rw [if_neg q]
    obtain ⟨h', p1, p2, p3, p4, p5, p6⟩ := m_measures (mv := mv) (each := 0) M V hto l0 (Or.inl rfl) hX
    have D := MJ_dst kL hto p5 p6
    refine ⟨h', ?_, p2, p3, fun _ => ⟨p4, D⟩⟩
    rw [p1, bsm, gib hc.1 (by have := hc.2; omega), D c.toNat (by have := hc.1; have := hc.2; omega), show ((c.toNat : Nat) : Int) = c by have := hc.1; omega]
    have hi := dst_hi (W := W) (O := opn L W (pi h 422) wt tk mv load X) (to := to) kL hc
    by_cases q2 : 0 ≤ dst L W (opn L W (pi h 422) wt tk mv load X) to c
    · unfold dsM
      rw [if_neg (show ¬ dst L W (opn L W (pi h 422) wt tk mv load X) to c < 0 by omega), if_neg (by omega), cif_t ⟨q, q2⟩]
    · unfold dsM
      rw [if_pos (show dst L W (opn L W (pi h 422) wt tk mv load X) to c < 0 by omega), if_pos (by omega), cif_f (fun y => q2 y.2)]
theorem m_sw_s {c0 to load : Int} {O : Int → Prop} {K : Int → pH → Option (Int × pH)} {c x k : Int} (k' : Int) {n : Nat} (M : MS h l w L W) (hO : MO h L O) (D : ∀ a : Nat, (a : Int) < ce L → pi h 425 a = dsM L W O to a) (hc : inr L c) (hd : 0 < dst L W O to c) (ek : k + -1 = k') (h0 : 0 ≤ k) (h3 : k < 4) : pl_M_shortWay_46 c0 to load K (n + 1) c x k h = pl_M_shortWay_46 c0 to load K n c (cif (ngd L W O to c k) (bs L c k) x) k' h := by
  subst ek
  have kL := M.2.2.2.2.2.2.1
  have z : 4 ≤ ce L ∧ ce L ≤ 36 := sz_mul kL.1
  have hci := hc
  obtain ⟨c0', c1⟩ := hc
  have b0 : -1 ≤ bs L c k ∧ bs L c k < ce L := ⟨be_lo kL.1 c0' c1, be_hi kL.1 c0' c1⟩
  have hl6 : l ≤ 6000 := by have := M.2.2.1; omega
  have dhi := dst_hi (W := W) (O := O) (to := to) kL hci
  rw [pl_M_shortWay_46, if_neg (by omega), M.1, m_beside hl6 M.2.2.2.2.1 kL.1 c0' (by omega), bsm, wr_eq (by omega) (by omega)]
  by_cases q1 : bs L c k < 0
  · rw [if_pos q1, cif_f (fun y => by have := y.1; omega)]
  · rw [if_neg q1]
    have eb : (((bs L c k).toNat : Nat) : Int) = bs L c k := by omega
    have ho := hO (bs L c k).toNat (by omega)
    rw [eb] at ho
    have dc := D c.toNat (by omega)
    rw [show ((c.toNat : Nat) : Int) = c by omega] at dc
    have db := D (bs L c k).toNat (by omega)
    rw [eb] at db
    have ec : dsM L W O to c = dst L W O to c := if_neg (by omega)
    simp (disch := omega) only [gib]
    by_cases q2 : O (bs L c k)
    · rw [if_neg (by have := ho.1 q2; omega)]
      obtain ⟨m, a1, a2, a3, a4⟩ := m_against (a := c) (b := bs L c k) M
      rw [a1, bsm]
      by_cases q3 : m = 0
      · rw [if_pos q3, dc, db, ec, wr_eq (by omega) (by omega)]
        have bhi := dst_hi (W := W) (O := O) (to := to) kL (c := bs L c k) ⟨by omega, b0.2⟩
        have blo := dst_lo (L := L) (W := W) (O := O) (to := to) (c := bs L c k)
        have iff : dsM L W O to (bs L c k) = dst L W O to c - 1 ↔ dst L W O to (bs L c k) = dst L W O to c - 1 := by
          unfold dsM
          split <;> omega
        by_cases q4 : dsM L W O to (bs L c k) = dst L W O to c - 1
        · rw [if_pos q4, cif_t ⟨by omega, q2, a4.mp q3, iff.mp q4⟩]
        · rw [if_neg q4, cif_f (fun y => q4 (iff.mpr y.2.2.2))]
      · rw [if_neg q3, cif_f (fun y => q3 (a4.mpr y.2.2.1))]
    · rw [if_pos (ho.2 q2), cif_f (fun y => q2 y.2.1)]
theorem nxt_m {O : Int → Prop} {to c : Int} (hd : 0 < dst L W O to c) : cif (ngd L W O to c 0) (bs L c 0) (cif (ngd L W O to c 1) (bs L c 1) (cif (ngd L W O to c 2) (bs L c 2) (cif (ngd L W O to c 3) (bs L c 3) (-1)))) = nxt L W O to c := by
  unfold nxt
  obtain ⟨k, hk, hn⟩ := ngd_ex hd
  by_cases q0 : ngd L W O to c 0
  · rw [cif_t q0, cif_t q0]
  · rw [cif_f q0, cif_f q0]
    by_cases q1 : ngd L W O to c 1
    · rw [cif_t q1, cif_t q1]
    · rw [cif_f q1, cif_f q1]
      by_cases q2 : ngd L W O to c 2
      · rw [cif_t q2, cif_t q2]
      · rw [cif_f q2, cif_f q2]
        have q3 : ngd L W O to c 3 := by
          rcases hk with rfl | rfl | rfl | rfl
          · exact absurd hn q0
          · exact absurd hn q1
          · exact absurd hn q2
          · exact hn
        rw [cif_t q3, cif_t q3]
theorem m_shortWay {c to load : Int} {X : Int → Prop} (M : MC h l w L W wt sv tk) (V : SV L (pi h 422) d) (hc : inr L c) (hto : inr L to) (l0 : 0 ≤ load ∧ load ≤ 100000) (hX : ∀ c : Nat, (c : Int) < ce L → (pi h 424 c = 0 ↔ ¬ X c)) : ∃ h', pf_M_shortWay c to load h = some (cif (isw L W (opn L W (pi h 422) wt tk (-1) load X) c to) 1 0, h') ∧ fr (fun b => b = 417 ∨ b = 425 ∨ b = 426 ∨ b = 427) h h' ∧ (∀ j, j ≠ 23 → j ≠ 24 → j ≠ 27 → pi h' 417 j = pi h 417 j) ∧ (¬ isw L W (opn L W (pi h 422) wt tk (-1) load X) c to → pi h' 417 27 = 0) ∧ (isw L W (opn L W (pi h 422) wt tk (-1) load X) c to → pi h' 417 27 = dst L W (opn L W (pi h 422) wt tk (-1) load X) to c + 1 ∧ ∀ i : Nat, (i : Int) ≤ dst L W (opn L W (pi h 422) wt tk (-1) load X) to c → pi h' 427 i = pth L W (opn L W (pi h 422) wt tk (-1) load X) to c i) := by
  have kL := M.1.2.2.2.2.2.2.1
  have z : 4 ≤ ce L ∧ ce L ≤ 36 := sz_mul kL.1
  have M1 : MC (pwI h 417 27 0) l w L W wt sv tk := MC_c M (fun j _ _ => pi_wIi (by omega)) (pi_wIf (by decide))
  have e1 : pi (pwI h 417 27 0) 422 = pi h 422 := pi_wIf (by decide)
  obtain ⟨h1, p1, p2, p3, p4⟩ := m_isWay (mv := -1) M1 (by rw [e1]; exact V) hc hto l0 (fun c hc => by rw [pi_wIa (by decide)]; exact hX c hc)
  rw [e1] at p1 p4
  have f1 : fr (fun b => b = 417 ∨ b = 425 ∨ b = 426 ∨ b = 427) h h1 := fr_trans (fr_wI fr_refl (Or.inl rfl)) (fr_mono p2 (fun b hb => by omega))
  have g1 : ∀ j, j ≠ 23 → j ≠ 24 → j ≠ 27 → pi h1 417 j = pi h 417 j := fun j a b c => by rw [p3 j a b, pi_wIi c]
  unfold pf_M_shortWay
  rw [p1, bsm]
  generalize opn L W (pi h 422) wt tk (-1) load X = O at *
  by_cases q : isw L W O c to
  · rw [cif_t q]
    simp only []
    rw [if_neg (by decide)]
    obtain ⟨hO, D⟩ := p4 q.1
    have dhi := dst_hi (W := W) (O := O) (to := to) kL hc
    have d0 := q.2
    have m1 : MS h1 l w L W := MS_c M.1 (fun j _ _ => g1 j (by omega) (by omega) (by omega)) (fr_fi f1 (by omega))
    refine lpf (F := fun n (i : Nat) t => pl_M_shortWay_34 c to load (fun h => some (1, h)) n (pth L W O to c i) t) (Q := fun r => ∃ h', r = some (1, h') ∧ fr (fun b => b = 417 ∨ b = 425 ∨ b = 426 ∨ b = 427) h h' ∧ (∀ j, j ≠ 23 → j ≠ 24 → j ≠ 27 → pi h' 417 j = pi h 417 j) ∧ (¬ isw L W O c to → pi h' 417 27 = 0) ∧ (isw L W O c to → pi h' 417 27 = dst L W O to c + 1 ∧ ∀ i : Nat, (i : Int) ≤ dst L W O to c → pi h' 427 i = pth L W O to c i)) (dst L W O to c).toNat (fun i t => fr (fun b => b = 417 ∨ b = 427) h1 t ∧ (∀ j, j ≠ 27 → pi t 417 j = pi h1 417 j) ∧ pi t 417 27 = i + 1 ∧ ∀ j : Nat, j ≤ i → pi t 427 j = pth L W O to c j) ?_ ?_ fu_ 0 _ (by omega) (by unfold fu_; omega) ⟨fr_wI (fr_wI fr_refl (Or.inr rfl)) (Or.inl rfl), fun j hj => by rw [pi_wIi hj, pi_wIa (by decide)], pi_wIs, fun j hj => by rw [show j = 0 by omega, pi_wIa (by decide), pi_wIs]; rfl⟩
    · intro n i t hi ⟨f, g, t27, tp⟩
      right
      obtain ⟨pi1, pi2⟩ := pth_in (W := W) (O := O) (to := to) kL hc (i := i) (by omega)
      have mt : MS t l w L W := MS_c m1 (fun j _ _ => g j (by omega)) (fr_fi f (by omega))
      have hOt : MO t L O := fun a ha => by rw [fr_i f (by omega)]; exact hO a ha
      have Dt : ∀ a : Nat, (a : Int) < ce L → pi t 425 a = dsM L W O to a := fun a ha => by rw [fr_i f (by omega)]; exact D a ha
      have ne : pth L W O to c i ≠ to := fun y => by rw [y, dst_to] at pi2; omega
      have dp : 0 < dst L W O to (pth L W O to c i) := by omega
      show ∃ t', pl_M_shortWay_34 c to load _ (n + 1) (pth L W O to c i) t = pl_M_shortWay_34 c to load _ n (pth L W O to c (i + 1)) t' ∧ _
      rw [pl_M_shortWay_34, if_neg ne, fu5, m_sw_s (k := 3) 2 mt hOt Dt pi1 dp (by decide) (by omega) (by omega), m_sw_s (k := 2) 1 mt hOt Dt pi1 dp (by decide) (by omega) (by omega), m_sw_s (k := 1) 0 mt hOt Dt pi1 dp (by decide) (by omega) (by omega), m_sw_s (k := 0) (-1) mt hOt Dt pi1 dp (by decide) (by omega) (by omega), pl_M_shortWay_46, if_pos (by omega), nxt_m dp, t27, gib (by omega) (by omega), pi_wIa (by decide), t27, wr_eq (by omega) (by omega), show ((i : Int) + 1).toNat = i + 1 by omega]
      refine ⟨_, rfl, fr_wI (fr_wI f (Or.inr rfl)) (Or.inl rfl), fun j hj => by rw [pi_wIi hj, pi_wIa (by decide)]; exact g j hj, by rw [pi_wIs]; omega, fun j hj => ?_⟩
      rw [pi_wIa (by decide)]
      by_cases y : j = i + 1
      · rw [y, pi_wIs]; rfl
      · rw [pi_wIi y]; exact tp j (by omega)
    · intro n t ⟨f, g, t27, tp⟩
      obtain ⟨pi1, pi2⟩ := pth_in (W := W) (O := O) (to := to) kL hc (i := (dst L W O to c).toNat) (by omega)
      have eq : pth L W O to c (dst L W O to c).toNat = to := dst_z (by rw [pi2]; omega)
      refine ⟨t, ?_, fr_trans f1 (fr_mono f (fun b hb => by omega)), fun j a b c => by rw [g j c]; exact g1 j a b c, fun y => absurd q y, fun _ => ⟨by rw [t27]; omega, fun i hi => tp i (by omega)⟩⟩
      show pl_M_shortWay_34 c to load _ (n + 1) (pth L W O to c (dst L W O to c).toNat) t = _
      rw [pl_M_shortWay_34, if_pos eq]
  · refine ⟨h1, by rw [cif_f q]; rfl, f1, g1, fun _ => ?_, fun y => absurd y q⟩
    rw [p3 27 (by decide) (by decide), pi_wIs]
end Mh
