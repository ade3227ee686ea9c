/-! hearth -/
theorem fnd_app {p : Nat → Bool} : ∀ {m i : Nat}, fnd p i (m + 1) = if 0 ≤ fnd p i m then fnd p i m else (if p (i + m) = true then ((i + m : Nat) : Int) else -1)
  | 0, i => by rw [fnd, fnd]; rfl
  | m + 1, i => by
    have e := fnd_app (p := p) (m := m) (i := i + 1)
    rw [fnd, e]
    have e2 : fnd p i (m + 1) = if p i = true then (i : Int) else fnd p (i + 1) m := rfl
    rw [e2, show i + 1 + m = i + (m + 1) by omega]
    by_cases q : p i = true
    · rw [if_pos q, if_pos q, if_pos (by omega)]
    · rw [if_neg q, if_neg q]
section Dn
variable {h : pH} {a p q l w : Nat} {L W wt sv S T : Nat → Int} {u : Bool} {d d' : Nat} {tk : Int}
/-- as far as d days show it -/
noncomputable def hfd (L W wt sv : Nat → Int) (s : Nat) (S : Nat → Int) (m : Nat) : Int := if hlf L W wt sv s S 0 m < 0 then (m : Int) else hlf L W wt sv s S 0 m
theorem hfd_s {s m : Nat} (kL : LK L) (kW : WK W) (V : SV L S d) (hs : s < 6) : hfd L W wt sv s S (m + 1) = if adn L W wt sv m S (72 + s) < 0 then hfd L W wt sv s S m else ((m : Int) + 1) := by
  have e : hlf L W wt sv s S 0 (m + 1) = if 0 ≤ hlf L W wt sv s S 0 m then hlf L W wt sv s S 0 m else (if dc (adn L W wt sv m S (72 + s) < 0) = true then ((0 + m : Nat) : Int) else -1) := by
    have := fnd_app (p := fun j => dc (adn L W wt sv j S (72 + s) < 0)) (m := m) (i := 0)
    rw [show 0 + m = m by omega] at this ⊢
    exact this
  unfold hfd
  rw [e]
  by_cases q1 : 0 ≤ hlf L W wt sv s S 0 m
  · have q2 : adn L W wt sv m S (72 + s) < 0 := by
      have t := fnd_t (p := fun j => dc (adn L W wt sv j S (72 + s) < 0)) (m := m) (i := 0) q1
      have r := fnd_r (p := fun j => dc (adn L W wt sv j S (72 + s) < 0)) (m := m) (i := 0)
      have t2 : adn L W wt sv (hlf L W wt sv s S 0 m).toNat S (72 + s) < 0 := Classical.byContradiction fun v => by
        have : dc (adn L W wt sv (hlf L W wt sv s S 0 m).toNat S (72 + s) < 0) = true := t
        rw [dc_f v] at this; exact absurd this (by decide)
      refine adn_offm kL kW V hs ?_ t2
      have : hlf L W wt sv s S 0 m = fnd (fun j => dc (adn L W wt sv j S (72 + s) < 0)) 0 m := rfl
      rcases r with r | r <;> omega
    rw [if_pos q1, if_pos q2, if_neg (by omega), if_neg (by omega)]
  · rw [if_neg q1]
    by_cases q2 : adn L W wt sv m S (72 + s) < 0
    · rw [dc_t q2, if_pos rfl, if_pos q2, if_neg (by omega), if_pos (by omega)]
      omega
    · rw [dc_f q2, if_neg (show ¬ (false = true) by decide), if_pos (show (-1 : Int) < 0 by decide), if_neg q2]
      omega
theorem hfd_61 {s : Nat} : hfd L W wt sv s S 61 = hld L W wt sv s S := rfl
theorem hfd_0 {s : Nat} : hfd L W wt sv s S 0 = 0 := rfl
theorem hfd_r {s m : Nat} : 0 ≤ hfd L W wt sv s S m ∧ hfd L W wt sv s S m ≤ m := by
  have r := fnd_r (p := fun j => dc (adn L W wt sv j S (72 + s) < 0)) (m := m) (i := 0)
  have e : hlf L W wt sv s S 0 m = fnd (fun j => dc (adn L W wt sv j S (72 + s) < 0)) 0 m := rfl
  unfold hfd
  split
  · omega
  · rcases r with r | r <;> omega
theorem c_record {b : Nat} (hW : WS L wt sv) (C : CX h p q L W) (K : SC h a p q L W wt sv u S) (V : SV L S d) (hd : d ≤ 900) (ha : a + 7 < 329 ∨ 336 < a) (hb : b = 327 ∨ b = 328) : ∃ h', pf_Ou_recordHeld a b h = some h' ∧ fr (fun c => c = b ∨ SF 329 c) h h' ∧ ∀ s, s < NS L → pi h' b s = hld L W wt sv s S := by
  have kL := C.2.2.1
  have kW := C.2.2.2.1
  have n6 := NS_le kL
  have en := NS_eq kL
  obtain ⟨h1, b1, b2, b3⟩ := c_become (a := 329) K kL (by omega) (by omega)
  have kb : (kd_D b).2 = 6 := by rcases hb with rfl | rfl <;> decide +kernel
  obtain ⟨h2, f1, f2, f3⟩ := c_fill (a := b) (N := 6) (v := 0) (h := h1) kb (by omega)
  unfold pf_Ou_recordHeld
  rw [b1, bsm, f1, bsm]
  have nsf : ∀ i, i ≤ 7 → b ≠ 329 + i := fun i hi => by omega
  have K2 : SC h2 329 p q L W wt sv true S := SC_fr (SC_true b3) f2 (fun c hc => by omega)
  refine lpf (F := fun n (i : Nat) t => pl_Ou_recordHeld_15 a b (fun h => some h) n i t) (Q := fun rr => ∃ h', rr = some h' ∧ fr (fun c => c = b ∨ SF 329 c) h h' ∧ ∀ s, s < NS L → pi h' b s = hld L W wt sv s S) 61 (fun i t => fr (fun c => c = b ∨ SF 329 c) h t ∧ SC t 329 p q L W wt sv true (adn L W wt sv i S) ∧ ∀ s, s < NS L → pi t b s = hfd L W wt sv s S i) ?_ ?_ fu_ 0 h2 (by omega) (by unfold fu_; omega) ⟨fr_trans (fr_mono b2 (fun c hc => Or.inr hc)) (fr_mono f2 (fun c hc => Or.inl hc)), K2, fun s hs => by rw [f3 s, if_pos (by omega)]; rfl⟩
  · intro n i t hi ⟨f, Kt, I⟩
    right
    have Ct : CX t p q L W := CX_fr C f (fun c hc => by unfold SF at hc; omega)
    have Vt := SV_adn (wt := wt) (sv := sv) kL kW V (n := i)
    have inner : ∀ KK : Int → pH → Option pH, ∃ t1, pl_Ou_recordHeld_24 a b KK fu_ i 0 t = KK i t1 ∧ fr (fun c => c = b) t t1 ∧ ∀ s, s < NS L → pi t1 b s = hfd L W wt sv s S (i + 1) := by
      intro KK
      refine lpf (F := fun m (j : Nat) t' => pl_Ou_recordHeld_24 a b KK m i j t') (Q := fun rr => ∃ t1, rr = KK i t1 ∧ fr (fun c => c = b) t t1 ∧ ∀ s, s < NS L → pi t1 b s = hfd L W wt sv s S (i + 1)) 6 (fun j t' => fr (fun c => c = b) t t' ∧ ∀ s, s < NS L → pi t' b s = if s < j then hfd L W wt sv s S (i + 1) else hfd L W wt sv s S i) ?_ ?_ fu_ 0 t (by omega) (by unfold fu_; omega) ⟨fr_refl, fun s hs => by rw [if_neg (by omega)]; exact I s hs⟩
      · intro m j t' hj ⟨g, J⟩
        right
        have Ct' : CX t' p q L W := CX_fr Ct g (fun c hc => by omega)
        have Kt' := SC_fr Kt g (fun c hc => by omega)
        show ∃ t2, pl_Ou_recordHeld_24 a b KK (m + 1) i j t' = pl_Ou_recordHeld_24 a b KK m i (j + 1 : Nat) t2 ∧ _
        rw [pl_Ou_recordHeld_24, if_neg (by omega), c_stands Ct' Kt', bsm, if1, Int.toNat_natCast, wr_eq (x := (j : Int) + 1) (by omega) (by omega), kb]
        by_cases y1 : (0 ≤ (j : Int) ∧ (j : Int) < L 4) ∧ 0 ≤ adn L W wt sv i S (72 + j)
        · rw [if_pos y1, gib (by omega) (by omega), wr_eq (x := (i : Int) + 1) (by omega) (by omega)]
          refine ⟨_, rfl, fr_wI g rfl, fun s hs => ?_⟩
          by_cases y2 : s = j
          · rw [y2, pi_wIs, if_pos (by omega), hfd_s kL kW V (by omega), if_neg (by omega)]
          · rw [pi_wIi y2, J s hs]
            by_cases y3 : s < j
            · rw [if_pos y3, if_pos (by omega)]
            · rw [if_neg y3, if_neg (by omega)]
        · rw [if_neg y1]
          refine ⟨t', rfl, g, fun s hs => ?_⟩
          rw [J s hs]
          by_cases y3 : s < j
          · rw [if_pos y3, if_pos (by omega)]
          · rw [if_neg y3]
            by_cases y4 : s = j
            · rw [y4] at hs ⊢
              rw [if_pos (by omega), hfd_s kL kW V (by omega), if_pos (by omega)]
            · rw [if_neg (by omega)]
      · intro m t' ⟨g, J⟩
        refine ⟨t', ?_, g, fun s hs => by rw [J s hs, if_pos (by omega)]⟩
        show pl_Ou_recordHeld_24 a b KK (m + 1) i (6 : Nat) t' = _
        rw [pl_Ou_recordHeld_24, if_pos (by omega)]
    obtain ⟨t1, i1, i2, i3⟩ := inner (fun x3 h => (pf_Sc_frost 329 h).bind fun v5 => ((pf_Sc_passDayUnderShops 329 v5 h).bind fun v6 => (pl_Ou_recordHeld_15 a b (fun h => some h) n (wr (x3 + 1)) v6)))
    have C1 : CX t1 p q L W := CX_fr Ct i2 (fun c hc => by omega)
    have K1 := SC_fr Kt i2 (fun c hc => by omega)
    have fb := fro_bd (S := adn L W wt sv i S) kL Vt.2.2.2.2.1.1
    obtain ⟨t2, d1, d2, d3⟩ := c_under (f := fro L (adn L W wt sv i S)) hW C1 K1 Vt (by omega) (by omega) (by omega)
    refine ⟨t2, ?_, fr_trans f (fr_trans (fr_mono i2 (fun c hc => Or.inl hc)) (fr_mono d2 (fun c hc => Or.inr hc))), d3, fun s hs => ?_⟩
    · show pl_Ou_recordHeld_15 a b _ (n + 1) i t = pl_Ou_recordHeld_15 a b _ n (i + 1 : Nat) t2
      rw [pl_Ou_recordHeld_15, if_neg (by omega), i1, c_frost C1 K1 Vt.2.2.2.2.1.1, bsm, d1, bsm, wr_eq (by omega) (by omega)]
      rfl
    · rw [fr_i d2 (by unfold SF; omega)]; exact i3 s hs
  · intro n t ⟨f, Kt, I⟩
    refine ⟨t, ?_, f, I⟩
    show pl_Ou_recordHeld_15 a b _ (n + 1) (61 : Nat) t = _
    rw [pl_Ou_recordHeld_15, if_pos (by omega)]
def svc (L : Nat → Int) (s t : Nat) : Int := if t = s then 0 else sv0 L t
theorem WS_svc {s : Nat} (kL : LK L) : WS L (wt0 L) (svc L s) := by
  intro t ht
  have := WS0 kL t ht
  refine ⟨this.1, ?_⟩
  unfold svc
  split <;> omega
theorem ht_sv {sv' : Nat → Int} {x : Int} (hx : 0 ≤ x) (hh : ∀ t, t < NS L → 0 ≤ S (72 + t) → sv t = sv' t) : ht L S sv x = ht L S sv' x := by
  have h2 : ∀ t, t < NS L → 0 ≤ S (72 + t) → (fun s => sv s / 2) t = (fun s => sv' s / 2) t := fun t ht h0 => by
    show sv t / 2 = sv' t / 2
    rw [hh t ht h0]
  unfold ht
  rw [one_wt hx hh, on1_wt h2, on1_wt h2, on1_wt h2, on1_wt h2]
theorem c_putOut {s : Nat} (C : CX h p q L W) (K : SC h 337 p q L W (wt0 L) (sv0 L) false S) (V : SV L S d) (hs : s < NS L) (h0 : 0 ≤ S (72 + s)) : ∃ h', pf_Sc_putOut 337 s h = some h' ∧ fr (SF 337) h h' ∧ SC h' 337 p q L W (wt0 L) (svc L s) false S := by
  have kL := C.2.2.1
  have n6 := NS_le kL
  have r := V.2.2.1 s hs
  have ec : (((S (72 + s)).toNat : Nat) : Int) = S (72 + s) := by omega
  obtain ⟨h1, p1, p2, p3⟩ := c_lift (s := s) (v := -1) C K (WS0 kL) hs h0 r.2 (by omega)
  have w5 := (K.2.2.2.2.1 s hs).1
  have f2 : fr (SF 337) h (pwI h1 (337 + 7) s 0) := fr_wI p2 (by unfold SF; omega)
  have K2 : SC (pwI h1 (337 + 7) s 0) 337 p q L W (wt0 L) (svc L s) false (up1 S (72 + s) (-1)) := by
    obtain ⟨k0, k1, k2, k3, k4, k5⟩ := p3
    have same : ∀ t, t ≠ s → sv0 L t = svc L s t := fun t ht => by unfold svc; rw [if_neg ht]
    refine ⟨k0, fun c hc hu => by rw [pi_wIa (by omega)]; exact k1 c hc hu, fun c hc => by rw [pi_wIa (by omega)]; exact k2 c hc, fun c hc => ?_, fun t ht => ?_, by rw [pi_wIa (by omega)]; exact k5.1, by rw [pi_wIa (by omega)]; exact k5.2⟩
    · rw [pi_wIa (by omega), pi_wIa (by omega), ← ht_sv (sv := sv0 L) (by omega) (fun t ht h1 => ?_)]
      · exact k3 c hc
      · refine same t (fun y => ?_)
        rw [y, up1_s] at h1
        omega
    · by_cases y : t = s
      · rw [y, pi_wIa (by omega), pi_wIa (by omega), pi_wIs]
        have := k4 s hs
        exact ⟨this.1, this.2.1, by unfold svc; rw [if_pos rfl]⟩
      · rw [pi_wIa (by omega), pi_wIa (by omega), pi_wIi y, ← same t y]
        exact k4 t ht
  obtain ⟨h3, r1, r2, r3⟩ := c_lower (s := s) (c := (S (72 + s)).toNat) (SC_CX C (by omega) f2) K2 (WS_svc kL) hs (by rw [up1_s]; omega) (by omega)
  rw [ec] at r1 r3
  have eS : up1 (up1 S (72 + s) (-1)) (72 + s) (S (72 + s)) = S := by
    funext j
    unfold up1
    by_cases y : j = 72 + s
    · rw [if_pos y, y]
    · rw [if_neg y, if_neg y]
  rw [eS] at r3
  refine ⟨h3, ?_, fr_trans f2 r2, r3⟩
  unfold pf_Sc_putOut
  rw [gib (by omega) (by omega), p1, bsm, gib (by omega) (by omega), Int.toNat_natCast, w5, r1]
  rfl
/-- how many hold longer without a stove -/
noncomputable def lgf (L W S : Nat → Int) (s t : Nat) : Int := if t ≠ s ∧ hld L W (wt0 L) (sv0 L) t S < hld L W (wt0 L) (svc L s) t S then 1 else 0
theorem lgf_bd {s : Nat} : ∀ t, 0 ≤ lgf L W S s t ∧ lgf L W S s t ≤ 99 := fun t => by unfold lgf; split <;> omega
theorem c_longer {s : Nat} (C : CX h p q L W) (K : SC h 303 p q L W (wt0 L) (sv0 L) false S) (V : SV L S d) (hd : d ≤ 900) (hs : s < NS L) (h0 : 0 ≤ S (72 + s)) (H : ∀ t, t < NS L → pi h 327 t = hld L W (wt0 L) (sv0 L) t S) : ∃ h', pf_Ou_heldLongerWithout 303 s h = some (sumw (lgf L W S s) (NS L), h') ∧ fr (fun c => 328 ≤ c ∧ c ≤ 344) h h' := by
  have kL := C.2.2.1
  have n6 := NS_le kL
  have en := NS_eq kL
  obtain ⟨h1, b1, b2, b3⟩ := c_become (a := 337) K kL (by omega) (by omega)
  have C1 := SC_CX C (by omega : 303 ≤ 337) b2
  obtain ⟨h2, p1, p2, p3⟩ := c_putOut C1 b3 V hs h0
  have C2 := SC_CX C1 (by omega : 303 ≤ 337) p2
  obtain ⟨h3, r1, r2, r3⟩ := c_record (b := 328) (WS_svc kL) C2 p3 V hd (by omega) (Or.inr rfl)
  have f3 : fr (fun c => 328 ≤ c ∧ c ≤ 344) h h3 := fr_trans (fr_mono b2 (fun c hc => by unfold SF at hc; omega)) (fr_trans (fr_mono p2 (fun c hc => by unfold SF at hc; omega)) (fr_mono r2 (fun c hc => by unfold SF at hc; omega)))
  have C3 : CX h3 p q L W := CX_fr C f3 (fun c hc => by omega)
  have K3 := SC_fr K f3 (fun c hc => by omega)
  unfold pf_Ou_heldLongerWithout
  rw [b1, bsm, p1, bsm, r1, bsm]
  refine lpf (F := fun m (t : Nat) (_ : Unit) => pl_Ou_heldLongerWithout_33 303 s (fun x3 h => some (x3, h)) m (sumw (lgf L W S s) t) t h3) (Q := fun rr => ∃ h', rr = some (sumw (lgf L W S s) (NS L), h') ∧ fr (fun c => 328 ≤ c ∧ c ≤ 344) h h') (NS L) (fun _ _ => True) ?_ ?_ fu_ 0 () (by omega) (by unfold fu_; omega) trivial
  · intro m t _ ht _
    right
    have sb := sum6 kL (f := lgf L W S s) (fun t _ => lgf_bd t) (i := t) (by omega)
    refine ⟨(), ?_, trivial⟩
    show pl_Ou_heldLongerWithout_33 303 s _ (m + 1) (sumw (lgf L W S s) t) t h3 = pl_Ou_heldLongerWithout_33 303 s _ m (sumw (lgf L W S s) (t + 1)) (t + 1 : Nat) h3
    have e7 : pi h3 327 t = hld L W (wt0 L) (sv0 L) t S := by rw [fr_i f3 (by omega)]; exact H t ht
    rw [pl_Ou_heldLongerWithout_33, K3.1.2.1, C3.1.1.2.2.2.2, if_neg (by omega), sumw]
    simp (disch := omega) only [gib, Int.toNat_natCast, r3 t ht, e7, wr_eq]
    by_cases y1 : (t : Int) = s
    · have e : lgf L W S s t = 0 := if_neg (fun v => v.1 (by omega))
      rw [if_pos y1, e, Int.add_zero]; rfl
    · rw [if_neg y1]
      by_cases y2 : hld L W (wt0 L) (svc L s) t S ≤ hld L W (wt0 L) (sv0 L) t S
      · have e : lgf L W S s t = 0 := if_neg (fun v => by have := v.2; omega)
        rw [if_pos y2, e, Int.add_zero]; rfl
      · have e : lgf L W S s t = 1 := if_pos ⟨by omega, by omega⟩
        rw [if_neg y2, e]; rfl
  · intro m _ _
    refine ⟨h3, ?_, f3⟩
    show pl_Ou_heldLongerWithout_33 303 s _ (m + 1) (sumw (lgf L W S s) (NS L)) (NS L : Nat) h3 = _
    rw [pl_Ou_heldLongerWithout_33, K3.1.2.1, C3.1.1.2.2.2.2, if_pos (by omega)]
noncomputable def hrt (L W S : Nat → Int) (n : Nat) : Int × Int := match n with
  | 0 => (-1, 0)
  | n + 1 => if 0 ≤ S (72 + n) ∧ (hrt L W S n).2 < sumw (lgf L W S n) (NS L) then ((n : Int), sumw (lgf L W S n) (NS L)) else hrt L W S n
theorem hrt_r (kL : LK L) : ∀ {n : Nat}, 0 ≤ (hrt L W S n).2
  | 0 => by rw [hrt]; show (0 : Int) ≤ 0; omega
  | n + 1 => by
    have i : 0 ≤ (hrt L W S n).2 := hrt_r kL
    have sb := sum6 kL (f := lgf L W S n) (fun t _ => lgf_bd t) (i := NS L) (by omega)
    rw [hrt]
    split
    · exact sb.1
    · exact i
theorem c_hearth (C : CX h p q L W) (K : SC h 303 p q L W (wt0 L) (sv0 L) false S) (V : SV L S d) (hd : d ≤ 900) : ∃ h', pf_Ou_worstStove 303 h = some ((hrt L W S (NS L)).1, h') ∧ fr CGs h h' := by
  have kL := C.2.2.1
  have n6 := NS_le kL
  have en := NS_eq kL
  obtain ⟨h1, r1, r2, r3⟩ := c_record (b := 327) (WS0 kL) C K V hd (by omega) (Or.inl rfl)
  have f1 : fr (fun c => 327 ≤ c ∧ c ≤ 344) h h1 := fr_mono r2 (fun c hc => by unfold SF at hc; omega)
  unfold pf_Ou_worstStove
  rw [r1, bsm]
  refine lpf (F := fun m (s : Nat) t => pl_Ou_worstStove_16 303 (fun x2 h => some (x2, h)) m (hrt L W S s).1 (hrt L W S s).2 s t) (Q := fun rr => ∃ h', rr = some ((hrt L W S (NS L)).1, h') ∧ fr CGs h h') (NS L) (fun s t => fr (fun c => 327 ≤ c ∧ c ≤ 344) h t ∧ ∀ j, j < NS L → pi t 327 j = hld L W (wt0 L) (sv0 L) j S) ?_ ?_ fu_ 0 h1 (by omega) (by unfold fu_; omega) ⟨f1, r3⟩
  · intro m s t hs ⟨f, H⟩
    right
    have Ct : CX t p q L W := CX_fr C f (fun c hc => by omega)
    have Kt := SC_fr K f (fun c hc => by omega)
    have hr0 := hrt_r (W := W) (S := S) kL (n := s)
    have sb := sum6 kL (f := lgf L W S s) (fun t _ => lgf_bd t) (i := NS L) (by omega)
    show ∃ t', pl_Ou_worstStove_16 303 _ (m + 1) (hrt L W S s).1 (hrt L W S s).2 s t = pl_Ou_worstStove_16 303 _ m (hrt L W S (s + 1)).1 (hrt L W S (s + 1)).2 (s + 1 : Nat) t' ∧ _
    rw [pl_Ou_worstStove_16, Kt.1.2.1, Ct.1.1.2.2.2.2, if_neg (by omega), c_stands Ct Kt, bsm, if1, Int.toNat_natCast, hrt]
    unfold pj_Ou_worstStove_48
    rw [wr_eq (by omega) (by omega)]
    by_cases y1 : 0 ≤ S (72 + s)
    · obtain ⟨t1, e1, e2⟩ := c_longer Ct Kt V hd hs y1 H
      rw [if_pos ⟨by omega, y1⟩, e1, bsm]
      simp only []
      have F2 : fr (fun c => 327 ≤ c ∧ c ≤ 344) h t1 := fr_trans f (fr_mono e2 (fun c hc => by omega))
      have H2 : ∀ j, j < NS L → pi t1 327 j = hld L W (wt0 L) (sv0 L) j S := fun j hj => by rw [fr_i e2 (by omega)]; exact H j hj
      by_cases y2 : sumw (lgf L W S s) (NS L) ≤ (hrt L W S s).2
      · rw [if_pos y2, if_neg (fun v => by have := v.2; omega)]; exact ⟨t1, rfl, F2, H2⟩
      · rw [if_neg y2, if_pos ⟨y1, by omega⟩]; exact ⟨t1, rfl, F2, H2⟩
    · rw [if_neg (by omega), if_pos hr0, if_neg (fun v => y1 v.1)]
      exact ⟨t, rfl, f, H⟩
  · intro m t ⟨f, H⟩
    have Ct : CX t p q L W := CX_fr C f (fun c hc => by omega)
    have Kt := SC_fr K f (fun c hc => by omega)
    refine ⟨t, ?_, fr_mono f (fun c hc => by unfold CGs; omega)⟩
    show pl_Ou_worstStove_16 303 _ (m + 1) (hrt L W S (NS L)).1 (hrt L W S (NS L)).2 (NS L : Nat) t = _
    rw [pl_Ou_worstStove_16, Kt.1.2.1, Ct.1.1.2.2.2.2, if_pos (by omega)]
/-- the reference's row held, of those that stand -/
def HM (t : pH) (L W S : Nat → Int) : Prop := ∀ j, j < NS L → 0 ≤ S (72 + j) → pi t 433 j = hld L W (wt0 L) (sv0 L) j S
theorem m_longer1 {sv : Nat → Int} {cd : Int} {first : Int} (hS : SV L S d) (hd : d ≤ 900) (M : MC h l w L W (wt0 L) sv 0) (e16 : pi h 417 16 = cd) (svd : ∀ j, j < 80 → pi h 422 (80 + j) = S j) (H : first = 0 → HM h L W S) (hf : (first = 1 ∧ cd = -1 ∧ sv = sv0 L) ∨ (first = 0 ∧ ∃ s, s < NS L ∧ cd = s ∧ sv = svc L s)) : ∃ v h', pf_M_longer first h = some (v, h') ∧ MF h h' ∧ (∀ j, j < 80 → pi h' 422 (80 + j) = S j) ∧ pi h' 417 16 = cd ∧ HM h' L W S ∧ (∀ s, first = 0 → cd = (s : Nat) → v = sumw (lgf L W S s) (NS L)) := by
  have kL := M.1.2.2.2.2.2.2.1
  have kW := M.1.2.2.2.2.2.2.2
  have n6 := NS_le kL
  have en := NS_eq kL
  unfold pf_M_longer
  refine lpf (F := fun m (j : Nat) (t : Int × pH) => pl_M_longer_4 first (fun x2 h => some (x2, h)) m t.1 j t.2) (Q := fun rr => ∃ v h', rr = some (v, h') ∧ MF h h' ∧ (∀ j, j < 80 → pi h' 422 (80 + j) = S j) ∧ pi h' 417 16 = cd ∧ HM h' L W S ∧ (∀ s, first = 0 → cd = (s : Nat) → v = sumw (lgf L W S s) (NS L))) (NS L) (fun j t => MF h t.2 ∧ (∀ j, j < 80 → pi t.2 422 (80 + j) = S j) ∧ (first = 0 → HM t.2 L W S) ∧ (∀ i, i < j → first = 1 → 0 ≤ S (72 + i) → pi t.2 433 i = hld L W (wt0 L) (sv0 L) i S) ∧ (0 ≤ t.1 ∧ t.1 ≤ j) ∧ (∀ s, first = 0 → cd = (s : Nat) → t.1 = sumw (lgf L W S s) j)) ?_ ?_ fu_ 0 (0, h) (by omega) (by unfold fu_; omega) ⟨MF_refl, svd, H, fun i hi => by omega, by show (0 : Int) ≤ 0 ∧ (0 : Int) ≤ ((0 : Nat) : Int); omega, fun s _ _ => rfl⟩
  · intro m j t hj ⟨f, sd, HH, HF, vb, vs⟩
    right
    obtain ⟨v, t⟩ := t
    have f : MF h t := f
    have sd : ∀ j, j < 80 → pi t 422 (80 + j) = S j := sd
    have HH : first = 0 → HM t L W S := HH
    have HF : ∀ i, i < j → first = 1 → 0 ≤ S (72 + i) → pi t 433 i = hld L W (wt0 L) (sv0 L) i S := HF
    have vb : 0 ≤ v ∧ v ≤ j := vb
    have vs : ∀ s, first = 0 → cd = (s : Nat) → v = sumw (lgf L W S s) j := vs
    obtain ⟨e1, e2, hl, hw, hL, hW, -, -⟩ := (MF_MC M f).1
    obtain ⟨t1, l1, l2, l3, l4⟩ := m_load sd
    have f1 := MF_trans f l2
    have M1 := MF_MC M f1
    have at_ : pi t1 422 (72 + j) = S (72 + j) := (l3.1 (72 + j) (by omega)).symm
    have c16 : pi t1 417 16 = cd := by rw [f1.2 16 (by omega) (by omega)]; exact e16
    have k433 : pi t1 433 = pi t 433 := fr_fi l4 (by omega)
    show ∃ t' : Int × pH, pl_M_longer_4 first _ (m + 1) v j t = pl_M_longer_4 first _ m t'.1 (j + 1 : Nat) t'.2 ∧ _
    rw [pl_M_longer_4]
    simp (disch := omega) only [e1, wr_eq, tn_l, gib, hL, Int.reduceToNat]
    rw [if_neg (by omega), l1, bsm, m_stands M1.1, bsm, if1, Int.toNat_natCast, at_, c16]
    have skip : ¬ (0 ≤ S (72 + j) ∧ (j : Int) ≠ cd) → ∃ t' : Int × pH, pl_M_longer_4 first (fun x2 h => some (x2, h)) m v (j + 1 : Nat) t1 = pl_M_longer_4 first (fun x2 h => some (x2, h)) m t'.1 (j + 1 : Nat) t'.2 ∧ (MF h t'.2 ∧ (∀ j, j < 80 → pi t'.2 422 (80 + j) = S j) ∧ (first = 0 → HM t'.2 L W S) ∧ (∀ i, i < j + 1 → first = 1 → 0 ≤ S (72 + i) → pi t'.2 433 i = hld L W (wt0 L) (sv0 L) i S) ∧ (0 ≤ t'.1 ∧ t'.1 ≤ ((j + 1 : Nat) : Int)) ∧ (∀ s, first = 0 → cd = (s : Nat) → t'.1 = sumw (lgf L W S s) (j + 1))) := by
      intro ns
      refine ⟨(v, t1), rfl, f1, l3.2, fun v0 i hi h0 => ?_, fun i hi v1 h0 => ?_, by show 0 ≤ v ∧ v ≤ ((j + 1 : Nat) : Int); omega, fun s v0 v1 => ?_⟩
      · show pi t1 433 i = _
        rw [k433]; exact HH v0 i hi h0
      · show pi t1 433 i = _
        rw [k433]
        by_cases y : i = j
        · rw [y] at h0
          rcases hf with ⟨_, w1, _⟩ | ⟨w1, _⟩
          · exact absurd ⟨h0, by omega⟩ ns
          · omega
        · exact HF i (by omega) v1 h0
      · show v = _
        have e : lgf L W S s j = 0 := by
          unfold lgf
          rw [if_neg]
          intro ⟨w1, w2⟩
          have h0 : S (72 + j) < 0 := by
            rcases Int.lt_or_le (S (72 + j)) 0 with w | w
            · exact w
            · exact absurd ⟨w, by omega⟩ ns
          have z1 : ∀ sv, hld L W (wt0 L) sv j S = 0 := fun sv => by
            have g : hlf L W (wt0 L) sv j S 0 (60 + 1) = if dc (adn L W (wt0 L) sv 0 S (72 + j) < 0) = true then ((0 : Nat) : Int) else hlf L W (wt0 L) sv j S (0 + 1) 60 := hlf_s
            rw [dc_t (show adn L W (wt0 L) sv 0 S (72 + j) < 0 from h0), if_pos rfl] at g
            unfold hld
            rw [show (61 : Nat) = 60 + 1 from rfl, g]
            rfl
          rw [z1, z1] at w2
          omega
        rw [sumw, e, Int.add_zero]; exact vs s v0 v1
    by_cases y1 : 0 ≤ S (72 + j)
    · rw [if_pos ⟨by omega, y1⟩]
      by_cases y2 : (j : Int) = cd
      · rw [if_pos y2]; exact skip (fun v => v.2 y2)
      · rw [if_neg y2]
        have V1 : SV L (pi t1 422) d := SV_c hS l3.1 kL
        obtain ⟨t2, u1, u2, u3, u4⟩ := m_holdsFor (s := j) M1 V1 hd hj
        rw [← hld_ext kL kW hS l3.1 (by omega)] at u1
        have k2 : pi t2 433 = pi t 433 := by rw [fr_fi u4 (by omega)]; exact k433
        have f2 := MF_trans f1 u2
        have sd2 : ∀ i, i < 80 → pi t2 422 (80 + i) = S i := fun i hi => by rw [u3 _ (by omega)]; exact l3.2 i hi
        rw [u1, bsm]
        unfold pj_M_longer_68
        simp (disch := omega) only [gib, Int.toNat_natCast, wr_eq]
        rcases hf with ⟨w1, w2, w3⟩ | ⟨w1, s, w2, w3, w4⟩
        · have hne : ¬ first = 0 := by omega
          rw [if_neg hne]
          have fin : ∀ x : Int, 0 ≤ x ∧ x ≤ 1 → ∃ t' : Int × pH, pl_M_longer_4 first (fun x2 h => some (x2, h)) m (v + x) (j + 1 : Nat) (pwI t2 433 j (hld L W (wt0 L) sv j S)) = pl_M_longer_4 first (fun x2 h => some (x2, h)) m t'.1 (j + 1 : Nat) t'.2 ∧ (MF h t'.2 ∧ (∀ j, j < 80 → pi t'.2 422 (80 + j) = S j) ∧ (first = 0 → HM t'.2 L W S) ∧ (∀ i, i < j + 1 → first = 1 → 0 ≤ S (72 + i) → pi t'.2 433 i = hld L W (wt0 L) (sv0 L) i S) ∧ (0 ≤ t'.1 ∧ t'.1 ≤ ((j + 1 : Nat) : Int)) ∧ (∀ s, first = 0 → cd = (s : Nat) → t'.1 = sumw (lgf L W S s) (j + 1))) := fun x hx => by
            refine ⟨(v + x, pwI t2 433 j (hld L W (wt0 L) sv j S)), rfl, MF_wI f2 (by unfold MFs; omega) (by omega), fun i hi => by show pi (pwI t2 433 _ _) 422 (80 + i) = _; rw [pi_wIa (by decide)]; exact sd2 i hi, fun v0 => by omega, fun i hi v1 h0 => ?_, by show 0 ≤ v + x ∧ v + x ≤ ((j + 1 : Nat) : Int); omega, fun s v0 => by omega⟩
            show pi (pwI t2 433 j (hld L W (wt0 L) sv j S)) 433 i = _
            by_cases y : i = j
            · rw [y, pi_wIs, w3]
            · rw [pi_wIi y, k2]; exact HF i (by omega) v1 h0
          by_cases y3 : hld L W (wt0 L) sv j S ≤ pi t2 433 j
          · rw [if_pos y3]; exact fin 0 (by omega)
          · rw [if_neg y3, if_neg hne]; exact fin 1 (by omega)
        · rw [if_pos w1]
          have hh : pi t2 433 j = hld L W (wt0 L) (sv0 L) j S := by rw [k2]; exact HH w1 j hj y1
          rw [hh, w4]
          have fin : ∀ x : Int, x = lgf L W S s j → ∃ t' : Int × pH, pl_M_longer_4 first (fun x2 h => some (x2, h)) m (v + x) (j + 1 : Nat) t2 = pl_M_longer_4 first (fun x2 h => some (x2, h)) m t'.1 (j + 1 : Nat) t'.2 ∧ (MF h t'.2 ∧ (∀ j, j < 80 → pi t'.2 422 (80 + j) = S j) ∧ (first = 0 → HM t'.2 L W S) ∧ (∀ i, i < j + 1 → first = 1 → 0 ≤ S (72 + i) → pi t'.2 433 i = hld L W (wt0 L) (sv0 L) i S) ∧ (0 ≤ t'.1 ∧ t'.1 ≤ ((j + 1 : Nat) : Int)) ∧ (∀ s, first = 0 → cd = (s : Nat) → t'.1 = sumw (lgf L W S s) (j + 1))) := fun x hx => by
            have xb : 0 ≤ x ∧ x ≤ 1 := by rw [hx]; unfold lgf; split <;> omega
            refine ⟨(v + x, t2), rfl, f2, sd2, fun v0 i hi h0 => by show pi t2 433 i = _; rw [k2]; exact HH v0 i hi h0, fun i hi v1 => by omega, by show 0 ≤ v + x ∧ v + x ≤ ((j + 1 : Nat) : Int); omega, fun s' v0 v1 => ?_⟩
            have es : s' = s := by omega
            subst es
            show v + x = _
            rw [sumw, ← vs s' v0 v1, hx]
          by_cases y3 : hld L W (wt0 L) (svc L s) j S ≤ hld L W (wt0 L) (sv0 L) j S
          · rw [if_pos y3]; exact fin 0 (by unfold lgf; rw [if_neg (fun v => by have := v.2; omega)])
          · rw [if_neg y3, if_pos w1]; exact fin 1 (by unfold lgf; rw [if_pos ⟨by omega, by omega⟩])
    · rw [if_neg (by omega)]; exact skip (fun v => y1 v.1)
  · intro m t ⟨f, sd, HH, HF, vb, vs⟩
    obtain ⟨e1, e2, hl, hw, hL, hW, -, -⟩ := (MF_MC M f).1
    refine ⟨t.1, t.2, ?_, f, sd, by rw [f.2 16 (by omega) (by omega)]; exact e16, fun i hi h0 => ?_, vs⟩
    · show pl_M_longer_4 first _ (m + 1) t.1 (NS L : Nat) t.2 = _
      rw [pl_M_longer_4]
      simp (disch := omega) only [e1, wr_eq, tn_l, gib, hL, Int.reduceToNat]
      rw [if_pos (by omega)]
    · rcases hf with ⟨w1, _⟩ | ⟨w1, _⟩
      · exact HF i hi w1 h0
      · exact HH w1 i hi h0
end Dn
theorem p_hearth {x y z n : Int} : asks (pf_I_hearth x y z n) (pf_M_hearth x y z n) := by
  refine ask_gy (x := x) (y := y) (z := z) (n := n) (-1) (fun _ => rfl) (fun _ => rfl) (fun _ => rfl) (fun _ => rfl) ?_
  intro p q l w L W S h g ⟨C, K, M, eS, Z, V, TT⟩ I
  have kL := C.2.2.1
  have n6 := NS_le kL
  have en := NS_eq kL
  subst eS
  obtain ⟨h1, c1, c2⟩ := c_hearth C K V (by omega)
  obtain ⟨g0, s1, s2, s3⟩ := m_save (g := g)
  obtain ⟨v0, g1, a1, a2, a3, a4, a5, -⟩ := m_longer1 (first := 1) (cd := -1) (sv := sv0 L) V (by omega) (MF_MC M s2) (by rw [s2.2 16 (by omega) (by omega)]; exact I.1.1) s3.2 (fun v => by omega) (Or.inl ⟨rfl, rfl, rfl⟩)
  have f1 := MF_trans s2 a2
  have mm : ∃ g2, pl_M_hearth_36 x y z n (fun x6 h => some (x6, h)) fu_ (-1) 0 0 g1 = some ((hrt L W (pi g 422) (NS L)).1, g2) ∧ MF g g2 := by
    refine lpf (F := fun m (s : Nat) t => pl_M_hearth_36 x y z n (fun x6 h => some (x6, h)) m (hrt L W (pi g 422) s).1 (hrt L W (pi g 422) s).2 s t) (Q := fun rr => ∃ g2, rr = some ((hrt L W (pi g 422) (NS L)).1, g2) ∧ MF g g2) (NS L) (fun s t => MF g t ∧ (∀ j, j < 80 → pi t 422 (80 + j) = pi g 422 j) ∧ HM t L W (pi g 422)) ?_ ?_ fu_ 0 g1 (by omega) (by unfold fu_; omega) ⟨f1, a3, a5⟩
    · intro m s t hs ⟨f, sd, H⟩
      right
      obtain ⟨e1, e2, hl, hw, hL, hW, -, -⟩ := (MF_MC M f).1
      obtain ⟨t1, l1, l2, l3, l4⟩ := m_load sd
      have f2 := MF_trans f l2
      have M1 := MF_MC M f2
      have at_ : pi t1 422 (72 + s) = pi g 422 (72 + s) := (l3.1 (72 + s) (by omega)).symm
      have H1 : HM t1 L W (pi g 422) := fun j hj h0 => by rw [fr_i l4 (by omega)]; exact H j hj h0
      show ∃ t', pl_M_hearth_36 x y z n _ (m + 1) (hrt L W (pi g 422) s).1 (hrt L W (pi g 422) s).2 s t = pl_M_hearth_36 x y z n _ m (hrt L W (pi g 422) (s + 1)).1 (hrt L W (pi g 422) (s + 1)).2 (s + 1 : Nat) t' ∧ _
      rw [pl_M_hearth_36]
      simp (disch := omega) only [e1, wr_eq, tn_l, gib, hL, Int.reduceToNat]
      rw [if_neg (by omega), l1, bsm, m_stands M1.1, bsm, if1, Int.toNat_natCast, at_, hrt]
      by_cases y1 : 0 ≤ pi g 422 (72 + s)
      · rw [if_pos ⟨by omega, y1⟩]
        have M2 : MC (pwI t1 417 16 s) l w L W (wt0 L) (svc L s) 0 := by
          obtain ⟨M0, m1, m2, m3, m4, m5⟩ := M1
          have e418 : pi (pwI t1 417 16 s) 418 = pi t1 418 := pi_wIf (by decide)
          refine ⟨?_, fun j hj => ?_, fun j hj => ?_, by rw [pi_wIi (by decide)]; exact m3, by rw [pi_wIi (by decide)]; exact m4, m5⟩
          · unfold MS at *
            rw [e418, pi_wIi (by decide), pi_wIi (by decide)]
            exact M0
          · have := m1 j hj
            unfold wtM at *
            rw [pi_wIi (by decide), pi_wIi (by decide)]
            exact this
          · unfold svM svc
            rw [pi_wIs]
            by_cases y : j = s
            · rw [if_pos y, if_pos (by omega)]
            · rw [if_neg y, if_neg (by omega)]; rfl
        obtain ⟨v, t2, u1, u2, u3, u4, u5, u6⟩ := m_longer1 (first := 0) (cd := s) (sv := svc L s) V (by omega) M2 pi_wIs (fun j hj => by rw [pi_wIa (by decide)]; exact l3.2 j hj) (fun _ j hj h0 => by rw [pi_wIa (by decide)]; exact H1 j hj h0) (Or.inr ⟨rfl, s, hs, rfl, rfl⟩)
        have ev := u6 s rfl rfl
        have f3 : MF g (pwI t2 417 16 (-1)) := by
          refine ⟨fr_wI (fr_trans f2.1 (fr_trans (fr_wI fr_refl (by unfold MFs; omega)) u2.1)) (by unfold MFs; omega), fun j a b => ?_⟩
          by_cases y : j = 16
          · rw [y, pi_wIs]; exact I.1.1.symm
          · rw [pi_wIi y, u2.2 j a b, pi_wIi y]; exact f2.2 j a b
        have sd3 : ∀ j, j < 80 → pi (pwI t2 417 16 (-1)) 422 (80 + j) = pi g 422 j := fun j hj => by rw [pi_wIa (by decide)]; exact u3 j hj
        have H3 : HM (pwI t2 417 16 (-1)) L W (pi g 422) := fun j hj h0 => by rw [pi_wIa (by decide)]; exact u5 j hj h0
        rw [u1, bsm, ev]
        simp only []
        by_cases y2 : (hrt L W (pi g 422) s).2 < sumw (lgf L W (pi g 422) s) (NS L)
        · rw [if_pos y2, if_pos ⟨y1, y2⟩]; exact ⟨_, rfl, f3, sd3, H3⟩
        · rw [if_neg y2, if_neg (fun v => y2 v.2)]; exact ⟨_, rfl, f3, sd3, H3⟩
      · rw [if_neg (by omega), if_neg (fun v => y1 v.1)]
        exact ⟨t1, rfl, f2, l3.2, H1⟩
    · intro m t ⟨f, sd, H⟩
      obtain ⟨e1, e2, hl, hw, hL, hW, -, -⟩ := (MF_MC M f).1
      refine ⟨t, ?_, f⟩
      show pl_M_hearth_36 x y z n _ (m + 1) (hrt L W (pi g 422) (NS L)).1 (hrt L W (pi g 422) (NS L)).2 (NS L : Nat) t = _
      rw [pl_M_hearth_36]
      simp (disch := omega) only [e1, wr_eq, tn_l, gib, hL, Int.reduceToNat]
      rw [if_pos (by omega)]
  obtain ⟨g2, m1, m2⟩ := mm
  simp only []
  rw [if_neg (show ¬ (1 : Int) = 0 by decide), if_neg (show ¬ (1 : Int) = 0 by decide), c1, s1, bsm, bsm, a1, bsm, m1]
  exact ⟨_, h1, g2, rfl, c2, rfl, MF_MG m2⟩
