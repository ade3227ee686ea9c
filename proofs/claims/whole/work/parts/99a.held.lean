/-! how long shops hold -/
section Dj
variable {h : pH} {a p q l w : Nat} {L W wt sv S T : Nat → Int} {u : Bool} {d : Nat} {tk : Int}
theorem fl_hi (kL : LK L) : ∀ {n : Nat} {S : Nat → Int}, SV L S d → ∀ i, 80 ≤ i → fl L W wt tk n S i = S i
  | 0, S, _, i, _ => rfl
  | n + 1, S, V, i, hi => by
    have z : 4 ≤ ce L ∧ ce L ≤ 36 := sz_mul kL.1
    have n6 := NS_le kL
    rw [fl]
    split
    · rfl
    · rename_i q
      obtain ⟨q1, q2⟩ := ff_st (L := L) (W := W) (S := S) (wt := wt) (tk := tk) (by omega)
      have r := V.2.2.1 _ q1
      rw [fl_hi kL (SV_fa1 V kL q1 q2) i hi]
      unfold fa1
      rw [up1_n (by omega), up1_n (by omega)]
theorem fl_off : ∀ {n : Nat} {S : Nat → Int} {s : Nat}, SV L S d → LK L → S (72 + s) < 0 → fl L W wt tk n S (72 + s) = S (72 + s)
  | 0, S, s, _, _, _ => rfl
  | n + 1, S, s, V, kL, h => by
    have z : 4 ≤ ce L ∧ ce L ≤ 36 := sz_mul kL.1
    rw [fl]
    split
    · rfl
    · rename_i q
      obtain ⟨q1, q2⟩ := ff_st (L := L) (W := W) (S := S) (wt := wt) (tk := tk) (by omega)
      have r := V.2.2.1 _ q1
      have ne : s ≠ (ff L W S wt tk).toNat := fun y => by rw [← y] at q2; omega
      have e : fa1 S (ff L W S wt tk).toNat (72 + s) = S (72 + s) := by unfold fa1; rw [up1_n (by omega), up1_n (by omega)]
      rw [fl_off (SV_fa1 V kL q1 q2) kL (by rw [e]; exact h), e]
theorem pd2_at {f : Int} {s : Nat} (kL : LK L) (hs : s < 6) : pd2 L W S sv f (72 + s) = S (72 + s) := by
  have z : 4 ≤ ce L ∧ ce L ≤ 36 := sz_mul kL.1
  unfold pd2
  rw [up1_n (by omega), up1_n (by omega)]
  exact if_neg (by omega)
theorem pday_off {f : Int} {s : Nat} (kL : LK L) (kW : WK W) (V : SV L S d) (hs : s < 6) (h : S (72 + s) < 0) : pday L W wt sv tk f S (72 + s) < 0 := by
  unfold pday
  rw [fl_off (SV_pd2 V kL kW) kL (by rw [pd2_at kL hs]; exact h), pd2_at kL hs]
  exact h
theorem pday_hi {f : Int} (kL : LK L) (kW : WK W) (V : SV L S d) : ∀ i, 80 ≤ i → pday L W wt sv tk f S i = S i := fun i hi => by
  have z : 4 ≤ ce L ∧ ce L ≤ 36 := sz_mul kL.1
  unfold pday
  rw [fl_hi kL (SV_pd2 V kL kW) i hi]
  unfold pd2
  rw [up1_n (by omega), up1_n (by omega)]
  exact if_neg (by omega)
theorem adn_hi (kL : LK L) (kW : WK W) (V : SV L S d) : ∀ {n : Nat}, ∀ i, 80 ≤ i → adn L W wt sv n S i = S i
  | 0, i, _ => rfl
  | n + 1, i, hi => by
    rw [adn]
    unfold aday
    rw [pday_hi kL kW (SV_adn (n := n) kL kW V) i hi]
    exact adn_hi kL kW V i hi
theorem adn_ext (kL : LK L) (kW : WK W) (V : SV L S d) (e : E8 S T) : ∀ {n : Nat}, E8 (adn L W wt sv n S) (adn L W wt sv n T)
  | 0 => e
  | n + 1 => aday_ext kL kW (SV_adn (n := n) kL kW V) (adn_ext kL kW V e)
theorem adn_off {s : Nat} (kL : LK L) (kW : WK W) (V : SV L S d) (hs : s < 6) (h : S (72 + s) < 0) : ∀ {n : Nat}, adn L W wt sv n S (72 + s) < 0
  | 0 => h
  | n + 1 => pday_off kL kW (SV_adn (n := n) kL kW V) hs (adn_off kL kW V hs h)
noncomputable def hlf (L W wt sv : Nat → Int) (s : Nat) (S : Nat → Int) (i m : Nat) : Int := fnd (fun j => dc (adn L W wt sv j S (72 + s) < 0)) i m
theorem hlf_s {s i m : Nat} : hlf L W wt sv s S i (m + 1) = if dc (adn L W wt sv i S (72 + s) < 0) = true then (i : Int) else hlf L W wt sv s S (i + 1) m := rfl
noncomputable def hld (L W wt sv : Nat → Int) (s : Nat) (S : Nat → Int) : Int := if hlf L W wt sv s S 0 61 < 0 then 61 else hlf L W wt sv s S 0 61
theorem hld_ext {s : Nat} (kL : LK L) (kW : WK W) (V : SV L S d) (e : E8 S T) (hs : s < 6) : hld L W wt sv s S = hld L W wt sv s T := by
  have : hlf L W wt sv s S 0 61 = hlf L W wt sv s T 0 61 := by
    unfold hlf
    refine fnd_c (fun j _ _ => ?_)
    rw [adn_ext kL kW V e (72 + s) (by omega)]
  unfold hld
  rw [this]
theorem hld_r {s : Nat} : 0 ≤ hld L W wt sv s S ∧ hld L W wt sv s S ≤ 61 := by
  unfold hld hlf
  rcases fnd_r (p := fun j => dc (adn L W wt sv j S (72 + s) < 0)) (m := 61) (i := 0) with y | y
  · rw [y]; decide
  · rw [if_neg (by omega)]; omega
theorem c_daysHeld {s : Nat} (hW : WS L wt sv) (C : CX h p q L W) (K : SC h a p q L W wt sv u S) (V : SV L S d) (hd : d ≤ 900) (hs : s < NS L) (ha : a + 7 < 329 ∨ 336 < a) : ∃ h', pf_Ou_daysHeld a s h = some (hld L W wt sv s S, h') ∧ fr (SF 329) h h' := by
  have kL := C.2.2.1
  have kW := C.2.2.2.1
  have n6 := NS_le kL
  have en := NS_eq kL
  obtain ⟨h1, b1, b2, b3⟩ := c_become (a := 329) K kL (by omega) (by omega)
  unfold pf_Ou_daysHeld hld
  rw [b1, bsm]
  have K0 : SC h1 329 p q L W wt sv true S := by
    obtain ⟨k0, k1, k2⟩ := b3
    exact ⟨k0, fun c hc hu => k1 c hc (by rcases hu with v | v; exact absurd v (by decide); exact Or.inr v), k2⟩
  generalize hr : hlf L W wt sv s S 0 61 = r
  refine lpf (F := fun n (i : Nat) t => pl_Ou_daysHeld_10 a s (fun x3 h => some (x3, h)) (fun h => some (61, h)) n i t) (Q := fun rr => ∃ h', rr = some ((if r < 0 then 61 else r), h') ∧ fr (SF 329) h h') 61 (fun i t => fr (SF 329) h t ∧ SC t 329 p q L W wt sv true (adn L W wt sv i S) ∧ r = hlf L W wt sv s S i (61 - i)) ?_ ?_ fu_ 0 h1 (by omega) (by unfold fu_; omega) ⟨b2, K0, hr.symm⟩
  · intro n i t hi ⟨f, Kt, e⟩
    have Ct := SC_CX C (by omega : 303 ≤ 329) f
    have Vt := SV_adn (wt := wt) (sv := sv) kL kW V (n := i)
    have fb := fro_bd (S := adn L W wt sv i S) kL Vt.2.2.2.2.1.1
    obtain ⟨h2, d1, d2, d3⟩ := c_under (f := fro L (adn L W wt sv i S)) hW Ct Kt Vt (by omega) (by omega) (by omega)
    rw [show 61 - i = (61 - (i + 1)) + 1 by omega, hlf_s] at e
    show (∃ h', pl_Ou_daysHeld_10 a s _ _ (n + 1) i t = some (_, h') ∧ _) ∨ ∃ t', pl_Ou_daysHeld_10 a s _ _ (n + 1) i t = pl_Ou_daysHeld_10 a s _ _ n (i + 1 : Nat) t' ∧ _
    rw [pl_Ou_daysHeld_10, if_neg (by omega), c_stands Ct Kt, bsm, if1, Int.toNat_natCast]
    by_cases q1 : adn L W wt sv i S (72 + s) < 0
    · left
      rw [dc_t q1, if_pos rfl] at e
      rw [if_neg (by omega), e, if_neg (by omega)]
      exact ⟨t, rfl, f⟩
    · right
      rw [dc_f q1, if_neg (by decide)] at e
      rw [if_pos ⟨by omega, by omega⟩, c_frost Ct Kt Vt.2.2.2.2.1.1, bsm, d1, bsm, wr_eq (by omega) (by omega)]
      exact ⟨h2, rfl, fr_trans f d2, d3, e⟩
  · intro n t ⟨f, Kt, e⟩
    refine ⟨t, ?_, f⟩
    show pl_Ou_daysHeld_10 a s _ _ (n + 1) (61 : Nat) t = _
    have : r = -1 := e
    rw [pl_Ou_daysHeld_10, if_pos (by omega), this]
    rfl
theorem m_holdsFor {s : Nat} (M : MC h l w L W wt sv 0) (V : SV L (pi h 422) d) (hd : d ≤ 900) (hs : s < NS L) : ∃ h', pf_M_holdsFor s h = some (hld L W wt sv s (pi h 422), h') ∧ MF h h' ∧ (∀ i, 80 ≤ i → pi h' 422 i = pi h 422 i) ∧ fr (fun b => b = 422 ∨ b = 423) h h' := by
  have kL := M.1.2.2.2.2.2.2.1
  have kW := M.1.2.2.2.2.2.2.2
  have n6 := NS_le kL
  have en := NS_eq kL
  unfold pf_M_holdsFor hld
  rw [m_stands M.1, bsm, if1, Int.toNat_natCast]
  generalize hr : hlf L W wt sv s (pi h 422) 0 61 = r
  by_cases q0 : pi h 422 (72 + s) < 0
  · rw [if_neg (by omega)]
    have e : hlf L W wt sv s (pi h 422) 0 61 = 0 := by
      have g : hlf L W wt sv s (pi h 422) 0 (60 + 1) = if dc (adn L W wt sv 0 (pi h 422) (72 + s) < 0) = true then ((0 : Nat) : Int) else hlf L W wt sv s (pi h 422) (0 + 1) 60 := hlf_s
      rw [dc_t (show adn L W wt sv 0 (pi h 422) (72 + s) < 0 from q0), if_pos rfl] at g
      exact g
    rw [← hr, e]
    exact ⟨h, rfl, MF_refl, fun _ _ => rfl, fr_refl⟩
  · rw [if_pos ⟨by omega, by omega⟩]
    have e0 : r = hlf L W wt sv s (pi h 422) 1 60 := by
      have g : hlf L W wt sv s (pi h 422) 0 (60 + 1) = if dc (adn L W wt sv 0 (pi h 422) (72 + s) < 0) = true then ((0 : Nat) : Int) else hlf L W wt sv s (pi h 422) (0 + 1) 60 := hlf_s
      rw [dc_f (show ¬ adn L W wt sv 0 (pi h 422) (72 + s) < 0 from q0), if_neg (by decide)] at g
      rw [← hr]; exact g
    refine lpf (F := fun n (i : Nat) t => pl_M_holdsFor_12 s (fun x2 h => some (x2, h)) (fun h => some (61, h)) n ((i + 1 : Nat) : Int) t) (Q := fun rr => ∃ h', rr = some ((if r < 0 then 61 else r), h') ∧ MF h h' ∧ (∀ i, 80 ≤ i → pi h' 422 i = pi h 422 i) ∧ fr (fun b => b = 422 ∨ b = 423) h h') 60 (fun i t => MF h t ∧ pi t 422 = adn L W wt sv i (pi h 422) ∧ r = hlf L W wt sv s (pi h 422) (i + 1) (60 - i) ∧ fr (fun b => b = 422 ∨ b = 423) h t) ?_ ?_ fu_ 0 h (by omega) (by unfold fu_; omega) ⟨MF_refl, rfl, e0, fr_refl⟩
    · intro n i t hi ⟨f, g, e, fs⟩
      have Mt := MF_MC M f
      have Vt := SV_adn (wt := wt) (sv := sv) kL kW V (n := i)
      obtain ⟨h2, d1, d2, d3⟩ := m_aDay Mt (by rw [g]; exact Vt) (by omega)
      have f2 : MF t h2 := ⟨fr_mono d2 (fun b hb => by unfold MFs; omega), fun j _ _ => fr_i d2 (by omega)⟩
      rw [g] at d3
      have d4 : pi h2 422 = adn L W wt sv (i + 1) (pi h 422) := d3
      rw [show 60 - i = (60 - (i + 1)) + 1 by omega, hlf_s] at e
      show (∃ h', pl_M_holdsFor_12 s _ _ (n + 1) ((i + 1 : Nat) : Int) t = some (_, h') ∧ _) ∨ ∃ t', pl_M_holdsFor_12 s _ _ (n + 1) ((i + 1 : Nat) : Int) t = pl_M_holdsFor_12 s _ _ n ((i + 1 + 1 : Nat) : Int) t' ∧ _
      rw [pl_M_holdsFor_12, if_neg (by omega), d1, bsm, m_stands (MF_MC Mt f2).1, bsm, if1, Int.toNat_natCast, d4]
      by_cases q1 : adn L W wt sv (i + 1) (pi h 422) (72 + s) < 0
      · left
        rw [dc_t q1, if_pos rfl] at e
        rw [if_neg (by omega), e, if_neg (by omega)]
        exact ⟨h2, rfl, MF_trans f f2, fun j hj => by rw [d4]; exact adn_hi kL kW V j hj, fr_trans fs d2⟩
      · right
        rw [dc_f q1, if_neg (by decide)] at e
        rw [if_pos ⟨by omega, by omega⟩, wr_eq (by omega) (by omega)]
        exact ⟨h2, rfl, MF_trans f f2, d4, e, fr_trans fs d2⟩
    · intro n t ⟨f, g, e, fs⟩
      refine ⟨t, ?_, f, fun j hj => by rw [g]; exact adn_hi kL kW V j hj, fs⟩
      show pl_M_holdsFor_12 s _ _ (n + 1) ((60 + 1 : Nat) : Int) t = _
      have : r = -1 := e
      rw [pl_M_holdsFor_12, if_pos (by omega), this]
      rfl
end Dj
/-- answers of a shop that stands -/
theorem ask_std {α : Type} {cf mf : pH → Option (α × pH)} {x y z n s : Int} (no : α) {kc km : Int × pH → Option (α × pH)} {kd : pH → Int → Option (α × pH)} (hc : ∀ h, cf h = (pf_I_stage x y z n h).bind kc) (nc : ∀ h, kc (0, h) = some (no, h)) (hd : ∀ h, kc (1, h) = (pf_Sc_stands 303 s h).bind (kd h)) (nd : ∀ h, kd h 0 = some (no, h)) (hm : ∀ g, mf g = (pf_M_isStanding x y z n s g).bind km) (nm : ∀ h, km (0, h) = some (no, h)) (main : ∀ p q l w L W S h g, GX h g p q l w L W S → s.toNat < NS L → ((s.toNat : Nat) : Int) = s → 0 ≤ S (72 + s.toNat) → ∃ r h1 g1, kd h 1 = some (r, h1) ∧ fr CGs h h1 ∧ km (1, g) = some (r, g1) ∧ MG g g1) : asks cf mf := by
  refine ask_gx (x := x) (y := y) (z := z) (n := n) no (kc := kc) (km := fun v1 => if v1.1 = 0 then km (0, v1.2) else ((pf_M_stands s v1.2).bind fun v2 => (if v2 = 0 then km (0, v1.2) else km (1, v1.2)))) hc ?_ nc (fun h => nm h) ?_
  · intro g
    rw [hm]
    unfold pf_M_isStanding
    cases e : pf_M_isState x y z n g with
    | none => rfl
    | some v =>
      rw [bsm, bsm]
      by_cases e1 : v.1 = 0
      · rw [if_pos e1, if_pos e1]; rfl
      · rw [if_neg e1, if_neg e1]
        cases e2 : pf_M_stands s v.2 with
        | none => rfl
        | some v2 =>
          rw [bsm, bsm]
          by_cases e3 : v2 = 0
          · rw [if_pos e3, if_pos e3]; rfl
          · rw [if_neg e3, if_neg e3]; rfl
  · intro p q l w L W S h g G
    have kL := G.1.2.2.1
    have en := NS_eq kL
    simp only []
    rw [hd, c_stands G.1 G.2.1, bsm, if_neg (show ¬ (1 : Int) = 0 by decide), m_stands G.2.2.1.1, bsm, if1, G.2.2.2.1]
    by_cases q1 : (0 ≤ s ∧ s < L 4) ∧ 0 ≤ S (72 + s.toNat)
    · rw [if_pos q1, if_pos q1]
      exact main p q l w L W S h g G (by omega) (by omega) q1.2
    · rw [if_neg q1, if_neg q1, nd, nm]
      exact ⟨no, h, g, rfl, fr_refl, rfl, MG_refl⟩
theorem ask_std2 {α : Type} {cf mf : pH → Option (α × pH)} {x y z n s : Int} (no : α) {kc km : Int × pH → Option (α × pH)} {kd : pH → Int → Option (α × pH)} (hc : ∀ h, cf h = (pf_I_stage x y z n h).bind kc) (nc : ∀ h, kc (0, h) = some (no, h)) (hd : ∀ h, kc (1, h) = (pf_Sc_stands 303 s h).bind (kd h)) (nd : ∀ h, kd h 0 = some (no, h)) (hm : ∀ g, mf g = (pf_M_isStanding x y z n s g).bind km) (nm : ∀ h, km (0, h) = some (no, h)) (main : ∀ p q l w L W S h g, GX h g p q l w L W S → MI g → s.toNat < NS L → ((s.toNat : Nat) : Int) = s → 0 ≤ S (72 + s.toNat) → ∃ r h1 g1, kd h 1 = some (r, h1) ∧ fr CGs h h1 ∧ km (1, g) = some (r, g1) ∧ MG g g1) : asks cf mf := by
  refine ask_gy (x := x) (y := y) (z := z) (n := n) no (kc := kc) (km := fun v1 => if v1.1 = 0 then km (0, v1.2) else ((pf_M_stands s v1.2).bind fun v2 => (if v2 = 0 then km (0, v1.2) else km (1, v1.2)))) hc ?_ nc (fun h => nm h) ?_
  · intro g
    rw [hm]
    unfold pf_M_isStanding
    cases e : pf_M_isState x y z n g with
    | none => rfl
    | some v =>
      rw [bsm, bsm]
      by_cases e1 : v.1 = 0
      · rw [if_pos e1, if_pos e1]; rfl
      · rw [if_neg e1, if_neg e1]
        cases e2 : pf_M_stands s v.2 with
        | none => rfl
        | some v2 =>
          rw [bsm, bsm]
          by_cases e3 : v2 = 0
          · rw [if_pos e3, if_pos e3]; rfl
          · rw [if_neg e3, if_neg e3]; rfl
  · intro p q l w L W S h g G I
    have kL := G.1.2.2.1
    have en := NS_eq kL
    simp only []
    rw [hd, c_stands G.1 G.2.1, bsm, if_neg (show ¬ (1 : Int) = 0 by decide), m_stands G.2.2.1.1, bsm, if1, G.2.2.2.1]
    by_cases q1 : (0 ≤ s ∧ s < L 4) ∧ 0 ≤ S (72 + s.toNat)
    · rw [if_pos q1, if_pos q1]
      exact main p q l w L W S h g G I (by omega) (by omega) q1.2
    · rw [if_neg q1, if_neg q1, nd, nm]
      exact ⟨no, h, g, rfl, fr_refl, rfl, MG_refl⟩
theorem p_holds {x y z n s : Int} : asks (pf_I_holds x y z n s) (pf_M_holds x y z n s) := by
  refine ask_std (x := x) (y := y) (z := z) (n := n) (s := s) (-1) (fun _ => rfl) (fun _ => rfl) (fun _ => rfl) (fun _ => rfl) (fun _ => rfl) (fun _ => rfl) ?_
  intro p q l w L W S h g ⟨C, K, M, eS, Z, V, TT⟩ hs es h0
  have kL := C.2.2.1
  subst eS
  obtain ⟨h1, c1, c2⟩ := c_daysHeld (WS0 kL) C K V (by omega) hs (by omega)
  obtain ⟨g1, m1, m2, -, -⟩ := m_holdsFor M V (by omega) hs
  rw [es] at c1 m1
  simp only []
  rw [if_neg (show ¬ (1 : Int) = 0 by decide), if_neg (show ¬ (1 : Int) = 0 by decide), c1, m1]
  exact ⟨_, h1, g1, rfl, fr_mono c2 (fun b hb => by unfold SF at hb; unfold CGs; omega), rfl, MF_MG m2⟩
/-! winters -/
def wnx (x : Int) : Int := wr (wr (x * 1103515245) + 12345)
def wdr (x : Int) : Int := Int.tmod (push x 16) 7
def wsx (x : Int) (n : Nat) : Int := match n with
  | 0 => x
  | n + 1 => wnx (wsx x n)
noncomputable def wnS (L W wt sv : Nat → Int) (x : Int) (S : Nat → Int) (n : Nat) : Nat → Int := match n with
  | 0 => S
  | n + 1 => pday L W wt sv 0 (fro L (wnS L W wt sv x S n) + wdr (wsx x (n + 1)) - 3) (wnS L W wt sv x S n)
theorem wdr_r {x : Int} : 0 ≤ wdr x ∧ wdr x ≤ 6 := by
  have h : 0 ≤ push x 16 := by
    unfold push
    have e : ((Int32.ofInt 16).toUInt32 &&& Int32.toUInt32 31) = 16 := by decide
    rw [e]
    show 0 ≤ ((Int32.ofInt x).toUInt32 >>> 16).toBitVec.toInt
    rw [UInt32.toBitVec_shiftRight]
    show 0 ≤ ((Int32.ofInt x).toUInt32.toBitVec >>> (16#32 % 32#32)).toInt
    rw [show (16#32 % 32#32 : BitVec 32) = 16#32 by decide]
    rw [BitVec.ushiftRight_eq', show (16#32 : BitVec 32).toNat = 16 from rfl]
    have lt : ((Int32.ofInt x).toUInt32.toBitVec >>> 16).toNat < 65536 := by
      rw [BitVec.toNat_ushiftRight, Nat.shiftRight_eq_div_pow]
      have := (Int32.ofInt x).toUInt32.toBitVec.isLt
      omega
    rw [BitVec.toInt_eq_toNat_of_lt (by omega)]
    omega
  unfold wdr
  rw [tm_p h]
  omega
section Dk
variable {h : pH} {a p q l w : Nat} {L W wt sv S T : Nat → Int} {u : Bool} {d : Nat} {tk : Int}
theorem SV_wnS {x : Int} (kL : LK L) (kW : WK W) (V : SV L S d) : ∀ {n : Nat}, SV L (wnS L W wt sv x S n) (d + n)
  | 0 => V
  | n + 1 => SV_pday (SV_wnS kL kW V) kL kW
theorem wnS_ext {x : Int} (kL : LK L) (kW : WK W) (V : SV L S d) (e : E8 S T) : ∀ {n : Nat}, E8 (wnS L W wt sv x S n) (wnS L W wt sv x T n)
  | 0 => e
  | n + 1 => by
    have i := wnS_ext (x := x) kL kW V e (n := n)
    rw [wnS, wnS]
    have : fro L (wnS L W wt sv x S n) = fro L (wnS L W wt sv x T n) := by unfold fro; rw [i 78 (by omega)]
    rw [this]
    exact pday_ext kL kW (SV_wnS (n := n) kL kW V) i
theorem wnS_hi {x : Int} (kL : LK L) (kW : WK W) (V : SV L S d) : ∀ {n : Nat}, ∀ i, 80 ≤ i → wnS L W wt sv x S n i = S i
  | 0, i, _ => rfl
  | n + 1, i, hi => by rw [wnS, pday_hi kL kW (SV_wnS (n := n) kL kW V) i hi]; exact wnS_hi kL kW V i hi
theorem wnS_off {x : Int} {s : Nat} (kL : LK L) (kW : WK W) (V : SV L S d) (hs : s < 6) : ∀ {n m : Nat}, n ≤ m → wnS L W wt sv x S n (72 + s) < 0 → wnS L W wt sv x S m (72 + s) < 0
  | n, 0, h, g => by rw [show n = 0 by omega] at g; exact g
  | n, m + 1, h, g => by
    rcases Nat.lt_or_ge n (m + 1) with y | y
    · rw [wnS]; exact pday_off kL kW (SV_wnS (n := m) kL kW V) hs (wnS_off kL kW V hs (by omega) g)
    · rw [show m + 1 = n by omega]; exact g
theorem m_drawnDay {x : Int} {i : Nat} (M : MC h l w L W wt sv 0) (V : SV L (pi h 422) d) (hd : d ≤ 1000) (e : pi h 417 37 = wsx x i) : ∃ h', pf_M_drawnDay h = some h' ∧ MF h h' ∧ pi h' 422 = pday L W wt sv 0 (fro L (pi h 422) + wdr (wsx x (i + 1)) - 3) (pi h 422) ∧ pi h' 417 37 = wsx x (i + 1) := by
  have kL := M.1.2.2.2.2.2.2.1
  have fb := fro_bd (S := pi h 422) kL V.2.2.2.2.1.1
  have wb := wdr_r (x := wsx x (i + 1))
  unfold pf_M_drawnDay pf_M_drawnBelow
  rw [m_frostNow M.1 V.2.2.2.2.1.1, bsm, gnz (by decide), bsm, pi_wIs, e]
  simp only []
  have ew : wr (wr (wsx x i * 1103515245) + 12345) = wsx x (i + 1) := rfl
  rw [ew, show Int.tmod (push (wsx x (i + 1)) 16) 7 = wdr (wsx x (i + 1)) from rfl]
  have M1 : MC (pwI h 417 37 (wsx x (i + 1))) l w L W wt sv 0 := MC_c M (fun j _ _ => pi_wIi (by omega)) (pi_wIf (by decide))
  have e2 : pi (pwI h 417 37 (wsx x (i + 1))) 422 = pi h 422 := pi_wIf (by decide)
  simp (disch := omega) only [wr_eq]
  obtain ⟨h1, p1, p2, p3⟩ := m_passDay (f := fro L (pi h 422) + wdr (wsx x (i + 1)) - 3) M1 (by rw [e2]; exact V) hd (by omega) (by omega)
  rw [e2] at p3
  rw [p1]
  refine ⟨h1, rfl, ⟨fr_trans (fr_wI fr_refl (by unfold MFs; omega)) (fr_mono p2 (fun b hb => by unfold MFs; omega)), fun j a b => by rw [fr_i p2 (by omega), pi_wIi (by omega)]⟩, p3, by rw [fr_i p2 (by omega), pi_wIs]⟩
theorem c_drawnDay {x : Int} {i : Nat} (hW : WS L wt sv) (C : CX h p q L W) (K : SC h a p q L W wt sv false S) (V : SV L S d) (hd : d ≤ 1000) : ∃ h', pf_I_nextDraw (wsx x i) h = some (wsx x (i + 1)) ∧ pf_Sc_frost a h = some (fro L S) ∧ pf_I_drawnFrost (wsx x (i + 1)) h = some (wdr (wsx x (i + 1)) - 3) ∧ pf_Sc_passDay a (wr (fro L S + (wdr (wsx x (i + 1)) - 3))) h = some h' ∧ fr (SF a) h h' ∧ SC h' a p q L W wt sv false (pday L W wt sv 0 (fro L S + wdr (wsx x (i + 1)) - 3) S) := by
  have kL := C.2.2.1
  have fb := fro_bd (S := S) kL V.2.2.2.2.1.1
  have wb := wdr_r (x := wsx x (i + 1))
  obtain ⟨h1, p1, p2, p3⟩ := c_passDay (f := fro L S + wdr (wsx x (i + 1)) - 3) hW C K V hd (by omega) (by omega)
  refine ⟨h1, rfl, c_frost C K V.2.2.2.2.1.1, ?_, ?_, p2, p3⟩
  · unfold pf_I_drawnFrost
    rw [show Int.tmod (push (wsx x (i + 1)) 16) 7 = wdr (wsx x (i + 1)) from rfl, wr_eq (by omega) (by omega)]
  · rw [wr_eq (by omega) (by omega), show fro L S + (wdr (wsx x (i + 1)) - 3) = fro L S + wdr (wsx x (i + 1)) - 3 by omega]
    exact p1
end Dk
theorem p_winter {x y z n sd days o : Int} (ho : o < 2147483648) : asks (pf_I_winter x y z n sd days o) (pf_M_winter x y z n sd days o) := by
  by_cases q0 : 0 ≤ days ∧ days ≤ 60
  · refine ask_gx (x := x) (y := y) (z := z) (n := n) (-1) (kc := fun v1 => (if v1.1 = 0 then (some (-1, v1.2)) else (pl_I_winter_33 x y z n sd days o (fun h => if o = 0 then ((pf_Sc_lost 303 h).bind fun v6 => (some (v6, h))) else (if o = 1 then (some (pi h 303 10, h)) else (if o = 2 then ((pf_Sc_standing 303 h).bind fun v9 => (some (v9, h))) else (if o < 100 then (some (-1, h)) else ((pf_La_isCell (pr h 303 0) (wr (o - 100)) h).bind fun v11 => (if v11 = 0 then (some (-1, h)) else (ia_gd (pib (wr (o - 100)) 36) (some (pi h 304 (Int.toNat (wr (o - 100))), h))))))))) fu_ sd 0 v1.2))) (km := fun v2 => (if v2.1 = 0 then (some (-1, v2.2)) else (pl_M_winter_34 x y z n sd days o (fun h => pl_M_winter_57 x y z n sd days o (fun x8 h => if o = 0 then ((pf_M_lost h).bind fun v9 => (some (v9, h))) else (if o = 1 then (some (pi h 422 79, h)) else (if o = 2 then (some (x8, h)) else ((pf_M_cells h).bind fun v6 => ((pf_M_isIn o 100 (wr (99 + v6)) h).bind fun v7 => (if v7 = 0 then (some (-1, h)) else (ia_gd (pib (wr (o - 100)) 1120) (some (pi h 422 (Int.toNat (wr (o - 100))), h))))))))) fu_ 0 0 h) fu_ 0 (pwI v2.2 417 37 sd)))) (fun h => by unfold pf_I_winter; rw [if_neg (by omega), if_neg (by omega)]) (fun h => by unfold pf_M_winter; rw [m_isIn, bsm, if1, if_pos q0]) (fun _ => rfl) (fun _ => rfl) ?_
    intro p q l w L W S h g ⟨C, K, M, eS, Z, V, TT⟩
    have kL := C.2.2.1
    have kW := C.2.2.2.1
    have z0 : 4 ≤ ce L ∧ ce L ≤ 36 := sz_mul kL.1
    have n6 := NS_le kL
    have en := NS_eq kL
    subst eS
    have Vd := SV_wnS (wt := wt0 L) (sv := sv0 L) (x := sd) kL kW V (n := days.toNat)
    have cl : ∀ KK : pH → Option (Int × pH), ∃ h1, pl_I_winter_33 x y z n sd days o KK fu_ sd 0 h = KK h1 ∧ fr CGs h h1 ∧ SC h1 303 p q L W (wt0 L) (sv0 L) false (wnS L W (wt0 L) (sv0 L) sd (pi g 422) days.toNat) := by
      intro KK
      refine lpf (F := fun m (i : Nat) t => pl_I_winter_33 x y z n sd days o KK m (wsx sd i) i t) (Q := fun r => ∃ h1, r = KK h1 ∧ fr CGs h h1 ∧ SC h1 303 p q L W (wt0 L) (sv0 L) false (wnS L W (wt0 L) (sv0 L) sd (pi g 422) days.toNat)) days.toNat (fun i t => fr CGs h t ∧ SC t 303 p q L W (wt0 L) (sv0 L) false (wnS L W (wt0 L) (sv0 L) sd (pi g 422) i)) ?_ ?_ fu_ 0 h (by omega) (by unfold fu_; omega) ⟨fr_refl, K⟩
      · intro m i t hi ⟨f, Kt⟩
        right
        have Ct : CX t p q L W := CX_fr C f (fun b hb => hb.1)
        obtain ⟨h3, d1, d2, d3, d4, d5, d6⟩ := c_drawnDay (x := sd) (i := i) (WS0 kL) Ct Kt (SV_wnS kL kW V) (by omega)
        refine ⟨h3, ?_, fr_trans f (fr_mono d5 (fun b hb => by unfold SF at hb; unfold CGs; omega)), d6⟩
        show pl_I_winter_33 x y z n sd days o _ (m + 1) (wsx sd i) i t = pl_I_winter_33 x y z n sd days o _ m (wsx sd (i + 1)) (i + 1 : Nat) h3
        rw [pl_I_winter_33, if_neg (by omega), d1, bsm, d2, bsm, d3, bsm, d4, bsm, wr_eq (x := (i : Int) + 1) (by omega) (by omega)]
        rfl
      · intro m t ⟨f, Kt⟩
        refine ⟨t, ?_, f, Kt⟩
        show pl_I_winter_33 x y z n sd days o _ (m + 1) (wsx sd days.toNat) (days.toNat : Nat) t = _
        rw [pl_I_winter_33, if_pos (by omega)]
    have ml : ∀ KK : pH → Option (Int × pH), ∃ g1, pl_M_winter_34 x y z n sd days o KK fu_ 0 (pwI g 417 37 sd) = KK g1 ∧ MF g g1 ∧ pi g1 422 = wnS L W (wt0 L) (sv0 L) sd (pi g 422) days.toNat := by
      intro KK
      refine lpf (F := fun m (i : Nat) t => pl_M_winter_34 x y z n sd days o KK m i t) (Q := fun r => ∃ g1, r = KK g1 ∧ MF g g1 ∧ pi g1 422 = wnS L W (wt0 L) (sv0 L) sd (pi g 422) days.toNat) days.toNat (fun i t => MF g t ∧ pi t 422 = wnS L W (wt0 L) (sv0 L) sd (pi g 422) i ∧ pi t 417 37 = wsx sd i) ?_ ?_ fu_ 0 _ (by omega) (by unfold fu_; omega) ⟨MF_wI MF_refl (by unfold MFs; omega) (by omega), pi_wIf (by decide), pi_wIs⟩
      · intro m i t hi ⟨f, e, e2⟩
        right
        obtain ⟨h2, d1, d2, d3, d4⟩ := m_drawnDay (x := sd) (i := i) (MF_MC M f) (by rw [e]; exact SV_wnS kL kW V) (by omega) e2
        rw [e] at d3
        refine ⟨h2, ?_, MF_trans f d2, d3, d4⟩
        show pl_M_winter_34 x y z n sd days o _ (m + 1) i t = pl_M_winter_34 x y z n sd days o _ m (i + 1 : Nat) h2
        rw [pl_M_winter_34, if_neg (by omega), d1, bsm, wr_eq (by omega) (by omega)]
        rfl
      · intro m t ⟨f, e, e2⟩
        refine ⟨t, ?_, f, e⟩
        show pl_M_winter_34 x y z n sd days o _ (m + 1) (days.toNat : Nat) t = _
        rw [pl_M_winter_34, if_pos (by omega)]
    obtain ⟨h1, c1, c2, c3⟩ := cl (fun h => if o = 0 then ((pf_Sc_lost 303 h).bind fun v6 => (some (v6, h))) else (if o = 1 then (some (pi h 303 10, h)) else (if o = 2 then ((pf_Sc_standing 303 h).bind fun v9 => (some (v9, h))) else (if o < 100 then (some (-1, h)) else ((pf_La_isCell (pr h 303 0) (wr (o - 100)) h).bind fun v11 => (if v11 = 0 then (some (-1, h)) else (ia_gd (pib (wr (o - 100)) 36) (some (pi h 304 (Int.toNat (wr (o - 100))), h)))))))))
    obtain ⟨g1, m1, m2, m3⟩ := ml (fun h => pl_M_winter_57 x y z n sd days o (fun x8 h => if o = 0 then ((pf_M_lost h).bind fun v9 => (some (v9, h))) else (if o = 1 then (some (pi h 422 79, h)) else (if o = 2 then (some (x8, h)) else ((pf_M_cells h).bind fun v6 => ((pf_M_isIn o 100 (wr (99 + v6)) h).bind fun v7 => (if v7 = 0 then (some (-1, h)) else (ia_gd (pib (wr (o - 100)) 1120) (some (pi h 422 (Int.toNat (wr (o - 100))), h))))))))) fu_ 0 0 h)
    have C1 : CX h1 p q L W := CX_fr C c2 (fun b hb => hb.1)
    have M1 := MF_MC M m2
    have up : ∀ KK : Int → pH → Option (Int × pH), pl_M_winter_57 x y z n sd days o KK fu_ 0 0 g1 = KK (sumw (stdf (pi g1 422)) (NS L)) g1 := by
      intro KK
      obtain ⟨e1, e2, hl, hw, hL, hW, -, -⟩ := M1.1
      refine lpf (F := fun m (i : Nat) (_ : Unit) => pl_M_winter_57 x y z n sd days o KK m (sumw (stdf (pi g1 422)) i) i g1) (Q := fun r => r = KK (sumw (stdf (pi g1 422)) (NS L)) g1) (NS L) (fun _ _ => True) ?_ ?_ fu_ 0 () (by omega) (by unfold fu_; omega) trivial
      · intro m i _ hi _
        right
        have sb := sum6 kL (f := stdf (pi g1 422)) (fun s _ => by unfold stdf; split <;> omega) (i := i) (by omega)
        refine ⟨(), ?_, trivial⟩
        show pl_M_winter_57 x y z n sd days o KK (m + 1) (sumw (stdf (pi g1 422)) i) i g1 = pl_M_winter_57 x y z n sd days o KK m (sumw (stdf (pi g1 422)) (i + 1)) (i + 1 : Nat) g1
        rw [pl_M_winter_57]
        unfold pj_M_winter_89
        simp (disch := omega) only [e1, wr_eq, tn_l, gib, hL, Int.reduceToNat, sumw]
        rw [if_neg (by omega), m_stands M1.1, bsm, if1, Int.toNat_natCast]
        by_cases y1 : pi g1 422 (72 + i) < 0
        · have e : stdf (pi g1 422) i = 0 := if_pos y1
          rw [e, if_neg (by omega)]; rfl
        · have e : stdf (pi g1 422) i = 1 := if_neg y1
          rw [e, if_pos ⟨by omega, by omega⟩]; rfl
      · intro m _ _
        show pl_M_winter_57 x y z n sd days o KK (m + 1) (sumw (stdf (pi g1 422)) (NS L)) (NS L : Nat) g1 = _
        rw [pl_M_winter_57]
        simp (disch := omega) only [e1, wr_eq, tn_l, gib, hL, Int.reduceToNat]
        rw [if_pos (by omega)]
    simp only []
    rw [if_neg (show ¬ (1 : Int) = 0 by decide), if_neg (show ¬ (1 : Int) = 0 by decide), c1, m1, up]
    rw [← m3] at c3 Vd
    by_cases o0 : o = 0
    · rw [if_pos o0, if_pos o0, c_lost C1 c3, m_lost M1.1]
      exact ⟨_, h1, g1, rfl, c2, rfl, MF_MG m2⟩
    · rw [if_neg o0, if_neg o0]
      by_cases o1 : o = 1
      · rw [if_pos o1, if_pos o1, c3.2.2.2.2.2.2]
        exact ⟨_, h1, g1, rfl, c2, rfl, MF_MG m2⟩
      · rw [if_neg o1, if_neg o1]
        by_cases o2 : o = 2
        · rw [if_pos o2, if_pos o2, c_standing C1 c3]
          exact ⟨_, h1, g1, rfl, c2, rfl, MF_MG m2⟩
        · rw [if_neg o2, if_neg o2, m_cells M1.1, bsm, m_isIn, bsm, if1, c3.1.2.1, c_isCell C1, bsm, if1, wr_eq (x := 99 + ce L) (by omega) (by omega)]
          by_cases o3 : o < 100
          · rw [if_pos o3, if_neg (by omega)]
            exact ⟨_, h1, g1, rfl, c2, rfl, MF_MG m2⟩
          · rw [if_neg o3]
            by_cases o4 : o < 100 + ce L
            · have v := c3.2.1 (o - 100).toNat (by omega) (Or.inl rfl)
              rw [wr_eq (x := o - 100) (by omega) (by omega), if_pos (by omega), if_pos (by omega), gib (by omega) (by omega), gib (by omega) (by omega), v]
              exact ⟨_, h1, g1, rfl, c2, rfl, MF_MG m2⟩
            · rw [if_neg (show ¬ (100 ≤ o ∧ o ≤ 99 + ce L) by omega)]
              by_cases o5 : 0 ≤ wr (o - 100) ∧ wr (o - 100) < ce L
              · exfalso
                rw [wr_eq (x := o - 100) (by omega) (by omega)] at o5
                omega
              · rw [if_neg o5]
                exact ⟨_, h1, g1, rfl, c2, rfl, MF_MG m2⟩
  · refine ask_no (-1) (fun h A R => ⟨h, ?_, fr_refl⟩) (fun g B I => ⟨g, ?_, MG_refl⟩)
    · unfold pf_I_winter
      by_cases v : days < 0
      · rw [if_pos v]
      · rw [if_neg v, if_pos (by omega)]
    · unfold pf_M_winter
      rw [m_isIn, bsm, if1, if_neg q0]
