/-! frames of answers -/
/-- class and reference look at one state -/
def GX (h g : pH) (p q l w : Nat) (L W S : Nat → Int) : Prop := CX h p q L W ∧ SC h 303 p q L W (wt0 L) (sv0 L) false S ∧ MC g l w L W (wt0 L) (sv0 L) 0 ∧ pi g 422 = S ∧ (∀ c : Nat, c < 36 → pi g 424 c = 0) ∧ SV L S 31 ∧ ff L W S (wt0 L) 0 < 0
theorem ask_gx {α : Type} {cf mf : pH → Option (α × pH)} {x y z n : Int} (no : α) {kc km : Int × pH → Option (α × pH)} (hc : ∀ h, cf h = (pf_I_stage x y z n h).bind kc) (hm : ∀ h, mf h = (pf_M_isState x y z n h).bind km) (nc : ∀ h, kc (0, h) = some (no, h)) (nm : ∀ h, km (0, h) = some (no, h)) (main : ∀ p q l w L W S h g, GX h g p q l w L W S → ∃ r h1 g1, kc (1, h) = some (r, h1) ∧ fr CGs h h1 ∧ km (1, g) = some (r, g1) ∧ MG g g1) : asks cf mf :=
  ask_by no hc hm nc nm (fun A S h g B hx hy V TT G H _ => main _ _ _ _ _ _ S h g ⟨G.1, G.2, H.1, H.2.1, H.2.2, V, TT⟩)
theorem ask_gy {α : Type} {cf mf : pH → Option (α × pH)} {x y z n : Int} (no : α) {kc km : Int × pH → Option (α × pH)} (hc : ∀ h, cf h = (pf_I_stage x y z n h).bind kc) (hm : ∀ h, mf h = (pf_M_isState x y z n h).bind km) (nc : ∀ h, kc (0, h) = some (no, h)) (nm : ∀ h, km (0, h) = some (no, h)) (main : ∀ p q l w L W S h g, GX h g p q l w L W S → MI g → ∃ r h1 g1, kc (1, h) = some (r, h1) ∧ fr CGs h h1 ∧ km (1, g) = some (r, g1) ∧ MG g g1) : asks cf mf :=
  ask_by no hc hm nc nm (fun A S h g B hx hy V TT G H I => main _ _ _ _ _ _ S h g ⟨G.1, G.2, H.1, H.2.1, H.2.2, V, TT⟩ I)
theorem ask_no {α : Type} {cf mf : pH → Option (α × pH)} (no : α) (c : ∀ h A, TR h 65 A → ∃ h1, cf h = some (no, h1) ∧ fr CGs h h1) (m : ∀ g, TB (pi g 418) → MI g → ∃ g1, mf g = some (no, g1) ∧ MG g g1) : asks cf mf := by
  intro h A R hA I
  obtain ⟨h1, c1, c2⟩ := c h A R
  obtain ⟨g1, m1, m2⟩ := m h1 (by rw [CG_i c2 (Or.inr (by omega)), hA]; exact TR_TB R) (CG_MI c2 I)
  exact ⟨no, h1, g1, c1, c2, m1, m2⟩
theorem c_no {α : Type} {cf : pH → Option (α × pH)} {x y z n : Int} (no : α) {kc : Int × pH → Option (α × pH)} (hc : ∀ h, cf h = (pf_I_stage x y z n h).bind kc) (nc : ∀ h, kc (0, h) = some (no, h)) (main : ∀ p q L W S h, CX h p q L W → SC h 303 p q L W (wt0 L) (sv0 L) false S → SV L S 31 → ∃ h1, kc (1, h) = some (no, h1) ∧ fr CGs h h1) : ∀ h A, TR h 65 A → ∃ h1, cf h = some (no, h1) ∧ fr CGs h h1 := by
  intro h A R
  obtain ⟨v, h1, p1, p2, p3⟩ := c_stage (x := x) (y := y) (z := z) (n := n) R (fun _ => 0)
  rw [hc, p1, bsm]
  rcases p3 with ⟨q1, q2⟩ | ⟨S, q1, q2, q3⟩
  · rw [q2]; exact ⟨h1, nc h1, p2⟩
  · obtain ⟨g1, g2, -, -, g5, g6⟩ := gst_ok (TR_TB R) q1
    obtain ⟨h2, r1, r2⟩ := main _ _ _ _ S h1 q3.1 q3.2 g5
    rw [q2]
    exact ⟨h2, r1, fr_trans p2 r2⟩
theorem m_no {α : Type} {mf : pH → Option (α × pH)} {x y z n : Int} (no : α) {km : Int × pH → Option (α × pH)} (hm : ∀ h, mf h = (pf_M_isState x y z n h).bind km) (nm : ∀ h, km (0, h) = some (no, h)) (main : ∀ l w L W g, MC g l w L W (wt0 L) (sv0 L) 0 → SV L (pi g 422) 31 → ∃ g1, km (1, g) = some (no, g1) ∧ MG g g1) : ∀ g, TB (pi g 418) → MI g → ∃ g1, mf g = some (no, g1) ∧ MG g g1 := by
  intro g B I
  obtain ⟨r, h1, p1, p2, p3⟩ := m_isState (x := x) (y := y) (z := z) (n := n) rfl B I
  rw [hm, p1, bsm]
  rcases p3 with ⟨q1, q2⟩ | ⟨S, q1, q2, q3⟩
  · rw [q2]; exact ⟨h1, nm h1, p2⟩
  · obtain ⟨g1, g2, -, -, g5, g6⟩ := gst_ok B q1
    obtain ⟨h2, r1, r2⟩ := main _ _ _ _ h1 q3.1 (by rw [q3.2.1]; exact g5)
    rw [q2]
    exact ⟨h2, r1, MG_trans p2 r2⟩
theorem c_isLoad {x : Int} {h : pH} : pf_I_isLoad x h = some (if 1 ≤ x ∧ x ≤ 999 then 1 else 0) := by
  unfold pf_I_isLoad
  by_cases q1 : x < 1
  · rw [if_pos q1, if_neg (by omega)]
  · rw [if_neg q1]
    by_cases q2 : 999 < x
    · rw [if_pos q2, if_neg (by omega)]
    · rw [if_neg q2, if_pos (by omega)]
theorem m_isLoad {x : Int} {h : pH} : pf_M_isLoad x h = some (if 1 ≤ x ∧ x ≤ 999 then 1 else 0) := by
  unfold pf_M_isLoad
  rw [m_isIn, bsm, gz1]
theorem c_isTrip {h : pH} {p q : Nat} {L W : Nat → Int} {load c to : Int} (C : CX h p q L W) (e : pr h 303 0 = p) : pf_I_isTrip load c to h = some (cif ((1 ≤ load ∧ load ≤ 999) ∧ c ≠ to ∧ inr L c ∧ inr L to) 1 0) := by
  unfold pf_I_isTrip
  rw [c_isLoad, bsm, if1, e, c_isCell C, bsm, if1, c_isCell C, bsm, if1]
  by_cases q1 : 1 ≤ load ∧ load ≤ 999
  · rw [if_pos q1]
    by_cases q2 : c = to
    · rw [if_pos q2, cif_f (fun v => v.2.1 q2)]
    · rw [if_neg q2]
      by_cases q3 : 0 ≤ c ∧ c < ce L
      · rw [if_pos q3]
        by_cases q4 : 0 ≤ to ∧ to < ce L
        · rw [if_pos q4, cif_t ⟨q1, q2, q3, q4⟩]
        · rw [if_neg q4, cif_f (fun v => q4 v.2.2.2)]
      · rw [if_neg q3, cif_f (fun v => q3 v.2.2.1)]
  · rw [if_neg q1, cif_f (fun v => q1 v.1)]
/-- answers to load, from, to -/
theorem ask_trip {α : Type} {cf mf : pH → Option (α × pH)} {x y z n load fm to : Int} (no : α) {kc km : Int × pH → Option (α × pH)} {kd : pH → Int → Option (α × pH)} (hc : ∀ h, cf h = (pf_I_stage x y z n h).bind kc) (nc : ∀ h, kc (0, h) = some (no, h)) (hd : ∀ h, kc (1, h) = (pf_I_isTrip load fm to h).bind (kd h)) (nd : ∀ h, kd h 0 = some (no, h)) (hm0 : ¬ (1 ≤ load ∧ load ≤ 999) → ∀ g, mf g = some (no, g)) (hm : (1 ≤ load ∧ load ≤ 999) → ∀ g, mf g = (pf_M_areWays x y z n fm to g).bind km) (nm : ∀ h, km (0, h) = some (no, h)) (main : (1 ≤ load ∧ load ≤ 999) → fm ≠ to → ∀ p q l w L W S h g, GX h g p q l w L W S → inr L fm → inr L to → ∃ r h1 g1, kd h 1 = some (r, h1) ∧ fr CGs h h1 ∧ km (1, g) = some (r, g1) ∧ MG g g1) : asks cf mf := by
  by_cases q1 : (1 ≤ load ∧ load ≤ 999) ∧ fm ≠ to
  · refine ask_gx (x := x) (y := y) (z := z) (n := n) no (kc := kc) (km := fun v1 => if v1.1 = 0 then km (0, v1.2) else ((pf_M_isCell (pi v1.2 417 14) fm v1.2).bind fun v2 => (if v2 = 0 then km (0, v1.2) else ((pf_M_isCell (pi v1.2 417 14) to v1.2).bind fun v3 => (if v3 = 0 then km (0, v1.2) else km (1, v1.2)))))) hc ?_ nc (fun h => nm h) ?_
    · intro g
      rw [hm q1.1]
      unfold pf_M_areWays
      rw [if_neg q1.2]
      cases e : pf_M_isState x y z n g with
      | none => rfl
      | some v =>
        rw [bsm, bsm]
        by_cases e1 : v.1 = 0
        · rw [if_pos e1, if_pos e1]; rfl
        · rw [if_neg e1, if_neg e1]
          cases e2 : pf_M_isCell (pi v.2 417 14) fm v.2 with
          | none => rfl
          | some v2 =>
            rw [bsm, bsm]
            by_cases e3 : v2 = 0
            · rw [if_pos e3, if_pos e3]; rfl
            · rw [if_neg e3, if_neg e3]
              cases e4 : pf_M_isCell (pi v.2 417 14) to v.2 with
              | none => rfl
              | some v3 =>
                rw [bsm, bsm]
                by_cases e5 : v3 = 0
                · rw [if_pos e5, if_pos e5]; rfl
                · rw [if_neg e5, if_neg e5]; rfl
    · intro p q l w L W S h g G
      have C := G.1
      have M := G.2.2.1
      have kL := C.2.2.1
      have hl := M.1.2.2.1
      simp only []
      rw [hd, c_isTrip C G.2.1.1.2.1, bsm, if_neg (show ¬ (1 : Int) = 0 by decide), M.1.1, m_isCell (by omega) M.1.2.2.2.2.1 kL.1, bsm, if1, m_isCell (by omega) M.1.2.2.2.2.1 kL.1, bsm, if1]
      by_cases q3 : 0 ≤ fm ∧ fm < ce L
      · rw [if_pos q3]
        by_cases q4 : 0 ≤ to ∧ to < ce L
        · rw [if_pos q4, cif_t ⟨q1.1, q1.2, q3, q4⟩]
          exact main q1.1 q1.2 p q l w L W S h g G q3 q4
        · rw [if_neg q4, cif_f (fun v => q4 v.2.2.2), nd, nm]
          exact ⟨no, h, g, rfl, fr_refl, rfl, MG_refl⟩
      · rw [if_neg q3, cif_f (fun v => q3 v.2.2.1), nd, nm]
        exact ⟨no, h, g, rfl, fr_refl, rfl, MG_refl⟩
  · refine ask_no no (c_no (x := x) (y := y) (z := z) (n := n) no hc nc ?_) ?_
    · intro p q L W S h C K V
      refine ⟨h, ?_, fr_refl⟩
      rw [hd, c_isTrip C K.1.2.1, bsm, cif_f (fun v => q1 ⟨v.1, v.2.1⟩), nd]
    · intro g B I
      by_cases q2 : 1 ≤ load ∧ load ≤ 999
      · have q3 : fm = to := Classical.byContradiction fun v => q1 ⟨q2, v⟩
        refine ⟨g, ?_, MG_refl⟩
        rw [hm q2]
        unfold pf_M_areWays
        rw [if_pos q3, bsm, nm]
      · exact ⟨g, hm0 q2 g, MG_refl⟩
/-! ice, from, part, spread -/
theorem p_ice {x y z n c o : Int} : asks (pf_I_ice x y z n c o) (pf_M_ice x y z n c o) := by
  by_cases q1 : 0 ≤ o ∧ o ≤ 3
  · refine ask_gx (x := x) (y := y) (z := z) (n := n) (-1) (km := fun v1 => if v1.1 = 0 then some (-1, v1.2) else ((pf_M_isCell (pi v1.2 417 14) c v1.2).bind fun v2 => (if v2 = 0 then some (-1, v1.2) else (if o = 0 then (ia_gd (pib c 1120) (some (pi v1.2 422 (Int.toNat c), v1.2))) else (if o = 1 then (ia_gd (pib (wr (36 + c)) 1120) (some (pi v1.2 422 (Int.toNat (wr (36 + c))), v1.2))) else (if o = 2 then ((pf_M_bears c v1.2).bind fun v4 => (some (v4, v1.2))) else ((pf_M_loadOf c (-1) v1.2).bind fun v3 => (some (v3, v1.2))))))))) (fun _ => rfl) ?_ (fun _ => rfl) (fun _ => rfl) ?_
    · intro g
      unfold pf_M_ice pf_M_isIce
      rw [m_isIn, bsm, if1, if_pos q1]
      cases e : pf_M_isState x y z n g with
      | none => rfl
      | some v =>
        simp only [bsm]
        by_cases e1 : v.1 = 0
        · rw [if_pos e1, if_pos e1]; rfl
        · rw [if_neg e1, if_neg e1]
          cases e2 : pf_M_isCell (pi v.2 417 14) c v.2 with
          | none => rfl
          | some v2 =>
            simp only [bsm]
            by_cases e3 : v2 = 0
            · rw [if_pos e3, if_pos e3]; rfl
            · rw [if_neg e3, if_neg e3]; rfl
    · intro p q l w L W S h g ⟨C, K, M, eS, Z, V, TT⟩
      have kL := C.2.2.1
      have z0 : 4 ≤ ce L ∧ ce L ≤ 36 := sz_mul kL.1
      have hl := M.1.2.2.1
      subst eS
      rw [n10]
      simp only []
      rw [K.1.2.1, c_isCell C, bsm, if1, if_neg (show ¬ (1 : Int) = 0 by decide), M.1.1, m_isCell (by omega) M.1.2.2.2.2.1 kL.1, bsm, if1]
      by_cases q3 : 0 ≤ c ∧ c < ce L
      · have ec : ((c.toNat : Nat) : Int) = c := by omega
        have v1 := K.2.1 c.toNat (by omega) (Or.inl rfl)
        have v2 := K.2.2.1 c.toNat (by omega)
        have v3 := (K.2.2.2.1 c.toNat (by omega)).1
        have rt := V.1 c.toNat (by omega)
        rw [ec] at v3
        rw [if_pos q3, if_pos q3]
        by_cases o0 : o = 0
        · rw [if_pos o0, if_pos o0, gib q3.1 (by omega), gib q3.1 (by omega), v1]
          exact ⟨_, h, g, rfl, fr_refl, rfl, MG_refl⟩
        · rw [if_neg o0, if_neg o0]
          by_cases o1 : o = 1
          · rw [if_pos o1, if_pos o1, gib q3.1 (by omega), wr_eq (by omega) (by omega), gib (by omega) (by omega), v2, show (36 + c).toNat = 36 + c.toNat by omega]
            exact ⟨_, h, g, rfl, fr_refl, rfl, MG_refl⟩
          · rw [if_neg o1, if_neg o1]
            by_cases o2 : o = 2
            · have b := c_bearAt (c := c.toNat) C rt
              rw [ec] at b
              rw [if_pos o2, if_pos o2, m_bears M q3.1 (by omega) rt]
              unfold pf_Sc_bears
              rw [gib q3.1 (by omega), K.1.2.1, v1, b]
              exact ⟨_, h, g, rfl, fr_refl, rfl, MG_refl⟩
            · rw [if_neg o2, if_neg o2, if_pos (by omega), gib q3.1 (by omega), v3, m_loadOf M V.2.2.2.1 q3.1 q3.2]
              exact ⟨_, h, g, rfl, fr_refl, rfl, MG_refl⟩
      · rw [if_neg q3, if_neg q3]
        exact ⟨_, h, g, rfl, fr_refl, rfl, MG_refl⟩
  · refine ask_no (-1) (c_no (x := x) (y := y) (z := z) (n := n) (-1) (fun _ => rfl) (fun _ => rfl) ?_) ?_
    · intro p q L W S h C K V
      refine ⟨h, ?_, fr_refl⟩
      rw [n10]
      simp only []
      rw [K.1.2.1, c_isCell C, bsm, if1, if_neg (by omega : ¬ o = 0), if_neg (by omega : ¬ o = 1), if_neg (by omega : ¬ o = 2), if_neg (by omega : ¬ o = 3)]
      split <;> rfl
    · intro g B I
      refine ⟨g, ?_, MG_refl⟩
      unfold pf_M_ice
      rw [m_isIn, bsm, if1, if_neg q1]
/-- the nearest stoves -/
noncomputable def sp1 (L S sv : Nat → Int) (a : Nat) (acc : Int) (n : Nat) : Int := match n with
  | 0 => acc
  | n + 1 => if 0 ≤ S (72 + a) ∧ 0 ≤ S (72 + n) ∧ 0 < sv a ∧ 0 < sv n then (if sp1 L S sv a acc n < 0 then stp (L 0) (S (72 + a)) (S (72 + n)) else min (sp1 L S sv a acc n) (stp (L 0) (S (72 + a)) (S (72 + n)))) else sp1 L S sv a acc n
noncomputable def sp2 (L S sv : Nat → Int) (n : Nat) : Int := match n with
  | 0 => -1
  | n + 1 => sp1 L S sv n (sp2 L S sv n) n
section Dd
variable {h : pH} {a p q l w : Nat} {L W wt sv S : Nat → Int} {u : Bool} {d : Nat} {tk : Int}
theorem sp1_lo (kL : LK L) (V : SV L S d) {i : Nat} {acc : Int} (hi : i < NS L) (h0 : -1 ≤ acc) : ∀ {n : Nat}, n ≤ NS L → -1 ≤ sp1 L S sv i acc n
  | 0, _ => h0
  | n + 1, hn => by
    have z : 4 ≤ ce L ∧ ce L ≤ 36 := sz_mul kL.1
    have r : -1 ≤ sp1 L S sv i acc n := sp1_lo kL V hi h0 (by omega)
    have v1 := V.2.2.1 i hi
    have v2 := V.2.2.1 n (by omega)
    rw [sp1]
    split
    · rename_i y
      have k := kL.1
      have b := stp_bd (w := L 0) (a := S (72 + i)) (b := S (72 + n)) ⟨k.1, k.2.1⟩ ⟨by omega, by omega⟩ ⟨by omega, by omega⟩
      split <;> omega
    · exact r
theorem sp2_lo (kL : LK L) (V : SV L S d) : ∀ {n : Nat}, n ≤ NS L → -1 ≤ sp2 L S sv n
  | 0, _ => by rw [sp2]; omega
  | n + 1, hn => by rw [sp2]; exact sp1_lo kL V (by omega) (sp2_lo kL V (by omega)) (by omega)
theorem c_stoves (C : CX h p q L W) (K : SC h a p q L W wt sv u S) (V : SV L S d) : pf_Sc_nearestStoves a h = some (sp2 L S sv (NS L)) := by
  have kL := C.2.2.1
  have z : 4 ≤ ce L ∧ ce L ≤ 36 := sz_mul kL.1
  have n6 := NS_le kL
  have en := NS_eq kL
  obtain ⟨⟨ha, ea, eb⟩, k1, k2, k3, k4, k5⟩ := K
  have inner : ∀ (K0 : Int → Int → Option Int) (i : Nat) (acc : Int), i < NS L → -1 ≤ acc → pl_Sc_nearestStoves_17 a h K0 fu_ acc i 0 = K0 (sp1 L S sv i acc i) i := by
    intro K0 i acc hi h0
    refine lpf (F := fun n (j : Nat) (_ : Unit) => pl_Sc_nearestStoves_17 a h K0 n (sp1 L S sv i acc j) i j) (Q := fun r => r = K0 (sp1 L S sv i acc i) i) i (fun _ _ => True) ?_ ?_ fu_ 0 () (by omega) (by unfold fu_; omega) trivial
    · intro n j _ hj _
      right
      refine ⟨(), ?_, trivial⟩
      have v1 := k4 i hi
      have v2 := k4 j (by omega)
      have r1 := V.2.2.1 i hi
      have r2 := V.2.2.1 j (by omega)
      have lo := sp1_lo (sv := sv) kL V hi h0 (n := j) (by omega)
      show pl_Sc_nearestStoves_17 a h K0 (n + 1) (sp1 L S sv i acc j) i j = pl_Sc_nearestStoves_17 a h K0 n (sp1 L S sv i acc (j + 1)) i (j + 1 : Nat)
      rw [pl_Sc_nearestStoves_17, if_neg (by omega), ea]
      simp (disch := omega) only [gib, Int.toNat_natCast, v1.1, v1.2.2, v2.1, v2.2.2, wr_eq]
      rw [sp1]
      by_cases q1 : S (72 + i) < 0
      · rw [if_pos q1, if_neg (by omega)]; rfl
      · rw [if_neg q1]
        by_cases q2 : sv i ≤ 0
        · rw [if_pos q2, if_neg (by omega)]; rfl
        · rw [if_neg q2]
          by_cases q3 : S (72 + j) < 0
          · rw [if_pos q3, if_neg (by omega)]; rfl
          · rw [if_neg q3]
            by_cases q4 : sv j ≤ 0
            · rw [if_pos q4, if_neg (by omega)]; rfl
            · rw [if_neg q4, c_steps C ⟨by omega, by omega⟩ ⟨by omega, by omega⟩, bsm, if_pos (show 0 ≤ S (72 + i) ∧ 0 ≤ S (72 + j) ∧ 0 < sv i ∧ 0 < sv j by omega)]
              by_cases q5 : sp1 L S sv i acc j = -1
              · rw [if_pos q5, if_pos (by omega)]; rfl
              · rw [if_neg q5, if_neg (by omega)]; rfl
    · intro n _ _
      show pl_Sc_nearestStoves_17 a h K0 (n + 1) (sp1 L S sv i acc i) i i = _
      rw [pl_Sc_nearestStoves_17, if_pos (by omega)]
  unfold pf_Sc_nearestStoves
  refine lpf (F := fun n (i : Nat) (_ : Unit) => pl_Sc_nearestStoves_4 a h (fun x1 => some x1) n (sp2 L S sv i) i) (Q := fun r => r = some (sp2 L S sv (NS L))) (NS L) (fun _ _ => True) ?_ ?_ fu_ 0 () (by omega) (by unfold fu_; omega) trivial
  · intro n i _ hi _
    right
    refine ⟨(), ?_, trivial⟩
    show pl_Sc_nearestStoves_4 a h _ (n + 1) (sp2 L S sv i) i = pl_Sc_nearestStoves_4 a h _ n (sp2 L S sv (i + 1)) (i + 1 : Nat)
    rw [pl_Sc_nearestStoves_4, ea, C.1.1.2.2.2.2, if_neg (by omega), inner _ i _ hi (sp2_lo kL V (by omega)), wr_eq (by omega) (by omega)]
    rfl
  · intro n _ _
    show pl_Sc_nearestStoves_4 a h _ (n + 1) (sp2 L S sv (NS L)) (NS L : Nat) = _
    rw [pl_Sc_nearestStoves_4, ea, C.1.1.2.2.2.2, if_pos (by omega)]
theorem m_stoves {x1 x2 x3 x4 : Int} (M : MC h l w L W wt sv tk) (V : SV L (pi h 422) d) : pl_M_spread_20 x1 x2 x3 x4 (fun x5 h => some (x5, h)) fu_ (-1) 0 h = some (sp2 L (pi h 422) sv (NS L), h) := by
  have kL := M.1.2.2.2.2.2.2.1
  have hWS := MC_WS M
  have z : 4 ≤ ce L ∧ ce L ≤ 36 := sz_mul kL.1
  have n6 := NS_le kL
  have en := NS_eq kL
  obtain ⟨e1, e2, hl, hw, hL, hW, -, kW⟩ := M.1
  have inner : ∀ (K0 : Int → Int → pH → Option (Int × pH)) (i : Nat) (acc : Int), i < NS L → -1 ≤ acc → pl_M_spread_39 x1 x2 x3 x4 K0 fu_ acc i 0 h = K0 (sp1 L (pi h 422) sv i acc i) i h := by
    intro K0 i acc hi h0
    refine lpf (F := fun n (j : Nat) (_ : Unit) => pl_M_spread_39 x1 x2 x3 x4 K0 n (sp1 L (pi h 422) sv i acc j) i j h) (Q := fun r => r = K0 (sp1 L (pi h 422) sv i acc i) i h) i (fun _ _ => True) ?_ ?_ fu_ 0 () (by omega) (by unfold fu_; omega) trivial
    · intro n j _ hj _
      right
      refine ⟨(), ?_, trivial⟩
      have r1 := V.2.2.1 i hi
      have r2 := V.2.2.1 j (by omega)
      have w1 := hWS i hi
      have w2 := hWS j (by omega)
      have lo := sp1_lo (sv := sv) kL V hi h0 (n := j) (by omega)
      have t1 : (72 + (i : Int)).toNat = 72 + i := by omega
      have t2 : (72 + (j : Int)).toNat = 72 + j := by omega
      show pl_M_spread_39 x1 x2 x3 x4 K0 (n + 1) (sp1 L (pi h 422) sv i acc j) i j h = pl_M_spread_39 x1 x2 x3 x4 K0 n (sp1 L (pi h 422) sv i acc (j + 1)) i (j + 1 : Nat) h
      rw [pl_M_spread_39, if_neg (by omega), m_stands M.1, bsm, if1, m_stands M.1, bsm, if1, m_stoveOf M.1 (by omega), bsm, m_stoveOf M.1 (by omega), bsm, M.2.2.1 i hi, M.2.2.1 j (by omega), Int.toNat_natCast, Int.toNat_natCast]
      simp (disch := omega) only [wr_eq, gib, t1, t2]
      rw [sp1]
      by_cases q1 : (0 ≤ (i : Int) ∧ (i : Int) < L 4) ∧ 0 ≤ pi h 422 (72 + i)
      · rw [if_pos q1]
        by_cases q3 : (0 ≤ (j : Int) ∧ (j : Int) < L 4) ∧ 0 ≤ pi h 422 (72 + j)
        · rw [if_pos q3]
          by_cases q2 : sv i = 0
          · rw [if_pos q2, if_neg (by omega)]; rfl
          · rw [if_neg q2]
            by_cases q4 : sv j = 0
            · rw [if_pos q4, if_neg (by omega)]; rfl
            · rw [if_neg q4, m_steps M.1 ⟨by omega, by omega⟩ ⟨by omega, by omega⟩, bsm, if_pos (show 0 ≤ pi h 422 (72 + i) ∧ 0 ≤ pi h 422 (72 + j) ∧ 0 < sv i ∧ 0 < sv j by omega)]
              by_cases q5 : sp1 L (pi h 422) sv i acc j < 0
              · rw [if_pos q5, if_pos q5]; rfl
              · rw [if_neg q5, if_neg q5]
                by_cases q6 : sp1 L (pi h 422) sv i acc j ≤ stp (L 0) (pi h 422 (72 + i)) (pi h 422 (72 + j))
                · rw [if_pos q6, Int.min_eq_left q6]; rfl
                · rw [if_neg q6, Int.min_eq_right (by omega)]; rfl
        · rw [if_neg q3, if_neg (by omega)]; rfl
      · rw [if_neg q1, if_neg (by omega)]; rfl
    · intro n _ _
      show pl_M_spread_39 x1 x2 x3 x4 K0 (n + 1) (sp1 L (pi h 422) sv i acc i) i i h = _
      rw [pl_M_spread_39, if_pos (by omega)]
  refine lpf (F := fun n (i : Nat) (_ : Unit) => pl_M_spread_20 x1 x2 x3 x4 (fun x5 h => some (x5, h)) n (sp2 L (pi h 422) sv i) i h) (Q := fun r => r = some (sp2 L (pi h 422) sv (NS L), h)) (NS L) (fun _ _ => True) ?_ ?_ fu_ 0 () (by omega) (by unfold fu_; omega) trivial
  · intro n i _ hi _
    right
    refine ⟨(), ?_, trivial⟩
    show pl_M_spread_20 x1 x2 x3 x4 _ (n + 1) (sp2 L (pi h 422) sv i) i h = pl_M_spread_20 x1 x2 x3 x4 _ n (sp2 L (pi h 422) sv (i + 1)) (i + 1 : Nat) h
    rw [pl_M_spread_20]
    simp (disch := omega) only [e1, wr_eq, tn_l, gib, hL, Int.reduceToNat]
    rw [if_neg (by omega), inner _ i _ hi (sp2_lo kL V (by omega)), wr_eq (by omega) (by omega)]
    rfl
  · intro n _ _
    show pl_M_spread_20 x1 x2 x3 x4 _ (n + 1) (sp2 L (pi h 422) sv (NS L)) (NS L : Nat) h = _
    rw [pl_M_spread_20]
    simp (disch := omega) only [e1, wr_eq, tn_l, gib, hL, Int.reduceToNat]
    rw [if_pos (by omega)]
end Dd
theorem p_spread {x y z n : Int} : asks (pf_I_spread x y z n) (pf_M_spread x y z n) := by
  refine ask_gx (x := x) (y := y) (z := z) (n := n) (-1) (fun _ => rfl) (fun _ => rfl) (fun _ => rfl) (fun _ => rfl) ?_
  intro p q l w L W S h g ⟨C, K, M, eS, Z, V, TT⟩
  subst eS
  rw [n10, n10]
  simp only []
  rw [c_stoves C K V, m_stoves M V]
  exact ⟨_, h, g, rfl, fr_refl, rfl, MG_refl⟩
