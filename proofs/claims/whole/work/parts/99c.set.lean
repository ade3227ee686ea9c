/-! what shops can, of states that are one in their first 80 places -/
theorem opn_ext {L W S T wt : Nat → Int} {tk wo load e : Int} {X : Int → Prop} (kL : LK L) (h : E8 S T) (he : inr L e) : opn L W S wt tk wo load X e ↔ opn L W T wt tk wo load X e := by
  have z : 4 ≤ ce L ∧ ce L ≤ 36 := sz_mul kL.1
  have n6 := NS_le kL
  have e0 := he.1
  have e1 := he.2
  have cg : ∀ s, s < NS L → S (72 + s) = T (72 + s) := fun s hs => h _ (by omega)
  unfold opn br
  rw [ld_c cg, h e.toNat (by omega)]
  have : (∀ s, s < NS L → S (72 + s) ≠ e) ↔ (∀ s, s < NS L → T (72 + s) ≠ e) := ⟨fun v s hs => by rw [← cg s hs]; exact v s hs, fun v s hs => by rw [cg s hs]; exact v s hs⟩
  rw [this]
theorem isw_ext {L W S T wt : Nat → Int} {tk wo load c to : Int} {X : Int → Prop} (kL : LK L) (h : E8 S T) (hc : inr L c) : isw L W (opn L W S wt tk wo load X) c to ↔ isw L W (opn L W T wt tk wo load X) c to := by
  unfold isw
  rw [dst_mono kL (fun e he => opn_ext kL h he) hc]
theorem cmv_ext {L W S T wt sv : Nat → Int} {s : Nat} {c : Int} (kL : LK L) (h : E8 S T) (hs : s < NS L) (h0 : inr L (S (72 + s))) : cmv L W T wt sv s c ↔ cmv L W S wt sv s c := by
  have n6 := NS_le kL
  have cg : ∀ s, s < NS L → S (72 + s) = T (72 + s) := fun s hs => h _ (by omega)
  unfold cmv
  rw [← cg s hs, isw_ext kL h h0]
  have : hot L W T sv s c ↔ hot L W S sv s c := by
    unfold hot
    constructor
    · intro ⟨t, t1, t2, t3⟩; exact ⟨t, t1, t2, by rw [cg t t1]; exact t3⟩
    · intro ⟨t, t1, t2, t3⟩; exact ⟨t, t1, t2, by rw [← cg t t1]; exact t3⟩
  rw [this]
theorem cgo_ext {L W S T wt : Nat → Int} {s : Nat} (kL : LK L) (h : E8 S T) (hs : s < NS L) (h0 : inr L (S (72 + s))) : cgo L W T wt s ↔ cgo L W S wt s := by
  have n6 := NS_le kL
  unfold cgo
  rw [← h (72 + s) (by omega)]
  constructor
  · intro v
    rcases v with v | ⟨c, c1, c2, c3⟩
    · exact Or.inl v
    · exact Or.inr ⟨c, c1, c2, (isw_ext kL h h0).mpr c3⟩
  · intro v
    rcases v with v | ⟨c, c1, c2, c3⟩
    · exact Or.inl v
    · exact Or.inr ⟨c, c1, c2, (isw_ext kL h h0).mp c3⟩
/-! gulls, set -/
noncomputable def wtr (L S T : Nat → Int) (i m : Nat) : Int := fnd (fun c => dc (T c = 0 ∧ S c ≠ 0)) i m
theorem wtr_s {L S T : Nat → Int} {i m : Nat} : wtr L S T i (m + 1) = if dc (T i = 0 ∧ S i ≠ 0) = true then (i : Int) else wtr L S T (i + 1) m := rfl
noncomputable def gdw (L W wt sv S : Nat → Int) (i m : Nat) : Int := match m with
  | 0 => -1
  | m + 1 => if 0 ≤ wtr L S (adn L W wt sv i S) 0 (ce L).toNat then wtr L S (adn L W wt sv i S) 0 (ce L).toNat else gdw L W wt sv S (i + 1) m
theorem wtr_ext {L S T S' T' : Nat → Int} (kL : LK L) (e : E8 S S') (g : E8 T T') : wtr L S T 0 (ce L).toNat = wtr L S' T' 0 (ce L).toNat := by
  have z : 4 ≤ ce L ∧ ce L ≤ 36 := sz_mul kL.1
  unfold wtr
  refine fnd_c (fun j _ hj => ?_)
  rw [e j (by omega), g j (by omega)]
theorem p_gulls {x y z n : Int} : asks (pf_I_gulls x y z n) (pf_M_gulls x y z n) := by
  refine ask_gx (x := x) (y := y) (z := z) (n := n) (-1) (fun _ => rfl) (fun _ => rfl) (fun _ => rfl) (fun _ => rfl) ?_
  intro p q l w L W S h g ⟨C, K, M, eS, Z, V, TT⟩
  have kL := C.2.2.1
  have kW := C.2.2.2.1
  have z0 : 4 ≤ ce L ∧ ce L ≤ 36 := sz_mul kL.1
  subst eS
  generalize hr : gdw L W (wt0 L) (sv0 L) (pi g 422) 1 60 = r
  have cc : ∃ h1, pf_Ou_firstWater 303 h = some (r, h1) ∧ fr CGs h h1 := by
    obtain ⟨h1, b1, b2, b3⟩ := c_become (a := 337) K kL (by omega) (by omega)
    unfold pf_Ou_firstWater
    rw [b1, bsm]
    refine lpf (F := fun m (i : Nat) t => pl_Ou_firstWater_10 303 (fun x3 h => some (x3, h)) (fun h => some (-1, h)) m ((i + 1 : Nat) : Int) t) (Q := fun rr => ∃ h1, rr = some (r, h1) ∧ fr CGs h h1) 60 (fun i t => fr CGs h t ∧ SC t 303 p q L W (wt0 L) (sv0 L) false (adn L W (wt0 L) (sv0 L) i (pi g 422)) ∧ SC t 337 p q L W (wt0 L) (sv0 L) false (pi g 422) ∧ r = gdw L W (wt0 L) (sv0 L) (pi g 422) (i + 1) (60 - i)) ?_ ?_ fu_ 0 h1 (by omega) (by unfold fu_; omega) ⟨fr_mono b2 (fun b hb => by unfold SF at hb; unfold CGs; omega), SC_fr K b2 (fun b hb => by unfold SF at hb; omega), b3, hr.symm⟩
    · intro m i t hi ⟨f, Kt, K2, e⟩
      have Ct : CX t p q L W := CX_fr C f (fun b hb => hb.1)
      obtain ⟨f0, t1, d1, d2, d3, d4⟩ := c_day1 (WS0 kL) Ct Kt (SV_adn kL kW V) (by omega)
      have C1 : CX t1 p q L W := SC_CX Ct (by omega) d3
      have K3 := SC_fr K2 d3 (fun b hb => by unfold SF at hb; omega)
      have f1 : fr CGs h t1 := fr_trans f (fr_mono d3 (fun b hb => by unfold SF at hb; unfold CGs; omega))
      have inner : ∀ (k1 : Int → pH → Option (Int × pH)) (k2 : Int → pH → Option (Int × pH)) (dd : Int), pl_Ou_firstWater_26 303 k1 k2 fu_ dd 0 t1 = if 0 ≤ wtr L (pi g 422) (adn L W (wt0 L) (sv0 L) (i + 1) (pi g 422)) 0 (ce L).toNat then k1 (wtr L (pi g 422) (adn L W (wt0 L) (sv0 L) (i + 1) (pi g 422)) 0 (ce L).toNat) t1 else k2 dd t1 := by
        intro k1 k2 dd
        generalize hw : wtr L (pi g 422) (adn L W (wt0 L) (sv0 L) (i + 1) (pi g 422)) 0 (ce L).toNat = ww
        refine lpf (F := fun m (c : Nat) (_ : Unit) => pl_Ou_firstWater_26 303 k1 k2 m dd c t1) (Q := fun rr => rr = if 0 ≤ ww then k1 ww t1 else k2 dd t1) (ce L).toNat (fun c _ => ww = wtr L (pi g 422) (adn L W (wt0 L) (sv0 L) (i + 1) (pi g 422)) c ((ce L).toNat - c)) ?_ ?_ fu_ 0 () (by omega) (by unfold fu_; omega) hw.symm
        · intro m c _ hc e
          have v1 : pi t1 (303 + 1) c = adn L W (wt0 L) (sv0 L) (i + 1) (pi g 422) c := d4.2.1 c (by omega) (Or.inl rfl)
          have v2 : pi t1 (337 + 1) c = pi g 422 c := K3.2.1 c (by omega) (Or.inl rfl)
          have v2' : pi t1 338 c = pi g 422 c := v2
          rw [show (ce L).toNat - c = ((ce L).toNat - (c + 1)) + 1 by omega, wtr_s] at e
          show pl_Ou_firstWater_26 303 k1 k2 (m + 1) dd c t1 = _ ∨ ∃ t' : Unit, pl_Ou_firstWater_26 303 k1 k2 (m + 1) dd c t1 = pl_Ou_firstWater_26 303 k1 k2 m dd (c + 1 : Nat) t1 ∧ _
          rw [pl_Ou_firstWater_26, d4.1.2.1, c_cells C1, bsm, if_neg (by omega)]
          simp (disch := omega) only [gib, Int.toNat_natCast, v1, v2', wr_eq]
          by_cases y1 : adn L W (wt0 L) (sv0 L) (i + 1) (pi g 422) c = 0
          · rw [if_pos y1]
            by_cases y2 : pi g 422 c = 0
            · right
              rw [dc_f (fun v => v.2 y2), if_neg (by decide)] at e
              rw [if_pos y2]
              exact ⟨(), rfl, e⟩
            · left
              rw [dc_t ⟨y1, y2⟩, if_pos rfl] at e
              rw [if_neg y2, e, if_pos (by omega)]
          · right
            rw [dc_f (fun v => y1 v.1), if_neg (by decide)] at e
            rw [if_neg y1]
            exact ⟨(), rfl, e⟩
        · intro m _ e
          show pl_Ou_firstWater_26 303 k1 k2 (m + 1) dd ((ce L).toNat : Nat) t1 = _
          rw [Nat.sub_self] at e
          have : ww = -1 := e
          rw [pl_Ou_firstWater_26, d4.1.2.1, c_cells C1, bsm, if_pos (by omega), this]
          rfl
      rw [show 60 - i = (60 - (i + 1)) + 1 by omega, gdw] at e
      show (∃ h1, pl_Ou_firstWater_10 303 _ _ (m + 1) ((i + 1 : Nat) : Int) t = some (_, h1) ∧ _) ∨ ∃ t', pl_Ou_firstWater_10 303 _ _ (m + 1) ((i + 1 : Nat) : Int) t = pl_Ou_firstWater_10 303 _ _ m ((i + 1 + 1 : Nat) : Int) t' ∧ _
      rw [pl_Ou_firstWater_10, if_neg (by omega), d1, bsm, d2, bsm, inner]
      by_cases y1 : 0 ≤ wtr L (pi g 422) (adn L W (wt0 L) (sv0 L) (i + 1) (pi g 422)) 0 (ce L).toNat
      · left
        rw [if_pos y1] at e ⊢
        exact ⟨t1, by rw [e], f1⟩
      · right
        rw [if_neg y1] at e ⊢
        rw [wr_eq (by omega) (by omega)]
        exact ⟨t1, rfl, f1, d4, K3, e⟩
    · intro m t ⟨f, Kt, K2, e⟩
      refine ⟨t, ?_, f⟩
      show pl_Ou_firstWater_10 303 _ _ (m + 1) ((60 + 1 : Nat) : Int) t = _
      have : r = -1 := e
      rw [pl_Ou_firstWater_10, if_pos (by omega), this]
  obtain ⟨g0, s1, s2, s3⟩ := m_save (g := g)
  have V0 : SV L (pi g0 422) 31 := SV_c V s3.1 kL
  have mm : ∃ g1, pl_M_gulls_23 x y z n (fun x6 h => some (x6, h)) (fun h => some (-1, h)) fu_ 1 g0 = some (r, g1) ∧ MF g g1 := by
    refine lpf (F := fun m (i : Nat) t => pl_M_gulls_23 x y z n (fun x3 h => some (x3, h)) (fun h => some (-1, h)) m ((i + 1 : Nat) : Int) t) (Q := fun rr => ∃ h1, rr = some (r, h1) ∧ MF g h1) 60 (fun i t => MF g t ∧ pi t 422 = adn L W (wt0 L) (sv0 L) i (pi g0 422) ∧ r = gdw L W (wt0 L) (sv0 L) (pi g 422) (i + 1) (60 - i)) ?_ ?_ fu_ 0 g0 (by omega) (by unfold fu_; omega) ⟨s2, rfl, hr.symm⟩
    · intro m i t hi ⟨f, et, e⟩
      obtain ⟨t1, d1, d2, d3⟩ := m_day1 (MF_MC M f) (by rw [et]; exact SV_adn kL kW V0) (by omega)
      rw [et] at d3
      have f1 := MF_trans f d2
      have M1 := MF_MC M f1
      have d4 : pi t1 422 = adn L W (wt0 L) (sv0 L) (i + 1) (pi g0 422) := d3
      have e8 := adn_ext (wt := wt0 L) (sv := sv0 L) kL kW V s3.1 (n := i + 1)
      have inner : ∀ (k1 : Int → pH → Option (Int × pH)) (k2 : Int → pH → Option (Int × pH)) (dd : Int), pl_M_gulls_37 x y z n k1 k2 fu_ dd 0 t1 = if 0 ≤ wtr L (pi g 422) (adn L W (wt0 L) (sv0 L) (i + 1) (pi g 422)) 0 (ce L).toNat then k1 (wtr L (pi g 422) (adn L W (wt0 L) (sv0 L) (i + 1) (pi g 422)) 0 (ce L).toNat) t1 else k2 dd t1 := by
        intro k1 k2 dd
        generalize hw : wtr L (pi g 422) (adn L W (wt0 L) (sv0 L) (i + 1) (pi g 422)) 0 (ce L).toNat = ww
        refine lpf (F := fun m (c : Nat) (_ : Unit) => pl_M_gulls_37 x y z n k1 k2 m dd c t1) (Q := fun rr => rr = if 0 ≤ ww then k1 ww t1 else k2 dd t1) (ce L).toNat (fun c _ => ww = wtr L (pi g 422) (adn L W (wt0 L) (sv0 L) (i + 1) (pi g 422)) c ((ce L).toNat - c)) ?_ ?_ fu_ 0 () (by omega) (by unfold fu_; omega) hw.symm
        · intro m c _ hc e
          have v1 : pi t1 422 c = adn L W (wt0 L) (sv0 L) (i + 1) (pi g 422) c := by rw [d4]; exact (e8 c (by omega)).symm
          have v2 : pi t1 422 (80 + c) = pi g 422 c := by rw [d4, adn_hi kL kW V0 _ (by omega)]; exact s3.2 c (by omega)
          have v3 := V.1 c (by omega)
          have tt : (80 + (c : Int)).toNat = 80 + c := by omega
          rw [show (ce L).toNat - c = ((ce L).toNat - (c + 1)) + 1 by omega, wtr_s] at e
          show pl_M_gulls_37 x y z n k1 k2 (m + 1) dd c t1 = _ ∨ ∃ t' : Unit, pl_M_gulls_37 x y z n k1 k2 (m + 1) dd c t1 = pl_M_gulls_37 x y z n k1 k2 m dd (c + 1 : Nat) t1 ∧ _
          rw [pl_M_gulls_37, m_cells M1.1, bsm, if_neg (by omega)]
          simp (disch := omega) only [gib, Int.toNat_natCast, wr_eq, tt, v1, v2]
          by_cases y1 : adn L W (wt0 L) (sv0 L) (i + 1) (pi g 422) c = 0
          · rw [if_pos y1]
            by_cases y2 : pi g 422 c = 0
            · right
              rw [dc_f (fun v => v.2 y2), if_neg (by decide)] at e
              rw [if_pos (by omega)]
              exact ⟨(), rfl, e⟩
            · left
              rw [dc_t ⟨y1, y2⟩, if_pos rfl] at e
              rw [if_neg (by omega), e, if_pos (by omega)]
          · right
            rw [dc_f (fun v => y1 v.1), if_neg (by decide)] at e
            rw [if_neg y1]
            exact ⟨(), rfl, e⟩
        · intro m _ e
          show pl_M_gulls_37 x y z n k1 k2 (m + 1) dd ((ce L).toNat : Nat) t1 = _
          rw [Nat.sub_self] at e
          have : ww = -1 := e
          rw [pl_M_gulls_37, m_cells M1.1, bsm, if_pos (by omega), this]
          rfl
      rw [show 60 - i = (60 - (i + 1)) + 1 by omega, gdw] at e
      show (∃ h1, pl_M_gulls_23 x y z n _ _ (m + 1) ((i + 1 : Nat) : Int) t = some (_, h1) ∧ _) ∨ ∃ t', pl_M_gulls_23 x y z n _ _ (m + 1) ((i + 1 : Nat) : Int) t = pl_M_gulls_23 x y z n _ _ m ((i + 1 + 1 : Nat) : Int) t' ∧ _
      rw [pl_M_gulls_23, if_neg (by omega), d1, bsm, inner]
      by_cases y1 : 0 ≤ wtr L (pi g 422) (adn L W (wt0 L) (sv0 L) (i + 1) (pi g 422)) 0 (ce L).toNat
      · left
        rw [if_pos y1] at e ⊢
        exact ⟨t1, by rw [e], f1⟩
      · right
        rw [if_neg y1] at e ⊢
        rw [wr_eq (by omega) (by omega)]
        exact ⟨t1, rfl, f1, d4, e⟩
    · intro m t ⟨f, et, e⟩
      refine ⟨t, ?_, f⟩
      show pl_M_gulls_23 x y z n _ _ (m + 1) ((60 + 1 : Nat) : Int) t = _
      have : r = -1 := e
      rw [pl_M_gulls_23, if_pos (by omega), this]
  obtain ⟨h1, c1, c2⟩ := cc
  obtain ⟨g1, m1, m2⟩ := mm
  simp only []
  rw [if_neg (show ¬ (1 : Int) = 0 by decide), if_neg (show ¬ (1 : Int) = 0 by decide), c1, s1, bsm, bsm, m1]
  exact ⟨_, h1, g1, rfl, c2, rfl, MF_MG m2⟩
/-- the best of cells, the first of several -/
noncomputable def bst (cand : Nat → Prop) (v : Nat → Int) (b0 : Int) (n : Nat) : Int × Int := match n with
  | 0 => (b0, -1)
  | n + 1 => cif (cand n ∧ (bst cand v b0 n).2 < v n) ((n : Int), v n) (bst cand v b0 n)
theorem bst_c {cand cand' : Nat → Prop} {v v' : Nat → Int} {b0 : Int} : ∀ {n : Nat}, (∀ c, c < n → (cand c ↔ cand' c)) → (∀ c, c < n → cand c → v c = v' c) → bst cand v b0 n = bst cand' v' b0 n
  | 0, _, _ => rfl
  | n + 1, h1, h2 => by
    rw [bst, bst, ← bst_c (fun c hc => h1 c (by omega)) (fun c hc => h2 c (by omega))]
    by_cases q : cand n ∧ (bst cand v b0 n).2 < v n
    · rw [cif_t q, cif_t ⟨(h1 n (by omega)).mp q.1, by rw [← h2 n (by omega) q.1]; exact q.2⟩, h2 n (by omega) q.1]
    · rw [cif_f q, cif_f (fun y => q ⟨(h1 n (by omega)).mpr y.1, by rw [h2 n (by omega) ((h1 n (by omega)).mpr y.1)]; exact y.2⟩)]
theorem bst_b {cand : Nat → Prop} {v : Nat → Int} {b0 b1 : Int} (hv : ∀ c, 0 ≤ v c) : ∀ {n : Nat}, (bst cand v b0 n).2 = (bst cand v b1 n).2 ∧ ((∃ c, c < n ∧ cand c) → (bst cand v b0 n).1 = (bst cand v b1 n).1 ∧ 0 ≤ (bst cand v b0 n).2)
  | 0 => ⟨rfl, fun ⟨c, h, _⟩ => by omega⟩
  | n + 1 => by
    obtain ⟨i1, i2⟩ := bst_b (cand := cand) (v := v) (b0 := b0) (b1 := b1) hv (n := n)
    rw [bst, bst, ← i1]
    by_cases q : cand n ∧ (bst cand v b0 n).2 < v n
    · rw [cif_t q, cif_t q]; exact ⟨rfl, fun _ => ⟨rfl, hv n⟩⟩
    · rw [cif_f q, cif_f q]
      refine ⟨i1, fun ⟨c, h1, h2⟩ => ?_⟩
      by_cases y : c < n
      · exact i2 ⟨c, y, h2⟩
      · rw [show c = n by omega] at h2
        have lo : 0 ≤ (bst cand v b0 n).2 := by
          have := hv n
          rcases Int.lt_or_le (bst cand v b0 n).2 (v n) with w | w
          · exact absurd ⟨h2, w⟩ q
          · omega
        by_cases ex : ∃ c, c < n ∧ cand c
        · exact i2 ex
        · exfalso
          have : ∀ m, m ≤ n → (bst cand v b0 m).2 = -1 := by
            intro m
            induction m with
            | zero => intro _; rfl
            | succ m ih => intro hm; rw [bst, cif_f (fun y => ex ⟨m, by omega, y.1⟩)]; exact ih (by omega)
          have := this n (Nat.le_refl _)
          omega
theorem bst_r {cand : Nat → Prop} {v : Nat → Int} {b0 : Int} (hv : ∀ c, 0 ≤ v c ∧ v c ≤ 61) (h0 : -1 ≤ b0 ∧ b0 ≤ 100) : ∀ {n : Nat}, n ≤ 100 → (-1 ≤ (bst cand v b0 n).2 ∧ (bst cand v b0 n).2 ≤ 61) ∧ (-1 ≤ (bst cand v b0 n).1 ∧ (bst cand v b0 n).1 ≤ 100)
  | 0, _ => by rw [bst]; exact ⟨by show (-1 : Int) ≤ -1 ∧ (-1 : Int) ≤ 61; omega, h0⟩
  | n + 1, h => by
    have i := bst_r (cand := cand) (v := v) (b0 := b0) hv h0 (n := n) (by omega)
    have q1 := hv n
    rw [bst]
    by_cases q : cand n ∧ (bst cand v b0 n).2 < v n
    · rw [cif_t q]; exact ⟨by show -1 ≤ v n ∧ v n ≤ 61; omega, by show (-1 : Int) ≤ n ∧ (n : Int) ≤ 100; omega⟩
    · rw [cif_f q]; exact i
/-- the state in which a shop is set -/
noncomputable def stv (L W wt S : Nat → Int) (s : Nat) (c : Nat) : Nat → Int := if (c : Int) = S (72 + s) then S else fl L W wt 0 6 (up1 S (72 + s) c)
theorem fl_E8 {L W wt S T : Nat → Int} {d : Nat} (kL : LK L) (V : SV L S d) (e : E8 S T) : E8 (fl L W wt 0 6 S) (fl L W wt 0 6 T) := fl_ext kL V e
theorem p_set {x y z n s : Int} : asks (pf_I_set x y z n s) (pf_M_set x y z n s) := by
  refine ask_std (x := x) (y := y) (z := z) (n := n) (s := s) (-1) (fun _ => rfl) (fun _ => rfl) (fun _ => rfl) (fun _ => rfl) (fun _ => rfl) (fun _ => rfl) ?_
  intro p q l w L W S h g ⟨C, K, M, eS, Z, V, TT⟩ hs es h0
  have kL := C.2.2.1
  have kW := C.2.2.2.1
  have hW := WS0 kL
  have z0 : 4 ≤ ce L ∧ ce L ≤ 36 := sz_mul kL.1
  have n6 := NS_le kL
  have en := NS_eq kL
  subst eS
  have rs := V.2.2.1 s.toNat hs
  have eh : (((pi g 422 (72 + s.toNat)).toNat : Nat) : Int) = pi g 422 (72 + s.toNat) := by omega
  have hv : ∀ c, 0 ≤ hld L W (wt0 L) (sv0 L) s.toNat (stv L W (wt0 L) (pi g 422) s.toNat c) ∧ hld L W (wt0 L) (sv0 L) s.toNat (stv L W (wt0 L) (pi g 422) s.toNat c) ≤ 61 := fun c => hld_r
  have cin : ∀ c : Nat, cmv L W (pi g 422) (wt0 L) (sv0 L) s.toNat c → ¬ (c : Int) = pi g 422 (72 + s.toNat) := fun c v e => (v.2.2.2).1 e.symm
  have vst : ∀ c : Nat, ((c : Int) = pi g 422 (72 + s.toNat) ∨ cmv L W (pi g 422) (wt0 L) (sv0 L) s.toNat c) → SV L (stv L W (wt0 L) (pi g 422) s.toNat c) 31 := fun c v => by
    unfold stv
    by_cases y : (c : Int) = pi g 422 (72 + s.toNat)
    · rw [if_pos y]; exact V
    · rw [if_neg y]
      rcases v with v | v
      · exact absurd v y
      · exact SV_fl kL (SV_mv V kL hs v.1 (isw_open v.2.2.2).2.1)
  have cc : ∃ h1, pf_Ou_safestCell 303 s h = some ((bst (fun c => (c : Int) = pi g 422 (72 + s.toNat) ∨ cmv L W (pi g 422) (wt0 L) (sv0 L) s.toNat c) (fun c => hld L W (wt0 L) (sv0 L) s.toNat (stv L W (wt0 L) (pi g 422) s.toNat c)) (pi g 422 (72 + s.toNat)) (ce L).toNat).1, h1) ∧ fr CGs h h1 := by
    obtain ⟨yb, h1, p1, p2, -, -, p5, p6⟩ := c_movesOf (s := s.toNat) hW C K V (Or.inl rfl) hs h0
    have f1 : fr CGs h h1 := fr_mono p2 (fun b hb => by unfold SF at hb; unfold CGs; omega)
    have C1 : CX h1 p q L W := CX_fr C f1 (fun b hb => hb.1)
    have e5 : pi h (303 + 5) s.toNat = pi g 422 (72 + s.toNat) := (K.2.2.2.2.1 s.toNat hs).1
    unfold pf_Ou_safestCell
    rw [es] at p1
    rw [gib (by omega) (by omega), p1, bsm, c_bit, bsm, e5]
    simp only []
    have bits : ∀ c : Nat, (c : Int) < ce L → (tb (yb ||| plshl 1 (pi g 422 (72 + s.toNat))) c = true ↔ ((c : Int) = pi g 422 (72 + s.toNat) ∨ cmv L W (pi g 422) (wt0 L) (sv0 L) s.toNat c)) := fun c hc => by
      rw [tb_or, ← eh, tb_bit (by omega) (by omega), Bool.or_eq_true, p6 c (by omega), decide_eq_true_eq, eh]
      constructor
      · intro v; rcases v with v | v
        · exact Or.inr v
        · left; omega
      · intro v; rcases v with v | v
        · right; omega
        · exact Or.inl v
    refine lpf (F := fun m (c : Nat) t => pl_Ou_safestCell_32 303 s (fun x6 h => some (x6, h)) m (pi g 422 (72 + s.toNat)) (yb ||| plshl 1 (pi g 422 (72 + s.toNat))) (bst (fun c => (c : Int) = pi g 422 (72 + s.toNat) ∨ cmv L W (pi g 422) (wt0 L) (sv0 L) s.toNat c) (fun c => hld L W (wt0 L) (sv0 L) s.toNat (stv L W (wt0 L) (pi g 422) s.toNat c)) (pi g 422 (72 + s.toNat)) c).1 (bst (fun c => (c : Int) = pi g 422 (72 + s.toNat) ∨ cmv L W (pi g 422) (wt0 L) (sv0 L) s.toNat c) (fun c => hld L W (wt0 L) (sv0 L) s.toNat (stv L W (wt0 L) (pi g 422) s.toNat c)) (pi g 422 (72 + s.toNat)) c).2 c t) (Q := fun rr => ∃ h1, rr = some ((bst (fun c => (c : Int) = pi g 422 (72 + s.toNat) ∨ cmv L W (pi g 422) (wt0 L) (sv0 L) s.toNat c) (fun c => hld L W (wt0 L) (sv0 L) s.toNat (stv L W (wt0 L) (pi g 422) s.toNat c)) (pi g 422 (72 + s.toNat)) (ce L).toNat).1, h1) ∧ fr CGs h h1) (ce L).toNat (fun c t => fr CGs h t ∧ SC t 303 p q L W (wt0 L) (sv0 L) false (pi g 422)) ?_ ?_ fu_ 0 h1 (by omega) (by unfold fu_; omega) ⟨f1, p5⟩
    · intro m c t hc ⟨f, Kt⟩
      right
      have Ct : CX t p q L W := CX_fr C f (fun b hb => hb.1)
      have hb := bits c (by omega)
      show ∃ t', pl_Ou_safestCell_32 303 s _ (m + 1) _ _ _ _ c t = pl_Ou_safestCell_32 303 s _ m _ _ _ _ (c + 1 : Nat) t' ∧ _
      rw [pl_Ou_safestCell_32, Kt.1.2.1, c_cells Ct, bsm, if_neg (by omega), c_hasBit (by omega), bsm, if1]
      generalize hB : bst (fun c => (c : Int) = pi g 422 (72 + s.toNat) ∨ cmv L W (pi g 422) (wt0 L) (sv0 L) s.toNat c) (fun c => hld L W (wt0 L) (sv0 L) s.toNat (stv L W (wt0 L) (pi g 422) s.toNat c)) (pi g 422 (72 + s.toNat)) c = B at *
      rw [bst, hB]
      by_cases y1 : tb (yb ||| plshl 1 (pi g 422 (72 + s.toNat))) c = true
      · have cd := hb.mp y1
        rw [if_pos y1]
        obtain ⟨t1, b1, b2, b3⟩ := c_become (a := 337) Kt kL (by omega) (by omega)
        have Ct1 := SC_CX Ct (by omega : 303 ≤ 337) b2
        rw [b1, bsm]
        have fin : ∀ t2, fr (SF 337) t t2 → SC t2 337 p q L W (wt0 L) (sv0 L) false (stv L W (wt0 L) (pi g 422) s.toNat c) → ∃ t', pj_Ou_safestCell_78 303 s (pl_Ou_safestCell_32 303 s (fun x6 h => some (x6, h)) m) (fun x6 h => some (x6, h)) (pi g 422 (72 + s.toNat)) (yb ||| plshl 1 (pi g 422 (72 + s.toNat))) B.1 B.2 c t2 = pl_Ou_safestCell_32 303 s (fun x6 h => some (x6, h)) m (pi g 422 (72 + s.toNat)) (yb ||| plshl 1 (pi g 422 (72 + s.toNat))) (cif (((c : Int) = pi g 422 (72 + s.toNat) ∨ cmv L W (pi g 422) (wt0 L) (sv0 L) s.toNat c) ∧ B.2 < hld L W (wt0 L) (sv0 L) s.toNat (stv L W (wt0 L) (pi g 422) s.toNat c)) ((c : Int), hld L W (wt0 L) (sv0 L) s.toNat (stv L W (wt0 L) (pi g 422) s.toNat c)) B).1 (cif (((c : Int) = pi g 422 (72 + s.toNat) ∨ cmv L W (pi g 422) (wt0 L) (sv0 L) s.toNat c) ∧ B.2 < hld L W (wt0 L) (sv0 L) s.toNat (stv L W (wt0 L) (pi g 422) s.toNat c)) ((c : Int), hld L W (wt0 L) (sv0 L) s.toNat (stv L W (wt0 L) (pi g 422) s.toNat c)) B).2 (c + 1 : Nat) t' ∧ fr CGs h t' ∧ SC t' 303 p q L W (wt0 L) (sv0 L) false (pi g 422) := by
          intro t2 ft K2
          obtain ⟨t3, e1, e2⟩ := c_daysHeld (s := s.toNat) hW (SC_CX Ct (by omega : 303 ≤ 337) ft) K2 (vst c cd) (by omega) hs (by omega)
          rw [es] at e1
          have f3 : fr CGs h t3 := fr_trans f (fr_trans (fr_mono ft (fun b hb => by unfold SF at hb; unfold CGs; omega)) (fr_mono e2 (fun b hb => by unfold SF at hb; unfold CGs; omega)))
          have K3 : SC t3 303 p q L W (wt0 L) (sv0 L) false (pi g 422) := SC_fr (SC_fr Kt ft (fun b hb => by unfold SF at hb; omega)) e2 (fun b hb => by unfold SF at hb; omega)
          unfold pj_Ou_safestCell_78
          rw [e1, bsm]
          simp only []
          rw [wr_eq (by omega) (by omega)]
          by_cases y2 : hld L W (wt0 L) (sv0 L) s.toNat (stv L W (wt0 L) (pi g 422) s.toNat c) ≤ B.2
          · rw [if_pos y2, cif_f (fun v => by have := v.2; omega)]; exact ⟨t3, rfl, f3, K3⟩
          · rw [if_neg y2, cif_t ⟨cd, by omega⟩]; exact ⟨t3, rfl, f3, K3⟩
        by_cases y3 : (c : Int) = pi g 422 (72 + s.toNat)
        · rw [if_pos y3]
          exact fin t1 b2 (by unfold stv; rw [if_pos y3]; exact b3)
        · rw [if_neg y3]
          have cm : cmv L W (pi g 422) (wt0 L) (sv0 L) s.toNat c := by rcases cd with v | v; exact absurd v y3; exact v
          obtain ⟨t2, r1, r2, r3⟩ := c_shift (s := s.toNat) (c := c) hW Ct1 b3 V hs h0 cm.1 (isw_open cm.2.2.2).2.1
          rw [es] at r1
          rw [r1, bsm]
          exact fin t2 (fr_trans b2 r2) (by unfold stv; rw [if_neg y3]; exact r3)
      · rw [if_neg y1, wr_eq (by omega) (by omega), cif_f (fun v => y1 (hb.mpr v.1))]
        exact ⟨t, rfl, f, Kt⟩
    · intro m t ⟨f, Kt⟩
      have Ct : CX t p q L W := CX_fr C f (fun b hb => hb.1)
      refine ⟨t, ?_, f⟩
      show pl_Ou_safestCell_32 303 s _ (m + 1) _ _ _ _ ((ce L).toNat : Nat) t = _
      rw [pl_Ou_safestCell_32, Kt.1.2.1, c_cells Ct, bsm, if_pos (by omega)]
  obtain ⟨g0, s1, s2, s3⟩ := m_save (g := g)
  have mm : ∃ g1, pl_M_set_31 x y z n s (fun x6 h => some (x6, h)) fu_ (-1) (-1) 0 g0 = some ((bst (fun c => (c : Int) = pi g 422 (72 + s.toNat) ∨ cmv L W (pi g 422) (wt0 L) (sv0 L) s.toNat c) (fun c => hld L W (wt0 L) (sv0 L) s.toNat (stv L W (wt0 L) (pi g 422) s.toNat c)) (-1) (ce L).toNat).1, g1) ∧ MF g g1 := by
    refine lpf (F := fun m (c : Nat) t => pl_M_set_31 x y z n s (fun x6 h => some (x6, h)) m (bst (fun c => (c : Int) = pi g 422 (72 + s.toNat) ∨ cmv L W (pi g 422) (wt0 L) (sv0 L) s.toNat c) (fun c => hld L W (wt0 L) (sv0 L) s.toNat (stv L W (wt0 L) (pi g 422) s.toNat c)) (-1) c).1 (bst (fun c => (c : Int) = pi g 422 (72 + s.toNat) ∨ cmv L W (pi g 422) (wt0 L) (sv0 L) s.toNat c) (fun c => hld L W (wt0 L) (sv0 L) s.toNat (stv L W (wt0 L) (pi g 422) s.toNat c)) (-1) c).2 c t) (Q := fun rr => ∃ g1, rr = some ((bst (fun c => (c : Int) = pi g 422 (72 + s.toNat) ∨ cmv L W (pi g 422) (wt0 L) (sv0 L) s.toNat c) (fun c => hld L W (wt0 L) (sv0 L) s.toNat (stv L W (wt0 L) (pi g 422) s.toNat c)) (-1) (ce L).toNat).1, g1) ∧ MF g g1) (ce L).toNat (fun c t => MF g t ∧ ∀ j, j < 80 → pi t 422 (80 + j) = pi g 422 j) ?_ ?_ fu_ 0 g0 (by omega) (by unfold fu_; omega) ⟨s2, s3.2⟩
    · intro m c t hc ⟨f, sv⟩
      right
      obtain ⟨t1, l1, l2, l3, l4⟩ := m_load sv
      have f1 := MF_trans f l2
      have M1 := MF_MC M f1
      have V1 : SV L (pi t1 422) 31 := SV_c V l3.1 kL
      have Z1 : ∀ c : Nat, c < 36 → pi t1 424 c = 0 := fun c hc => by rw [MF_24 f1]; exact Z c hc
      have eat : ∀ j, j < 6 → pi t1 422 (72 + j) = pi g 422 (72 + j) := fun j hj => (l3.1 (72 + j) (by omega)).symm
      have t72 : (72 + s).toNat = 72 + s.toNat := by omega
      have cmE : cmv L W (pi t1 422) (wt0 L) (sv0 L) s.toNat c ↔ cmv L W (pi g 422) (wt0 L) (sv0 L) s.toNat c := cmv_ext kL l3.1 hs ⟨h0, rs.2⟩
      generalize hB : bst (fun c => (c : Int) = pi g 422 (72 + s.toNat) ∨ cmv L W (pi g 422) (wt0 L) (sv0 L) s.toNat c) (fun c => hld L W (wt0 L) (sv0 L) s.toNat (stv L W (wt0 L) (pi g 422) s.toNat c)) (-1) c = B at *
      show ∃ t', pl_M_set_31 x y z n s _ (m + 1) _ _ c t = pl_M_set_31 x y z n s _ m _ _ (c + 1 : Nat) t' ∧ _
      rw [pl_M_set_31, m_cells (MF_MC M f).1, bsm, if_neg (by omega), l1, bsm, bst, hB, wr_eq (x := 72 + s) (by omega) (by omega), gib (by omega) (by omega), t72, eat s.toNat (by omega)]
      have fin : ∀ t2, MF t1 t2 → pi t2 422 = pi t1 422 → ((c : Int) = pi g 422 (72 + s.toNat) ∨ cmv L W (pi g 422) (wt0 L) (sv0 L) s.toNat c) → ∃ t', pj_M_set_75 x y z n s (pl_M_set_31 x y z n s (fun x6 h => some (x6, h)) m) (fun x6 h => some (x6, h)) B.1 B.2 c t2 = pl_M_set_31 x y z n s (fun x6 h => some (x6, h)) m (cif (((c : Int) = pi g 422 (72 + s.toNat) ∨ cmv L W (pi g 422) (wt0 L) (sv0 L) s.toNat c) ∧ B.2 < hld L W (wt0 L) (sv0 L) s.toNat (stv L W (wt0 L) (pi g 422) s.toNat c)) ((c : Int), hld L W (wt0 L) (sv0 L) s.toNat (stv L W (wt0 L) (pi g 422) s.toNat c)) B).1 (cif (((c : Int) = pi g 422 (72 + s.toNat) ∨ cmv L W (pi g 422) (wt0 L) (sv0 L) s.toNat c) ∧ B.2 < hld L W (wt0 L) (sv0 L) s.toNat (stv L W (wt0 L) (pi g 422) s.toNat c)) ((c : Int), hld L W (wt0 L) (sv0 L) s.toNat (stv L W (wt0 L) (pi g 422) s.toNat c)) B).2 (c + 1 : Nat) t' ∧ MF g t' ∧ ∀ j, j < 80 → pi t' 422 (80 + j) = pi g 422 j := by
        intro t2 ft et cd
        have f2 : MF g (pwI t2 422 (72 + s.toNat) c) := MF_wI (MF_trans f1 ft) (by unfold MFs; omega) (by omega)
        have Vm : SV L (up1 (pi g 422) (72 + s.toNat) c) 31 := by
          by_cases y : (c : Int) = pi g 422 (72 + s.toNat)
          · have : up1 (pi g 422) (72 + s.toNat) c = pi g 422 := by
              funext j
              unfold up1
              by_cases v : j = 72 + s.toNat
              · rw [if_pos v, v]; exact y
              · rw [if_neg v]
            rw [this]; exact V
          · rcases cd with v | v
            · exact absurd v y
            · exact SV_mv V kL hs v.1 (isw_open v.2.2.2).2.1
        have eu : E8 (up1 (pi g 422) (72 + s.toNat) c) (up1 (pi t1 422) (72 + s.toNat) c) := fun j hj => by
          by_cases v : j = 72 + s.toNat
          · rw [v, up1_s, up1_s]
          · rw [up1_n v, up1_n v]; exact l3.1 j hj
        have ew : pi (pwI t2 422 (72 + s.toNat) c) 422 = up1 (pi t1 422) (72 + s.toNat) c := by rw [up1_pi, et]
        have Vw : SV L (up1 (pi t1 422) (72 + s.toNat) c) 31 := SV_c Vm eu kL
        obtain ⟨t3, r1, r2, r3⟩ := m_falls (d := 31) (MF_MC M f2) (by rw [ew]; exact Vw)
        rw [ew] at r3
        have f3 : MF g t3 := MF_trans f2 ⟨fr_mono r2 (fun b hb => by unfold MFs; omega), fun j _ _ => fr_i r2 (by omega)⟩
        have Vf : SV L (fl L W (wt0 L) 0 6 (up1 (pi t1 422) (72 + s.toNat) c)) 31 := SV_fl kL Vw
        have e8 : E8 (stv L W (wt0 L) (pi g 422) s.toNat c) (fl L W (wt0 L) 0 6 (up1 (pi t1 422) (72 + s.toNat) c)) := by
          have := fl_ext (W := W) (wt := wt0 L) (tk := 0) kL Vm eu
          unfold stv
          by_cases y : (c : Int) = pi g 422 (72 + s.toNat)
          · have e : up1 (pi g 422) (72 + s.toNat) c = pi g 422 := by
              funext j
              unfold up1
              by_cases v : j = 72 + s.toNat
              · rw [if_pos v, v]; exact y
              · rw [if_neg v]
            rw [if_pos y]
            rw [e, fl_id TT] at this
            exact this
          · rw [if_neg y]; exact this
        obtain ⟨t4, u1, u2, u3, -⟩ := m_holdsFor (s := s.toNat) (MF_MC M f3) (by rw [r3]; exact Vf) (by omega) hs
        rw [r3, es, ← hld_ext kL kW (vst c cd) e8 (by omega)] at u1
        have sv4 : ∀ j, j < 80 → pi t4 422 (80 + j) = pi g 422 j := fun j hj => by
          rw [u3 _ (by omega), r3, fl_hi kL Vw _ (by omega), up1_n (by omega)]
          exact l3.2 j hj
        unfold pj_M_set_75
        rw [wr_eq (x := 72 + s) (by omega) (by omega), gib (by omega) (by omega), t72, r1, bsm, u1, bsm]
        simp only []
        rw [wr_eq (by omega) (by omega)]
        by_cases y2 : B.2 < hld L W (wt0 L) (sv0 L) s.toNat (stv L W (wt0 L) (pi g 422) s.toNat c)
        · rw [if_pos y2, cif_t ⟨cd, y2⟩]; exact ⟨t4, rfl, MF_trans f3 u2, sv4⟩
        · rw [if_neg y2, cif_f (fun v => y2 v.2)]; exact ⟨t4, rfl, MF_trans f3 u2, sv4⟩
      by_cases y3 : (c : Int) = pi g 422 (72 + s.toNat)
      · rw [if_pos y3]
        exact fin t1 MF_refl rfl (Or.inl y3)
      · rw [if_neg y3]
        obtain ⟨t2, r1, r2, r3⟩ := m_canMove (a := s) (b := c) M1 V1 Z1
        rw [r1, bsm]
        have iff : ((0 ≤ s ∧ s < L 4) ∧ 0 ≤ pi t1 422 (72 + s.toNat) ∧ cmv L W (pi t1 422) (wt0 L) (sv0 L) s.toNat c) ↔ cmv L W (pi g 422) (wt0 L) (sv0 L) s.toNat c := by
          rw [cmE, eat s.toNat (by omega)]
          exact ⟨fun v => v.2.2, fun v => ⟨by omega, h0, v⟩⟩
        by_cases y4 : cmv L W (pi g 422) (wt0 L) (sv0 L) s.toNat c
        · rw [cif_t (iff.mpr y4)]
          simp only []
          rw [if_neg (by decide)]
          exact fin t2 r2 r3 (Or.inr y4)
        · rw [cif_f (fun v => y4 (iff.mp v))]
          simp only []
          rw [if_pos trivial, wr_eq (by omega) (by omega), cif_f (fun v => by rcases v.1 with w | w; exact y3 w; exact y4 w)]
          exact ⟨t2, rfl, MF_trans f1 r2, fun j hj => by rw [r3]; exact l3.2 j hj⟩
    · intro m t ⟨f, sv⟩
      refine ⟨t, ?_, f⟩
      show pl_M_set_31 x y z n s _ (m + 1) _ _ ((ce L).toNat : Nat) t = _
      rw [pl_M_set_31, m_cells (MF_MC M f).1, bsm, if_pos (by omega)]
  obtain ⟨h1, c1, c2⟩ := cc
  obtain ⟨g1, m1, m2⟩ := mm
  have eb := (bst_b (cand := fun c => (c : Int) = pi g 422 (72 + s.toNat) ∨ cmv L W (pi g 422) (wt0 L) (sv0 L) s.toNat c) (v := fun c => hld L W (wt0 L) (sv0 L) s.toNat (stv L W (wt0 L) (pi g 422) s.toNat c)) (b0 := pi g 422 (72 + s.toNat)) (b1 := -1) (fun c => (hv c).1) (n := (ce L).toNat)).2 ⟨(pi g 422 (72 + s.toNat)).toNat, by omega, Or.inl eh⟩
  simp only []
  rw [if_neg (show ¬ (1 : Int) = 0 by decide), if_neg (show ¬ (1 : Int) = 0 by decide), c1, s1, bsm, bsm, m1, eb.1]
  exact ⟨_, h1, g1, rfl, c2, rfl, MF_MG m2⟩
