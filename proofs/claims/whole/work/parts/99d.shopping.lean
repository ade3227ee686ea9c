/-! shopping -/
/-- one under their shops -/
def US (L S T : Nat → Int) : Prop := (∀ s, s < NS L → S (72 + s) = T (72 + s)) ∧ S 78 = T 78 ∧ ∀ s, s < NS L → 0 ≤ S (72 + s) → S (S (72 + s)).toNat = T (S (72 + s)).toNat ∧ S (36 + (S (72 + s)).toNat) = T (36 + (S (72 + s)).toNat)
section Dm
variable {h : pH} {a p q l w : Nat} {L W wt sv S T : Nat → Int} {u : Bool} {d d' : Nat} {tk : Int}
theorem US_ff (U : US L S T) : ff L W S wt 0 = ff L W T wt 0 := by
  unfold ff
  refine fnd_c (fun j _ hj => ?_)
  unfold ffP br
  rw [← U.1 j (by omega), ← ld_c U.1]
  by_cases y : 0 ≤ S (72 + j)
  · rw [(U.2.2 j (by omega) y).1]
  · rw [decide_eq_false y]; rfl
theorem US_fa1 {s : Nat} (kL : LK L) (V : SV L S d) (U : US L S T) (hs : s < NS L) (h0 : 0 ≤ S (72 + s)) : US L (fa1 S s) (fa1 T s) := by
  have z : 4 ≤ ce L ∧ ce L ≤ 36 := sz_mul kL.1
  have n6 := NS_le kL
  have r := V.2.2.1 s hs
  have e := U.1 s hs
  have at_ : ∀ t, t < NS L → ∀ X : Nat → Int, X (72 + s) = S (72 + s) → fa1 X s (72 + t) = if t = s then -2 else X (72 + t) := fun t ht X hX => by
    unfold fa1
    by_cases y : t = s
    · rw [if_pos y, y, up1_s]
    · rw [if_neg y, up1_n (by omega), up1_n (by rw [hX]; omega)]
  refine ⟨fun t ht => ?_, ?_, fun t ht h1 => ?_⟩
  · rw [at_ t ht S rfl, at_ t ht T e.symm, U.1 t ht]
  · have e : ∀ X : Nat → Int, X (72 + s) = S (72 + s) → fa1 X s 78 = X 78 := fun X hX => by unfold fa1; rw [up1_n (by omega), hX, up1_n (by omega)]
    rw [e S rfl, e T (U.1 s hs).symm]
    exact U.2.1
  · rw [at_ t ht S rfl] at h1 ⊢
    by_cases y : t = s
    · rw [if_pos y] at h1; omega
    · rw [if_neg y] at h1 ⊢
      have rt := V.2.2.1 t ht
      obtain ⟨u1, u2⟩ := U.2.2 t ht h1
      have f1 : ∀ X : Nat → Int, X (72 + s) = S (72 + s) → fa1 X s (S (72 + t)).toNat = if (S (72 + t)).toNat = (S (72 + s)).toNat then 0 else X (S (72 + t)).toNat := fun X hX => by
        unfold fa1
        rw [up1_n (by omega), hX]
        by_cases y2 : (S (72 + t)).toNat = (S (72 + s)).toNat
        · rw [if_pos y2, y2, up1_s]
        · rw [if_neg y2, up1_n y2]
      have f2 : ∀ X : Nat → Int, X (72 + s) = S (72 + s) → fa1 X s (36 + (S (72 + t)).toNat) = X (36 + (S (72 + t)).toNat) := fun X hX => by
        unfold fa1
        rw [up1_n (by omega), hX, up1_n (by omega)]
      rw [f1 S rfl, f1 T e.symm, f2 S rfl, f2 T e.symm, u1]
      exact ⟨rfl, u2⟩
theorem US_fl (kL : LK L) : ∀ {n : Nat} {S T : Nat → Int}, SV L S d → US L S T → US L (fl L W wt 0 n S) (fl L W wt 0 n T)
  | 0, S, T, _, U => U
  | n + 1, S, T, V, U => by
    rw [fl, fl, ← US_ff U]
    split
    · exact U
    · rename_i y
      obtain ⟨q1, q2⟩ := ff_st (L := L) (W := W) (S := S) (wt := wt) (tk := 0) (by omega)
      exact US_fl kL (SV_fa1 V kL q1 q2) (US_fa1 kL V U q1 q2)
theorem US_pday {f : Int} (kL : LK L) (kW : WK W) (V : SV L S d) (U : US L S T) : US L (pday L W wt sv 0 f S) (pday L W wt sv 0 f T) := by
  have z : 4 ≤ ce L ∧ ce L ≤ 36 := sz_mul kL.1
  have n6 := NS_le kL
  refine US_fl kL (SV_pd2 V kL kW) ⟨fun t ht => ?_, ?_, fun t ht h1 => ?_⟩
  · rw [pd2_at kL (by omega), pd2_at kL (by omega)]; exact U.1 t ht
  · have e : ∀ X : Nat → Int, pd2 L W X sv f 78 = X 78 + 1 := fun X => by unfold pd2; rw [up1_n (by omega), up1_s]
    rw [e, e, U.2.1]
  · rw [pd2_at kL (by omega)] at h1 ⊢
    have rt := V.2.2.1 t ht
    obtain ⟨u1, u2⟩ := U.2.2 t ht h1
    have p1 : ∀ X : Nat → Int, pd2 L W X sv f (S (72 + t)).toNat = dcl L X sv f (S (72 + t)).toNat := fun X => by
      unfold pd2
      rw [up1_n (by omega), up1_n (by omega)]
      exact if_pos (by omega)
    have p2 : ∀ X : Nat → Int, pd2 L W X sv f (36 + (S (72 + t)).toNat) = X (36 + (S (72 + t)).toNat) := fun X => by
      unfold pd2
      rw [up1_n (by omega), up1_n (by omega)]
      exact if_neg (by omega)
    rw [p1, p1, p2, p2]
    refine ⟨?_, u2⟩
    unfold dcl grw
    rw [u1, u2, ht_c U.1]
theorem US_adn (kL : LK L) (kW : WK W) (V : SV L S d) (U : US L S T) : ∀ {n : Nat}, US L (adn L W wt sv n S) (adn L W wt sv n T)
  | 0 => U
  | n + 1 => by
    have i : US L (adn L W wt sv n S) (adn L W wt sv n T) := US_adn kL kW V U
    rw [adn, adn]
    unfold aday
    have : fro L (adn L W wt sv n S) = fro L (adn L W wt sv n T) := by unfold fro; rw [i.2.1]
    rw [this]
    exact US_pday kL kW (SV_adn (n := n) kL kW V) i
theorem US_hld {s : Nat} (kL : LK L) (kW : WK W) (V : SV L S d) (U : US L S T) (hs : s < NS L) : hld L W wt sv s S = hld L W wt sv s T := by
  have : hlf L W wt sv s S 0 61 = hlf L W wt sv s T 0 61 := by
    unfold hlf
    refine fnd_c (fun j _ _ => ?_)
    rw [(US_adn kL kW V U).1 s hs]
  unfold hld
  rw [this]
theorem c_shopCells (C : CX h p q L W) (K : SC h a p q L W wt sv u S) (V : SV L S d) : ∃ y, pf_Sc_shopCells a h = some y ∧ ∀ c : Nat, c < 64 → (tb y c = true ↔ ∃ s, s < NS L ∧ S (72 + s) = c) := by
  have kL := C.2.2.1
  have z : 4 ≤ ce L ∧ ce L ≤ 36 := sz_mul kL.1
  have n6 := NS_le kL
  have en := NS_eq kL
  obtain ⟨⟨ha, ea, eb⟩, k1, k2, k3, k4, k5⟩ := K
  unfold pf_Sc_shopCells
  refine lpf (F := fun n (i : Nat) (y : Int64) => pl_Sc_shopCells_4 a h (fun y1 => some y1) n y i) (Q := fun r => ∃ y, r = some y ∧ ∀ c : Nat, c < 64 → (tb y c = true ↔ ∃ s, s < NS L ∧ S (72 + s) = c)) (NS L) (fun i y => ∀ c : Nat, c < 64 → (tb y c = true ↔ ∃ s, s < i ∧ S (72 + s) = c)) ?_ ?_ fu_ 0 0 (by omega) (by unfold fu_; omega) (fun c hc => by rw [tb_0]; exact ⟨fun v => absurd v (by decide), fun ⟨s, v, _⟩ => by omega⟩)
  · intro n i y hi I
    right
    have v := (k4 i hi).1
    have r := V.2.2.1 i hi
    show ∃ t', pl_Sc_shopCells_4 a h _ (n + 1) y i = pl_Sc_shopCells_4 a h _ n t' (i + 1 : Nat) ∧ _
    rw [pl_Sc_shopCells_4, ea, C.1.1.2.2.2.2, if_neg (by omega)]
    unfold pj_Sc_shopCells_38
    simp (disch := omega) only [gib, Int.toNat_natCast, v, wr_eq]
    by_cases y1 : S (72 + i) < 0
    · rw [if_pos y1]
      refine ⟨y ||| 0, rfl, fun c hc => ?_⟩
      rw [tb_or, tb_0, Bool.or_false, I c hc]
      constructor
      · intro ⟨s, s1, s2⟩; exact ⟨s, by omega, s2⟩
      · intro ⟨s, s1, s2⟩
        refine ⟨s, ?_, s2⟩
        by_cases e : s = i
        · rw [e] at s2; omega
        · omega
    · have ec : (((S (72 + i)).toNat : Nat) : Int) = S (72 + i) := by omega
      rw [if_neg y1, c_bit, bsm]
      refine ⟨y ||| plshl 1 (S (72 + i)), rfl, fun c hc => ?_⟩
      rw [tb_or, ← ec, tb_bit (by omega) hc, Bool.or_eq_true, I c hc, decide_eq_true_eq]
      constructor
      · intro v
        rcases v with ⟨s, s1, s2⟩ | v
        · exact ⟨s, by omega, s2⟩
        · exact ⟨i, by omega, by omega⟩
      · intro ⟨s, s1, s2⟩
        by_cases e : s = i
        · right; rw [e] at s2; omega
        · left; exact ⟨s, by omega, s2⟩
  · intro n y I
    refine ⟨y, ?_, I⟩
    show pl_Sc_shopCells_4 a h _ (n + 1) y (NS L : Nat) = _
    rw [pl_Sc_shopCells_4, ea, C.1.1.2.2.2.2, if_pos (by omega)]
noncomputable def swv (L W wt sv S : Nat → Int) (s c : Nat) : Int := hld L W wt sv s (up1 S (36 + c) 0)
def tru (_ : Nat) : Prop := True
theorem c_swept {s : Nat} (hW : WS L wt sv) (C : CX h p q L W) (K : SC h 303 p q L W wt sv false S) (V : SV L S d) (hd : d ≤ 900) (hs : s < NS L) : ∃ h', pf_Ou_bestSwept 303 s h = some ((bst tru (swv L W wt sv S s) (-1) (ce L).toNat).1, h') ∧ fr CGs h h' := by
  have kL := C.2.2.1
  have kW := C.2.2.2.1
  have z : 4 ≤ ce L ∧ ce L ≤ 36 := sz_mul kL.1
  have n6 := NS_le kL
  obtain ⟨h1, e1, e2⟩ := c_daysHeld (s := s) hW C K V hd hs (by omega)
  have C1 := SC_CX C (by omega : 303 ≤ 329) e2
  have K1 := SC_fr K e2 (fun b hb => by unfold SF at hb; omega)
  obtain ⟨yb, y1, y2⟩ := c_shopCells C1 K1 V
  unfold pf_Ou_bestSwept
  rw [e1, bsm]
  simp only []
  rw [y1, bsm]
  refine lpf (F := fun m (c : Nat) t => pl_Ou_bestSwept_22 303 s (fun x6 h => some (x6, h)) m (hld L W wt sv s S) yb (bst tru (swv L W wt sv S s) (-1) c).1 (bst tru (swv L W wt sv S s) (-1) c).2 c t) (Q := fun rr => ∃ h', rr = some ((bst tru (swv L W wt sv S s) (-1) (ce L).toNat).1, h') ∧ fr CGs h h') (ce L).toNat (fun c t => fr CGs h t ∧ SC t 303 p q L W wt sv false S) ?_ ?_ fu_ 0 h1 (by omega) (by unfold fu_; omega) ⟨fr_mono e2 (fun b hb => by unfold SF at hb; unfold CGs; omega), K1⟩
  · intro m c t hc ⟨f, Kt⟩
    right
    have Ct : CX t p q L W := CX_fr C f (fun b hb => hb.1)
    have sn : pi t (303 + 2) c = S (36 + c) := Kt.2.2.1 c (by omega)
    have vs := V.2.1 c (by omega)
    have fin : ∀ (t2 : pH) (v : Int), v = swv L W wt sv S s c → fr CGs h t2 → SC t2 303 p q L W wt sv false S → ∃ t', pj_Ou_bestSwept_87 303 s (pl_Ou_bestSwept_22 303 s (fun x6 h => some (x6, h)) m) (fun x6 h => some (x6, h)) (hld L W wt sv s S) yb (bst tru (swv L W wt sv S s) (-1) c).1 (bst tru (swv L W wt sv S s) (-1) c).2 c v t2 = pl_Ou_bestSwept_22 303 s (fun x6 h => some (x6, h)) m (hld L W wt sv s S) yb (bst tru (swv L W wt sv S s) (-1) (c + 1)).1 (bst tru (swv L W wt sv S s) (-1) (c + 1)).2 (c + 1 : Nat) t' ∧ fr CGs h t' ∧ SC t' 303 p q L W wt sv false S := by
      intro t2 v ev f2 K2
      unfold pj_Ou_bestSwept_87
      rw [wr_eq (by omega) (by omega), ev, bst]
      by_cases w1 : swv L W wt sv S s c ≤ (bst tru (swv L W wt sv S s) (-1) c).2
      · rw [if_pos w1, cif_f (fun v => by have := v.2; omega)]; exact ⟨t2, rfl, f2, K2⟩
      · rw [if_neg w1, cif_t ⟨trivial, by omega⟩]; exact ⟨t2, rfl, f2, K2⟩
    show ∃ t', pl_Ou_bestSwept_22 303 s _ (m + 1) _ _ _ _ c t = pl_Ou_bestSwept_22 303 s _ m _ _ _ _ (c + 1 : Nat) t' ∧ _
    rw [pl_Ou_bestSwept_22, Kt.1.2.1, c_cells Ct, bsm, if_neg (by omega), gib (by omega) (by omega), Int.toNat_natCast, sn]
    by_cases w1 : S (36 + c) ≤ 0
    · have e : up1 S (36 + c) 0 = S := by
        funext j
        unfold up1
        by_cases v : j = 36 + c
        · rw [if_pos v, v]; omega
        · rw [if_neg v]
      rw [if_pos w1]
      exact fin t _ (by unfold swv; rw [e]) f Kt
    · rw [if_neg w1, c_hasBit (by omega), bsm, if1]
      by_cases w2 : tb yb c = true
      · rw [if_pos w2]
        obtain ⟨t1, b1, b2, b3⟩ := c_become (a := 337) Kt kL (by omega) (by omega)
        have K2 := SC_snow (j := c) (v := 0) b3 kL (by omega)
        have f2 : fr (SF 337) t (pwI t1 (337 + 2) c 0) := fr_wI b2 (by unfold SF; omega)
        obtain ⟨t3, u1, u2⟩ := c_daysHeld (s := s) hW (SC_CX Ct (by omega : 303 ≤ 337) f2) K2 (SV_snow (by omega) (by omega) kL V) hd hs (by omega)
        have u1' : pf_Ou_daysHeld 337 s (pwI t1 339 c 0) = some (hld L W wt sv s (up1 S (36 + c) 0), t3) := u1
        rw [b1, bsm, gib (by omega) (by omega), u1', bsm]
        exact fin t3 _ rfl (fr_trans f (fr_trans (fr_mono f2 (fun b hb => by unfold SF at hb; unfold CGs; omega)) (fr_mono u2 (fun b hb => by unfold SF at hb; unfold CGs; omega)))) (SC_fr (SC_fr Kt f2 (fun b hb => by unfold SF at hb; omega)) u2 (fun b hb => by unfold SF at hb; omega))
      · rw [if_neg w2]
        have no : ∀ t, t < NS L → S (72 + t) ≠ c := fun t ht v => w2 ((y2 c (by omega)).mpr ⟨t, ht, v⟩)
        refine fin t _ ?_ f Kt
        unfold swv
        refine US_hld kL kW V ⟨fun t ht => (up1_n (by omega)).symm, (up1_n (by omega)).symm, fun t ht h0 => ?_⟩ hs
        have rt := V.2.2.1 t ht
        have := no t ht
        exact ⟨(up1_n (by omega)).symm, (up1_n (by omega)).symm⟩
  · intro m t ⟨f, Kt⟩
    have Ct : CX t p q L W := CX_fr C f (fun b hb => hb.1)
    refine ⟨t, ?_, f⟩
    show pl_Ou_bestSwept_22 303 s _ (m + 1) _ _ _ _ ((ce L).toNat : Nat) t = _
    rw [pl_Ou_bestSwept_22, Kt.1.2.1, c_cells Ct, bsm, if_pos (by omega)]
theorem m_swept {s : Nat} (M : MC h l w L W wt sv 0) (sd : SVD h S) (V : SV L S d) (hd : d ≤ 900) (hs : s < NS L) : ∃ h', pf_M_swept s h = some ((bst tru (swv L W wt sv S s) (-1) (ce L).toNat).1, h') ∧ MF h h' := by
  have kL := M.1.2.2.2.2.2.2.1
  have kW := M.1.2.2.2.2.2.2.2
  have z : 4 ≤ ce L ∧ ce L ≤ 36 := sz_mul kL.1
  have n6 := NS_le kL
  unfold pf_M_swept
  refine lpf (F := fun m (c : Nat) t => pl_M_swept_7 s (fun x2 h => some (x2, h)) m (bst tru (swv L W wt sv S s) (-1) c).1 (bst tru (swv L W wt sv S s) (-1) c).2 c t) (Q := fun rr => ∃ h', rr = some ((bst tru (swv L W wt sv S s) (-1) (ce L).toNat).1, h') ∧ MF h h') (ce L).toNat (fun c t => MF h t ∧ ∀ j, j < 80 → pi t 422 (80 + j) = S j) ?_ ?_ fu_ 0 h (by omega) (by unfold fu_; omega) ⟨MF_refl, sd.2⟩
  · intro m c t hc ⟨f, svd⟩
    right
    obtain ⟨t1, l1, l2, l3, l4⟩ := m_load svd
    have f1 := MF_trans f l2
    have eu : E8 (up1 S (36 + c) 0) (up1 (pi t1 422) (36 + c) 0) := fun j hj => by
      by_cases v : j = 36 + c
      · rw [v, up1_s, up1_s]
      · rw [up1_n v, up1_n v]; exact l3.1 j hj
    have Vs := SV_snow (j := 36 + c) (by omega) (by omega) kL V
    have f2 : MF h (pwI t1 422 (36 + c) 0) := MF_wI f1 (by unfold MFs; omega) (by omega)
    have ew : pi (pwI t1 422 (36 + c) 0) 422 = up1 (pi t1 422) (36 + c) 0 := up1_pi
    obtain ⟨t2, u1, u2, u3, -⟩ := m_holdsFor (s := s) (MF_MC M f2) (by rw [ew]; exact SV_c Vs eu kL) hd hs
    rw [ew, ← hld_ext kL kW Vs eu (by omega)] at u1
    have u1' : pf_M_holdsFor s (pwI t1 422 (36 + c) 0) = some (swv L W wt sv S s c, t2) := u1
    have tt : (36 + (c : Int)).toNat = 36 + c := by omega
    show ∃ t', pl_M_swept_7 s _ (m + 1) _ _ c t = pl_M_swept_7 s _ m _ _ (c + 1 : Nat) t' ∧ _
    rw [pl_M_swept_7, m_cells (MF_MC M f).1, bsm, if_neg (by omega), l1, bsm, wr_eq (x := 36 + (c : Int)) (by omega) (by omega), gib (by omega) (by omega), tt, u1', bsm, bst]
    simp only []
    rw [wr_eq (by omega) (by omega)]
    have svd2 : ∀ j, j < 80 → pi t2 422 (80 + j) = S j := fun j hj => by
      rw [u3 _ (by omega), ew, up1_n (by omega)]; exact l3.2 j hj
    by_cases w1 : (bst tru (swv L W wt sv S s) (-1) c).2 < swv L W wt sv S s c
    · rw [if_pos w1, cif_t ⟨trivial, w1⟩]; exact ⟨t2, rfl, MF_trans f2 u2, svd2⟩
    · rw [if_neg w1, cif_f (fun v => w1 v.2)]; exact ⟨t2, rfl, MF_trans f2 u2, svd2⟩
  · intro m t ⟨f, svd⟩
    refine ⟨t, ?_, f⟩
    show pl_M_swept_7 s _ (m + 1) _ _ ((ce L).toNat : Nat) t = _
    rw [pl_M_swept_7, m_cells (MF_MC M f).1, bsm, if_pos (by omega)]
/-- weights, one of them more by m -/
def wth (wt : Nat → Int) (s : Nat) (m : Int) (t : Nat) : Int := wt t + (if t = s then m else 0)
theorem one_wt {g g' : Nat → Int} {wo x : Int} (hx : 0 ≤ x) : ∀ {n : Nat}, (∀ t, t < n → 0 ≤ S (72 + t) → g t = g' t) → one S g wo x n = one S g' wo x n
  | 0, _ => rfl
  | n + 1, hh => by
    rw [one, one, one_wt hx (fun t ht => hh t (by omega))]
    by_cases y : S (72 + n) = x ∧ (n : Int) ≠ wo
    · rw [if_pos y, if_pos y, hh n (by omega) (by omega)]
    · rw [if_neg y, if_neg y]
theorem on1_wt {g g' : Nat → Int} {wo x : Int} {n : Nat} (hh : ∀ t, t < n → 0 ≤ S (72 + t) → g t = g' t) : on1 S g wo x n = on1 S g' wo x n := by
  unfold on1
  split
  · rfl
  · exact one_wt (by omega) hh
theorem ld_wt {wt' : Nat → Int} {wo x : Int} (hx : 0 ≤ x) (hh : ∀ t, t < NS L → 0 ≤ S (72 + t) → wt t = wt' t) : ld L W S wt wo x = ld L W S wt' wo x := by
  have h2 : ∀ t, t < NS L → 0 ≤ S (72 + t) → (fun s => wt s * W 2 / 10) t = (fun s => wt' s * W 2 / 10) t := fun t ht h0 => by
    show wt t * W 2 / 10 = wt' t * W 2 / 10
    rw [hh t ht h0]
  unfold ld
  rw [one_wt hx hh, on1_wt h2, on1_wt h2, on1_wt h2, on1_wt h2]
theorem WS_wth {s : Nat} {m : Int} (kL : LK L) (m0 : 0 ≤ m ∧ m ≤ 100) : WS L (wth (wt0 L) s m) (sv0 L) := by
  intro t ht
  have r := kL.2.2.2.2.2.2.2.2.2.1 t (by have := NS_eq kL; omega)
  have := WS0 kL t ht
  unfold wth
  unfold wt0 at *
  refine ⟨?_, this.2⟩
  split <;> omega
theorem c_makeHeavier {s : Nat} {m : Int} (C : CX h p q L W) (K : SC h 303 p q L W (wth (wt0 L) s m) (sv0 L) false S) (V : SV L S d) (hs : s < NS L) (h0 : 0 ≤ S (72 + s)) (m0 : 0 ≤ m ∧ m < 100) : ∃ h', pf_Sc_makeHeavier 303 s h = some h' ∧ fr (SF 303) h h' ∧ SC h' 303 p q L W (wth (wt0 L) s (m + 1)) (sv0 L) false S := by
  have kL := C.2.2.1
  have kW := C.2.2.2.1
  have n6 := NS_le kL
  have r := V.2.2.1 s hs
  have ec : (((S (72 + s)).toNat : Nat) : Int) = S (72 + s) := by omega
  have hW1 := WS_wth (s := s) (m := m) kL (by omega)
  have hW2 := WS_wth (s := s) (m := m + 1) kL (by omega)
  obtain ⟨h1, p1, p2, p3⟩ := c_lift (s := s) (v := -1) C K hW1 hs h0 r.2 (by omega)
  have C1 := SC_CX C (by omega) p2
  have w5 := (K.2.2.2.2.1 s hs).1
  have w6 := (p3.2.2.2.2.1 s hs).2.1
  have ws := hW1 s hs
  have f2 : fr (SF 303) h (pwI h1 (303 + 6) s (wth (wt0 L) s m s + 1)) := fr_wI p2 (by unfold SF; omega)
  have e1 : wth (wt0 L) s m s + 1 = wth (wt0 L) s (m + 1) s := by unfold wth; rw [if_pos rfl, if_pos rfl]; omega
  have K2 : SC (pwI h1 (303 + 6) s (wth (wt0 L) s m s + 1)) 303 p q L W (wth (wt0 L) s (m + 1)) (sv0 L) false (up1 S (72 + s) (-1)) := by
    obtain ⟨k0, k1, k2, k3, k4, k5⟩ := p3
    have same : ∀ t, t ≠ s → wth (wt0 L) s m t = wth (wt0 L) s (m + 1) t := fun t ht => by unfold wth; rw [if_neg ht, if_neg ht]
    refine ⟨k0, fun c hc hu => by rw [pi_wIa (by omega)]; exact k1 c hc hu, fun c hc => by rw [pi_wIa (by omega)]; exact k2 c hc, fun c hc => ?_, fun t ht => ?_, by rw [pi_wIa (by omega)]; exact k5.1, by rw [pi_wIa (by omega)]; exact k5.2⟩
    · rw [pi_wIa (by omega), pi_wIa (by omega), ← ld_wt (wt := wth (wt0 L) s m) (by omega) (fun t ht h1 => ?_)]
      · exact k3 c hc
      · refine same t (fun y => ?_)
        rw [y, up1_s] at h1
        omega
    · by_cases y : t = s
      · rw [y, pi_wIa (by omega), pi_wIs, pi_wIa (by omega)]
        have := k4 s hs
        exact ⟨this.1, e1, this.2.2⟩
      · rw [pi_wIa (by omega), pi_wIi y, pi_wIa (by omega), ← same t y]
        exact k4 t ht
  obtain ⟨h3, r1, r2, r3⟩ := c_lower (s := s) (c := (S (72 + s)).toNat) (SC_CX C (by omega) f2) K2 hW2 hs (by rw [up1_s]; omega) (by omega)
  rw [ec] at r1 r3
  have eS : up1 (up1 S (72 + s) (-1)) (72 + s) (S (72 + s)) = S := by
    funext j
    unfold up1
    by_cases y : j = 72 + s
    · rw [if_pos y, y]
    · rw [if_neg y, if_neg y]
  rw [eS] at r3
  refine ⟨h3, ?_, fr_trans f2 r2, r3⟩
  unfold pf_Sc_makeHeavier
  rw [gib (by omega) (by omega), p1, bsm, gib (by omega) (by omega), gib (by omega) (by omega), Int.toNat_natCast, w6, w5, wr_eq (by omega) (by omega), r1]
  rfl
noncomputable def hvw (L W S : Nat → Int) (s i m : Nat) : Int := fnd (fun j => dc (0 ≤ ff L W S (wth (wt0 L) s ((j : Int) + 1)) 0)) i m
theorem hvw_s {s i m : Nat} : hvw L W S s i (m + 1) = if dc (0 ≤ ff L W S (wth (wt0 L) s ((i : Int) + 1)) 0) = true then (i : Int) else hvw L W S s (i + 1) m := rfl
theorem ff_lo {wt : Nat → Int} : ff L W S wt 0 = -1 ∨ 0 ≤ ff L W S wt 0 := by
  rcases fnd_r (p := ffP L W S wt 0) (m := NS L) (i := 0) with e | e
  · exact Or.inl e
  · right; unfold ff; omega
theorem c_heavier {s : Nat} (C : CX h p q L W) (K : SC h 303 p q L W (wt0 L) (sv0 L) false S) (V : SV L S d) (hs : s < NS L) (h0 : 0 ≤ S (72 + s)) : ∃ h', pf_Ou_heavier 303 s h = some ((if hvw L W S s 0 99 < 0 then 99 else hvw L W S s 0 99), h') ∧ fr CGs h h' := by
  have kL := C.2.2.1
  unfold pf_Ou_heavier
  generalize hr : hvw L W S s 0 99 = r
  have ew : wth (wt0 L) s 0 = wt0 L := by funext t; unfold wth; split <;> omega
  refine lpf (F := fun n (i : Nat) t => pl_Ou_heavier_2 303 s (fun x3 h => some (x3, h)) (fun h => some (99, h)) n i t) (Q := fun rr => ∃ h', rr = some ((if r < 0 then 99 else r), h') ∧ fr CGs h h') 99 (fun i t => fr (SF 303) h t ∧ SC t 303 p q L W (wth (wt0 L) s i) (sv0 L) false S ∧ r = hvw L W S s i (99 - i)) ?_ ?_ fu_ 0 h (by omega) (by unfold fu_; omega) ⟨fr_refl, by rw [Int.natCast_zero, ew]; exact K, hr.symm⟩
  · intro n i t hi ⟨f, Kt, e⟩
    have Ct := SC_CX C (by omega : 303 ≤ 303) f
    obtain ⟨t1, p1, p2, p3⟩ := c_makeHeavier Ct Kt V hs h0 (by omega)
    have C1 := SC_CX Ct (by omega : 303 ≤ 303) p2
    rw [show 99 - i = (99 - (i + 1)) + 1 by omega, hvw_s] at e
    show (∃ h', pl_Ou_heavier_2 303 s _ _ (n + 1) i t = some (_, h') ∧ _) ∨ ∃ t', pl_Ou_heavier_2 303 s _ _ (n + 1) i t = pl_Ou_heavier_2 303 s _ _ n (i + 1 : Nat) t' ∧ _
    rw [pl_Ou_heavier_2, if_neg (by omega), p1, bsm, c_ff C1 p3 V, bsm]
    rcases ff_lo (L := L) (W := W) (S := S) (wt := wth (wt0 L) s ((i : Int) + 1)) with y | y
    · right
      rw [dc_f (by omega), if_neg (by decide)] at e
      rw [if_pos y, wr_eq (by omega) (by omega)]
      exact ⟨t1, rfl, fr_trans f p2, by rw [show ((i + 1 : Nat) : Int) = (i : Int) + 1 by omega]; exact p3, e⟩
    · left
      rw [dc_t y, if_pos rfl] at e
      rw [if_neg (by omega), e, if_neg (by omega)]
      exact ⟨t1, rfl, fr_mono (fr_trans f p2) (fun b hb => by unfold SF at hb; unfold CGs; omega)⟩
  · intro n t ⟨f, Kt, e⟩
    refine ⟨t, ?_, fr_mono f (fun b hb => by unfold SF at hb; unfold CGs; omega)⟩
    show pl_Ou_heavier_2 303 s _ _ (n + 1) (99 : Nat) t = _
    have : r = -1 := e
    rw [pl_Ou_heavier_2, if_pos (by omega), this]
    rfl
theorem m_heavier {s : Nat} (M : MC h l w L W (wt0 L) (sv0 L) 0) (hv : pi h 417 17 = -1 ∧ pi h 417 18 = 0) (V : SV L (pi h 422) d) (TT : ff L W (pi h 422) (wt0 L) 0 < 0) (hs : s < NS L) : ∃ h', pf_M_heavier s h = some ((if hvw L W (pi h 422) s 0 99 < 0 then 99 else hvw L W (pi h 422) s 0 99), h') ∧ MF h h' := by
  have kL := M.1.2.2.2.2.2.2.1
  have n6 := NS_le kL
  unfold pf_M_heavier
  generalize hr : hvw L W (pi h 422) s 0 99 = r
  have ew : wth (wt0 L) s 0 = wt0 L := by funext t; unfold wth; split <;> omega
  have Mm : ∀ (t : pH) (m : Int), fr MFs h t → (∀ j, j ≠ 17 → j ≠ 18 → pi t 417 j = pi h 417 j) → pi t 417 17 = s → pi t 417 18 = m → 0 ≤ m ∧ m ≤ 100 → MC t l w L W (wth (wt0 L) s m) (sv0 L) 0 := by
    intro t m f e e17 e18 hm
    obtain ⟨M0, m1, m2, m3, m4, m5⟩ := M
    have e418 : pi t 418 = pi h 418 := fr_fi f (by unfold MFs; omega)
    refine ⟨?_, fun j hj => ?_, fun j hj => ?_, by rw [e 19 (by omega) (by omega)]; exact m3, by rw [e18]; exact hm, m5⟩
    · unfold MS at *
      rw [e418, e 14 (by omega) (by omega), e 15 (by omega) (by omega)]
      exact M0
    · unfold wtM wth
      rw [e17, e18]
      unfold wt0
      by_cases y : j = s
      · rw [if_pos y, if_pos (by omega)]
      · rw [if_neg y, if_neg (by omega)]
    · have := m2 j hj
      unfold svM at *
      rw [e 16 (by omega) (by omega)]
      exact this
  have fin : ∀ (t : pH), fr MFs h t → (∀ j, j ≠ 17 → j ≠ 18 → pi t 417 j = pi h 417 j) → MF h (pwI (pwI t 417 17 (-1)) 417 18 0) := fun t f e => ⟨fr_wI (fr_wI f (by unfold MFs; omega)) (by unfold MFs; omega), fun j a b => by
    by_cases y : j = 18
    · rw [y, pi_wIs]; exact hv.2.symm
    · rw [pi_wIi y]
      by_cases y2 : j = 17
      · rw [y2, pi_wIs]; exact hv.1.symm
      · rw [pi_wIi y2]; exact e j y2 y⟩
  -- state: best, more
  refine lp (F := fun n (t : Int × Nat × pH) => pl_M_heavier_12 s (fun x2 h => pj_M_heavier_60 s x2 h) n t.1 t.2.2) (Q := fun rr => ∃ h', rr = some ((if r < 0 then 99 else r), h') ∧ MF h h') (I := fun t => (fr MFs h t.2.2 ∧ (∀ j, j ≠ 17 → j ≠ 18 → pi t.2.2 417 j = pi h 417 j) ∧ pi t.2.2 417 17 = s ∧ pi t.2.2 417 18 = t.2.1 ∧ pi t.2.2 422 = pi h 422 ∧ t.2.1 ≤ 100) ∧ ((t.1 = (t.2.1 : Int) - 1 ∧ (t.2.1 = 0 ∨ r = hvw L W (pi h 422) s (t.2.1 - 1) (99 - (t.2.1 - 1)))) ∨ (0 ≤ r ∧ t.1 = r ∧ t.1 < (t.2.1 : Int) - 1))) (fun t => if t.1 = (t.2.1 : Int) - 1 then 102 - t.2.1 else 0) ?_ fu_ (-1, 0, pwI (pwI h 417 17 s) 417 18 0) ⟨⟨fr_wI (fr_wI fr_refl (by unfold MFs; omega)) (by unfold MFs; omega), fun j a b => by rw [pi_wIi b, pi_wIi a], by rw [pi_wIi (by decide), pi_wIs], pi_wIs, by rw [pi_wIf (by decide), pi_wIf (by decide)], by show 0 ≤ 100; omega⟩, Or.inl ⟨rfl, Or.inl rfl⟩⟩ ?_
  · intro n t ⟨⟨i1, i2, i3, i4, i5, i6⟩, i7⟩
    obtain ⟨x, i, t⟩ := t
    have i1 : fr MFs h t := i1
    have i2 : ∀ j, j ≠ 17 → j ≠ 18 → pi t 417 j = pi h 417 j := i2
    have i3 : pi t 417 17 = s := i3
    have i4 : pi t 417 18 = i := i4
    have i5 : pi t 422 = pi h 422 := i5
    have i6 : i ≤ 100 := i6
    have i7 : (x = (i : Int) - 1 ∧ (i = 0 ∨ r = hvw L W (pi h 422) s (i - 1) (99 - (i - 1)))) ∨ (0 ≤ r ∧ x = r ∧ x < (i : Int) - 1) := i7
    show (∃ h', pl_M_heavier_12 s _ (n + 1) x t = some (_, h') ∧ _) ∨ ∃ t' : Int × Nat × pH, pl_M_heavier_12 s _ (n + 1) x t = pl_M_heavier_12 s _ n t'.1 t'.2.2 ∧ _
    rw [pl_M_heavier_12, i4]
    rcases i7 with ⟨x1, x2⟩ | ⟨r0, x1, x2⟩
    · by_cases y : (100 : Int) ≤ i
      · left
        refine ⟨_, ?_, fin t i1 i2⟩
        have : r = -1 := by
          rcases x2 with v | v
          · omega
          · rw [show i = 100 by omega] at v; exact v
        unfold pj_M_heavier_60
        rw [if_pos y, this, x1, show (i : Int) = 100 by omega]
        rfl
      · right
        have Mt := Mm t i i1 i2 i3 i4 (by omega)
        rw [if_neg y, wr_eq (by omega) (by omega), if_pos x1, m_ff (d := d) Mt (by rw [i5]; exact V), bsm, i5]
        unfold pj_M_heavier_46
        rw [i4, wr_eq (x := (i : Int) + 1) (by omega) (by omega)]
        have I3 : fr MFs h (pwI t 417 18 ((i : Int) + 1)) ∧ (∀ j, j ≠ 17 → j ≠ 18 → pi (pwI t 417 18 ((i : Int) + 1)) 417 j = pi h 417 j) ∧ pi (pwI t 417 18 ((i : Int) + 1)) 417 17 = s ∧ pi (pwI t 417 18 ((i : Int) + 1)) 417 18 = ((i + 1 : Nat) : Int) ∧ pi (pwI t 417 18 ((i : Int) + 1)) 422 = pi h 422 ∧ i + 1 ≤ 100 := ⟨fr_wI i1 (by unfold MFs; omega), fun j a b => by rw [pi_wIi b]; exact i2 j a b, by rw [pi_wIi (by decide)]; exact i3, by rw [pi_wIs]; omega, by rw [pi_wIf (by decide)]; exact i5, by omega⟩
        by_cases y2 : 0 ≤ ff L W (pi h 422) (wth (wt0 L) s i) 0
        · rw [if_pos y2]
          have i0 : i ≠ 0 := fun v => by rw [v, Int.natCast_zero, ew] at y2; omega
          have er : r = (i : Int) - 1 := by
            rcases x2 with v | v
            · exact absurd v i0
            · rw [show 99 - (i - 1) = (99 - i) + 1 by omega, hvw_s] at v
              rw [show (((i - 1 : Nat) : Int) + 1) = i by omega, dc_t y2, if_pos rfl] at v
              rw [v]; omega
          refine ⟨(x, i + 1, pwI t 417 18 ((i : Int) + 1)), rfl, ⟨I3, Or.inr ⟨by omega, by show x = r; omega, by show x < ((i + 1 : Nat) : Int) - 1; omega⟩⟩, ?_⟩
          show (if x = ((i + 1 : Nat) : Int) - 1 then 102 - (i + 1) else 0) < (if x = (i : Int) - 1 then 102 - i else 0)
          rw [if_neg (by omega), if_pos x1]
          omega
        · rw [if_neg y2]
          refine ⟨((i : Int), i + 1, pwI t 417 18 ((i : Int) + 1)), rfl, ⟨I3, Or.inl ⟨by show (i : Int) = ((i + 1 : Nat) : Int) - 1; omega, Or.inr ?_⟩⟩, ?_⟩
          · show r = hvw L W (pi h 422) s (i + 1 - 1) (99 - (i + 1 - 1))
            rw [show i + 1 - 1 = i by omega]
            rcases x2 with v | v
            · rw [v]; exact hr.symm
            · by_cases i0 : i = 0
              · rw [i0]; exact hr.symm
              · rw [show 99 - (i - 1) = (99 - i) + 1 by omega, hvw_s] at v
                rw [show (((i - 1 : Nat) : Int) + 1) = i by omega, dc_f y2, if_neg (by decide), show i - 1 + 1 = i by omega] at v
                exact v
          · show (if (i : Int) = ((i + 1 : Nat) : Int) - 1 then 102 - (i + 1) else 0) < (if x = (i : Int) - 1 then 102 - i else 0)
            rw [if_pos (by omega), if_pos x1]
            omega
    · left
      refine ⟨_, ?_, fin t i1 i2⟩
      unfold pj_M_heavier_60
      rw [if_neg (show ¬ r < 0 by omega), ← x1]
      by_cases y : (100 : Int) ≤ i
      · rw [if_pos y]
      · rw [if_neg y, wr_eq (by omega) (by omega), if_neg (by omega)]
  · show (if (-1 : Int) = ((0 : Nat) : Int) - 1 then 102 - 0 else 0) < fu_
    unfold fu_
    rw [if_pos (by omega)]
    omega
theorem adn_offm {s : Nat} (kL : LK L) (kW : WK W) (V : SV L S d) (hs : s < 6) : ∀ {n m : Nat}, n ≤ m → adn L W wt sv n S (72 + s) < 0 → adn L W wt sv m S (72 + s) < 0
  | n, 0, h, g => by rw [show n = 0 by omega] at g; exact g
  | n, m + 1, h, g => by
    rcases Nat.lt_or_ge n (m + 1) with y | y
    · rw [adn]; exact pday_off kL kW (SV_adn (n := m) kL kW V) hs (adn_offm kL kW V hs (by omega) g)
    · rw [show m + 1 = n by omega]; exact g
noncomputable def ltf (L W wt sv S : Nat → Int) (s n : Nat) : Int := match n with
  | 0 => -1
  | n + 1 => cif (0 ≤ adn L W wt sv n S (72 + s) ∧ cgo L W (adn L W wt sv n S) wt s) (n : Int) (ltf L W wt sv S s n)
theorem ltf_stop {s i : Nat} (kL : LK L) (kW : WK W) (V : SV L S d) (hs : s < 6) (g : adn L W wt sv i S (72 + s) < 0) : ∀ {m : Nat}, i ≤ m → ltf L W wt sv S s m = ltf L W wt sv S s i
  | 0, h => by rw [show i = 0 by omega]
  | m + 1, h => by
    rcases Nat.lt_or_ge i (m + 1) with y | y
    · have := adn_offm (wt := wt) (sv := sv) kL kW V hs (show i ≤ m by omega) g
      rw [ltf, cif_f (fun v => by have := v.1; omega)]
      exact ltf_stop kL kW V hs g (by omega)
    · rw [show m + 1 = i by omega]
theorem c_latest {s : Nat} (hW : WS L wt sv) (C : CX h p q L W) (K : SC h 303 p q L W wt sv false S) (V : SV L S d) (hd : d ≤ 900) (hs : s < NS L) : ∃ h', pf_Ou_latestLeave 303 s h = some (ltf L W wt sv S s 61, h') ∧ fr CGs h h' := by
  have kL := C.2.2.1
  have kW := C.2.2.2.1
  have n6 := NS_le kL
  have en := NS_eq kL
  unfold pf_Ou_latestLeave
  refine lpf (F := fun n (i : Nat) t => pl_Ou_latestLeave_5 303 s (fun x3 h => some (x3, h)) n (ltf L W wt sv S s i) i t) (Q := fun rr => ∃ h', rr = some (ltf L W wt sv S s 61, h') ∧ fr CGs h h') 61 (fun i t => fr CGs h t ∧ SC t 303 p q L W wt sv false (adn L W wt sv i S)) ?_ ?_ fu_ 0 h (by omega) (by unfold fu_; omega) ⟨fr_refl, K⟩
  · intro n i t hi ⟨f, Kt⟩
    have Ct : CX t p q L W := CX_fr C f (fun b hb => hb.1)
    have Vt := SV_adn (wt := wt) (sv := sv) kL kW V (n := i)
    show (∃ h', pl_Ou_latestLeave_5 303 s _ (n + 1) (ltf L W wt sv S s i) i t = some (_, h') ∧ _) ∨ ∃ t', pl_Ou_latestLeave_5 303 s _ (n + 1) (ltf L W wt sv S s i) i t = pl_Ou_latestLeave_5 303 s _ n (ltf L W wt sv S s (i + 1)) (i + 1 : Nat) t' ∧ _
    rw [pl_Ou_latestLeave_5, if_neg (by omega), c_stands Ct Kt, bsm, if1, Int.toNat_natCast]
    by_cases y1 : adn L W wt sv i S (72 + s) < 0
    · left
      rw [if_neg (by omega), ltf_stop kL kW V (by omega) y1 (show i ≤ 61 by omega)]
      exact ⟨t, rfl, f⟩
    · right
      rw [if_pos ⟨by omega, by omega⟩]
      obtain ⟨t1, p1, p2, -, -, p5⟩ := c_canLeave (s := s) hW Ct Kt Vt (Or.inl rfl) hs (by omega)
      have f1 : fr CGs h t1 := fr_trans f (fr_mono p2 (fun b hb => by unfold SF at hb; unfold CGs; omega))
      obtain ⟨f0, t2, d1, d2, d3, d4⟩ := c_day1 hW (CX_fr C f1 (fun b hb => hb.1)) p5 Vt (by omega)
      have f2 : fr CGs h t2 := fr_trans f1 (fr_mono d3 (fun b hb => by unfold SF at hb; unfold CGs; omega))
      rw [p1, bsm, ltf]
      unfold pj_Ou_latestLeave_35
      simp only []
      rw [d1, bsm, d2, bsm, bsm, d2, bsm, wr_eq (by omega) (by omega)]
      by_cases y2 : cgo L W (adn L W wt sv i S) wt s
      · rw [cif_t y2, cif_t ⟨by omega, y2⟩, if_neg (by decide)]; exact ⟨t2, rfl, f2, d4⟩
      · rw [cif_f y2, cif_f (fun v => y2 v.2), if_pos rfl]; exact ⟨t2, rfl, f2, d4⟩
  · intro n t ⟨f, Kt⟩
    refine ⟨t, ?_, f⟩
    show pl_Ou_latestLeave_5 303 s _ (n + 1) (ltf L W wt sv S s 61) (61 : Nat) t = _
    rw [pl_Ou_latestLeave_5, if_pos (by omega)]
theorem m_latest {s : Nat} (M : MC h l w L W wt sv 0) (V : SV L (pi h 422) d) (hd : d ≤ 900) (Z : ∀ c : Nat, c < 36 → pi h 424 c = 0) (hs : s < NS L) : ∃ h', pf_M_latest s h = some (ltf L W wt sv (pi h 422) s 61, h') ∧ MF h h' := by
  have kL := M.1.2.2.2.2.2.2.1
  have kW := M.1.2.2.2.2.2.2.2
  have n6 := NS_le kL
  have en := NS_eq kL
  unfold pf_M_latest
  refine lpf (F := fun n (i : Nat) t => pl_M_latest_4 s (fun x3 h => some (x3, h)) n (ltf L W wt sv (pi h 422) s i) i t) (Q := fun rr => ∃ h', rr = some (ltf L W wt sv (pi h 422) s 61, h') ∧ MF h h') 61 (fun i t => MF h t ∧ pi t 422 = adn L W wt sv i (pi h 422)) ?_ ?_ fu_ 0 h (by omega) (by unfold fu_; omega) ⟨MF_refl, rfl⟩
  · intro n i t hi ⟨f, e⟩
    right
    have Vt := SV_adn (wt := wt) (sv := sv) kL kW V (n := i)
    obtain ⟨t1, p1, p2, p3⟩ := m_canGoOff (a := s) (MF_MC M f) (by rw [e]; exact Vt) (fun c hc => by rw [MF_24 f]; exact Z c hc)
    rw [e] at p1 p3
    obtain ⟨t2, d1, d2, d3⟩ := m_day1 (MF_MC M (MF_trans f p2)) (by rw [p3]; exact Vt) (by omega)
    rw [p3] at d3
    refine ⟨t2, ?_, MF_trans f (MF_trans p2 d2), d3⟩
    show pl_M_latest_4 s _ (n + 1) (ltf L W wt sv (pi h 422) s i) i t = pl_M_latest_4 s _ n (ltf L W wt sv (pi h 422) s (i + 1)) (i + 1 : Nat) t2
    rw [pl_M_latest_4, if_neg (by omega), p1, bsm, ltf, Int.toNat_natCast]
    unfold pj_M_latest_20
    simp only []
    rw [d1, bsm, bsm, wr_eq (by omega) (by omega)]
    by_cases y2 : 0 ≤ adn L W wt sv i (pi h 422) (72 + s) ∧ cgo L W (adn L W wt sv i (pi h 422)) wt s
    · rw [cif_t y2, cif_t ⟨by omega, y2⟩, if_neg (by decide)]; rfl
    · rw [cif_f y2, cif_f (fun v => y2 v.2), if_pos rfl]; rfl
  · intro n t ⟨f, e⟩
    refine ⟨t, ?_, f⟩
    show pl_M_latest_4 s _ (n + 1) (ltf L W wt sv (pi h 422) s 61) (61 : Nat) t = _
    rw [pl_M_latest_4, if_pos (by omega)]
end Dm
theorem p_shopping {x y z n s o : Int} : asks (pf_I_shopping x y z n s o) (pf_M_shopping x y z n s o) := by
  by_cases q0 : 0 ≤ o ∧ o ≤ 2
  · refine ask_std2 (x := x) (y := y) (z := z) (n := n) (s := s) (-1) (km := fun v2 => (if v2.1 = 0 then (some (-1, v2.2)) else ((pf_M_copies 0 1 v2.2).bind fun v3 => (if o = 0 then ((pf_M_swept s v3).bind fun v6 => (some (v6.1, v6.2))) else (if o = 1 then ((pf_M_heavier s v3).bind fun v5 => (some (v5.1, v5.2))) else ((pf_M_latest s v3).bind fun v4 => (some (v4.1, v4.2)))))))) (fun _ => rfl) (fun _ => rfl) (fun _ => rfl) (fun _ => rfl) (fun g => by unfold pf_M_shopping; rw [m_isIn, bsm, if1, if_pos q0]) (fun _ => rfl) ?_
    intro p q l w L W S h g ⟨C, K, M, eS, Z, V, TT⟩ I hs es h0
    have kL := C.2.2.1
    have kW := C.2.2.2.1
    have n6 := NS_le kL
    subst eS
    obtain ⟨g0, s1, s2, s3⟩ := m_save (g := g)
    have M0 := MF_MC M s2
    have V0 : SV L (pi g0 422) 31 := SV_c V s3.1 kL
    simp only []
    rw [if_neg (show ¬ (1 : Int) = 0 by decide), if_neg (show ¬ (1 : Int) = 0 by decide), s1, bsm]
    by_cases o0 : o = 0
    · obtain ⟨h1, c1, c2⟩ := c_swept (s := s.toNat) (WS0 kL) C K V (by omega) hs
      obtain ⟨g1, m1, m2⟩ := m_swept (s := s.toNat) M0 s3 V (by omega) hs
      rw [es] at c1 m1
      rw [if_pos o0, if_pos o0, c1, m1]
      exact ⟨_, h1, g1, rfl, c2, rfl, MF_MG (MF_trans s2 m2)⟩
    · rw [if_neg o0, if_neg o0]
      by_cases o1 : o = 1
      · have hvy : pi g0 417 17 = -1 ∧ pi g0 417 18 = 0 := by rw [s2.2 17 (by omega) (by omega), s2.2 18 (by omega) (by omega)]; exact ⟨I.1.2.1, I.1.2.2.1⟩
        have e8 : ∀ wt, ff L W (pi g 422) wt 0 = ff L W (pi g0 422) wt 0 := fun wt => ff_ext kL V s3.1
        obtain ⟨h1, c1, c2⟩ := c_heavier (s := s.toNat) C K V hs h0
        obtain ⟨g1, m1, m2⟩ := m_heavier (s := s.toNat) M0 hvy V0 (by rw [← e8]; exact TT) hs
        have eh : hvw L W (pi g 422) s.toNat 0 99 = hvw L W (pi g0 422) s.toNat 0 99 := by
          unfold hvw
          exact fnd_c (fun j _ _ => by rw [e8])
        rw [es] at c1 m1
        rw [if_pos o1, if_pos o1, c1, m1, eh]
        exact ⟨_, h1, g1, rfl, c2, rfl, MF_MG (MF_trans s2 m2)⟩
      · rw [if_neg o1, if_neg o1, if_pos (by omega)]
        obtain ⟨h1, c1, c2⟩ := c_latest (s := s.toNat) (WS0 kL) C K V (by omega) hs
        obtain ⟨g1, m1, m2⟩ := m_latest (s := s.toNat) M0 V0 (by omega) (fun c hc => by rw [MF_24 s2]; exact Z c hc) hs
        have el : ∀ n, ltf L W (wt0 L) (sv0 L) (pi g 422) s.toNat n = ltf L W (wt0 L) (sv0 L) (pi g0 422) s.toNat n := by
          intro n
          induction n with
          | zero => rfl
          | succ n ih =>
            have e8 := adn_ext (wt := wt0 L) (sv := sv0 L) kL kW V s3.1 (n := n)
            have Vn := SV_adn (wt := wt0 L) (sv := sv0 L) kL kW V (n := n)
            rw [ltf, ltf, ih, ← e8 (72 + s.toNat) (by omega)]
            by_cases y1 : 0 ≤ adn L W (wt0 L) (sv0 L) n (pi g 422) (72 + s.toNat)
            · have := cgo_ext (W := W) (wt := wt0 L) kL e8 hs ⟨y1, (Vn.2.2.1 _ hs).2⟩
              by_cases y2 : cgo L W (adn L W (wt0 L) (sv0 L) n (pi g 422)) (wt0 L) s.toNat
              · rw [cif_t ⟨y1, y2⟩, cif_t ⟨y1, this.mpr y2⟩]
              · rw [cif_f (fun v => y2 v.2), cif_f (fun v => y2 (this.mp v.2))]
            · rw [cif_f (fun v => y1 v.1), cif_f (fun v => y1 v.1)]
        rw [es] at c1 m1
        rw [c1, m1, el]
        exact ⟨_, h1, g1, rfl, c2, rfl, MF_MG (MF_trans s2 m2)⟩
  · refine ask_no (-1) (c_no (x := x) (y := y) (z := z) (n := n) (-1) (fun _ => rfl) (fun _ => rfl) ?_) (fun g B I => ⟨g, ?_, MG_refl⟩)
    · intro p q L W S h C K V
      refine ⟨h, ?_, fr_refl⟩
      rw [n10]
      simp only []
      rw [c_stands C K, bsm, if1, if_neg (by omega : ¬ o = 0), if_neg (by omega : ¬ o = 1), if_neg (by omega : ¬ o = 2)]
      split <;> rfl
    · unfold pf_M_shopping
      rw [m_isIn, bsm, if1, if_neg q0]
