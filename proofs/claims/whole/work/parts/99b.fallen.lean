/-! fallen, cold, gulls -/
def SVD (g : pH) (S : Nat → Int) : Prop := E8 S (pi g 422) ∧ ∀ j, j < 80 → pi g 422 (80 + j) = S j
theorem m_save {g : pH} : ∃ g', pf_M_copies 0 1 g = some g' ∧ MF g g' ∧ SVD g' (pi g 422) := by
  obtain ⟨g', p1, p2, p3⟩ := m_copies (a := 0) (b := 1) (h := g) (by omega) (by omega) (by omega)
  rw [show ((0 : Nat) : Int) = 0 from rfl, show ((1 : Nat) : Int) = 1 from rfl] at p1
  refine ⟨g', p1, ⟨fr_mono p2 (fun b hb => by unfold MFs; omega), fun j _ _ => fr_i p2 (by omega)⟩, fun j hj => ?_, fun j hj => ?_⟩
  · rw [p3 j, if_neg (by omega)]
  · rw [p3 (80 + j), if_pos (by omega), show 80 * 0 + (80 + j - 80 * 1) = j by omega]
theorem m_load {g : pH} {S : Nat → Int} (h : ∀ j, j < 80 → pi g 422 (80 + j) = S j) : ∃ g', pf_M_copies 1 0 g = some g' ∧ MF g g' ∧ SVD g' S ∧ fr (fun b => b = 422) g g' := by
  obtain ⟨g', p1, p2, p3⟩ := m_copies (a := 1) (b := 0) (h := g) (by omega) (by omega) (by omega)
  rw [show ((0 : Nat) : Int) = 0 from rfl, show ((1 : Nat) : Int) = 1 from rfl] at p1
  refine ⟨g', p1, ⟨fr_mono p2 (fun b hb => by unfold MFs; omega), fun j _ _ => fr_i p2 (by omega)⟩, ⟨fun j hj => ?_, fun j hj => ?_⟩, p2⟩
  · rw [p3 j, if_pos (by omega), show 80 * 1 + (j - 80 * 0) = 80 + j by omega, h j hj]
  · rw [p3 (80 + j), if_neg (by omega), h j hj]
section Dl
variable {h : pH} {a p q l w : Nat} {L W wt sv S T : Nat → Int} {u : Bool} {d : Nat} {tk : Int}
theorem SC_true (K : SC h a p q L W wt sv u S) : SC h a p q L W wt sv true S := by
  obtain ⟨k0, k1, k2⟩ := K
  exact ⟨k0, fun c hc hu => k1 c hc (by rcases hu with v | v; exact absurd v (by decide); exact Or.inr v), k2⟩
theorem c_fallsBySeed {s : Nat} {x days : Int} (hW : WS L wt sv) (C : CX h p q L W) (K : SC h 303 p q L W wt sv u S) (V : SV L S d) (hd : d ≤ 900) (hs : s < NS L) (d0 : 0 ≤ days ∧ days ≤ 60) : ∃ h', pf_Ou_fallsBySeed 303 s x days h = some (cif (wnS L W wt sv x S days.toNat (72 + s) < 0) 1 0, h') ∧ fr (SF 329) h h' := by
  have kL := C.2.2.1
  have kW := C.2.2.2.1
  have n6 := NS_le kL
  have en := NS_eq kL
  obtain ⟨h1, b1, b2, b3⟩ := c_become (a := 329) K kL (by omega) (by omega)
  unfold pf_Ou_fallsBySeed
  rw [b1, bsm]
  have fin : ∀ (t : pH) (i : Nat), fr (SF 329) h t → SC t 329 p q L W wt sv true (wnS L W wt sv x S i) → (wnS L W wt sv x S i (72 + s) < 0 ↔ wnS L W wt sv x S days.toNat (72 + s) < 0) → ∃ h', pj_Ou_fallsBySeed_65 303 s x days t = some (cif (wnS L W wt sv x S days.toNat (72 + s) < 0) 1 0, h') ∧ fr (SF 329) h h' := by
    intro t i f Kt iff
    unfold pj_Ou_fallsBySeed_65
    rw [c_stands (SC_CX C (by omega : 303 ≤ 329) f) Kt, bsm, if1, Int.toNat_natCast]
    by_cases y : wnS L W wt sv x S i (72 + s) < 0
    · rw [if_neg (by omega), cif_t (iff.mp y)]; exact ⟨t, rfl, f⟩
    · rw [if_pos ⟨by omega, by omega⟩, cif_f (fun v => y (iff.mpr v))]; exact ⟨t, rfl, f⟩
  refine lpf (F := fun n (i : Nat) t => pl_Ou_fallsBySeed_14 303 s x days (fun h => pj_Ou_fallsBySeed_65 303 s x days h) n (wsx x i) i t) (Q := fun rr => ∃ h', rr = some (cif (wnS L W wt sv x S days.toNat (72 + s) < 0) 1 0, h') ∧ fr (SF 329) h h') days.toNat (fun i t => fr (SF 329) h t ∧ SC t 329 p q L W wt sv true (wnS L W wt sv x S i)) ?_ ?_ fu_ 0 h1 (by omega) (by unfold fu_; omega) ⟨b2, SC_true b3⟩
  · intro n i t hi ⟨f, Kt⟩
    have Ct := SC_CX C (by omega : 303 ≤ 329) f
    have Vt := SV_wnS (wt := wt) (sv := sv) (x := x) kL kW V (n := i)
    have fb := fro_bd (S := wnS L W wt sv x S i) kL Vt.2.2.2.2.1.1
    have wb := wdr_r (x := wsx x (i + 1))
    show (∃ h', pl_Ou_fallsBySeed_14 303 s x days _ (n + 1) (wsx x i) i t = some (_, h') ∧ _) ∨ ∃ t', pl_Ou_fallsBySeed_14 303 s x days _ (n + 1) (wsx x i) i t = pl_Ou_fallsBySeed_14 303 s x days _ n (wsx x (i + 1)) (i + 1 : Nat) t' ∧ _
    rw [pl_Ou_fallsBySeed_14, if_neg (by omega), c_stands Ct Kt, bsm, if1, Int.toNat_natCast]
    by_cases q1 : wnS L W wt sv x S i (72 + s) < 0
    · left
      rw [if_neg (by omega)]
      exact fin t i f Kt ⟨fun v => wnS_off kL kW V (by omega) (by omega) v, fun _ => q1⟩
    · right
      obtain ⟨h2, e1, e2, e3⟩ := c_under (f := fro L (wnS L W wt sv x S i) + wdr (wsx x (i + 1)) - 3) hW Ct Kt Vt (by omega) (by omega) (by omega)
      have nd : pf_I_nextDraw (wsx x i) t = some (wsx x (i + 1)) := rfl
      have df : pf_I_drawnFrost (wsx x (i + 1)) t = some (wdr (wsx x (i + 1)) - 3) := by
        unfold pf_I_drawnFrost
        rw [show Int.tmod (push (wsx x (i + 1)) 16) 7 = wdr (wsx x (i + 1)) from rfl, wr_eq (by omega) (by omega)]
      rw [if_pos ⟨by omega, by omega⟩, nd, bsm, c_frost Ct Kt Vt.2.2.2.2.1.1, bsm, df, bsm, wr_eq (x := fro L (wnS L W wt sv x S i) + (wdr (wsx x (i + 1)) - 3)) (by omega) (by omega), show fro L (wnS L W wt sv x S i) + (wdr (wsx x (i + 1)) - 3) = fro L (wnS L W wt sv x S i) + wdr (wsx x (i + 1)) - 3 by omega, e1, bsm, wr_eq (by omega) (by omega)]
      exact ⟨h2, rfl, fr_trans f e2, e3⟩
  · intro n t ⟨f, Kt⟩
    show ∃ h', pl_Ou_fallsBySeed_14 303 s x days _ (n + 1) (wsx x days.toNat) (days.toNat : Nat) t = some (_, h') ∧ _
    rw [pl_Ou_fallsBySeed_14, if_pos (by omega)]
    exact fin t days.toNat f Kt Iff.rfl
/-- days of one frost -/
noncomputable def cdn (L W wt sv : Nat → Int) (f : Int) (n : Nat) (S : Nat → Int) : Nat → Int := match n with
  | 0 => S
  | n + 1 => pday L W wt sv 0 f (cdn L W wt sv f n S)
theorem SV_cdn {f : Int} (kL : LK L) (kW : WK W) (V : SV L S d) : ∀ {n : Nat}, SV L (cdn L W wt sv f n S) (d + n)
  | 0 => V
  | n + 1 => SV_pday (SV_cdn kL kW V) kL kW
theorem cdn_ext {f : Int} (kL : LK L) (kW : WK W) (V : SV L S d) (e : E8 S T) : ∀ {n : Nat}, E8 (cdn L W wt sv f n S) (cdn L W wt sv f n T)
  | 0 => e
  | n + 1 => pday_ext kL kW (SV_cdn (n := n) kL kW V) (cdn_ext kL kW V e)
theorem cdn_hi {f : Int} (kL : LK L) (kW : WK W) (V : SV L S d) : ∀ {n : Nat}, ∀ i, 80 ≤ i → cdn L W wt sv f n S i = S i
  | 0, i, _ => rfl
  | n + 1, i, hi => by rw [cdn, pday_hi kL kW (SV_cdn (n := n) kL kW V) i hi]; exact cdn_hi kL kW V i hi
theorem cdn_off {f : Int} {s : Nat} (kL : LK L) (kW : WK W) (V : SV L S d) (hs : s < 6) : ∀ {n m : Nat}, n ≤ m → cdn L W wt sv f n S (72 + s) < 0 → cdn L W wt sv f m S (72 + s) < 0
  | n, 0, h, g => by rw [show n = 0 by omega] at g; exact g
  | n, m + 1, h, g => by
    rcases Nat.lt_or_ge n (m + 1) with y | y
    · rw [cdn]; exact pday_off kL kW (SV_cdn (n := m) kL kW V) hs (cdn_off kL kW V hs (by omega) g)
    · rw [show m + 1 = n by omega]; exact g
theorem c_fallsByFrost {s : Nat} {f days : Int} (hW : WS L wt sv) (C : CX h p q L W) (K : SC h 303 p q L W wt sv u S) (V : SV L S d) (hd : d ≤ 900) (hs : s < NS L) (d0 : 0 ≤ days ∧ days ≤ 60) (f0 : -100 ≤ f ∧ f ≤ 100) : ∃ h', pf_Ou_fallsByFrost 303 s f days h = some (cif (cdn L W wt sv f days.toNat S (72 + s) < 0) 1 0, h') ∧ fr (SF 329) h h' := by
  have kL := C.2.2.1
  have kW := C.2.2.2.1
  have n6 := NS_le kL
  have en := NS_eq kL
  obtain ⟨h1, b1, b2, b3⟩ := c_become (a := 329) K kL (by omega) (by omega)
  unfold pf_Ou_fallsByFrost
  rw [b1, bsm]
  have fin : ∀ (t : pH) (i : Nat), fr (SF 329) h t → SC t 329 p q L W wt sv true (cdn L W wt sv f i S) → (cdn L W wt sv f i S (72 + s) < 0 ↔ cdn L W wt sv f days.toNat S (72 + s) < 0) → ∃ h', pj_Ou_fallsByFrost_43 303 s f days t = some (cif (cdn L W wt sv f days.toNat S (72 + s) < 0) 1 0, h') ∧ fr (SF 329) h h' := by
    intro t i g Kt iff
    unfold pj_Ou_fallsByFrost_43
    rw [c_stands (SC_CX C (by omega : 303 ≤ 329) g) Kt, bsm, if1, Int.toNat_natCast]
    by_cases y : cdn L W wt sv f i S (72 + s) < 0
    · rw [if_neg (by omega), cif_t (iff.mp y)]; exact ⟨t, rfl, g⟩
    · rw [if_pos ⟨by omega, by omega⟩, cif_f (fun v => y (iff.mpr v))]; exact ⟨t, rfl, g⟩
  refine lpf (F := fun n (i : Nat) t => pl_Ou_fallsByFrost_11 303 s f days (fun h => pj_Ou_fallsByFrost_43 303 s f days h) n i t) (Q := fun rr => ∃ h', rr = some (cif (cdn L W wt sv f days.toNat S (72 + s) < 0) 1 0, h') ∧ fr (SF 329) h h') days.toNat (fun i t => fr (SF 329) h t ∧ SC t 329 p q L W wt sv true (cdn L W wt sv f i S)) ?_ ?_ fu_ 0 h1 (by omega) (by unfold fu_; omega) ⟨b2, SC_true b3⟩
  · intro n i t hi ⟨g, Kt⟩
    have Ct := SC_CX C (by omega : 303 ≤ 329) g
    have Vt := SV_cdn (wt := wt) (sv := sv) (f := f) kL kW V (n := i)
    show (∃ h', pl_Ou_fallsByFrost_11 303 s f days _ (n + 1) i t = some (_, h') ∧ _) ∨ ∃ t', pl_Ou_fallsByFrost_11 303 s f days _ (n + 1) i t = pl_Ou_fallsByFrost_11 303 s f days _ n (i + 1 : Nat) t' ∧ _
    rw [pl_Ou_fallsByFrost_11, if_neg (by omega), c_stands Ct Kt, bsm, if1, Int.toNat_natCast]
    by_cases q1 : cdn L W wt sv f i S (72 + s) < 0
    · left
      rw [if_neg (by omega)]
      exact fin t i g Kt ⟨fun v => cdn_off kL kW V (by omega) (by omega) v, fun _ => q1⟩
    · right
      obtain ⟨h2, e1, e2, e3⟩ := c_under (f := f) hW Ct Kt Vt (by omega) f0.1 f0.2
      rw [if_pos ⟨by omega, by omega⟩, e1, bsm, wr_eq (by omega) (by omega)]
      exact ⟨h2, rfl, fr_trans g e2, e3⟩
  · intro n t ⟨g, Kt⟩
    show ∃ h', pl_Ou_fallsByFrost_11 303 s f days _ (n + 1) (days.toNat : Nat) t = some (_, h') ∧ _
    rw [pl_Ou_fallsByFrost_11, if_pos (by omega)]
    exact fin t days.toNat g Kt Iff.rfl
end Dl
noncomputable def flc (L W wt sv S : Nat → Int) (sd : Int) (days s : Nat) (k : Nat) : Int := cif (wnS L W wt sv (wr (sd + k)) S days (72 + s) < 0) 1 0
theorem p_fallen {x y z n sd wn days s : Int} : asks (pf_I_fallen x y z n sd wn days s) (pf_M_fallen x y z n sd wn days s) := by
  by_cases q0 : (1 ≤ wn ∧ wn ≤ 9) ∧ (0 ≤ days ∧ days ≤ 60)
  · refine ask_std (x := x) (y := y) (z := z) (n := n) (s := s) (-1) (kc := fun v1 => (if v1.1 = 0 then (some (-1, v1.2)) else ((pf_Sc_stands 303 s v1.2).bind fun v2 => (if v2 = 0 then (some (-1, v1.2)) else (pl_I_fallen_59 x y z n sd wn days s (fun x9 h => some (x9, h)) fu_ 0 0 v1.2))))) (km := fun v3 => (if v3.1 = 0 then (some (-1, v3.2)) else ((pf_M_copies 0 1 v3.2).bind fun v4 => (pl_M_fallen_50 x y z n sd wn days s (fun x9 h => some (x9, h)) fu_ 0 0 v4)))) (fun h => by unfold pf_I_fallen; rw [if_neg (by omega), if_neg (by omega), if_neg (by omega), if_pos (by omega)]) (fun _ => rfl) (fun _ => rfl) (fun _ => rfl) (fun g => by unfold pf_M_fallen; rw [m_isIn, bsm, if1, if_pos q0.1, m_isIn, bsm, if1, if_pos q0.2]) (fun _ => rfl) ?_
    intro p q l w L W S h g ⟨C, K, M, eS, Z, V, TT⟩ hs es h0
    have kL := C.2.2.1
    have kW := C.2.2.2.1
    have n6 := NS_le kL
    have en := NS_eq kL
    subst eS
    have fb : ∀ m : Nat, 0 ≤ sumw (flc L W (wt0 L) (sv0 L) (pi g 422) sd days.toNat s.toNat) m ∧ sumw (flc L W (wt0 L) (sv0 L) (pi g 422) sd days.toNat s.toNat) m ≤ m * 1 := fun m => sumw_bd (B := 1) (by omega) (fun k _ => by
      unfold flc
      by_cases y : wnS L W (wt0 L) (sv0 L) (wr (sd + k)) (pi g 422) days.toNat (72 + s.toNat) < 0
      · rw [cif_t y]; omega
      · rw [cif_f y]; omega)
    have cc : ∃ h1, pl_I_fallen_59 x y z n sd wn days s (fun x9 h => some (x9, h)) fu_ 0 0 h = some (sumw (flc L W (wt0 L) (sv0 L) (pi g 422) sd days.toNat s.toNat) wn.toNat, h1) ∧ fr CGs h h1 := by
      refine lpf (F := fun m (k : Nat) t => pl_I_fallen_59 x y z n sd wn days s (fun x9 h => some (x9, h)) m (sumw (flc L W (wt0 L) (sv0 L) (pi g 422) sd days.toNat s.toNat) k) k t) (Q := fun r => ∃ h1, r = some (sumw (flc L W (wt0 L) (sv0 L) (pi g 422) sd days.toNat s.toNat) wn.toNat, h1) ∧ fr CGs h h1) wn.toNat (fun k t => fr (SF 329) h t) ?_ ?_ fu_ 0 h (by omega) (by unfold fu_; omega) fr_refl
      · intro m k t hk f
        right
        have Ct := SC_CX C (by omega : 303 ≤ 329) f
        have Kt := SC_fr K f (fun b hb => by unfold SF at hb; omega)
        obtain ⟨h2, e1, e2⟩ := c_fallsBySeed (s := s.toNat) (x := wr (sd + k)) (WS0 kL) Ct Kt V (by omega) hs q0.2
        rw [es] at e1
        have b := fb k
        refine ⟨h2, ?_, fr_trans f e2⟩
        show pl_I_fallen_59 x y z n sd wn days s _ (m + 1) (sumw (flc L W (wt0 L) (sv0 L) (pi g 422) sd days.toNat s.toNat) k) k t = pl_I_fallen_59 x y z n sd wn days s _ m (sumw (flc L W (wt0 L) (sv0 L) (pi g 422) sd days.toNat s.toNat) (k + 1)) (k + 1 : Nat) h2
        rw [pl_I_fallen_59, if_neg (by omega), e1, bsm, sumw, flc]
        simp only []
        by_cases y1 : wnS L W (wt0 L) (sv0 L) (wr (sd + k)) (pi g 422) days.toNat (72 + s.toNat) < 0
        · rw [cif_t y1, if_neg (by decide), wr_eq (by omega) (by omega), wr_eq (by omega) (by omega)]; rfl
        · rw [cif_f y1, if_pos rfl, wr_eq (by omega) (by omega), Int.add_zero]; rfl
      · intro m t f
        refine ⟨t, ?_, fr_mono f (fun b hb => by unfold SF at hb; unfold CGs; omega)⟩
        show pl_I_fallen_59 x y z n sd wn days s _ (m + 1) (sumw (flc L W (wt0 L) (sv0 L) (pi g 422) sd days.toNat s.toNat) wn.toNat) (wn.toNat : Nat) t = _
        rw [pl_I_fallen_59, if_pos (by omega)]
    obtain ⟨g0, s1, s2, s3⟩ := m_save (g := g)
    have mm : ∃ g1, pl_M_fallen_50 x y z n sd wn days s (fun x9 h => some (x9, h)) fu_ 0 0 g0 = some (sumw (flc L W (wt0 L) (sv0 L) (pi g 422) sd days.toNat s.toNat) wn.toNat, g1) ∧ MF g g1 := by
      refine lpf (F := fun m (k : Nat) t => pl_M_fallen_50 x y z n sd wn days s (fun x9 h => some (x9, h)) m (sumw (flc L W (wt0 L) (sv0 L) (pi g 422) sd days.toNat s.toNat) k) k t) (Q := fun r => ∃ g1, r = some (sumw (flc L W (wt0 L) (sv0 L) (pi g 422) sd days.toNat s.toNat) wn.toNat, g1) ∧ MF g g1) wn.toNat (fun k t => MF g t ∧ ∀ j, j < 80 → pi t 422 (80 + j) = pi g 422 j) ?_ ?_ fu_ 0 g0 (by omega) (by unfold fu_; omega) ⟨s2, s3.2⟩
      · intro m k t hk ⟨f, sv⟩
        right
        have b := fb k
        obtain ⟨t1, l1, l2, l3, l4⟩ := m_load sv
        have f1 := MF_trans f l2
        have V1 : SV L (pi t1 422) 31 := SV_c V l3.1 kL
        have inner : ∀ KK : Int → Int → pH → Option (Int × pH), ∃ t2, pl_M_fallen_75 x y z n sd wn days s KK fu_ (sumw (flc L W (wt0 L) (sv0 L) (pi g 422) sd days.toNat s.toNat) k) k 0 (pwI t1 417 37 (wr (sd + k))) = KK (sumw (flc L W (wt0 L) (sv0 L) (pi g 422) sd days.toNat s.toNat) k) k t2 ∧ MF g t2 ∧ pi t2 422 = wnS L W (wt0 L) (sv0 L) (wr (sd + k)) (pi t1 422) days.toNat := by
          intro KK
          refine lpf (F := fun m (i : Nat) t => pl_M_fallen_75 x y z n sd wn days s KK m (sumw (flc L W (wt0 L) (sv0 L) (pi g 422) sd days.toNat s.toNat) k) k i t) (Q := fun r => ∃ t2, r = KK (sumw (flc L W (wt0 L) (sv0 L) (pi g 422) sd days.toNat s.toNat) k) k t2 ∧ MF g t2 ∧ pi t2 422 = wnS L W (wt0 L) (sv0 L) (wr (sd + k)) (pi t1 422) days.toNat) days.toNat (fun i t => MF g t ∧ pi t 422 = wnS L W (wt0 L) (sv0 L) (wr (sd + k)) (pi t1 422) i ∧ pi t 417 37 = wsx (wr (sd + k)) i) ?_ ?_ fu_ 0 _ (by omega) (by unfold fu_; omega) ⟨MF_wI f1 (by unfold MFs; omega) (by omega), pi_wIf (by decide), pi_wIs⟩
          · intro m i t hi ⟨f, e, e2⟩
            right
            obtain ⟨h2, d1, d2, d3, d4⟩ := m_drawnDay (x := wr (sd + k)) (i := i) (MF_MC M f) (by rw [e]; exact SV_wnS kL kW V1) (by omega) e2
            rw [e] at d3
            refine ⟨h2, ?_, MF_trans f d2, d3, d4⟩
            show pl_M_fallen_75 x y z n sd wn days s _ (m + 1) _ k i t = pl_M_fallen_75 x y z n sd wn days s _ m _ k (i + 1 : Nat) h2
            rw [pl_M_fallen_75, if_neg (by omega), d1, bsm, wr_eq (by omega) (by omega)]
            rfl
          · intro m t ⟨f, e, e2⟩
            refine ⟨t, ?_, f, e⟩
            show pl_M_fallen_75 x y z n sd wn days s _ (m + 1) _ k (days.toNat : Nat) t = _
            rw [pl_M_fallen_75, if_pos (by omega)]
        obtain ⟨t2, i1, i2, i3⟩ := inner (fun x9 x10 h => (pf_M_stands s h).bind fun v7 => (if v7 = 0 then (pj_M_fallen_108 x y z n sd wn days s (pl_M_fallen_50 x y z n sd wn days s (fun x9 h => some (x9, h)) m) (fun x9 h => some (x9, h)) x10 x9 1 h) else (pj_M_fallen_108 x y z n sd wn days s (pl_M_fallen_50 x y z n sd wn days s (fun x9 h => some (x9, h)) m) (fun x9 h => some (x9, h)) x10 x9 0 h)))
        have e8 := wnS_ext (wt := wt0 L) (sv := sv0 L) (x := wr (sd + k)) kL kW V l3.1 (n := days.toNat)
        refine ⟨t2, ?_, i2, fun j hj => by rw [i3, wnS_hi kL kW V1 _ (by omega)]; exact l3.2 j hj⟩
        show pl_M_fallen_50 x y z n sd wn days s _ (m + 1) (sumw (flc L W (wt0 L) (sv0 L) (pi g 422) sd days.toNat s.toNat) k) k t = pl_M_fallen_50 x y z n sd wn days s _ m (sumw (flc L W (wt0 L) (sv0 L) (pi g 422) sd days.toNat s.toNat) (k + 1)) (k + 1 : Nat) t2
        rw [pl_M_fallen_50, if_neg (by omega), l1, bsm, i1, m_stands (MF_MC M i2).1, bsm, if1, i3, ← e8 (72 + s.toNat) (by omega), sumw, flc]
        unfold pj_M_fallen_108
        by_cases y1 : wnS L W (wt0 L) (sv0 L) (wr (sd + k)) (pi g 422) days.toNat (72 + s.toNat) < 0
        · rw [cif_t y1, if_neg (by omega), wr_eq (by omega) (by omega), wr_eq (by omega) (by omega)]; rfl
        · rw [cif_f y1, if_pos ⟨by omega, by omega⟩, wr_eq (by omega) (by omega), wr_eq (by omega) (by omega)]; rfl
      · intro m t ⟨f, sv⟩
        refine ⟨t, ?_, f⟩
        show pl_M_fallen_50 x y z n sd wn days s _ (m + 1) (sumw (flc L W (wt0 L) (sv0 L) (pi g 422) sd days.toNat s.toNat) wn.toNat) (wn.toNat : Nat) t = _
        rw [pl_M_fallen_50, if_pos (by omega)]
    obtain ⟨h1, c1, c2⟩ := cc
    obtain ⟨g1, m1, m2⟩ := mm
    simp only []
    rw [if_neg (show ¬ (1 : Int) = 0 by decide), if_neg (show ¬ (1 : Int) = 0 by decide), c1, s1, bsm, m1]
    exact ⟨_, h1, g1, rfl, c2, rfl, MF_MG m2⟩
  · refine ask_no (-1) (fun h A R => ⟨h, ?_, fr_refl⟩) (fun g B I => ⟨g, ?_, MG_refl⟩)
    · unfold pf_I_fallen
      by_cases v : wn < 1
      · rw [if_pos v]
      · rw [if_neg v]
        by_cases v2 : 9 < wn
        · rw [if_pos v2]
        · rw [if_neg v2]
          by_cases v3 : days < 0
          · rw [if_pos v3]
          · rw [if_neg v3, if_neg (by omega)]
    · unfold pf_M_fallen
      rw [m_isIn, bsm, if1, m_isIn, bsm, if1]
      by_cases v : 1 ≤ wn ∧ wn ≤ 9
      · rw [if_pos v, if_neg (fun y => q0 ⟨v, y⟩)]
      · rw [if_neg v]
noncomputable def cdw (L W wt sv S : Nat → Int) (days s : Nat) (i m : Nat) : Int := fnd (fun j => dc (¬ cdn L W wt sv ((j : Int) - 20) days S (72 + s) < 0)) i m
theorem cdw_s {L W wt sv S : Nat → Int} {days s i m : Nat} : cdw L W wt sv S days s i (m + 1) = if dc (¬ cdn L W wt sv ((i : Int) - 20) days S (72 + s) < 0) = true then (i : Int) else cdw L W wt sv S days s (i + 1) m := rfl
theorem p_cold {x y z n s days : Int} : asks (pf_I_cold x y z n s days) (pf_M_cold x y z n s days) := by
  by_cases q0 : 1 ≤ days ∧ days ≤ 60
  · refine ask_std (x := x) (y := y) (z := z) (n := n) (s := s) (-100) (kc := fun v1 => (if v1.1 = 0 then (some (-100, v1.2)) else ((pf_Sc_stands 303 s v1.2).bind fun v2 => (if v2 = 0 then (some (-100, v1.2)) else ((pf_Ou_leastFrost 303 s days v1.2).bind fun v3 => (some (v3.1, v3.2))))))) (km := fun v2 => (if v2.1 = 0 then (some (-100, v2.2)) else ((pf_M_copies 0 1 v2.2).bind fun v3 => (pl_M_cold_38 x y z n s days (fun x7 h => some (x7, h)) (fun h => some (-100, h)) fu_ (-20) v3)))) (fun h => by unfold pf_I_cold; rw [if_neg (by omega), if_neg (by omega)]) (fun _ => rfl) (fun _ => rfl) (fun _ => rfl) (fun g => by unfold pf_M_cold; rw [m_isIn, bsm, if1, if_pos q0]) (fun _ => rfl) ?_
    intro p q l w L W S h g ⟨C, K, M, eS, Z, V, TT⟩ hs es h0
    have kL := C.2.2.1
    have kW := C.2.2.2.1
    have n6 := NS_le kL
    have en := NS_eq kL
    subst eS
    generalize hr : cdw L W (wt0 L) (sv0 L) (pi g 422) days.toNat s.toNat 0 41 = r
    have cc : ∃ h1, pf_Ou_leastFrost 303 s days h = some ((if r < 0 then -100 else r - 20), h1) ∧ fr CGs h h1 := by
      unfold pf_Ou_leastFrost
      refine lpf (F := fun m (i : Nat) t => pl_Ou_leastFrost_4 303 s days (fun x4 h => some (x4, h)) (fun h => some (-100, h)) m ((i : Int) - 20) t) (Q := fun rr => ∃ h1, rr = some ((if r < 0 then -100 else r - 20), h1) ∧ fr CGs h h1) 41 (fun i t => fr (SF 329) h t ∧ r = cdw L W (wt0 L) (sv0 L) (pi g 422) days.toNat s.toNat i (41 - i)) ?_ ?_ fu_ 0 h (by omega) (by unfold fu_; omega) ⟨fr_refl, hr.symm⟩
      · intro m i t hi ⟨f, e⟩
        have Ct := SC_CX C (by omega : 303 ≤ 329) f
        have Kt := SC_fr K f (fun b hb => by unfold SF at hb; omega)
        obtain ⟨h2, e1, e2⟩ := c_fallsByFrost (s := s.toNat) (f := (i : Int) - 20) (days := days) (WS0 kL) Ct Kt V (by omega) hs (by omega) (by omega)
        rw [es] at e1
        rw [show 41 - i = (41 - (i + 1)) + 1 by omega, cdw_s] at e
        show (∃ h1, pl_Ou_leastFrost_4 303 s days _ _ (m + 1) ((i : Int) - 20) t = some (_, h1) ∧ _) ∨ ∃ t', pl_Ou_leastFrost_4 303 s days _ _ (m + 1) ((i : Int) - 20) t = pl_Ou_leastFrost_4 303 s days _ _ m (((i + 1 : Nat) : Int) - 20) t' ∧ _
        rw [pl_Ou_leastFrost_4, if_neg (by omega), e1, bsm]
        simp only []
        by_cases y1 : cdn L W (wt0 L) (sv0 L) ((i : Int) - 20) days.toNat (pi g 422) (72 + s.toNat) < 0
        · right
          rw [dc_f (fun v => v y1), if_neg (by decide)] at e
          rw [cif_t y1, if_neg (by decide), wr_eq (by omega) (by omega), show (i : Int) - 20 + 1 = ((i + 1 : Nat) : Int) - 20 by omega]
          exact ⟨h2, rfl, fr_trans f e2, e⟩
        · left
          rw [dc_t y1, if_pos rfl] at e
          rw [cif_f y1, if_pos rfl, e, if_neg (by omega)]
          exact ⟨h2, rfl, fr_mono (fr_trans f e2) (fun b hb => by unfold SF at hb; unfold CGs; omega)⟩
      · intro m t ⟨f, e⟩
        refine ⟨t, ?_, fr_mono f (fun b hb => by unfold SF at hb; unfold CGs; omega)⟩
        show pl_Ou_leastFrost_4 303 s days _ _ (m + 1) (((41 : Nat) : Int) - 20) t = _
        have : r = -1 := e
        rw [pl_Ou_leastFrost_4, if_pos (by omega), this]
        rfl
    obtain ⟨g0, s1, s2, s3⟩ := m_save (g := g)
    have mm : ∃ g1, pl_M_cold_38 x y z n s days (fun x7 h => some (x7, h)) (fun h => some (-100, h)) fu_ (-20) g0 = some ((if r < 0 then -100 else r - 20), g1) ∧ MF g g1 := by
      refine lpf (F := fun m (i : Nat) t => pl_M_cold_38 x y z n s days (fun x7 h => some (x7, h)) (fun h => some (-100, h)) m ((i : Int) - 20) t) (Q := fun rr => ∃ g1, rr = some ((if r < 0 then -100 else r - 20), g1) ∧ MF g g1) 41 (fun i t => MF g t ∧ (∀ j, j < 80 → pi t 422 (80 + j) = pi g 422 j) ∧ r = cdw L W (wt0 L) (sv0 L) (pi g 422) days.toNat s.toNat i (41 - i)) ?_ ?_ fu_ 0 g0 (by omega) (by unfold fu_; omega) ⟨s2, s3.2, hr.symm⟩
      · intro m i t hi ⟨f, sv, e⟩
        obtain ⟨t1, l1, l2, l3, l4⟩ := m_load sv
        have f1 := MF_trans f l2
        have V1 : SV L (pi t1 422) 31 := SV_c V l3.1 kL
        have inner : ∀ KK : Int → pH → Option (Int × pH), ∃ t2, pl_M_cold_54 x y z n s days KK fu_ ((i : Int) - 20) 0 t1 = KK ((i : Int) - 20) t2 ∧ MF g t2 ∧ (pi t2 422 (72 + s.toNat) < 0 ↔ cdn L W (wt0 L) (sv0 L) ((i : Int) - 20) days.toNat (pi t1 422) (72 + s.toNat) < 0) ∧ (∀ j, j < 80 → pi t2 422 (80 + j) = pi g 422 j) := by
          intro KK
          refine lpf (F := fun m (k : Nat) t => pl_M_cold_54 x y z n s days KK m ((i : Int) - 20) k t) (Q := fun r => ∃ t2, r = KK ((i : Int) - 20) t2 ∧ MF g t2 ∧ (pi t2 422 (72 + s.toNat) < 0 ↔ cdn L W (wt0 L) (sv0 L) ((i : Int) - 20) days.toNat (pi t1 422) (72 + s.toNat) < 0) ∧ (∀ j, j < 80 → pi t2 422 (80 + j) = pi g 422 j)) days.toNat (fun k t => MF g t ∧ pi t 422 = cdn L W (wt0 L) (sv0 L) ((i : Int) - 20) k (pi t1 422)) ?_ ?_ fu_ 0 t1 (by omega) (by unfold fu_; omega) ⟨f1, rfl⟩
          · intro m k t hk ⟨f, e⟩
            have Vk := SV_cdn (wt := wt0 L) (sv := sv0 L) (f := (i : Int) - 20) kL kW V1 (n := k)
            show (∃ t2, pl_M_cold_54 x y z n s days KK (m + 1) ((i : Int) - 20) k t = KK ((i : Int) - 20) t2 ∧ _) ∨ ∃ t', pl_M_cold_54 x y z n s days KK (m + 1) ((i : Int) - 20) k t = pl_M_cold_54 x y z n s days KK m ((i : Int) - 20) (k + 1 : Nat) t' ∧ _
            rw [pl_M_cold_54, if_neg (by omega), m_stands (MF_MC M f).1, bsm, if1, e]
            by_cases y1 : cdn L W (wt0 L) (sv0 L) ((i : Int) - 20) k (pi t1 422) (72 + s.toNat) < 0
            · left
              rw [if_neg (by omega)]
              refine ⟨t, rfl, f, ?_, fun j hj => by rw [e, cdn_hi kL kW V1 _ (by omega)]; exact l3.2 j hj⟩
              rw [e]
              exact ⟨fun v => cdn_off kL kW V1 (by omega) (by omega) v, fun _ => y1⟩
            · right
              rw [if_pos ⟨by omega, by omega⟩]
              obtain ⟨h2, d1, d2, d3⟩ := m_passDay (f := (i : Int) - 20) (MF_MC M f) (by rw [e]; exact Vk) (by omega) (by omega) (by omega)
              rw [e] at d3
              rw [d1, bsm, wr_eq (by omega) (by omega)]
              exact ⟨h2, rfl, MF_trans f ⟨fr_mono d2 (fun b hb => by unfold MFs; omega), fun j _ _ => fr_i d2 (by omega)⟩, d3⟩
          · intro m t ⟨f, e⟩
            refine ⟨t, ?_, f, by rw [e], fun j hj => by rw [e, cdn_hi kL kW V1 _ (by omega)]; exact l3.2 j hj⟩
            show pl_M_cold_54 x y z n s days KK (m + 1) ((i : Int) - 20) (days.toNat : Nat) t = _
            rw [pl_M_cold_54, if_pos (by omega)]
        obtain ⟨t2, i1, i2, i3, i4⟩ := inner (fun x7 h => pj_M_cold_82 x y z n s days (pl_M_cold_38 x y z n s days (fun x7 h => some (x7, h)) (fun h => some (-100, h)) m) (fun x7 h => some (x7, h)) (fun h => some (-100, h)) x7 h)
        have e8 := cdn_ext (wt := wt0 L) (sv := sv0 L) (f := (i : Int) - 20) kL kW V l3.1 (n := days.toNat)
        rw [← e8 (72 + s.toNat) (by omega)] at i3
        rw [show 41 - i = (41 - (i + 1)) + 1 by omega, cdw_s] at e
        show (∃ g1, pl_M_cold_38 x y z n s days _ _ (m + 1) ((i : Int) - 20) t = some (_, g1) ∧ _) ∨ ∃ t', pl_M_cold_38 x y z n s days _ _ (m + 1) ((i : Int) - 20) t = pl_M_cold_38 x y z n s days _ _ m (((i + 1 : Nat) : Int) - 20) t' ∧ _
        rw [pl_M_cold_38, if_neg (by omega), l1, bsm, i1]
        unfold pj_M_cold_82
        rw [m_stands (MF_MC M i2).1, bsm, if1]
        by_cases y1 : pi t2 422 (72 + s.toNat) < 0
        · right
          rw [dc_f (fun v => v (i3.mp y1)), if_neg (by decide)] at e
          rw [if_neg (by omega), wr_eq (by omega) (by omega), show (i : Int) - 20 + 1 = ((i + 1 : Nat) : Int) - 20 by omega]
          exact ⟨t2, rfl, i2, i4, e⟩
        · left
          rw [dc_t (fun v => y1 (i3.mpr v)), if_pos rfl] at e
          rw [if_pos ⟨by omega, by omega⟩, e, if_neg (by omega)]
          exact ⟨t2, rfl, i2⟩
      · intro m t ⟨f, sv, e⟩
        refine ⟨t, ?_, f⟩
        show pl_M_cold_38 x y z n s days _ _ (m + 1) (((41 : Nat) : Int) - 20) t = _
        have : r = -1 := e
        rw [pl_M_cold_38, if_pos (by omega), this]
        rfl
    obtain ⟨h1, c1, c2⟩ := cc
    obtain ⟨g1, m1, m2⟩ := mm
    simp only []
    rw [if_neg (show ¬ (1 : Int) = 0 by decide), if_neg (show ¬ (1 : Int) = 0 by decide), c1, s1, bsm, bsm, m1]
    exact ⟨_, h1, g1, rfl, c2, rfl, MF_MG m2⟩
  · refine ask_no (-100) (fun h A R => ⟨h, ?_, fr_refl⟩) (fun g B I => ⟨g, ?_, MG_refl⟩)
    · unfold pf_I_cold
      by_cases v : days < 1
      · rw [if_pos v]
      · rw [if_neg v, if_pos (by omega)]
    · unfold pf_M_cold
      rw [m_isIn, bsm, if1, if_neg q0]
