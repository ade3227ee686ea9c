/-! the class: surveys, measures, the short way -/
def WX (h : pH) (p q : Nat) : Prop := pr h 311 4 = p ∧ pr h 311 5 = q
/-- what a cell bears beside its load -/
noncomputable def rmv (L W S wt : Nat → Int) (tk c : Int) : Int := cif ((∀ s, s < NS L → S (72 + s) ≠ c) ∧ W 0 ≤ S c.toNat + tk) (br L S tk c - ld L W S wt (-1) c) 0
theorem rmv_opn {L W S wt : Nat → Int} {tk c load : Int} (h1 : 1 ≤ load) : load ≤ rmv L W S wt tk c ↔ opn L W S wt tk (-1) load no0 c := by
  unfold rmv opn
  by_cases q : (∀ s, s < NS L → S (72 + s) ≠ c) ∧ W 0 ≤ S c.toNat + tk
  · rw [cif_t q]
    constructor
    · intro y; exact ⟨fun z => z, q.1, q.2, by omega⟩
    · intro y; have := y.2.2.2; omega
  · rw [cif_f q]
    constructor
    · intro y; omega
    · intro y; exact absurd ⟨y.2.1, y.2.2.1⟩ q
section Cd
variable {h : pH} {a p q : Nat} {L W wt sv S : Nat → Int} {u : Bool} {d : Nat}
theorem WX_fr {F : Nat → Prop} {h' : pH} (X : WX h p q) (f : fr F h h') (z : ¬ F 311) : WX h' p q := ⟨by rw [fr_r f z]; exact X.1, by rw [fr_r f z]; exact X.2⟩
theorem br_hi {tk c : Int} (kL : LK L) (h0 : 0 ≤ S c.toNat + tk) (h1 : S c.toNat + tk ≤ 200) : br L S tk c ≤ 40000 := by
  have := kL.2.1
  have m := mb h0 h1 h0 h1
  unfold br
  have := Int.ediv_le_self (L 2) m.1
  omega
theorem rmv_bd {tk c : Int} (kL : LK L) (kW : WK W) (hW : WS L wt sv) (h0 : 0 ≤ S c.toNat + tk) (h1 : S c.toNat + tk ≤ 200) : -10000 ≤ rmv L W S wt tk c ∧ rmv L W S wt tk c ≤ 40000 := by
  have b0 := br_bd (S := S) (tk := tk) (c := c) kL h0
  have b1 := br_hi (S := S) (tk := tk) (c := c) kL h0 h1
  have l := ld_bd (S := S) (wo := -1) (x := c) kL kW hW
  unfold rmv
  by_cases q : (∀ s, s < NS L → S (72 + s) ≠ c) ∧ W 0 ≤ S c.toNat + tk
  · rw [cif_t q]; omega
  · rw [cif_f q]; omega
theorem c_survey {tk : Int} (hW : WS L wt sv) (C : CX h p q L W) (K : SC h a p q L W wt sv false S) (V : SV L S d) (ha : 327 ≤ a ∨ a = 303) (t0 : 0 ≤ tk) (t1 : tk ≤ 100) : ∃ h', pf_Wa_survey a tk h = some h' ∧ fr (fun b => b = 311 ∨ b = 313) h h' ∧ pi h' 311 = pi h 311 ∧ pl h' 311 = pl h 311 ∧ WX h' p q ∧ ∀ c : Nat, (c : Int) < ce L → pi h' 313 c = rmv L W S wt tk c := by
  have kL := C.2.2.1
  have kW := C.2.2.2.1
  have z : 4 ≤ ce L ∧ ce L ≤ 36 := sz_mul kL.1
  have n6 := NS_le kL
  have en := NS_eq kL
  obtain ⟨⟨-, ea, eb⟩, k1, k2, k3, k4, k5⟩ := K
  unfold pf_Wa_survey
  rw [pr_wRa (by omega), ea, eb]
  have f0 : fr (fun b => b = 311) h (pwR (pwR h 311 4 p) 311 5 q) := fr_wR (fr_wR fr_refl rfl) rfl
  refine lpf (F := fun n (c : Nat) t => pl_Wa_survey_18 a tk (fun h => pl_Wa_survey_85 a tk (fun h => some h) fu_ 0 h) n c t) (Q := fun r => ∃ h', r = some h' ∧ fr (fun b => b = 311 ∨ b = 313) h h' ∧ pi h' 311 = pi h 311 ∧ pl h' 311 = pl h 311 ∧ WX h' p q ∧ ∀ c : Nat, (c : Int) < ce L → pi h' 313 c = rmv L W S wt tk c) (ce L).toNat (fun c t => fr (fun b => b = 311 ∨ b = 313) h t ∧ pi t 311 = pi h 311 ∧ pl t 311 = pl h 311 ∧ WX t p q ∧ ∀ j : Nat, j < c → pi t 313 j = if S j + tk < W 0 then 0 else br L S tk j - ld L W S wt (-1) j) ?_ ?_ fu_ 0 _ (by omega) (by unfold fu_; omega) ⟨fr_mono f0 (fun b hb => Or.inl hb), rfl, rfl, ⟨by rw [pr_wRi (by decide), pr_wRs], pr_wRs⟩, fun j hj => by omega⟩
  · intro n c t hc ⟨f, g, gl, X, e⟩
    right
    have C1 : CX t p q L W := CX_fr C f (fun b hb => by omega)
    have hc' : (c : Int) < ce L := by omega
    have v1 := V.1 c hc'
    have lb := ld_bd (S := S) (wo := -1) (x := c) kL kW hW
    have b0 := br_bd (S := S) (tk := tk) (c := c) kL (by rw [Int.toNat_natCast]; omega)
    have b1 := br_hi (S := S) (tk := tk) (c := c) kL (by rw [Int.toNat_natCast]; omega) (by rw [Int.toNat_natCast]; omega)
    have e1 : pi t (a + 1) c = S c := by rw [fr_i f (by omega)]; exact k1 c hc' (Or.inl rfl)
    have e3 : pi t (a + 3) c = ld L W S wt (-1) c := by rw [fr_i f (by omega)]; exact (k3 c hc').1
    have eb2 : pf_La_bearing p (S c + tk) t = some (br L S tk c) := by
      rw [c_bearing C1 (by omega) (by omega)]
      unfold br
      rw [Int.toNat_natCast]
    show ∃ t', pl_Wa_survey_18 a tk _ (n + 1) c t = pl_Wa_survey_18 a tk _ n (c + 1 : Nat) t' ∧ _
    rw [pl_Wa_survey_18, X.1, X.2, c_cells C1, bsm, if_neg (by omega), C1.2.1.1.1]
    simp (disch := omega) only [gib, Int.toNat_natCast, e1, e3, wr_eq, eb2, bsm]
    have fin : ∀ v : Int, v = (if S c + tk < W 0 then 0 else br L S tk c - ld L W S wt (-1) c) → ∃ t', pl_Wa_survey_18 a tk (fun h => pl_Wa_survey_85 a tk (fun h => some h) fu_ 0 h) n (c + 1 : Nat) (pwI t 313 c v) = pl_Wa_survey_18 a tk (fun h => pl_Wa_survey_85 a tk (fun h => some h) fu_ 0 h) n (c + 1 : Nat) t' ∧ (fr (fun b => b = 311 ∨ b = 313) h t' ∧ pi t' 311 = pi h 311 ∧ pl t' 311 = pl h 311 ∧ WX t' p q ∧ ∀ j : Nat, j < c + 1 → pi t' 313 j = if S j + tk < W 0 then 0 else br L S tk j - ld L W S wt (-1) j) := by
      intro v ev
      refine ⟨_, rfl, fr_wI f (Or.inr rfl), by rw [pi_wIf (by decide)]; exact g, gl, X, fun j hj => ?_⟩
      by_cases y : j = c
      · rw [y, pi_wIs]; exact ev
      · rw [pi_wIi y]; exact e j (by omega)
    by_cases q1 : W 0 ≤ S c + tk
    · rw [if_pos q1]; exact fin _ (by rw [if_neg (by omega)])
    · rw [if_neg q1]; exact fin _ (by rw [if_pos (by omega)])
  · intro n t ⟨f, g, gl, X, e⟩
    have C1 : CX t p q L W := CX_fr C f (fun b hb => by omega)
    show ∃ h', pl_Wa_survey_18 a tk _ (n + 1) ((ce L).toNat : Nat) t = some h' ∧ _
    rw [pl_Wa_survey_18, X.1, c_cells C1, bsm, if_pos (by omega)]
    refine lpf (F := fun n (s : Nat) t => pl_Wa_survey_85 a tk (fun h => some h) n s t) (Q := fun r => ∃ h', r = some h' ∧ fr (fun b => b = 311 ∨ b = 313) h h' ∧ pi h' 311 = pi h 311 ∧ pl h' 311 = pl h 311 ∧ WX h' p q ∧ ∀ c : Nat, (c : Int) < ce L → pi h' 313 c = rmv L W S wt tk c) (NS L) (fun s t => fr (fun b => b = 311 ∨ b = 313) h t ∧ pi t 311 = pi h 311 ∧ pl t 311 = pl h 311 ∧ WX t p q ∧ ∀ j : Nat, (j : Int) < ce L → pi t 313 j = cif ((∀ r, r < s → S (72 + r) ≠ j) ∧ W 0 ≤ S j + tk) (br L S tk j - ld L W S wt (-1) j) 0) ?_ ?_ fu_ 0 t (by omega) (by unfold fu_; omega) ⟨f, g, gl, X, fun j hj => ?_⟩
    · intro n s t hs ⟨f, g, gl, X, e⟩
      right
      have C1 : CX t p q L W := CX_fr C f (fun b hb => by omega)
      have r := V.2.2.1 s hs
      have e5 : pi t (a + 5) s = S (72 + s) := by rw [fr_i f (by omega)]; exact (k4 s hs).1
      show ∃ t', pl_Wa_survey_85 a tk _ (n + 1) s t = pl_Wa_survey_85 a tk _ n (s + 1 : Nat) t' ∧ _
      rw [pl_Wa_survey_85, X.1, C1.1.1.2.2.2.2, if_neg (by omega)]
      simp (disch := omega) only [gib, Int.toNat_natCast, e5, wr_eq]
      by_cases q1 : S (72 + s) < 0
      · rw [if_pos q1]
        refine ⟨t, rfl, f, g, gl, X, fun j hj => ?_⟩
        rw [e j hj]
        by_cases y : (∀ r, r < s → S (72 + r) ≠ j) ∧ W 0 ≤ S j + tk
        · rw [cif_t y, cif_t ⟨fun r hr => by rcases Nat.lt_or_ge r s with v | v; exact y.1 r v; rw [show r = s by omega]; omega, y.2⟩]
        · rw [cif_f y, cif_f (fun v => y ⟨fun r hr => v.1 r (by omega), v.2⟩)]
      · rw [if_neg q1]
        try simp (disch := omega) only [gib]
        refine ⟨_, rfl, fr_wI f (Or.inr rfl), by rw [pi_wIf (by decide)]; exact g, gl, X, fun j hj => ?_⟩
        by_cases y0 : j = (S (72 + s)).toNat
        · rw [y0, pi_wIs, cif_f (fun v => v.1 s (by omega) (by omega))]
        · rw [pi_wIi y0, e j hj]
          by_cases y : (∀ r, r < s → S (72 + r) ≠ j) ∧ W 0 ≤ S j + tk
          · rw [cif_t y, cif_t ⟨fun r hr => by rcases Nat.lt_or_ge r s with v | v; exact y.1 r v; rw [show r = s by omega]; omega, y.2⟩]
          · rw [cif_f y, cif_f (fun v => y ⟨fun r hr => v.1 r (by omega), v.2⟩)]
    · intro n t ⟨f, g, gl, X, e⟩
      have C1 : CX t p q L W := CX_fr C f (fun b hb => by omega)
      refine ⟨t, ?_, f, g, gl, X, fun c hc => ?_⟩
      · show pl_Wa_survey_85 a tk _ (n + 1) (NS L : Nat) t = _
        rw [pl_Wa_survey_85, X.1, C1.1.1.2.2.2.2, if_pos (by omega)]
      · rw [e c hc]
        unfold rmv
        rw [Int.toNat_natCast]
    · rw [e j (by omega)]
      by_cases y : W 0 ≤ S j + tk
      · rw [if_neg (by omega), cif_t ⟨fun r hr => by omega, y⟩]
      · rw [if_pos (by omega), cif_f (fun v => y v.2)]
theorem c_mayStep {c e : Int} (C : CX h p q L W) (X : WX h p q) (hc : 0 ≤ c ∧ c < 36) (he : 0 ≤ e ∧ e < 64) : pf_Wa_mayStep c e h = some (cif (ag W c e) 0 1) := by
  unfold pf_Wa_mayStep
  rw [gib hc.1 hc.2, X.2]
  have w := C.2.1.2.2.2 c.toNat e.toNat (by omega) (by omega)
  have ee : ((e.toNat : Nat) : Int) = e := by omega
  have ec : ((c.toNat : Nat) : Int) = c := by omega
  rw [ee, ec] at w
  have u := ush1 (y := pl h (q + 3) c.toNat) (n := e.toNat) (by omega)
  rw [ee] at u
  by_cases y : ag W c e
  · rw [cif_t y, if_neg (fun v => (u.mp v) (w.mpr y))]
  · rw [cif_f y, if_pos (u.mpr (fun v => y (w.mp v)))]
theorem c_ms_side {load c0 to : Int} {O : Int → Prop} {last i : Nat} {K : Int → Int → pH → Option (Int × pH)} (C : CX h p q L W) (X : WX h p q) (hO : ∀ c : Nat, (c : Int) < ce L → (load ≤ pi h 313 c ↔ O c)) (hto : inr L to) (hi : i < last) (B : BI L W O to (pi h 314) (pi h 315) last i 0) : ∃ (last' : Nat) (h' : pH), pl_Wa_measure_66 load c0 to K fu_ last i (pi h 315 i) 0 h = K last' i h' ∧ fr (fun b => b = 314 ∨ b = 315) h h' ∧ BI L W O to (pi h' 314) (pi h' 315) last' (i + 1) 0 ∧ i < last' := by
  have kL := C.2.2.1
  have z : 4 ≤ ce L ∧ ce L ≤ 36 := sz_mul kL.1
  refine lpf (F := fun n (k : Nat) (t : Nat × pH) => pl_Wa_measure_66 load c0 to K n t.1 i (pi h 315 i) k t.2) (Q := fun r => ∃ (last' : Nat) (h' : pH), r = K last' i h' ∧ fr (fun b => b = 314 ∨ b = 315) h h' ∧ BI L W O to (pi h' 314) (pi h' 315) last' (i + 1) 0 ∧ i < last') 4 (fun k t => fr (fun b => b = 314 ∨ b = 315) h t.2 ∧ i < t.1 ∧ pi t.2 315 i = pi h 315 i ∧ BI L W O to (pi t.2 314) (pi t.2 315) t.1 i k) ?_ ?_ fu_ 0 (last, h) (by omega) (by unfold fu_; omega) ⟨fr_refl, hi, rfl, B⟩
  · intro n k t hk ⟨f, hi, qi, B⟩
    right
    obtain ⟨lst, t⟩ := t
    have f : fr (fun b => b = 314 ∨ b = 315) h t := f
    have hi : i < lst := hi
    have qi : pi t 315 i = pi h 315 i := qi
    have B : BI L W O to (pi t 314) (pi t 315) lst i k := B
    have C1 : CX t p q L W := CX_fr C f (fun b hb => by omega)
    have X1 : WX t p q := WX_fr X f (by omega)
    have l36 := B.1.2.1
    show ∃ t' : Nat × pH, pl_Wa_measure_66 load c0 to K (n + 1) lst i (pi h 315 i) k t = pl_Wa_measure_66 load c0 to K n t'.1 i (pi h 315 i) (k + 1 : Nat) t'.2 ∧ _
    rw [← qi]
    obtain ⟨hq, ho, hd0, hd1⟩ := B.2.2.2.1 i hi
    obtain ⟨q0, q1⟩ := hq
    have eq : (((pi t 315 i).toNat : Nat) : Int) = pi t 315 i := by omega
    have sd := (C1.1.2.2.2.2.1 (pi t 315 i).toNat k (by omega) hk).1
    rw [eq] at sd
    have t1 : (pi t 315 i * 4 + k).toNat = 4 * (pi t 315 i).toNat + k := by omega
    have b0 : -1 ≤ bs L (pi t 315 i) k ∧ bs L (pi t 315 i) k < ce L := ⟨be_lo kL.1 q0 q1, be_hi kL.1 q0 q1⟩
    rw [pl_Wa_measure_66, if_neg (by omega), X1.1]
    simp (disch := omega) only [wr_eq, gib, t1, sd]
    by_cases y1 : bs L (pi t 315 i) k = -1
    · rw [if_pos y1]
      have BK : BI L W O to (pi t 314) (pi t 315) lst i (k + 1) := BI_keep B (fun v => by omega)
      exact ⟨(lst, t), rfl, f, hi, rfl, BK⟩
    · rw [if_neg y1]
      try simp (disch := omega) only [gib]
      by_cases y2 : pi t 314 (bs L (pi t 315 i) k).toNat = -1
      · rw [if_pos y2, c_mayStep C1 X1 ⟨by omega, by omega⟩ ⟨by omega, by omega⟩, bsm]
        by_cases y3 : ag W (bs L (pi t 315 i) k) (pi t 315 i)
        · rw [cif_t y3, if_pos rfl]
          exact ⟨(lst, t), rfl, f, hi, rfl, BI_keep B (fun _ v => absurd y3 v)⟩
        · rw [cif_f y3, if_neg (by decide)]
          have ho2 : load ≤ pi t 313 (bs L (pi t 315 i) k).toNat ↔ O (bs L (pi t 315 i) k) := by
            have := hO (bs L (pi t 315 i) k).toNat (by omega)
            rw [show (((bs L (pi t 315 i) k).toNat : Nat) : Int) = bs L (pi t 315 i) k by omega] at this
            rw [fr_i f (by omega)]
            exact this
          simp (disch := omega) only [wr_eq, pi_wIa (show (313 : Nat) ≠ 314 by decide)]
          by_cases y4 : O (bs L (pi t 315 i) k)
          · obtain ⟨lt, B2⟩ := BI_push kL B hi hk (by omega) y2 y3 y4
            rw [if_neg (by have := ho2.mpr y4; omega), if_neg (by omega), Int.toNat_natCast]
            refine ⟨(lst + 1, pwI (pwI t 314 (bs L (pi t 315 i) k).toNat (pi t 314 (pi t 315 i).toNat + 1)) 315 lst (bs L (pi t 315 i) k)), rfl, fr_wI (fr_wI f (Or.inl rfl)) (Or.inr rfl), by show i < lst + 1; omega, ?_, ?_⟩
            · show pi (pwI (pwI t 314 _ _) 315 lst _) 315 i = _
              rw [pi_wIi (by omega), pi_wIa (by decide)]
            · show BI L W O to (pi (pwI (pwI t 314 _ _) 315 lst _) 314) (pi (pwI (pwI t 314 _ _) 315 lst _) 315) (lst + 1) i (k + 1)
              rw [pi_wIf (by decide), up1_pi, up1_pi, pi_wIf (by decide)]
              exact B2
          · have B2 := BI_set kL B hi hk (by omega) y2 y3 y4
            rw [if_pos (by have : ¬ load ≤ _ := fun v => y4 (ho2.mp v); omega)]
            refine ⟨(lst, pwI t 314 (bs L (pi t 315 i) k).toNat (pi t 314 (pi t 315 i).toNat + 1)), rfl, fr_wI f (Or.inl rfl), hi, ?_, ?_⟩
            · show pi (pwI t 314 _ _) 315 i = _
              rw [pi_wIa (by decide)]
            · show BI L W O to (pi (pwI t 314 _ _) 314) (pi (pwI t 314 _ _) 315) lst i (k + 1)
              rw [up1_pi, pi_wIf (by decide)]
              exact B2
      · rw [if_neg y2]
        refine ⟨(lst, t), rfl, f, hi, rfl, BI_keep B (fun v _ => ?_)⟩
        rcases B.2.2.1 (bs L (pi t 315 i) k).toNat (by omega) with y | y
        · exact absurd y y2
        · exact y.1
  · intro n t ⟨f, hi, qi, B⟩
    refine ⟨t.1, t.2, ?_, f, BI_next kL B hi, hi⟩
    show pl_Wa_measure_66 load c0 to K (n + 1) t.1 i (pi h 315 i) (4 : Nat) t.2 = _
    rw [pl_Wa_measure_66, if_pos (by omega)]
theorem c_measure {load c to : Int} {O : Int → Prop} (C : CX h p q L W) (X : WX h p q) (hO : ∀ c : Nat, (c : Int) < ce L → (load ≤ pi h 313 c ↔ O c)) (hc : inr L c) (hto : inr L to) (ne : c ≠ to) : ∃ h', pf_Wa_measure load c to h = some (dst L W O to c, h') ∧ fr (fun b => b = 314 ∨ b = 315) h h' ∧ (0 ≤ dst L W O to c → ∀ c : Nat, (c : Int) < ce L → pi h' 314 c = dst L W O to c) := by
  have kL := C.2.2.1
  have z : 4 ≤ ce L ∧ ce L ≤ 36 := sz_mul kL.1
  have t0 := hto.1
  have t1 := hto.2
  have et : ((to.toNat : Nat) : Int) = to := by omega
  unfold pf_Wa_measure
  obtain ⟨g, p1, p2, p3⟩ := c_fill (a := 314) (N := 36) (v := -1) (h := h) (by decide +kernel) (by omega)
  rw [p1, bsm]
  have ho := hO to.toNat (by omega)
  rw [et] at ho
  simp (disch := omega) only [gib, fr_i p2 (show ¬ (313 : Nat) = 314 by decide)]
  by_cases y : O to
  · rw [if_pos (ho.mpr y)]
    have C1 : CX g p q L W := CX_fr C p2 (fun b hb => by omega)
    have X1 : WX g p q := WX_fr X p2 (by omega)
    refine lp (F := fun n (t : Nat × Nat × pH) => pl_Wa_measure_40 load c to (fun h => pj_Wa_measure_175 load c to h) n t.1 t.2.1 t.2.2) (Q := fun r => ∃ h', r = some (dst L W O to c, h') ∧ fr (fun b => b = 314 ∨ b = 315) h h' ∧ (0 ≤ dst L W O to c → ∀ c : Nat, (c : Int) < ce L → pi h' 314 c = dst L W O to c)) (I := fun t => fr (fun b => b = 314 ∨ b = 315) h t.2.2 ∧ BI L W O to (pi t.2.2 314) (pi t.2.2 315) t.1 t.2.1 0) (fun t => 40 - t.2.1) ?_ fu_ (1, 0, pwI (pwI g 314 to.toNat 0) 315 0 to) ⟨fr_wI (fr_wI (fr_mono p2 (fun b hb => Or.inl hb)) (Or.inl rfl)) (Or.inr rfl), ?_⟩ (by show 40 - 0 < fu_; unfold fu_; omega)
    · intro n t ⟨f, B⟩
      obtain ⟨lst, i, t⟩ := t
      have f : fr (fun b => b = 314 ∨ b = 315) h t := f
      have B : BI L W O to (pi t 314) (pi t 315) lst i 0 := B
      have C1 : CX t p q L W := CX_fr C f (fun b hb => by omega)
      have X1 : WX t p q := WX_fr X f (by omega)
      have b1 := B.1
      by_cases y1 : lst ≤ i
      · left
        have e : i = lst := by omega
        subst e
        have D := BI_end kL hto B
        refine ⟨t, ?_, f, fun _ => D⟩
        show pl_Wa_measure_40 load c to _ (n + 1) i i t = _
        rw [pl_Wa_measure_40, if_pos (by omega)]
        unfold pj_Wa_measure_175
        rw [gib hc.1 (by have := hc.2; omega), D c.toNat (by have := hc.1; have := hc.2; omega), show ((c.toNat : Nat) : Int) = c by have := hc.1; omega]
      · right
        obtain ⟨last', h', r1, r2, r3, r4⟩ := c_ms_side (load := load) (c0 := c) (K := fun x4 x5 h => pl_Wa_measure_40 load c to (fun h => pj_Wa_measure_175 load c to h) n x4 (wr (x5 + 1)) h) C1 X1 (fun c hc => by rw [fr_i f (by omega)]; exact hO c hc) hto (by omega) B
        refine ⟨(last', i + 1, h'), ?_, ⟨fr_trans f r2, r3⟩, by show 40 - (i + 1) < 40 - i; omega⟩
        show pl_Wa_measure_40 load c to _ (n + 1) lst i t = pl_Wa_measure_40 load c to _ n last' (i + 1 : Nat) h'
        rw [pl_Wa_measure_40, if_neg (by omega), if_neg (by omega), gib (by omega) (by omega), Int.toNat_natCast, r1, wr_eq (by omega) (by omega)]
        rfl
    · show BI L W O to (pi (pwI (pwI g 314 to.toNat 0) 315 0 to) 314) (pi (pwI (pwI g 314 to.toNat 0) 315 0 to) 315) 1 0 0
      refine BI_start kL hto y (fun a ha => ?_) pi_wIs
      rw [pi_wIa (by decide)]
      by_cases y2 : (a : Int) = to
      · rw [if_pos y2, show a = to.toNat by omega, pi_wIs]
      · rw [if_neg y2, pi_wIi (by omega), p3 a, if_pos (by omega)]
  · rw [if_neg (fun v => y (ho.mp v))]
    have e := dst_shut (L := L) (W := W) (c := c) y ne
    refine ⟨g, by rw [e], fr_mono p2 (fun b hb => Or.inl hb), fun v => by rw [e] at v; omega⟩
theorem c_nextNearer {load c to : Int} {O : Int → Prop} (C : CX h p q L W) (X : WX h p q) (hO : ∀ c : Nat, (c : Int) < ce L → (load ≤ pi h 313 c ↔ O c)) (D : ∀ c : Nat, (c : Int) < ce L → pi h 314 c = dst L W O to c) (hc : inr L c) : pf_Wa_nextNearer c load h = some (nxt L W O to c) := by
  have kL := C.2.2.1
  have z : 4 ≤ ce L ∧ ce L ≤ 36 := sz_mul kL.1
  have hci := hc
  obtain ⟨c0, c1⟩ := hc
  have ec : ((c.toNat : Nat) : Int) = c := by omega
  have step : ∀ (n k : Nat) (ki : Int), (k : Int) = ki → k < 4 → pl_Wa_nextNearer_2 c load h (fun x4 => some x4) (some c) (n + 1) ki = cif (ngd L W O to c ki) (some (bs L c ki)) (pl_Wa_nextNearer_2 c load h (fun x4 => some x4) (some c) n (ki + 1)) := by
    intro n k ki ek hk
    have t1 : (c * 4 + ki).toNat = 4 * c.toNat + k := by omega
    have sd := (C.1.2.2.2.2.1 c.toNat k (by omega) hk).1
    rw [ec, ek] at sd
    have b0 : -1 ≤ bs L c ki ∧ bs L c ki < ce L := ⟨be_lo kL.1 c0 c1, be_hi kL.1 c0 c1⟩
    have dlo := dst_lo (L := L) (W := W) (O := O) (to := to) (c := c)
    have dhi := dst_hi (W := W) (O := O) (to := to) kL hci
    rw [pl_Wa_nextNearer_2, if_neg (by omega), X.1]
    simp (disch := omega) only [wr_eq, gib, t1, sd]
    by_cases y1 : bs L c ki = -1
    · rw [if_pos y1, cif_f (fun v => by have := v.1; omega)]
    · rw [if_neg y1]
      try simp (disch := omega) only [gib]
      have eb : (((bs L c ki).toNat : Nat) : Int) = bs L c ki := by omega
      have ho := hO (bs L c ki).toNat (by omega)
      have db := D (bs L c ki).toNat (by omega)
      have dc := D c.toNat (by omega)
      rw [eb] at ho db
      rw [ec] at dc
      by_cases y2 : pi h 313 (bs L c ki).toNat < load
      · rw [if_pos y2, cif_f (fun v => by have := ho.mpr v.2.1; omega)]
      · rw [if_neg y2, db, dc, wr_eq (by omega) (by omega)]
        by_cases y3 : dst L W O to (bs L c ki) = dst L W O to c - 1
        · rw [if_pos y3, c_mayStep C X ⟨c0, by omega⟩ ⟨by omega, by omega⟩, bsm]
          by_cases y4 : ag W c (bs L c ki)
          · rw [cif_t y4, if_pos rfl, cif_f (fun v => v.2.2.1 y4)]
          · rw [cif_f y4, if_neg (by decide), cif_t ⟨by omega, ho.mp (by omega), y4, y3⟩]
        · rw [if_neg y3, cif_f (fun v => y3 v.2.2.2)]
  unfold pf_Wa_nextNearer nxt
  rw [fu5, step _ 0 0 rfl (by omega), step _ 1 (0 + 1) (by omega) (by omega), step _ 2 (0 + 1 + 1) (by omega) (by omega), step _ 3 (0 + 1 + 1 + 1) (by omega) (by omega), pl_Wa_nextNearer_2, if_pos (by omega)]
  have cs : ∀ (P : Prop) (x y : Int), cif P (some x) (some y) = some (cif P x y) := fun P x y => by
    by_cases v : P
    · rw [cif_t v, cif_t v]
    · rw [cif_f v, cif_f v]
  rw [cs, cs, cs, cs]
  rfl
theorem c_findShort {load c to : Int} {O : Int → Prop} (C : CX h p q L W) (X : WX h p q) (hO : ∀ c : Nat, (c : Int) < ce L → (load ≤ pi h 313 c ↔ O c)) (hc : inr L c) (hto : inr L to) (ne : c ≠ to) : ∃ h', pf_Wa_findShort load c to h = some (cif (isw L W O c to) 1 0, h') ∧ fr (fun b => b = 311 ∨ b = 312 ∨ b = 314 ∨ b = 315) h h' ∧ (∀ j, j ≠ 0 → pi h' 311 j = pi h 311 j) ∧ pl h' 311 = pl h 311 ∧ WX h' p q ∧ (isw L W O c to → pi h' 311 0 = dst L W O to c + 1 ∧ ∀ i : Nat, (i : Int) ≤ dst L W O to c → pi h' 312 i = pth L W O to c i) := by
  have kL := C.2.2.1
  have z : 4 ≤ ce L ∧ ce L ≤ 36 := sz_mul kL.1
  obtain ⟨h1, p1, p2, p3⟩ := c_measure C X hO hc hto ne
  have dlo := dst_lo (L := L) (W := W) (O := O) (to := to) (c := c)
  have dhi := dst_hi (W := W) (O := O) (to := to) kL hc
  unfold pf_Wa_findShort
  rw [p1, bsm]
  simp only []
  by_cases y : dst L W O to c = -1
  · refine ⟨h1, by rw [if_pos y, cif_f (fun v => by have := v.2; omega)], fr_mono p2 (fun b hb => by omega), fun j _ => fr_i p2 (by omega), fr_fl p2 (by omega), WX_fr X p2 (by omega), fun v => by have := v.2; omega⟩
  · rw [if_neg y, cif_t ⟨ne, by omega⟩]
    have D := p3 (by omega)
    have X0 : WX h1 p q := WX_fr X p2 (by omega)
    rw [show pl_Wa_findShort_32 load c to (fun h => some (1, h)) fu_ (dst L W O to c) c (pwI (pwI h1 312 0 c) 311 0 1) = pl_Wa_findShort_32 load c to (fun h => some (1, h)) fu_ (dst L W O to c - (0 : Nat)) (pth L W O to c 0) (pwI (pwI h1 312 0 c) 311 0 1) from by rw [Int.natCast_zero, Int.sub_zero]; rfl]
    refine lpf (F := fun n (i : Nat) t => pl_Wa_findShort_32 load c to (fun h => some (1, h)) n (dst L W O to c - i) (pth L W O to c i) t) (Q := fun r => ∃ h', r = some (1, h') ∧ fr (fun b => b = 311 ∨ b = 312 ∨ b = 314 ∨ b = 315) h h' ∧ (∀ j, j ≠ 0 → pi h' 311 j = pi h 311 j) ∧ pl h' 311 = pl h 311 ∧ WX h' p q ∧ (isw L W O c to → pi h' 311 0 = dst L W O to c + 1 ∧ ∀ i : Nat, (i : Int) ≤ dst L W O to c → pi h' 312 i = pth L W O to c i)) (dst L W O to c).toNat (fun i t => fr (fun b => b = 311 ∨ b = 312) h1 t ∧ (∀ j, j ≠ 0 → pi t 311 j = pi h1 311 j) ∧ pl t 311 = pl h1 311 ∧ WX t p q ∧ pi t 311 0 = i + 1 ∧ ∀ j : Nat, j ≤ i → pi t 312 j = pth L W O to c j) ?_ ?_ fu_ 0 _ (by omega) (by unfold fu_; omega) ⟨fr_wI (fr_wI fr_refl (Or.inr rfl)) (Or.inl rfl), fun j hj => by rw [pi_wIi hj, pi_wIa (by decide)], rfl, X0, pi_wIs, fun j hj => by rw [show j = 0 by omega, pi_wIa (by decide), pi_wIs]; rfl⟩
    · intro n i t hi ⟨f, g, gl, X1, t0, tp⟩
      right
      obtain ⟨pi1, pi2⟩ := pth_in (W := W) (O := O) (to := to) kL hc (i := i) (by omega)
      have C1 : CX t p q L W := CX_fr (CX_fr C p2 (fun b hb => by omega)) f (fun b hb => by omega)
      have nn := c_nextNearer (load := load) (to := to) C1 X1 (fun c hc => by rw [fr_i f (by omega), fr_i p2 (by omega)]; exact hO c hc) (fun c hc => by rw [fr_i f (by omega)]; exact D c hc) pi1
      show ∃ t', pl_Wa_findShort_32 load c to _ (n + 1) (dst L W O to c - i) (pth L W O to c i) t = pl_Wa_findShort_32 load c to _ n (dst L W O to c - (i + 1 : Nat)) (pth L W O to c (i + 1)) t' ∧ _
      rw [pl_Wa_findShort_32, if_neg (by omega), t0, if_neg (by omega), nn, bsm, gib (by omega) (by omega), wr_eq (by omega) (by omega), wr_eq (by omega) (by omega), show ((i : Int) + 1).toNat = i + 1 by omega, show dst L W O to c - (i : Int) + -1 = dst L W O to c - (i + 1 : Nat) by omega]
      refine ⟨_, rfl, fr_wI (fr_wI f (Or.inl rfl)) (Or.inr rfl), fun j hj => by rw [pi_wIa (by decide), pi_wIi hj]; exact g j hj, gl, X1, ?_, fun j hj => ?_⟩
      · rw [pi_wIa (by decide), pi_wIs]; omega
      · by_cases v : j = i + 1
        · rw [v, pi_wIs]; rfl
        · rw [pi_wIi v, pi_wIa (by decide)]; exact tp j (by omega)
    · intro n t ⟨f, g, gl, X1, t0, tp⟩
      refine ⟨t, ?_, fr_trans (fr_mono p2 (fun b hb => by omega)) (fr_mono f (fun b hb => by omega)), fun j hj => by rw [g j hj]; exact fr_i p2 (by omega), by rw [gl]; exact fr_fl p2 (by omega), X1, fun _ => ⟨by rw [t0]; omega, fun i hi => tp i (by omega)⟩⟩
      show pl_Wa_findShort_32 load c to _ (n + 1) (dst L W O to c - ((dst L W O to c).toNat : Nat)) (pth L W O to c (dst L W O to c).toNat) t = _
      rw [pl_Wa_findShort_32, if_pos (by omega)]
end Cd
