/-! a day passes: the reference -/
def clp (v : Int) : Int := if v < 0 then 0 else if 99 < v then 99 else v
def grw (S : Nat → Int) (f : Int) (c : Nat) : Int := if 0 < f then (if S (36 + c) < f then f - S (36 + c) else 0) else f
noncomputable def dcl (L S sv : Nat → Int) (f : Int) (c : Nat) : Int := clp (S c + grw S f c - ht L S sv c)
noncomputable def pd1 (L S sv : Nat → Int) (f : Int) : Nat → Int := fun i => if (i : Int) < ce L then dcl L S sv f i else S i
def due (W S : Nat → Int) (n : Nat) : Int := match n with
  | 0 => 0
  | n + 1 => due W S n + (if 0 ≤ S (72 + n) then W 3 * S (S (72 + n)).toNat / 10 else 0)
noncomputable def pd2 (L W S sv : Nat → Int) (f : Int) : Nat → Int := up1 (up1 (pd1 L S sv f) 78 (S 78 + 1)) 79 (S 79 + due W (pd1 L S sv f) (NS L))
noncomputable def pday (L W wt sv : Nat → Int) (tk f : Int) (S : Nat → Int) : Nat → Int := fl L W wt tk 6 (pd2 L W S sv f)
def fro (L S : Nat → Int) : Int := L (224 + (S 78 % L 3).toNat)
noncomputable def aday (L W wt sv : Nat → Int) (tk : Int) (S : Nat → Int) : Nat → Int := pday L W wt sv tk (fro L S) S
theorem clp_r {v : Int} : 0 ≤ clp v ∧ clp v ≤ 99 := by unfold clp; split; omega; split <;> omega
theorem ht_bd {L S wt sv : Nat → Int} {x : Int} (kL : LK L) (hW : WS L wt sv) : 0 ≤ ht L S sv x ∧ ht L S sv x ≤ 1000 := by
  have n6 := NS_le kL
  have b : ∀ s, s < NS L → 0 ≤ (fun s => sv s / 2) s ∧ (fun s => sv s / 2) s ≤ 9 := by
    intro s hs
    have := hW s hs
    show 0 ≤ sv s / 2 ∧ sv s / 2 ≤ 9
    omega
  have i0 := one_bd (S := S) (g := sv) (wo := -1) (x := x) (B := 9) (by omega) n6 (fun s hs => by have := hW s hs; omega)
  have i1 := on1_bd (S := S) (wo := -1) (x := nr L x 0) (B := 9) (by omega) n6 b
  have i2 := on1_bd (S := S) (wo := -1) (x := nr L x 1) (B := 9) (by omega) n6 b
  have i3 := on1_bd (S := S) (wo := -1) (x := nr L x 2) (B := 9) (by omega) n6 b
  have i4 := on1_bd (S := S) (wo := -1) (x := nr L x 3) (B := 9) (by omega) n6 b
  unfold ht
  omega
theorem due_c {W S T : Nat → Int} : ∀ {n : Nat}, (∀ s, s < n → S (72 + s) = T (72 + s)) → (∀ s, s < n → 0 ≤ S (72 + s) → S (S (72 + s)).toNat = T (S (72 + s)).toNat) → due W S n = due W T n
  | 0, _, _ => rfl
  | n + 1, h, h2 => by
    rw [due, due, due_c (fun s hs => h s (by omega)) (fun s hs => h2 s (by omega)), ← h n (by omega)]
    by_cases q : 0 ≤ S (72 + n)
    · rw [if_pos q, if_pos q, h2 n (by omega) q]
    · rw [if_neg q, if_neg q]
theorem due_bd {W S : Nat → Int} (kW : WK W) : ∀ {n : Nat}, (∀ s, s < n → 0 ≤ S (72 + s) → 0 ≤ S (S (72 + s)).toNat ∧ S (S (72 + s)).toNat ≤ 99) → 0 ≤ due W S n ∧ due W S n ≤ 990 * n
  | 0, _ => by simp [due]
  | n + 1, h => by
    have i := due_bd (W := W) (S := S) kW (n := n) (fun s hs => h s (by omega))
    rw [due]
    by_cases q : 0 ≤ S (72 + n)
    · have r := h n (by omega) q
      have m := mb kW.2.2.2.1.1 kW.2.2.2.1.2 r.1 r.2
      rw [if_pos q]
      omega
    · rw [if_neg q]; omega
theorem SV_pd2 {L W S sv : Nat → Int} {f : Int} {d : Nat} (V : SV L S d) (kL : LK L) (kW : WK W) : SV L (pd2 L W S sv f) (d + 1) := by
  obtain ⟨a1, a2, a3, a4, a5, a6⟩ := V
  have z : 4 ≤ ce L ∧ ce L ≤ 36 := sz_mul kL.1
  have n6 := NS_le kL
  have p1 : ∀ i : Nat, ¬ (i : Int) < ce L → pd1 L S sv f i = S i := fun i hi => if_neg hi
  have p2 : ∀ i : Nat, i < 78 → pd2 L W S sv f i = pd1 L S sv f i := fun i hi => by unfold pd2; rw [up1_n (by omega), up1_n (by omega)]
  have db := due_bd (W := W) (S := pd1 L S sv f) kW (n := NS L) (fun s hs h0 => by
    rw [p1 (72 + s) (by omega)] at h0 ⊢
    have := a3 s hs
    have e : pd1 L S sv f (S (72 + s)).toNat = dcl L S sv f (S (72 + s)).toNat := if_pos (by omega)
    rw [e]
    exact clp_r)
  refine ⟨fun c hc => ?_, fun c hc => ?_, fun t ht => ?_, ?_, ?_, ?_⟩
  · rw [p2 c (by omega)]
    have e : pd1 L S sv f c = dcl L S sv f c := if_pos hc
    rw [e]
    exact clp_r
  · rw [p2 _ (by omega), p1 _ (by omega)]; exact a2 c hc
  · rw [p2 _ (by omega), p1 _ (by omega)]; exact a3 t ht
  · intro s t h1 h2 h3
    rw [p2 _ (by omega), p1 _ (by omega)] at h3 ⊢
    rw [p2 _ (by omega), p1 _ (by omega)]
    exact a4 s t h1 h2 h3
  · unfold pd2
    rw [up1_n (by omega), up1_s]
    omega
  · unfold pd2
    rw [up1_s]
    omega
section Me
variable {h : pH} {l w : Nat} {L W wt sv : Nat → Int} {tk : Int} {d : Nat}
theorem m_pd_s {c f v s : Int} (s' : Int) {k : Int → Int → pH → Option pH} (M : MC h l w L W wt sv tk) (hd : DSn (pi h 422) (NS L)) (c0 : 0 ≤ c) (c1 : c < ce L) {n : Nat} (es : s + 1 = s') (s0 : 0 ≤ s) (s3 : s < 4) (a0 : -100000 ≤ v) (a1 : v ≤ 100000) : pl_M_passDay_87 f k (n + 1) c v s h = pl_M_passDay_87 f k n c (v - on1 (pi h 422) (fun s => sv s / 2) (-1) (nr L c s) (NS L)) s' h := by
  have hW := MC_WS M
  subst es
  obtain ⟨M, h1, h2, -, h3, -⟩ := M
  have kL := M.2.2.2.2.2.2.1
  have en := NS_eq kL
  rw [pl_M_passDay_87, if_neg (by omega), M.1, m_near (by have := M.2.2.1; omega) M.2.2.2.2.1 kL.1 c0 c1, bsm]
  unfold pj_M_passDay_121 pj_M_passDay_141 on1
  by_cases q : 0 ≤ nr L c s
  · rw [if_neg (show ¬ nr L c s < 0 by omega), if_pos q, m_shopIn M, bsm, one_shI q hd, show (L 4).toNat = NS L from rfl]
    have r := shI_r (S := pi h 422) (c := nr L c s) (n := NS L)
    by_cases z : shI (pi h 422) (nr L c s) (NS L) < 0
    · rw [if_pos z, if_neg (by omega), wr_eq (by omega) (by omega), wr_eq (by omega) (by omega)]
    · rw [if_neg z, if_pos ⟨by omega, by omega⟩]
      have e : shI (pi h 422) (nr L c s) (NS L) = ((shI (pi h 422) (nr L c s) (NS L)).toNat : Nat) := by omega
      have hs : (shI (pi h 422) (nr L c s) (NS L)).toNat < NS L := by omega
      generalize (shI (pi h 422) (nr L c s) (NS L)).toNat = t at e hs ⊢
      rw [e, m_stoveOf M (by omega), bsm, h2 t hs]
      have hw := hW t hs
      simp (disch := omega) only [wr_eq, td_p]
  · rw [if_neg q, if_pos (show nr L c s < 0 by omega), if_pos (by omega), wr_eq (by omega) (by omega), wr_eq (by omega) (by omega)]
theorem m_pd_c {c : Nat} {f v : Int} {kr : Int → pH → Option pH} {k181 : pH → Option pH} (M : MC h l w L W wt sv tk) (hd : DSn (pi h 422) (NS L)) (c1 : (c : Int) < ce L) (v0 : -1000 ≤ v) (v1 : v ≤ 1000) : pj_M_passDay_59 f kr k181 c v h = kr (c + 1) (pwI h 423 c (clp (v - ht L (pi h 422) sv c))) := by
  have hW := MC_WS M
  have kL := M.1.2.2.2.2.2.2.1
  have z : 4 ≤ ce L ∧ ce L ≤ 36 := sz_mul kL.1
  have n6 := NS_le kL
  have en := NS_eq kL
  have b : ∀ s, s < NS L → 0 ≤ (fun s => sv s / 2) s ∧ (fun s => sv s / 2) s ≤ 9 := by
    intro s hs
    have := hW s hs
    show 0 ≤ sv s / 2 ∧ sv s / 2 ≤ 9
    omega
  have i0 := one_bd (S := pi h 422) (g := sv) (wo := -1) (x := c) (B := 9) (by omega) n6 (fun s hs => by have := hW s hs; omega)
  have i1 := on1_bd (S := pi h 422) (wo := -1) (x := nr L c 0) (B := 9) (by omega) n6 b
  have i2 := on1_bd (S := pi h 422) (wo := -1) (x := nr L c 1) (B := 9) (by omega) n6 b
  have i3 := on1_bd (S := pi h 422) (wo := -1) (x := nr L c 2) (B := 9) (by omega) n6 b
  have i4 := on1_bd (S := pi h 422) (wo := -1) (x := nr L c 3) (B := 9) (by omega) n6 b
  have c0 : (0 : Int) ≤ c := by omega
  have main : ∀ v' : Int, v' = v - one (pi h 422) sv (-1) c (NS L) → pj_M_passDay_82 f kr k181 c v (v - v') h = kr (c + 1) (pwI h 423 c (clp (v - ht L (pi h 422) sv c))) := by
    intro v' e
    unfold pj_M_passDay_82
    rw [show wr (v - (v - v')) = v' by rw [wr_eq (by omega) (by omega)]; omega]
    rw [fu5, m_pd_s (s := 0) 1 M hd c0 c1 (by decide) (by omega) (by omega) (by omega) (by omega), m_pd_s (s := 1) 2 M hd c0 c1 (by decide) (by omega) (by omega) (by omega) (by omega), m_pd_s (s := 2) 3 M hd c0 c1 (by decide) (by omega) (by omega) (by omega) (by omega), m_pd_s (s := 3) 4 M hd c0 c1 (by decide) (by omega) (by omega) (by omega) (by omega), pl_M_passDay_87, if_pos (by omega)]
    have ef : v' - on1 (pi h 422) (fun s => sv s / 2) (-1) (nr L c 0) (NS L) - on1 (pi h 422) (fun s => sv s / 2) (-1) (nr L c 1) (NS L) - on1 (pi h 422) (fun s => sv s / 2) (-1) (nr L c 2) (NS L) - on1 (pi h 422) (fun s => sv s / 2) (-1) (nr L c 3) (NS L) = v - ht L (pi h 422) sv c := by
      unfold ht; omega
    rw [ef]
    simp (disch := omega) only [wr_eq, gib, Int.toNat_natCast]
    unfold clp
    split
    · split
      · rw [if_neg (by omega), if_neg (by omega)]
      · rw [if_neg (by omega), if_pos (by omega)]
    · rw [if_pos (by omega)]
  unfold pj_M_passDay_59
  rw [m_shopIn M.1, bsm, show (L 4).toNat = NS L from rfl]
  have r := shI_r (S := pi h 422) (c := c) (n := NS L)
  rw [one_shI c0 hd] at main
  by_cases q : shI (pi h 422) c (NS L) < 0
  · rw [if_pos q]
    rw [if_neg (by omega)] at main
    have e := main v (by omega)
    rw [show v - v = 0 by omega] at e
    exact e
  · rw [if_neg q]
    rw [if_pos ⟨by omega, by omega⟩] at main
    have e : shI (pi h 422) c (NS L) = ((shI (pi h 422) c (NS L)).toNat : Nat) := by omega
    have hs : (shI (pi h 422) c (NS L)).toNat < NS L := by omega
    generalize (shI (pi h 422) c (NS L)).toNat = t at e hs main ⊢
    rw [e, m_stoveOf M.1 (by omega), bsm, M.2.2.1 t hs]
    have e := main (v - sv t) rfl
    rw [show v - (v - sv t) = sv t by omega] at e
    exact e
theorem m_pd_l {f : Int} {k : pH → Option pH} (f0 : -100 ≤ f) (f1 : f ≤ 100) : ∀ (n c : Nat) (h : pH), MC h l w L W wt sv tk → SV L (pi h 422) d → (c : Int) ≤ ce L → ce L - c < n → ∃ h', pl_M_passDay_2 f k n c h = k h' ∧ fr (fun a => a = 423) h h' ∧ (∀ j, j < c → pi h' 423 j = pi h 423 j) ∧ (∀ j : Nat, c ≤ j → (j : Int) < ce L → pi h' 423 j = dcl L (pi h 422) sv f j) := by
  intro n
  induction n with
  | zero => intro c h M V h1 h2; omega
  | succ n ih =>
    intro c h M V h1 h2
    have kL := M.1.2.2.2.2.2.2.1
    have z : 4 ≤ ce L ∧ ce L ≤ 36 := sz_mul kL.1
    rw [pl_M_passDay_2, m_cells M.1, bsm]
    by_cases q : ce L ≤ c
    · exact ⟨h, by rw [if_pos q], fr_refl, fun _ _ => rfl, fun j a b => by omega⟩
    · rw [if_neg q]
      have v1 := V.1 c (by omega)
      have v2 := V.2.1 c (by omega)
      have t : (36 + (c : Int)).toNat = 36 + c := by omega
      have st : ∀ v : Int, v = pi h 422 c + grw (pi h 422) f c → pj_M_passDay_59 f (pl_M_passDay_2 f k n) k c v h = pl_M_passDay_2 f k n (c + 1 : Nat) (pwI h 423 c (dcl L (pi h 422) sv f c)) := by
        intro v e
        have g : -100 ≤ grw (pi h 422) f c ∧ grw (pi h 422) f c ≤ 100 := by unfold grw; split; split <;> omega; omega
        rw [m_pd_c M V.2.2.2.1 (by omega) (by omega) (by omega), e]
        rfl
      have go : (ia_gd (pib (c : Int) 1120) (if f ≤ 0 then (pj_M_passDay_59 f (pl_M_passDay_2 f k n) k c (wr ((pi h 422 (Int.toNat c)) + f)) h) else (ia_gd (pib (wr (36 + (c : Int))) 1120) (if f ≤ (pi h 422 (Int.toNat (wr (36 + (c : Int))))) then (pj_M_passDay_59 f (pl_M_passDay_2 f k n) k c (wr ((pi h 422 (Int.toNat c)) + 0)) h) else (ia_gd (pib (wr (36 + (c : Int))) 1120) (pj_M_passDay_59 f (pl_M_passDay_2 f k n) k c (wr ((pi h 422 (Int.toNat c)) + (wr (f - (pi h 422 (Int.toNat (wr (36 + (c : Int)))))))) ) h)))))) = pl_M_passDay_2 f k n (c + 1 : Nat) (pwI h 423 c (dcl L (pi h 422) sv f c)) := by
        simp (disch := omega) only [wr_eq, gib, t, Int.toNat_natCast]
        split
        · exact st _ (by unfold grw; rw [if_neg (by omega)])
        · split
          · exact st _ (by unfold grw; rw [if_pos (by omega), if_neg (by omega)])
          · exact st _ (by unfold grw; rw [if_pos (by omega), if_pos (by omega)])
      rw [go]
      have ef : pi (pwI h 423 c (dcl L (pi h 422) sv f c)) 422 = pi h 422 := pi_wIf (by decide)
      obtain ⟨h', p1, p2, p3, p4⟩ := ih (c + 1) (pwI h 423 c (dcl L (pi h 422) sv f c)) (MC_fr M (pi_wIf (by decide)) (pi_wIf (by decide))) (by rw [ef]; exact V) (by omega) (by omega)
      refine ⟨h', p1, fr_trans (fr_wI fr_refl rfl) p2, fun j hj => ?_, fun j a b => ?_⟩
      · rw [p3 j (by omega), pi_wIi (by omega)]
      · rcases Nat.lt_or_ge c j with y | y
        · rw [p4 j y b, ef]
        · rw [show j = c by omega, p3 c (by omega), pi_wIs]
theorem m_pd_k {f : Int} {k : pH → Option pH} : ∀ (n c : Nat) (h : pH), MC h l w L W wt sv tk → (c : Int) ≤ ce L → ce L - c < n → ∃ h', pl_M_passDay_183 f k n c h = k h' ∧ fr (fun a => a = 422) h h' ∧ (∀ j : Nat, pi h' 422 j = if c ≤ j ∧ (j : Int) < ce L then pi h 423 j else pi h 422 j) := by
  intro n
  induction n with
  | zero => intro c h M h1 h2; omega
  | succ n ih =>
    intro c h M h1 h2
    have kL := M.1.2.2.2.2.2.2.1
    have z : 4 ≤ ce L ∧ ce L ≤ 36 := sz_mul kL.1
    rw [pl_M_passDay_183, m_cells M.1, bsm]
    by_cases q : ce L ≤ c
    · exact ⟨h, by rw [if_pos q], fr_refl, fun j => by rw [if_neg (by omega)]⟩
    · rw [if_neg q]
      simp (disch := omega) only [wr_eq, gib, Int.toNat_natCast]
      obtain ⟨h', p1, p2, p3⟩ := ih (c + 1) (pwI h 422 c (pi h 423 c)) (MC_fr M (pi_wIf (by decide)) (pi_wIf (by decide))) (by omega) (by omega)
      refine ⟨h', p1, fr_trans (fr_wI fr_refl rfl) p2, fun j => ?_⟩
      rw [p3 j]
      by_cases y : c + 1 ≤ j ∧ (j : Int) < ce L
      · rw [if_pos y, if_pos (by omega), pi_wIa (by decide)]
      · rw [if_neg y]
        by_cases y2 : j = c
        · rw [y2, pi_wIs, if_pos (by omega)]
        · rw [pi_wIi y2, if_neg (by omega)]
theorem m_pd_p {f : Int} {k : pH → Option pH} {B : Nat} (hB : B ≤ 100000000) : ∀ (n s : Nat) (h : pH), MC h l w L W wt sv tk → (∀ c : Nat, (c : Int) < ce L → 0 ≤ pi h 422 c ∧ pi h 422 c ≤ 99) → (∀ s : Nat, s < NS L → -2 ≤ pi h 422 (72 + s) ∧ pi h 422 (72 + s) < ce L) → s ≤ NS L → NS L - s < n → 0 ≤ pi h 422 79 - due W (pi h 422) s → pi h 422 79 - due W (pi h 422) s ≤ B → ∃ h', pl_M_passDay_222 f k n s h = k h' ∧ fr (fun a => a = 422) h h' ∧ pi h' 422 = up1 (pi h 422) 79 (pi h 422 79 - due W (pi h 422) s + due W (pi h 422) (NS L)) := by
  intro n
  induction n with
  | zero => intro c h M V1 V3 h1 h2; omega
  | succ n ih =>
    intro s h M V1 V3 h1 h2 h3 h4
    have kL := M.1.2.2.2.2.2.2.1
    have kW := M.1.2.2.2.2.2.2.2
    have z : 4 ≤ ce L ∧ ce L ≤ 36 := sz_mul kL.1
    have en := NS_eq kL
    have n6 := NS_le kL
    have db := due_bd (W := W) (S := pi h 422) kW (n := s) (fun t ht h0 => V1 _ (by have := V3 t (by omega); omega))
    obtain ⟨e1, e2, hl, hw, hL, hW, -, -⟩ := M.1
    rw [pl_M_passDay_222]
    simp (disch := omega) only [e1, wr_eq, tn_l, gib, hL, Int.reduceToNat]
    by_cases q : L 4 ≤ s
    · refine ⟨h, by rw [if_pos q], fr_refl, ?_⟩
      rw [show NS L = s by omega]
      funext j
      unfold up1
      by_cases e : j = 79
      · rw [if_pos e, e]; omega
      · rw [if_neg e]
    · rw [if_neg q, m_stands M.1, bsm, if1, Int.toNat_natCast]
      unfold pj_M_passDay_286
      have t : (72 + (s : Int)).toNat = 72 + s := by omega
      have dn : due W (pi h 422) (s + 1) = due W (pi h 422) s + (if 0 ≤ pi h 422 (72 + s) then W 3 * pi h 422 (pi h 422 (72 + s)).toNat / 10 else 0) := rfl
      have step : ∀ x : Int, x = pi h 422 79 + (if 0 ≤ pi h 422 (72 + s) then W 3 * pi h 422 (pi h 422 (72 + s)).toNat / 10 else 0) → ∃ h', pl_M_passDay_222 f k n (s + 1 : Nat) (pwI h 422 79 x) = k h' ∧ fr (fun a => a = 422) h h' ∧ pi h' 422 = up1 (pi h 422) 79 (pi h 422 79 - due W (pi h 422) s + due W (pi h 422) (NS L)) := by
        intro x ex
        have ef : pi (pwI h 422 79 x) 422 = up1 (pi h 422) 79 x := up1_pi
        have ed : ∀ m, m ≤ NS L → due W (up1 (pi h 422) 79 x) m = due W (pi h 422) m := fun m hm => due_c (fun t ht => up1_n (by omega)) (fun t ht h0 => by
          have e0 : up1 (pi h 422) 79 x (72 + t) = pi h 422 (72 + t) := up1_n (by omega)
          rw [e0] at h0 ⊢
          exact up1_n (by have := V3 t (by omega); omega))
        obtain ⟨h', p1, p2, p3⟩ := ih (s + 1) (pwI h 422 79 x) (MC_fr M (pi_wIf (by decide)) (pi_wIf (by decide))) (fun c hc => by rw [pi_wIi (by omega)]; exact V1 c hc) (fun t ht => by rw [pi_wIi (by omega)]; exact V3 t ht) (by omega) (by omega) (by rw [ef, ed (s + 1) (by omega), up1_s, dn]; omega) (by rw [ef, ed (s + 1) (by omega), up1_s, dn]; omega)
        refine ⟨h', p1, fr_trans (fr_wI fr_refl rfl) p2, ?_⟩
        rw [p3, ef, ed (s + 1) (by omega), ed (NS L) (by omega), up1_s, dn]
        funext j
        unfold up1
        by_cases e : j = 79
        · rw [if_pos e, if_pos e]; omega
        · rw [if_neg e, if_neg e, if_neg e]
      by_cases q2 : 0 ≤ pi h 422 (72 + s)
      · have r := V3 s (by omega)
        have rt := V1 (pi h 422 (72 + s)).toNat (by omega)
        have m := mb kW.2.2.2.1.1 kW.2.2.2.1.2 rt.1 rt.2
        rw [if_pos (show (0 ≤ (s : Int) ∧ (s : Int) < L 4) ∧ 0 ≤ pi h 422 (72 + s) from ⟨⟨by omega, by omega⟩, q2⟩)]
        simp (disch := omega) only [e2, wr_eq, tn_l, gib, hW, Int.reduceToNat, t, td_p]
        exact step _ (by rw [if_pos q2])
      · rw [if_neg (fun z : (0 ≤ (s : Int) ∧ (s : Int) < L 4) ∧ 0 ≤ pi h 422 (72 + s) => q2 z.2)]
        simp (disch := omega) only [wr_eq, gib, Int.reduceToNat]
        exact step _ (by rw [if_neg q2])
theorem m_passDay {f : Int} (M : MC h l w L W wt sv tk) (V : SV L (pi h 422) d) (hd : d ≤ 1000) (f0 : -100 ≤ f) (f1 : f ≤ 100) : ∃ h', pf_M_passDay f h = some h' ∧ fr (fun a => a = 422 ∨ a = 423) h h' ∧ pi h' 422 = pday L W wt sv tk f (pi h 422) := by
  have kL := M.1.2.2.2.2.2.2.1
  have kW := M.1.2.2.2.2.2.2.2
  have z : 4 ≤ ce L ∧ ce L ≤ 36 := sz_mul kL.1
  have n6 := NS_le kL
  have V2 := SV_pd2 (W := W) (sv := sv) (f := f) V kL kW
  obtain ⟨a1, a2, a3, a4, a5, a6⟩ := V
  unfold pf_M_passDay
  obtain ⟨h1, p1, p2, p3, p4⟩ := m_pd_l (k := fun h => pl_M_passDay_183 f (fun h => pl_M_passDay_222 f (fun h => (pf_M_falls h).bind fun v22 => (some v22)) fu_ 0 (pwI h 422 78 (wr ((pi h 422 78) + 1)))) fu_ 0 h) f0 f1 fu_ 0 h M ⟨a1, a2, a3, a4, a5, a6⟩ (by omega) (by unfold fu_; omega)
  rw [show ((0 : Nat) : Int) = 0 from rfl] at p1
  rw [p1]
  have M1 : MC h1 l w L W wt sv tk := MC_fr M (funext fun k => fr_i p2 (by decide)) (funext fun k => fr_i p2 (by decide))
  obtain ⟨h2, q1, q2, q3⟩ := m_pd_k (f := f) (k := fun h => pl_M_passDay_222 f (fun h => (pf_M_falls h).bind fun v22 => (some v22)) fu_ 0 (pwI h 422 78 (wr ((pi h 422 78) + 1)))) fu_ 0 h1 M1 (by omega) (by unfold fu_; omega)
  rw [show ((0 : Nat) : Int) = 0 from rfl] at q1
  rw [q1]
  have M2 : MC h2 l w L W wt sv tk := MC_fr M1 (funext fun k => fr_i q2 (by decide)) (funext fun k => fr_i q2 (by decide))
  have e1 : pi h2 422 = pd1 L (pi h 422) sv f := by
    funext j
    rw [q3 j]
    unfold pd1
    by_cases y : (j : Int) < ce L
    · rw [if_pos ⟨by omega, y⟩, if_pos y, p4 j (by omega) y]
    · rw [if_neg (by omega), if_neg y]
      exact fr_i p2 (by decide)
  have e78 : pi h2 422 78 = pi h 422 78 := by rw [e1]; exact if_neg (by omega)
  have e2 : pi (pwI h2 422 78 (wr (pi h2 422 78 + 1))) 422 = up1 (pd1 L (pi h 422) sv f) 78 (pi h 422 78 + 1) := by
    rw [up1_pi, e78, wr_eq (by omega) (by omega), e1]
  have e79 : pi h2 422 79 = pi h 422 79 := by rw [e1]; exact if_neg (by omega)
  have ed : due W (up1 (pd1 L (pi h 422) sv f) 78 (pi h 422 78 + 1)) (NS L) = due W (pd1 L (pi h 422) sv f) (NS L) := due_c (fun t ht => up1_n (by omega)) (fun t ht h0 => by
    have e0 : up1 (pd1 L (pi h 422) sv f) 78 (pi h 422 78 + 1) (72 + t) = pi h 422 (72 + t) := by rw [up1_n (by omega)]; exact if_neg (by omega)
    rw [e0] at h0 ⊢
    exact up1_n (by have := a3 t ht; omega))
  have v1 : ∀ i : Nat, i ≠ 79 → up1 (pd1 L (pi h 422) sv f) 78 (pi h 422 78 + 1) i = pd2 L W (pi h 422) sv f i := fun i hi => by unfold pd2; rw [up1_n hi]
  obtain ⟨h3, r1, r2, r3⟩ := m_pd_p (f := f) (B := 10000000) (k := fun h => (pf_M_falls h).bind fun v22 => (some v22)) (by omega) fu_ 0 (pwI h2 422 78 (wr (pi h2 422 78 + 1))) (MC_fr M2 (pi_wIf (by decide)) (pi_wIf (by decide))) (fun c hc => by rw [e2, v1 c (by omega)]; exact V2.1 c hc) (fun t ht => by rw [e2, v1 _ (by omega)]; exact V2.2.2.1 t ht) (by omega) (by unfold fu_; omega) (by rw [e2, up1_n (by omega)]; have : pd1 L (pi h 422) sv f 79 = pi h 422 79 := if_neg (by omega); rw [this]; show 0 ≤ pi h 422 79 - 0; omega) (by rw [e2, up1_n (by omega)]; have : pd1 L (pi h 422) sv f 79 = pi h 422 79 := if_neg (by omega); rw [this]; show pi h 422 79 - 0 ≤ _; omega)
  rw [show ((0 : Nat) : Int) = 0 from rfl] at r1
  rw [r1]
  have M3 : MC h3 l w L W wt sv tk := MC_fr (MC_fr M2 (pi_wIf (by decide)) (pi_wIf (by decide))) (funext fun k => fr_i r2 (by decide)) (funext fun k => fr_i r2 (by decide))
  have e3 : pi h3 422 = pd2 L W (pi h 422) sv f := by
    rw [r3, e2, ed]
    unfold pd2
    rw [up1_n (by omega), show pd1 L (pi h 422) sv f 79 = pi h 422 79 from if_neg (by omega)]
    show up1 _ 79 (pi h 422 79 - 0 + _) = _
    rw [Int.sub_zero]
  obtain ⟨h4, s1, s2, s3⟩ := m_falls M3 (by rw [e3]; exact V2)
  refine ⟨h4, by rw [s1]; rfl, ?_, by rw [s3, e3]; rfl⟩
  exact fr_trans (fr_mono p2 (fun a q => Or.inr q)) (fr_trans (fr_mono q2 (fun a q => Or.inl q)) (fr_trans (fr_wI fr_refl (Or.inl rfl)) (fr_trans (fr_mono r2 (fun a q => Or.inl q)) (fr_mono s2 (fun a q => Or.inl q)))))
theorem SV_pday {f : Int} {S : Nat → Int} (V : SV L S d) (kL : LK L) (kW : WK W) : SV L (pday L W wt sv tk f S) (d + 1) := SV_fl kL (SV_pd2 V kL kW)
theorem fro_bd {S : Nat → Int} (kL : LK L) (h0 : 0 ≤ S 78) : -20 ≤ fro L S ∧ fro L S ≤ 20 := by
  have q := kL.2.2.1
  have m1 := Int.emod_nonneg (S 78) (b := L 3) (by omega)
  have m2 := Int.emod_lt_of_pos (S 78) (b := L 3) (by omega)
  exact kL.2.2.2.2.2.2.2.2.1 _ (by omega)
theorem m_frostNow (M : MS h l w L W) (h0 : 0 ≤ pi h 422 78) : pf_M_frostNow h = some (fro L (pi h 422)) := by
  obtain ⟨e1, e2, hl, hw, hL, hW, kL, kW⟩ := M
  have q := kL.2.2.1
  have m1 := Int.emod_nonneg (pi h 422 78) (b := L 3) (by omega)
  have m2 := Int.emod_lt_of_pos (pi h 422 78) (b := L 3) (by omega)
  have t : (224 + pi h 422 78 % L 3).toNat = 224 + (pi h 422 78 % L 3).toNat := by omega
  unfold pf_M_frostNow fro
  simp (disch := omega) only [e1, wr_eq, tn_l, tn_l2, gib, gnz, hL, Int.reduceToNat, tm_p, t]
theorem m_aDay (M : MC h l w L W wt sv tk) (V : SV L (pi h 422) d) (hd : d ≤ 1000) : ∃ h', pf_M_aDay h = some h' ∧ fr (fun a => a = 422 ∨ a = 423) h h' ∧ pi h' 422 = aday L W wt sv tk (pi h 422) := by
  have fb := fro_bd (S := pi h 422) M.1.2.2.2.2.2.2.1 V.2.2.2.2.1.1
  obtain ⟨h1, p1, p2, p3⟩ := m_passDay (f := fro L (pi h 422)) M V hd (by omega) (by omega)
  unfold pf_M_aDay
  rw [m_frostNow M.1 V.2.2.2.2.1.1, bsm, p1, bsm]
  exact ⟨h1, rfl, p2, p3⟩
end Me
