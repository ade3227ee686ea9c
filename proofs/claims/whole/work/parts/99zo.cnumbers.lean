/-! numbers: the class -/
def CSx (h : pH) (B : Nat → Int) (n : Nat) (t : Nat × Nat × Int × Int) : Prop := (t.1 = 0 ∧ CTx h B n t.2.1 ∧ pi h 279 3 = t.2.2.1 ∧ pi h 279 4 = t.2.2.2) ∨ (t.1 = 1 ∧ pi h 279 3 = 1 ∧ t.2.2.1 = 1 ∧ pi h 279 4 = t.2.2.2)
def KP (h h' : pH) : Prop := fr (fun b => 279 ≤ b ∧ b ≤ 302) h h' ∧ (∀ j, (j = 7 ∨ j = 8 ∨ 13 ≤ j) → pi h' 279 j = pi h 279 j) ∧ pr h' 279 = pr h 279
theorem KP_refl {h : pH} : KP h h := ⟨fr_refl, fun _ _ => rfl, rfl⟩
theorem KP_trans {h h1 h2 : pH} (a : KP h h1) (b : KP h1 h2) : KP h h2 := ⟨fr_trans a.1 b.1, fun j hj => by rw [b.2.1 j hj, a.2.1 j hj], by rw [b.2.2, a.2.2]⟩
theorem CA_KP {h h1 : pH} (a : CA h h1) : KP h h1 := ⟨fr_mono a.1 (fun b hb => by omega), fun j hj => a.2.1 j (by omega), a.2.2.2⟩
def TF (h h' : pH) : Prop := fr (fun b => 280 ≤ b ∧ b ≤ 302) h h'
theorem TF_KP {h h1 : pH} (a : TF h h1) : KP h h1 := ⟨fr_mono a (fun b hb => by omega), fun j hj => fr_i a (by omega), fr_fr a (by omega)⟩
theorem CB_TF {h h1 : pH} {B : Nat → Int} {n : Nat} (c : CBx h B n) (a : TF h h1) : CBx h1 B n := ⟨by rw [fr_r a (by omega)]; exact c.1, by rw [fr_i a (by omega)]; exact c.2.1, c.2.2.1, fun i hi => by rw [fr_i a (by omega)]; exact c.2.2.2 i hi⟩
theorem CT_TF {h h1 : pH} {B : Nat → Int} {n s : Nat} (c : CTx h B n s) (a : TF h h1) : CTx h1 B n s := ⟨CB_TF c.1 a, c.2.1, by rw [fr_i a (by omega)]; exact c.2.2.1, by rw [fr_i a (by omega)]; exact c.2.2.2.1, by rw [fr_i a (by omega)]; exact c.2.2.2.2.1, fun k => by rw [fr_i a (by omega)]; exact c.2.2.2.2.2 k⟩
def loL (x : Int) : Int := if x = 122 then 2 else (if x = 112 then 1 else 0)
def hiL (x : Int) : Int := if x = 99 then 35 else (if x = 111 then 35 else (if x = 115 then 5 else (if x = 102 then 20 else (if x = 122 then 6 else (if x = 110 then 9 else (if x = 104 then 10 else 99))))))
def NHp (h : pH) (i : Nat) (v : Int) : pH := if i < 4 then pwI h 301 i v else h
def bdL (l v prev : Int) (i : Nat) : Prop := ¬ (loL l ≤ v ∧ v ≤ hiL l) ∨ (l = 111 ∧ 0 < i ∧ i ≤ 4 ∧ v = prev)
section Th
variable {h : pH} {B : Nat → Int} {n s : Nat} {f q : Int}
theorem NHp_TF {i : Nat} {v : Int} : TF h (NHp h i v) := by
  unfold NHp
  split
  · exact fr_wI fr_refl (by omega)
  · exact fr_refl
theorem CT_n {h' : pH} (c : CTx h B n s) (e : fr (fun b => b = 279) h h') (e9 : ∀ j, 6 ≤ j → pi h' 279 j = pi h 279 j) (er : pr h' 279 = pr h 279) : CTx h' B n s := by
  obtain ⟨⟨c1, c2, c3, c4⟩, d1, d2, d3, d4, d5⟩ := c
  exact ⟨⟨by rw [er]; exact c1, by rw [e9 7 (by omega)]; exact c2, c3, fun i hi => by rw [fr_i e (by omega)]; exact c4 i hi⟩, d1, by rw [e9 11 (by omega)]; exact d2, by rw [e9 12 (by omega)]; exact d3, by rw [e9 9 (by omega)]; exact d4, fun k => by rw [e9 10 (by omega)]; exact d5 k⟩
theorem c_note {k a : Int} (ef : pi h 279 3 = f) (eq : pi h 279 4 = q) : ∃ h', pf_Re_note k a h = some h' ∧ fr (fun b => b = 279) h h' ∧ (∀ j, j ≠ 3 → j ≠ 4 → pi h' 279 j = pi h 279 j) ∧ pl h' 279 = pl h 279 ∧ pr h' 279 = pr h 279 ∧ pi h' 279 3 = (if f = 0 then k else f) ∧ pi h' 279 4 = (if f = 0 then a else q) := by
  unfold pf_Re_note
  rw [ef]
  by_cases y : f = 0
  · rw [if_pos y, if_pos y, if_pos y]
    exact ⟨_, rfl, fr_wI (fr_wI fr_refl rfl) rfl, fun j a b => by rw [pi_wIi b, pi_wIi a], rfl, rfl, by rw [pi_wIi (by decide), pi_wIs], pi_wIs⟩
  · rw [if_neg y, if_neg y, if_neg y]
    exact ⟨h, rfl, fr_refl, fun _ _ _ => rfl, rfl, rfl, ef, eq⟩
theorem c_refuse (c : CTx h B n s) : ∃ h', pf_Re_refuse h = some (0, h') ∧ KP h h' ∧ CSx h' B n (1, s, 1, (s : Int)) := by
  unfold pf_Re_refuse
  refine ⟨_, rfl, ⟨fr_wI (fr_wI fr_refl (by omega)) (by omega), fun j hj => by rw [pi_wIi (by omega), pi_wIi (by omega)], rfl⟩, Or.inr ⟨rfl, ?_, rfl, ?_⟩⟩
  · rw [pi_wIi (by decide), pi_wIs]
  · rw [pi_wIs, pi_wIi (by decide)]; exact c.2.2.1
theorem c_least {x : Int} : pf_Re_least x h = some (loL x) := by
  unfold pf_Re_least loL
  repeat' split
  all_goals rfl
theorem c_greatest_ {x : Int} : pf_Re_greatest x h = some (hiL x) := by
  unfold pf_Re_greatest hiL
  repeat' split
  all_goals rfl
theorem c_go (c : CTx h B n s) : ∃ h', pf_Re_advance h = some h' ∧ CA h h' ∧ CTx h' B n (nx B n s) := c_advance c.1 c.2.2.2.1 (af_ok (B := B) c.2.1).1
theorem c_rdn {x1 x2 : Int} {i : Nat} {H2 : pH} (x6 : x1 ≠ 6) (xf : x2 ≠ 102) (c : CTx h B n s) (ef : pi h 279 3 = f) (eq : pi h 279 4 = q) (ii : i < 1000) (tl : kd B n s = 2 → f = 0 → ¬ bdL x2 (vl B n s) (pi h 301 (i - 1)) i → pf_Re_tellNumber x1 x2 (vl B n s) (NHp h i (vl B n s)) = some H2 ∧ TF (NHp h i (vl B n s)) H2) : ∃ r h', pf_Re_readNumber x1 x2 i h = some (r, h') ∧ KP h h' ∧ CSx h' B n (nstp B n (bdL x2 (vl B n s) (pi h 301 (i - 1)) i) (0, s, f, q)) ∧ (kd B n s ≠ 2 → r = 0) ∧ (kd B n s = 2 → r = 1 ∧ (f = 0 → ¬ bdL x2 (vl B n s) (pi h 301 (i - 1)) i → CA H2 h')) := by
  have e0 : pf_Re_readNumber x1 x2 i h = pj_Re_readNumber_63 x1 x2 i 0 0 h := by
    unfold pf_Re_readNumber pj_Re_readNumber_17 pj_Re_readNumber_38
    rw [if_neg x6, if_neg xf, if_pos rfl]
  rw [e0]
  unfold pj_Re_readNumber_63
  rw [c.2.2.2.2.1]
  by_cases k : kd B n s = 2
  · have ev := c.2.2.2.2.2 k
    have vr := vl_r c.2.1 k
    rw [if_pos k]
    -- behind the tests
    have behind : ∀ Hm, fr (fun b => b = 279) h Hm → (∀ j, j ≠ 3 → j ≠ 4 → pi Hm 279 j = pi h 279 j) → pr Hm 279 = pr h 279 → ∀ f' q', pi Hm 279 3 = f' → pi Hm 279 4 = q' → (f' = 0 → f = 0 ∧ ¬ bdL x2 (vl B n s) (pi h 301 (i - 1)) i ∧ Hm = h) → ∃ h', pj_Re_readNumber_153 x1 x2 i 0 0 Hm = some (1, h') ∧ KP h h' ∧ CTx h' B n (nx B n s) ∧ pi h' 279 3 = f' ∧ pi h' 279 4 = q' ∧ (f' = 0 → CA H2 h') := by
      intro Hm m1 m2 m3 f' q' m4 m5 m6
      have cm : CTx Hm B n s := CT_n c m1 (fun j hj => m2 j (by omega) (by omega)) m3
      have e1 : pj_Re_readNumber_153 x1 x2 i 0 0 Hm = pj_Re_readNumber_186 x1 x2 i 0 (NHp Hm i (vl B n s)) := by
        unfold pj_Re_readNumber_153 pj_Re_readNumber_167 NHp
        rw [if_pos rfl]
        by_cases u : i < 4
        · rw [if_neg (by omega), gib (by omega) (by omega), if_pos u, Int.toNat_natCast, m2 10 (by omega) (by omega), ev]
        · rw [if_pos (by omega), if_neg u]
      have tn := NHp_TF (h := Hm) (i := i) (v := vl B n s)
      have kpm : KP h Hm := ⟨fr_mono m1 (fun b hb => by omega), fun j hj => m2 j (by omega) (by omega), m3⟩
      rw [e1]
      unfold pj_Re_readNumber_186 pj_Re_readNumber_213 pj_Re_readNumber_216
      have e3 : pi (NHp Hm i (vl B n s)) 279 3 = f' := by rw [fr_i tn (by omega)]; exact m4
      have e4 : pi (NHp Hm i (vl B n s)) 279 4 = q' := by rw [fr_i tn (by omega)]; exact m5
      have e10 : pi (NHp Hm i (vl B n s)) 279 10 = vl B n s := by rw [fr_i tn (by omega), m2 10 (by omega) (by omega), ev]
      rw [e3, e10, if_pos rfl]
      by_cases f0 : f' = 0
      · obtain ⟨z1, z2, z3⟩ := m6 f0
        obtain ⟨t1, t2⟩ := tl k z1 z2
        subst z3
        obtain ⟨h', a1, a2, a3⟩ := c_go (CT_TF (CT_TF cm tn) t2)
        rw [if_pos f0, t1, bsm, a1, bsm]
        refine ⟨h', rfl, KP_trans (TF_KP tn) (KP_trans (TF_KP t2) (CA_KP a2)), a3, ?_, ?_, fun _ => a2⟩
        · rw [a2.2.1 3 (by omega), fr_i t2 (by omega), e3]
        · rw [a2.2.1 4 (by omega), fr_i t2 (by omega), e4]
      · obtain ⟨h', a1, a2, a3⟩ := c_go (CT_TF cm tn)
        rw [if_neg f0, a1, bsm]
        exact ⟨h', rfl, KP_trans kpm (KP_trans (TF_KP tn) (CA_KP a2)), a3, by rw [a2.2.1 3 (by omega)]; exact e3, by rw [a2.2.1 4 (by omega)]; exact e4, fun v => absurd v f0⟩
    have good : ¬ bdL x2 (vl B n s) (pi h 301 (i - 1)) i → ∃ r h', pj_Re_readNumber_153 x1 x2 i 0 0 h = some (r, h') ∧ KP h h' ∧ CSx h' B n (nstp B n (bdL x2 (vl B n s) (pi h 301 (i - 1)) i) (0, s, f, q)) ∧ (kd B n s ≠ 2 → r = 0) ∧ (kd B n s = 2 → r = 1 ∧ (f = 0 → ¬ bdL x2 (vl B n s) (pi h 301 (i - 1)) i → CA H2 h')) := fun nb => by
      obtain ⟨h', a1, a2, a3, a4, a5, a6⟩ := behind h fr_refl (fun _ _ _ => rfl) rfl f q ef eq (fun v => ⟨v, nb, rfl⟩)
      refine ⟨1, h', a1, a2, ?_, fun v => absurd k v, fun _ => ⟨rfl, fun v _ => a6 v⟩⟩
      unfold nstp
      rw [cif_t rfl, cif_t k, cif_f (fun v => nb v.2)]
      exact Or.inl ⟨rfl, a3, a4, a5⟩
    have ill : bdL x2 (vl B n s) (pi h 301 (i - 1)) i → ∃ r h', pj_Re_readNumber_144 x1 x2 i 0 0 h = some (r, h') ∧ KP h h' ∧ CSx h' B n (nstp B n (bdL x2 (vl B n s) (pi h 301 (i - 1)) i) (0, s, f, q)) ∧ (kd B n s ≠ 2 → r = 0) ∧ (kd B n s = 2 → r = 1 ∧ (f = 0 → ¬ bdL x2 (vl B n s) (pi h 301 (i - 1)) i → CA H2 h')) := fun nb => by
      unfold pj_Re_readNumber_144
      rw [c.2.2.1]
      obtain ⟨Hm, b1, b2, b3, b4, b5, b6, b7⟩ := c_note (k := 2) (a := (s : Int)) ef eq
      rw [b1, bsm]
      obtain ⟨h', a1, a2, a3, a4, a5, a6⟩ := behind Hm b2 b3 b5 _ _ b6 b7 (fun v => by exfalso; split at v <;> omega)
      refine ⟨1, h', a1, a2, ?_, fun v => absurd k v, fun _ => ⟨rfl, fun _ v => absurd nb v⟩⟩
      unfold nstp
      rw [cif_t rfl, cif_t k]
      by_cases f0 : f = 0
      · rw [cif_t ⟨f0, nb⟩]
        rw [if_pos f0] at a4 a5
        exact Or.inl ⟨rfl, a3, a4, a5⟩
      · rw [cif_f (fun v => f0 v.1)]
        rw [if_neg f0] at a4 a5
        exact Or.inl ⟨rfl, a3, a4, a5⟩
    have at115 : ∀ s0 : Int, (s0 = 0 ↔ ¬ (x2 = 111 ∧ 0 < i ∧ i ≤ 4 ∧ vl B n s = pi h 301 (i - 1))) → ∃ r h', pj_Re_readNumber_115 x1 x2 i 0 0 s0 h = some (r, h') ∧ KP h h' ∧ CSx h' B n (nstp B n (bdL x2 (vl B n s) (pi h 301 (i - 1)) i) (0, s, f, q)) ∧ (kd B n s ≠ 2 → r = 0) ∧ (kd B n s = 2 → r = 1 ∧ (f = 0 → ¬ bdL x2 (vl B n s) (pi h 301 (i - 1)) i → CA H2 h')) := fun s0 hs0 => by
      unfold pj_Re_readNumber_115
      rw [c_least, bsm, ev, c_greatest_, bsm]
      by_cases y1 : vl B n s < loL x2
      · rw [if_pos y1]; exact ill (Or.inl (fun v => by omega))
      · rw [if_neg y1]
        by_cases y2 : hiL x2 < vl B n s
        · rw [if_pos y2]; exact ill (Or.inl (fun v => by omega))
        · rw [if_neg y2]
          by_cases y3 : s0 = 0
          · rw [if_pos y3]
            refine good (fun v => ?_)
            rcases v with v | v
            · exact v ⟨by omega, by omega⟩
            · exact hs0.mp y3 v
          · rw [if_neg y3]
            refine ill (Or.inr ?_)
            rcases Classical.em (x2 = 111 ∧ 0 < i ∧ i ≤ 4 ∧ vl B n s = pi h 301 (i - 1)) with v | v
            · exact v
            · exact absurd (hs0.mpr v) y3
    by_cases y1 : x2 = 111
    · rw [if_pos y1]
      by_cases y2 : (i : Int) ≤ 0
      · rw [if_pos y2]; exact at115 0 ⟨fun _ v => by omega, fun _ => rfl⟩
      · rw [if_neg y2]
        by_cases y3 : 4 < (i : Int)
        · rw [if_pos y3]; exact at115 0 ⟨fun _ v => by omega, fun _ => rfl⟩
        · rw [if_neg y3, wr_eq (by omega) (by omega), gib (by omega) (by omega), show ((i : Int) - 1).toNat = i - 1 by omega, ev]
          by_cases y4 : vl B n s = pi h 301 (i - 1)
          · rw [if_pos y4]; exact at115 1 ⟨fun v => by omega, fun v => absurd ⟨y1, by omega, by omega, y4⟩ v⟩
          · rw [if_neg y4]; exact at115 0 ⟨fun _ v => y4 v.2.2.2, fun _ => rfl⟩
    · rw [if_neg y1]; exact at115 0 ⟨fun _ v => y1 v.1, fun _ => rfl⟩
  · obtain ⟨h', a1, a2, a3⟩ := c_refuse c
    rw [if_neg k, a1, bsm]
    refine ⟨0, h', rfl, a2, ?_, fun _ => rfl, fun v => absurd v k⟩
    unfold nstp
    rw [cif_t rfl, cif_f k]
    exact a3
/-- what a number tells at once -/
def tel (t : Nat) (l v : Int) (h : pH) : pH := if t = 0 ∧ (l = 99 ∨ l = 111) then pwL h 280 8 (pl h 280 8 ||| plshl 1 v) else h
theorem c_tell {x1 x2 v : Int} {t : Nat} (x6 : x1 ≠ 6) (x8 : x1 ≠ 8) (x15 : x1 ≠ 15) (e8 : pi h 279 8 = t) : pf_Re_tellNumber x1 x2 v h = some (tel t x2 v h) ∧ TF h (tel t x2 v h) := by
  have p35 : ∀ H, pj_Re_tellNumber_35 x1 x2 v H = some H := fun H => by
    unfold pj_Re_tellNumber_35
    rw [if_neg x6, if_neg x8, if_neg x15]
  unfold pf_Re_tellNumber pj_Re_tellNumber_19 tel
  rw [e8, c_bit, bsm, p35, p35]
  by_cases y : t = 0
  · rw [if_pos (by omega)]
    by_cases y1 : x2 = 99
    · rw [if_pos y1, if_pos ⟨y, Or.inl y1⟩]
      exact ⟨rfl, fr_wL fr_refl (by omega)⟩
    · rw [if_neg y1]
      by_cases y2 : x2 = 111
      · rw [if_pos y2, if_pos ⟨y, Or.inr y2⟩]
        exact ⟨rfl, fr_wL fr_refl (by omega)⟩
      · rw [if_neg y2, if_neg (fun u => by rcases u.2 with u | u; exact y1 u; exact y2 u)]
        exact ⟨rfl, fr_refl⟩
  · rw [if_neg (by omega), if_neg (fun u => y u.1)]
    exact ⟨rfl, fr_refl⟩
end Th
/-- the place of the k-th number -/
def skp (B : Nat → Int) (n s k : Nat) : Nat := match k with
  | 0 => s
  | k + 1 => nx B n (skp B n s k)
/-- how it stands behind k numbers -/
noncomputable def nTs (B : Nat → Int) (n : Nat) (ls : Nat → Int) (t : Nat × Nat × Int × Int) (k : Nat) : Nat × Nat × Int × Int := match k with
  | 0 => t
  | k + 1 => nstp B n (bdL (ls k) (vl B n (skp B n t.2.1 k)) (vl B n (skp B n t.2.1 (k - 1))) k) (nTs B n ls t k)
/-- what k numbers tell -/
def nXs (B : Nat → Int) (n : Nat) (sr : Nat) (ls : Nat → Int) (s : Nat) (h : pH) (k : Nat) : pH := match k with
  | 0 => h
  | k + 1 => tel sr (ls k) (vl B n (skp B n s k)) (NHp (nXs B n sr ls s h k) k (vl B n (skp B n s k)))
section Ti
variable {h : pH} {B : Nat → Int} {n : Nat}
theorem nstp_w {bad : Prop} {t : Nat × Nat × Int × Int} (h : (nstp B n bad t).1 = 0) : t.1 = 0 ∧ kd B n t.2.1 = 2 ∧ (nstp B n bad t).2.1 = nx B n t.2.1 ∧ ((nstp B n bad t).2.2.1 = 0 → t.2.2.1 = 0 ∧ ¬ bad) := by
  unfold nstp at *
  by_cases q1 : t.1 = 0
  · rw [cif_t q1] at h ⊢
    by_cases q2 : kd B n t.2.1 = 2
    · rw [cif_t q2] at h ⊢
      by_cases q3 : t.2.2.1 = 0 ∧ bad
      · rw [cif_t q3]
        exact ⟨q1, q2, rfl, fun v => by have : (2 : Int) = 0 := v; omega⟩
      · rw [cif_f q3]
        exact ⟨q1, q2, rfl, fun v => ⟨v, fun b => q3 ⟨v, b⟩⟩⟩
    · rw [cif_f q2] at h
      have : (1 : Nat) = 0 := h
      omega
  · rw [cif_f q1] at h; exact absurd h q1
theorem nTs_w {ls : Nat → Int} {t : Nat × Nat × Int × Int} : ∀ {k : Nat}, (nTs B n ls t k).1 = 0 → t.1 = 0 ∧ (nTs B n ls t k).2.1 = skp B n t.2.1 k ∧ ((nTs B n ls t k).2.2.1 = 0 → t.2.2.1 = 0) ∧ ∀ j, j < k → kd B n (skp B n t.2.1 j) = 2 ∧ ((nTs B n ls t k).2.2.1 = 0 → ¬ bdL (ls j) (vl B n (skp B n t.2.1 j)) (vl B n (skp B n t.2.1 (j - 1))) j)
  | 0, h => ⟨h, rfl, fun v => v, fun j hj => by omega⟩
  | k + 1, h => by
    obtain ⟨a1, a2, a3, a4⟩ := nstp_w h
    obtain ⟨b1, b2, b3, b4⟩ := nTs_w (k := k) a1
    refine ⟨b1, ?_, fun v => b3 (a4 v).1, fun j hj => ?_⟩
    · show (nstp B n _ (nTs B n ls t k)).2.1 = nx B n (skp B n t.2.1 k)
      rw [a3, b2]
    · by_cases e : j = k
      · rw [e, ← b2]
        refine ⟨a2, fun v => ?_⟩
        rw [b2]
        exact (a4 v).2
      · exact ⟨(b4 j (by omega)).1, fun v => (b4 j (by omega)).2 (a4 v).1⟩
theorem CA_tel {h1 : pH} {sr : Nat} {l v : Int} (a : CA h h1) : CA (tel sr l v h) (tel sr l v h1) := by
  unfold tel
  split
  · have e : pl h1 280 8 = pl h 280 8 := fr_l a.1 (by decide)
    rw [e]
    refine ⟨fun b hb k => ?_, a.2.1, ?_, a.2.2.2⟩
    · obtain ⟨x1, x2, x3⟩ := a.1 b hb k
      refine ⟨x1, ?_, x3⟩
      rw [pl_wL, pl_wL, x2]
    · funext j
      rw [pl_wLa (by decide), pl_wLa (by decide), a.2.2.1]
  · exact a
theorem CA_NHp {h1 : pH} {i : Nat} {v : Int} (a : CA h h1) : CA (NHp h i v) (NHp h1 i v) := by
  unfold NHp
  split
  · refine ⟨fun b hb k => ?_, fun j hj => by rw [pi_wIa (by decide), pi_wIa (by decide)]; exact a.2.1 j hj, a.2.2.1, a.2.2.2⟩
    obtain ⟨x1, x2, x3⟩ := a.1 b hb k
    refine ⟨?_, x2, x3⟩
    rw [pi_wI, pi_wI, x1]
  · exact a
theorem tel_301 {sr : Nat} {l v : Int} : pi (tel sr l v h) 301 = pi h 301 ∧ pi (tel sr l v h) 279 = pi h 279 := by
  unfold tel
  split
  · exact ⟨rfl, rfl⟩
  · exact ⟨rfl, rfl⟩
theorem NHp_i {i j : Nat} {v : Int} : pi (NHp h i v) 301 j = if j = i ∧ i < 4 then v else pi h 301 j := by
  unfold NHp
  by_cases y : i < 4
  · rw [if_pos y]
    by_cases e : j = i
    · rw [if_pos ⟨e, y⟩, e, pi_wIs]
    · rw [if_neg (fun u => e u.1), pi_wIi e]
  · rw [if_neg y, if_neg (fun u => y u.2)]
theorem nXs_i {sr s : Nat} {ls : Nat → Int} : ∀ {k j : Nat}, j < k → k ≤ 4 → pi (nXs B n sr ls s h k) 301 j = vl B n (skp B n s j)
  | 0, j, h, _ => by omega
  | k + 1, j, h, h4 => by
    rw [nXs, tel_301.1, NHp_i]
    by_cases e : j = k
    · rw [if_pos ⟨e, by omega⟩, e]
    · rw [if_neg (fun u => e u.1)]
      exact nXs_i (k := k) (by omega) (by omega)
theorem nXs_8 {sr s : Nat} {ls : Nat → Int} : ∀ {k : Nat}, pi (nXs B n sr ls s h k) 279 = pi h 279
  | 0 => rfl
  | k + 1 => by
    rw [nXs, tel_301.2]
    have : pi (NHp (nXs B n sr ls s h k) k (vl B n (skp B n s k))) 279 = pi (nXs B n sr ls s h k) 279 := by
      unfold NHp
      split
      · exact pi_wIf (by decide)
      · rfl
    rw [this]
    exact nXs_8 (k := k)
/-- the numbers of a line, but those of frost, shore and bar -/
theorem c_nums {x1 : Int} {a2 sr s : Nat} {f q : Int} {K0 : pH → Option (Int × pH)} {K1 : Nat → pH → Option (Int × pH)} (x6 : x1 ≠ 6) (x8 : x1 ≠ 8) (x15 : x1 ≠ 15) (ls : ∀ i, i < sl_n a2 → psc a2 i ≠ 102) (l4 : sl_n a2 ≤ 4) (e8 : pi h 279 8 = sr) (c : CTx h B n s) (ef : pi h 279 3 = f) (eq : pi h 279 4 = q) : ∃ h', KP h h' ∧ CSx h' B n (nTs B n (psc a2) (0, s, f, q) (sl_n a2)) ∧ (((nTs B n (psc a2) (0, s, f, q) (sl_n a2)).1 = 1 ∧ pl_Re_readNumbers_7 x1 K0 K1 fu_ a2 0 h = K0 h') ∨ ((nTs B n (psc a2) (0, s, f, q) (sl_n a2)).1 = 0 ∧ pl_Re_readNumbers_7 x1 K0 K1 fu_ a2 0 h = K1 a2 h' ∧ ((nTs B n (psc a2) (0, s, f, q) (sl_n a2)).2.2.1 = 0 → CA (nXs B n sr (psc a2) s h (sl_n a2)) h'))) := by
  refine lpf (F := fun m (i : Nat) t => pl_Re_readNumbers_7 x1 K0 K1 m a2 i t) (Q := fun r => ∃ h', KP h h' ∧ CSx h' B n (nTs B n (psc a2) (0, s, f, q) (sl_n a2)) ∧ (((nTs B n (psc a2) (0, s, f, q) (sl_n a2)).1 = 1 ∧ r = K0 h') ∨ ((nTs B n (psc a2) (0, s, f, q) (sl_n a2)).1 = 0 ∧ r = K1 a2 h' ∧ ((nTs B n (psc a2) (0, s, f, q) (sl_n a2)).2.2.1 = 0 → CA (nXs B n sr (psc a2) s h (sl_n a2)) h')))) (sl_n a2) (fun i t => KP h t ∧ (nTs B n (psc a2) (0, s, f, q) i).1 = 0 ∧ CSx t B n (nTs B n (psc a2) (0, s, f, q) i) ∧ ((nTs B n (psc a2) (0, s, f, q) i).2.2.1 = 0 → CA (nXs B n sr (psc a2) s h i) t)) ?_ ?_ fu_ 0 h (by omega) (by unfold fu_; omega) ⟨KP_refl, rfl, Or.inl ⟨rfl, c, ef, eq⟩, fun _ => CA_refl⟩
  · intro m i t hi ⟨kp, w0, cs, sh⟩
    have nw := nTs_w w0
    rcases cs with ⟨d1, d2, d3, d4⟩ | ⟨d1, _⟩
    · have esk := nw.2.1
      have e8t : pi t 279 8 = sr := by rw [kp.2.1 8 (by omega)]; exact e8
      generalize hT : nTs B n (psc a2) (0, s, f, q) i = T at *
      obtain ⟨tw, ts, tf, tq⟩ := T
      have d2 : CTx t B n ts := d2
      have d3 : pi t 279 3 = tf := d3
      have d4 : pi t 279 4 = tq := d4
      have w0 : tw = 0 := w0
      have esk : ts = skp B n s i := esk
      have sh : tf = 0 → CA (nXs B n sr (psc a2) s h i) t := sh
      have ct := c_tell (h := NHp t i (vl B n ts)) (x1 := x1) (x2 := psc a2 i) (v := vl B n ts) (t := sr) x6 x8 x15 (by rw [fr_i (NHp_TF (h := t)) (by omega)]; exact e8t)
      obtain ⟨r, t', r1, r2, r3, r4, r5⟩ := c_rdn (x1 := x1) (x2 := psc a2 i) (i := i) (H2 := tel sr (psc a2 i) (vl B n ts) (NHp t i (vl B n ts))) x6 (ls i hi) d2 d3 d4 (by omega) (fun _ _ _ => ct)
      have prev : tf = 0 → 0 < i → pi t 301 (i - 1) = vl B n (skp B n s (i - 1)) := fun v i0 => by
        rw [fr_i (sh v).1 (by decide)]
        exact nXs_i (by omega) (by omega)
      have en : nTs B n (psc a2) (0, s, f, q) (i + 1) = nstp B n (bdL (psc a2 i) (vl B n ts) (pi t 301 (i - 1)) i) (0, ts, tf, tq) := by
        show nstp B n (bdL (psc a2 i) (vl B n (skp B n s i)) (vl B n (skp B n s (i - 1))) i) (nTs B n (psc a2) (0, s, f, q) i) = _
        rw [hT, w0, ← esk]
        refine nstp_c (fun _ _ v => ?_)
        have v : tf = 0 := v
        unfold bdL
        constructor
        · intro u
          rcases u with u | u
          · exact Or.inl u
          · exact Or.inr ⟨u.1, u.2.1, u.2.2.1, by rw [prev v u.2.1]; exact u.2.2.2⟩
        · intro u
          rcases u with u | u
          · exact Or.inl u
          · exact Or.inr ⟨u.1, u.2.1, u.2.2.1, by rw [← prev v u.2.1]; exact u.2.2.2⟩
      rw [← en] at r3
      show (∃ h', KP h h' ∧ _ ∧ ((_ ∧ pl_Re_readNumbers_7 x1 K0 K1 (m + 1) a2 i t = K0 h') ∨ (_ ∧ pl_Re_readNumbers_7 x1 K0 K1 (m + 1) a2 i t = K1 a2 h' ∧ _))) ∨ ∃ t', pl_Re_readNumbers_7 x1 K0 K1 (m + 1) a2 i t = pl_Re_readNumbers_7 x1 K0 K1 m a2 (i + 1 : Nat) t' ∧ _
      rw [pl_Re_readNumbers_7, wr_eq (x := ((sl_n a2 : Nat) : Int)) (by omega) (by omega), if_neg (by omega), gib (by omega) (by omega), Int.toNat_natCast, r1, bsm]
      by_cases k : kd B n ts = 2
      · obtain ⟨s1, s2⟩ := r5 k
        right
        have w1 : (nTs B n (psc a2) (0, s, f, q) (i + 1)).1 = 0 := by
          rw [en]; unfold nstp
          rw [cif_t rfl, cif_t k]
          rcases Classical.em (tf = 0 ∧ bdL (psc a2 i) (vl B n ts) (pi t 301 (i - 1)) i) with u | u
          · rw [cif_t u]
          · rw [cif_f u]
        refine ⟨t', ?_, KP_trans kp r2, w1, r3, fun v => ?_⟩
        · simp only []
          rw [s1, if_neg (by decide), wr_eq (by omega) (by omega)]; rfl
        · rw [en] at v w1
          obtain ⟨f0, nb⟩ := (nstp_w w1).2.2.2 v
          have c1 := s2 f0 nb
          have c2 : CA (nXs B n sr (psc a2) s h (i + 1)) (tel sr (psc a2 i) (vl B n ts) (NHp t i (vl B n ts))) := by
            show CA (tel sr (psc a2 i) (vl B n (skp B n s i)) (NHp (nXs B n sr (psc a2) s h i) i (vl B n (skp B n s i)))) _
            rw [← esk]
            exact CA_tel (CA_NHp (sh f0))
          exact CA_trans c2 c1
      · left
        have w1 : nTs B n (psc a2) (0, s, f, q) (i + 1) = (1, ts, 1, (ts : Int)) := by
          rw [en]; unfold nstp
          rw [cif_t rfl, cif_f k]
        have stay : ∀ j, i + 1 ≤ j → nTs B n (psc a2) (0, s, f, q) j = (1, ts, 1, (ts : Int)) := by
          intro j
          induction j with
          | zero => intro hj; omega
          | succ j ih =>
            intro hj
            by_cases e : j = i
            · rw [e]; exact w1
            · show nstp B n _ (nTs B n (psc a2) (0, s, f, q) j) = _
              rw [ih (by omega)]
              unfold nstp
              rw [cif_f (by show ¬ (1 : Nat) = 0; decide)]
        have wN := stay (sl_n a2) (by omega)
        rw [w1] at r3
        refine ⟨t', KP_trans kp r2, by rw [wN]; exact r3, Or.inl ⟨by rw [wN], ?_⟩⟩
        simp only []
        rw [r4 k, if_pos rfl]
    · omega
  · intro m t ⟨kp, w0, cs, sh⟩
    refine ⟨t, kp, cs, Or.inr ⟨w0, ?_, sh⟩⟩
    show pl_Re_readNumbers_7 x1 K0 K1 (m + 1) a2 (sl_n a2 : Nat) t = _
    rw [pl_Re_readNumbers_7, wr_eq (x := ((sl_n a2 : Nat) : Int)) (by omega) (by omega), if_pos (Int.le_refl _)]
end Ti
