/-! lakes: the row of frosts -/
section Tx
variable {h g : pH} {B : Nat → Int} {n s : Nat} {f q : Int}
/-- what one frost leaves -/
def FST (B : Nat → Int) (n : Nat) (t u t' u' : pH) (r : Int) (T : Nat × Nat × Int × Int) (s i : Nat) (f : Int) : Prop := KP t t' ∧ CSx t' B n T ∧ MST u' B n T ∧ FRM u u' ∧ ((T.1 = 1 ∧ r = 0) ∨ (T.1 = 0 ∧ r = 1 ∧ s < T.2.1 ∧ (T.2.2.1 = 0 → f = 0 ∧ i < 12 ∧ ∃ v a, (-20 ≤ v ∧ v ≤ 20) ∧ F2 (pwI (pwI (NHp t i a) 280 10 ((i : Int) + 1)) 285 i v) t' ∧ ∀ j, pi u' 420 j = if j = 224 + i then v else pi u 420 j)))
theorem frost_tail {t u : pH} {i : Nat} {f' q' x4 x5 : Int} (c : CTx t B n s) (ef : pi t 279 3 = f) (eq : pi t 279 4 = q) (e8 : pi t 279 8 = 0) (m : MT u B n s) (w0 : pi u 417 8 = 0) (e4 : pi u 418 4 = f') (e5 : pi u 418 5 = q') (P : (f = f' ∧ q = q' ∧ FOK s f q ∧ (f = 0 → x4 = 0)) ∨ (f = 0 ∧ x4 ≠ 0 ∧ f' = 3 ∧ q' = s)) (ii : i < 1000) (x4v : x4 = 0 ↔ i < 12) (x5v : x5 = 0 ∨ x5 = 1) (cn : f = 0 → i < 12 → pi t 280 10 = i) : ∃ r t' u' T, pj_Re_readNumber_63 6 102 i x4 x5 t = some (r, t') ∧ (∀ kr K, pj_M_frostLine_75 kr K i x5 u = kr 0 ((i + 1 : Nat) : Int) u') ∧ FST B n t u t' u' r T s i f := by
  have fk := m_fnum (g := u) m w0 e4 e5 (by rcases P with ⟨a, b, d, _⟩ | ⟨_, _, a, b⟩; rw [← a, ← b]; exact Or.inl d; exact Or.inr ⟨a, b⟩)
  have j75 : ∀ v u3, pf_M_numbered 0 20 u = some (v, u3) → (-1 ≤ v ∧ v ≤ 20) → ∀ kr K, pj_M_frostLine_75 kr K i x5 u = kr 0 ((i + 1 : Nat) : Int) (if i < 12 then pwI u3 420 (224 + i) (if x5 = 0 then v else -v) else u3) := fun v u3 e vr kr K => by
    unfold pj_M_frostLine_75 pj_M_frostLine_112
    rw [e, bsm]
    simp only []
    rw [show wr ((i : Int) + 1) = ((i + 1 : Nat) : Int) from by rw [wr_eq (by omega) (by omega)]; rfl]
    by_cases y : i < 12
    · rw [if_neg (by omega), if_pos y, wr_eq (x := 224 + (i : Int)) (by omega) (by omega), gib (by omega) (by omega), show (224 + (i : Int)).toNat = 224 + i by omega]
      rcases x5v with x | x
      · rw [if_pos x, if_pos x]
      · rw [if_neg (by omega), if_neg (by omega), gib (by omega) (by omega), wr_eq (by omega) (by omega)]
    · rw [if_pos (by omega), if_neg y]
  have w75 : ∀ v u3, MN u u3 → pi u3 417 9 = pi u 417 9 → FRM u (if i < 12 then pwI u3 420 (224 + i) (if x5 = 0 then v else -v) else u3) := fun v u3 a b => by
    refine FRM_trans (MN_FRM a b) ?_
    split
    · exact ⟨FMT_w (Or.inl rfl), pi_wIa (by decide), pi_wIa (by decide), pi_wIf (by decide), fun j hj => pi_wIi (by omega)⟩
    · exact FRM_refl
  have ms75 : ∀ v u3 T, MST u3 B n T → MST (if i < 12 then pwI u3 420 (224 + i) (if x5 = 0 then v else -v) else u3) B n T := fun v u3 T a => by
    split
    · exact MST_n a (fun j _ => pi_wIa (by decide)) (fun j _ => pi_wIa (by decide))
    · exact a
  by_cases k : kd B n s = 2
  · obtain ⟨v, u3, a1, a2, a3, a4, a5, a6⟩ := fk.1 k
    obtain ⟨t', b1, b2, b3, b4, b5, b6⟩ := c_fnum (h := t) (i := i) (x4 := x4) (x5 := x5) c ef eq e8 ii k x5v (fun z1 z2 => by have := cn z1 (x4v.mp z2); have := x4v.mp z2; omega)
    have snx := (nx_ok (B := B) c.2.1).2.2.1 (by omega)
    have eT : (if 20 < vl B n s ∧ (f' = 0 ∨ q' = s) then 2 else f') = (if f = 0 then (if 20 < vl B n s then 2 else (if x4 = 0 then 0 else 3)) else f) ∧ (if 20 < vl B n s ∧ (f' = 0 ∨ q' = s) then (s : Int) else q') = (if f = 0 then (if 20 < vl B n s then (s : Int) else (if x4 = 0 then q else s)) else q) := by
      clear fk a1 a2 a3 a4 a5 a6 b1 b2 b3 b4 b5 b6 j75 w75 ms75 x4v
      rcases P with ⟨p1, p2, p3, p4⟩ | ⟨p1, p2, p3, p4⟩
      · subst p1 p2
        unfold FOK at p3
        by_cases f0 : f = 0
        · have x0 := p4 f0
          rw [if_pos f0, if_pos f0, if_pos x0, if_pos x0]
          by_cases b : 20 < vl B n s
          · rw [if_pos ⟨b, Or.inl f0⟩, if_pos b, if_pos ⟨b, Or.inl f0⟩, if_pos b]; exact ⟨rfl, rfl⟩
          · rw [if_neg (show ¬ (20 < vl B n s ∧ _) from fun u => b u.1), if_neg b, if_neg (show ¬ (20 < vl B n s ∧ _) from fun u => b u.1), if_neg b]; exact ⟨f0, rfl⟩
        · rw [if_neg f0, if_neg f0, if_neg (by omega), if_neg (by omega)]; exact ⟨rfl, rfl⟩
      · rw [if_pos p1, if_pos p1, if_neg p2, if_neg p2]
        by_cases b : 20 < vl B n s
        · rw [if_pos ⟨b, Or.inr p4⟩, if_pos b, if_pos ⟨b, Or.inr p4⟩, if_pos b]; exact ⟨rfl, rfl⟩
        · rw [if_neg (show ¬ (20 < vl B n s ∧ _) from fun u => b u.1), if_neg b, if_neg (show ¬ (20 < vl B n s ∧ _) from fun u => b u.1), if_neg b]; exact ⟨p3, p4⟩
    rw [eT.1, eT.2] at a6
    refine ⟨1, t', _, (0, nx B n s, _, _), b1, j75 v u3 a1 a5, b2, Or.inl ⟨rfl, b3, b4, b5⟩, ms75 v u3 _ a6, w75 v u3 a2 a3, Or.inr ⟨rfl, rfl, snx, fun f2 => ?_⟩⟩
    have f2 : (if f = 0 then (if 20 < vl B n s then (2 : Int) else (if x4 = 0 then 0 else 3)) else f) = 0 := f2
    have z : f = 0 ∧ ¬ 20 < vl B n s ∧ x4 = 0 := by
      clear eT a6 b4 b5 b6 j75 w75 ms75 x4v fk P
      by_cases f0 : f = 0
      · rw [if_pos f0] at f2
        by_cases b : 20 < vl B n s
        · rw [if_pos b] at f2; omega
        · rw [if_neg b] at f2
          by_cases x0 : x4 = 0
          · exact ⟨f0, b, x0⟩
          · rw [if_neg x0] at f2; omega
      · rw [if_neg f0] at f2; exact absurd f2 f0
    have i12 := x4v.mp z.2.2
    have vr := vl_r c.2.1 k
    have b6 := b6 z.1 z.2.1 z.2.2
    rw [cn z.1 i12, Int.toNat_natCast] at b6
    refine ⟨z.1, i12, (if x5 = 0 then vl B n s else -vl B n s), vl B n s, by have := z.2.1; split <;> omega, b6, fun j => ?_⟩
    rw [if_pos i12, a4 z.2.1, pi_wI, MN_i a2 (by decide)]
    by_cases e : j = 224 + i
    · rw [if_pos ⟨rfl, e⟩, if_pos e]
    · rw [if_neg (fun u => e u.2), if_neg e]
  · obtain ⟨u3, a1, a2, a3, a4⟩ := fk.2 k
    obtain ⟨t', b1, b2, b3⟩ := c_refuse c
    refine ⟨0, t', _, (1, s, 1, (s : Int)), ?_, j75 (-1) u3 a1 (by decide), b2, b3, ms75 _ u3 _ a4, w75 _ u3 a2 a3, Or.inl ⟨rfl, rfl⟩⟩
    unfold pj_Re_readNumber_63
    rw [c.2.2.2.2.1, if_neg k, b1, bsm]
    rfl
theorem frost_step {t u : pH} {i : Nat} (c : CTx t B n s) (ef : pi t 279 3 = f) (eq : pi t 279 4 = q) (e8 : pi t 279 8 = 0) (ms : MST u B n (0, s, f, q)) (ii : i < 1000) (cn : f = 0 → i < 12 → pi t 280 10 = i) : ∃ r t' u' T, pf_Re_readNumber 6 102 i t = some (r, t') ∧ (∀ kr K, pj_M_frostLine_38 kr K i u = kr 0 ((i + 1 : Nat) : Int) u') ∧ FST B n t u t' u' r T s i f := by
  rcases ms with ⟨_, m2, m3, m4, m5, m6⟩ | ⟨m1, _⟩
  · have m2 : MT u B n s := m2
    have m4 : pi u 418 4 = f := m4
    have m5 : pi u 418 5 = q := m5
    have m6 : FOK s f q := m6
    obtain ⟨x4, hx4⟩ : ∃ x4 : Int, x4 = (if i < 12 then 0 else 1) := ⟨_, rfl⟩
    have x4v : x4 = 0 ↔ i < 12 := by rw [hx4]; split <;> omega
    have eC : pf_Re_readNumber 6 102 i t = pj_Re_readNumber_17 6 102 i x4 t := by
      unfold pf_Re_readNumber
      rw [if_pos rfl, hx4]
      by_cases y : i < 12
      · rw [if_pos (by omega), if_pos y]
      · rw [if_neg (by omega), if_neg y]
    -- the reference's first note
    have eM : ∃ u1 f1 q1, (∀ kr K, pj_M_frostLine_38 kr K i u = pj_M_frostLine_53 kr K i u1) ∧ MT u1 B n s ∧ pi u1 417 8 = 0 ∧ pi u1 418 4 = f1 ∧ pi u1 418 5 = q1 ∧ FRM u u1 ∧ pi u1 420 = pi u 420 ∧ ((f1 = f ∧ q1 = q ∧ (f = 0 → x4 = 0)) ∨ (f = 0 ∧ x4 ≠ 0 ∧ f1 = 3 ∧ q1 = s)) := by
      unfold pj_M_frostLine_38
      by_cases y : i < 12
      · have e : ∀ (kr : Int → Int → pH → Option pH) (K : Int → pH → Option pH), (if (i : Int) < 12 then pj_M_frostLine_53 kr K i u else ((pf_M_also 3 (pi u 417 4) u).bind fun v5 => pj_M_frostLine_53 kr K i v5)) = pj_M_frostLine_53 kr K i u := fun kr K => if_pos (by omega)
        exact ⟨u, f, q, e, m2, m3, m4, m5, FRM_refl, rfl, Or.inl ⟨rfl, rfl, fun _ => x4v.mpr y⟩⟩
      · obtain ⟨u1, b1, b2, b3, b4, b5⟩ := m_also (k := 3) (at_ := (s : Int)) m3 m4 m5 (by unfold FOK at m6; omega)
        have e : ∀ (kr : Int → Int → pH → Option pH) (K : Int → pH → Option pH), (if (i : Int) < 12 then pj_M_frostLine_53 kr K i u else ((pf_M_also 3 (pi u 417 4) u).bind fun v5 => pj_M_frostLine_53 kr K i v5)) = pj_M_frostLine_53 kr K i u1 := fun kr K => by
          rw [if_neg (by omega), m2.2.2.1, b1, bsm]
        refine ⟨u1, _, _, e, MT_n m2 (fun j _ => b3 j) (fun j hj => b2.2.2 j (by omega) (by omega)), by rw [b3]; exact m3, b4, b5, MN_FRM b2 (b3 9), MN_i b2 (by decide), ?_⟩
        by_cases f0 : f = 0
        · rw [if_pos f0, if_pos f0]
          exact Or.inr ⟨f0, fun v => y (x4v.mp v), rfl, rfl⟩
        · rw [if_neg f0, if_neg f0]
          exact Or.inl ⟨rfl, rfl, fun v => absurd v f0⟩
    obtain ⟨u1, f1, q1, j38, n2, n3, n4, n5, n6, n7, n8⟩ := eM
    have tk : pi u1 417 5 = tkm (kd B n s) (wdl B n s) := n2.2.2.2.2.1
    rw [eC]
    unfold pj_Re_readNumber_17
    rw [if_pos rfl, c.2.2.2.2.1]
    by_cases k : kd B n s = 3
    · -- a minus
      rw [if_pos k]
      have snx := (nx_ok (B := B) c.2.1).2.2.1 (by omega)
      -- the class
      have eT : ∃ t2 f2 q2, pj_Re_readNumber_38 6 102 i x4 1 t = pj_Re_readNumber_63 6 102 i x4 1 t2 ∧ KP t t2 ∧ CTx t2 B n (nx B n s) ∧ pi t2 279 3 = f2 ∧ pi t2 279 4 = q2 ∧ f2 = f1 ∧ q2 = q1 ∧ F2 t t2 := by
        unfold pj_Re_readNumber_38 pj_Re_readNumber_59
        rw [if_neg (by decide)]
        by_cases x0 : x4 = 0
        · obtain ⟨t2, a1, a2, a3⟩ := c_go c
          rw [if_pos x0, a1, bsm]
          refine ⟨t2, f, q, rfl, CA_KP a2, a3, by rw [a2.2.1 3 (by omega)]; exact ef, by rw [a2.2.1 4 (by omega)]; exact eq, ?_, ?_, a2.1⟩
          · rcases n8 with ⟨z, _⟩ | ⟨_, z, _⟩
            · exact z.symm
            · exact absurd x0 z
          · rcases n8 with ⟨_, z, _⟩ | ⟨_, z, _⟩
            · exact z.symm
            · exact absurd x0 z
        · rw [if_neg x0]
          obtain ⟨Hm, b1, b2, b3, b4, b5, b6, b7⟩ := c_note (k := 3) (a := pi t 279 11) ef eq
          obtain ⟨t2, a1, a2, a3⟩ := c_go (CT_n c b2 (fun j hj => b3 j (by omega) (by omega)) b5)
          rw [b1, bsm, a1, bsm]
          have kpm : KP t Hm := ⟨fr_mono b2 (fun b hb => by omega), fun j hj => b3 j (by omega) (by omega), b5⟩
          refine ⟨t2, (if f = 0 then 3 else f), (if f = 0 then pi t 279 11 else q), rfl, KP_trans kpm (CA_KP a2), a3, by rw [a2.2.1 3 (by omega)]; exact b6, by rw [a2.2.1 4 (by omega)]; exact b7, ?_, ?_, fr_trans b2 a2.1⟩
          · rcases n8 with ⟨z1, z2, z3⟩ | ⟨z1, z2, z3, z4⟩
            · rw [if_neg (fun v => x0 (z3 v))]; exact z1.symm
            · rw [if_pos z1]; exact z3.symm
          · rcases n8 with ⟨z1, z2, z3⟩ | ⟨z1, z2, z3, z4⟩
            · rw [if_neg (fun v => x0 (z3 v))]; exact z2.symm
            · rw [if_pos z1, c.2.2.1]; exact z4.symm
      obtain ⟨t2, f2, q2, t38, tk2, tc, tf, tq, ef2, eq2, tfr⟩ := eT
      subst ef2 eq2
      -- the reference
      obtain ⟨u2, a1, a2, a3⟩ := m_go n2 (by omega) n3 n4 n5 (by unfold FOK at m6; rcases n8 with ⟨z1, z2, _⟩ | ⟨z1, _, z3, z4⟩ <;> omega)
      have j66 : ∀ kr K, pj_M_frostLine_38 kr K i u = pj_M_frostLine_75 kr K i 1 u2 := fun kr K => by
        rw [j38]
        unfold pj_M_frostLine_53 pj_M_frostLine_66
        rw [tk, if_pos (tkm_5.mpr k), if_neg (by decide), a1, bsm]
      rcases a3 with ⟨_, d2, d3, d4, d5, d6⟩ | ⟨d1, _⟩
      · have d2 : MT u2 B n (nx B n s) := d2
        have d4 : pi u2 418 4 = f2 := d4
        have d5 : pi u2 418 5 = q2 := d5
        have d6 : FOK (nx B n s) f2 q2 := d6
        have f20 : f2 = 0 → f = 0 ∧ x4 = 0 := fun v => by
          rcases n8 with ⟨z1, z2, z3⟩ | ⟨z1, z2, z3, z4⟩
          · exact ⟨by omega, z3 (by omega)⟩
          · omega
        obtain ⟨r, t', u', T, p1, p2, p3, p4, p5, p6, p7⟩ := frost_tail (i := i) (x4 := x4) (x5 := 1) tc tf tq (by rw [tk2.2.1 8 (by omega)]; exact e8) d2 d3 d4 d5 (Or.inl ⟨rfl, rfl, d6, fun v => (f20 v).2⟩) ii x4v (Or.inr rfl) (fun v w => by rw [fr_i tfr (by decide)]; exact cn (f20 v).1 w)
        refine ⟨r, t', u', T, by rw [t38]; exact p1, fun kr K => by rw [j66, p2], KP_trans tk2 p3, p4, p5, FRM_trans n6 (FRM_trans (MN_FRM (MA_MN a2) (a2.2 9 (by omega))) p6), ?_⟩
        rcases p7 with p7 | ⟨y1, y2, y3, y4⟩
        · exact Or.inl p7
        · refine Or.inr ⟨y1, y2, Nat.lt_trans snx y3, fun v => ?_⟩
          obtain ⟨z1, z2, vv, a, z3, z4, z5⟩ := y4 v
          refine ⟨(f20 z1).1, z2, vv, a, z3, fr_trans (F2_wI (F2_wI (F2_NHp tfr))) z4, fun j => ?_⟩
          rw [z5 j, fr_fi a2.1 (by decide), n7]
      · have d1 : (0 : Nat) = 1 := d1
        omega
    · rw [if_neg k]
      unfold pj_Re_readNumber_38
      rw [if_pos rfl]
      have j66 : ∀ kr K, pj_M_frostLine_38 kr K i u = pj_M_frostLine_75 kr K i 0 u1 := fun kr K => by
        rw [j38]
        unfold pj_M_frostLine_53 pj_M_frostLine_66
        rw [tk, if_neg (fun v => k (tkm_5.mp v)), if_pos rfl]
      obtain ⟨r, t', u', T, p1, p2, p3, p4, p5, p6, p7⟩ := frost_tail (i := i) (x4 := x4) (x5 := 0) c ef eq e8 n2 n3 n4 n5 (by
        rcases n8 with ⟨z1, z2, z3⟩ | z
        · exact Or.inl ⟨z1.symm, z2.symm, m6, z3⟩
        · exact Or.inr z) ii x4v (Or.inl rfl) cn
      refine ⟨r, t', u', T, p1, fun kr K => by rw [j66, p2], p3, p4, p5, FRM_trans n6 p6, ?_⟩
      rcases p7 with p7 | ⟨y1, y2, y3, y4⟩
      · exact Or.inl p7
      · refine Or.inr ⟨y1, y2, y3, fun v => ?_⟩
        obtain ⟨z1, z2, vv, a, z3, z4, z5⟩ := y4 v
        refine ⟨z1, z2, vv, a, z3, z4, fun j => ?_⟩
        rw [z5 j, n7]
  · have m1 : (0 : Nat) = 1 := m1
    omega
end Tx
