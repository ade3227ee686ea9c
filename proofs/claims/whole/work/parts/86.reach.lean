/-! a search onwards: the words -/
def gw (R : Int → Int → Prop) (n : Nat) (c d : Int) : Prop := match n with
  | 0 => c = d
  | n + 1 => ∃ e, R c e ∧ gw R n e d
theorem gw_snoc {R : Int → Int → Prop} {d b : Int} : ∀ {n : Nat} {c : Int}, gw R n c d → R d b → gw R (n + 1) c b
  | 0, c, h, g => by have e : c = d := h; rw [e]; exact ⟨b, g, rfl⟩
  | n + 1, c, ⟨e, h1, h2⟩, g => ⟨e, h1, gw_snoc h2 g⟩
theorem gw_wk {L W : Nat → Int} {O : Int → Prop} {d : Int} : ∀ {n : Nat} {c : Int}, gw (st L W O) n c d ↔ wk L W O n c d
  | 0, c => Iff.rfl
  | n + 1, c => ⟨fun ⟨e, h1, h2⟩ => ⟨e, h1, gw_wk.mp h2⟩, fun ⟨e, h1, h2⟩ => ⟨e, h1, gw_wk.mpr h2⟩⟩
/-- steps by sides -/
def rs (nb : Int → Nat → Int) (cd : Int → Int → Prop) (c d : Int) : Prop := cd c d ∧ 0 ≤ d ∧ ∃ k : Nat, k < 4 ∧ nb c k = d
def FI (L : Nat → Int) (nb : Int → Nat → Int) (cd : Int → Int → Prop) (fm : Int) (seen : Nat → Bool) (Q : Nat → Int) (last i k : Nat) : Prop :=
  (1 ≤ last ∧ last ≤ 36 ∧ i ≤ last)
  ∧ (inr L fm ∧ seen fm.toNat = true)
  ∧ (∀ c : Nat, c < 64 → seen c = true → (c : Int) < ce L ∧ ∃ n, gw (rs nb cd) n fm c)
  ∧ (∀ j, j < last → inr L (Q j) ∧ seen (Q j).toNat = true)
  ∧ (∀ c : Nat, (c : Int) < ce L → seen c = true → ∃ j, j < last ∧ Q j = c)
  ∧ last = cnb (fun c => seen c = true) (ce L).toNat
  ∧ (∀ j, j < i → ∀ d, rs nb cd (Q j) d → seen d.toNat = true)
  ∧ (∀ j : Nat, j < k → 0 ≤ nb (Q i) j → cd (Q i) (nb (Q i) j) → seen (nb (Q i) j).toNat = true)
section Fa
variable {L : Nat → Int} {nb : Int → Nat → Int} {cd : Int → Int → Prop} {fm : Int} {seen : Nat → Bool} {Q : Nat → Int} {last i k : Nat}
theorem FI_start (kL : LK L) (hf : inr L fm) (h1 : ∀ c : Nat, c < 64 → (seen c = true ↔ (c : Int) = fm)) (h2 : Q 0 = fm) : FI L nb cd fm seen Q 1 0 0 := by
  have z : 4 ≤ ce L ∧ ce L ≤ 36 := sz_mul kL.1
  obtain ⟨t0, t1⟩ := hf
  have et : ((fm.toNat : Nat) : Int) = fm := by omega
  have s0 : seen fm.toNat = true := (h1 _ (by omega)).mpr et
  refine ⟨⟨by omega, by omega, by omega⟩, ⟨⟨t0, t1⟩, s0⟩, fun c hc hs => ?_, fun j hj => ?_, fun c hc hs => ⟨0, by omega, ?_⟩, ?_, fun j hj => by omega, fun j hj => by omega⟩
  · have e := (h1 c hc).mp hs
    exact ⟨by omega, 0, e.symm⟩
  · rw [show j = 0 by omega, h2]; exact ⟨⟨t0, t1⟩, s0⟩
  · rw [h2]; exact ((h1 c (by omega)).mp hs).symm
  · have := cnb_add (P := fun _ => False) (Q := fun c : Nat => seen c = true) (c := fm.toNat) (n := (ce L).toNat) (by omega) (fun y => y) (fun d hd => by
      show seen d = true ↔ _
      rw [h1 d (by omega)]
      constructor
      · intro y; right; omega
      · intro y; rcases y with y | y
        · exact y.elim
        · omega)
    rw [this]
    have : ∀ n, cnb (fun _ => False) n = 0 := by
      intro n
      induction n with
      | zero => rfl
      | succ n ih => rcases cnb_s (P := fun _ => False) (n := n) with y | y; exact y.1.elim; rw [y.2, ih]
    rw [this]
theorem FI_keep (B : FI L nb cd fm seen Q last i k) (h : 0 ≤ nb (Q i) k → cd (Q i) (nb (Q i) k) → seen (nb (Q i) k).toNat = true) : FI L nb cd fm seen Q last i (k + 1) := by
  obtain ⟨a0, a1, a2, a3, a4, a5, a6, a7⟩ := B
  refine ⟨a0, a1, a2, a3, a4, a5, a6, fun j hj => ?_⟩
  rcases Nat.lt_or_ge j k with y | y
  · exact a7 j y
  · rw [show j = k by omega]; exact h
theorem FI_next (B : FI L nb cd fm seen Q last i 4) (hi : i < last) : FI L nb cd fm seen Q last (i + 1) 0 := by
  obtain ⟨a0, a1, a2, a3, a4, a5, a6, a7⟩ := B
  refine ⟨⟨a0.1, a0.2.1, by omega⟩, a1, a2, a3, a4, a5, fun j hj d r => ?_, fun j hj => by omega⟩
  rcases Nat.lt_or_ge j i with y | y
  · exact a6 j y d r
  · have e : j = i := by omega
    subst e
    obtain ⟨r1, r2, s, hs, es⟩ := r
    have := a7 s hs
    rw [es] at this
    exact this r2 r1
theorem FI_push {seen' : Nat → Bool} (kL : LK L) (B : FI L nb cd fm seen Q last i k) (hi : i < last) (hk : k < 4) (h0 : 0 ≤ nb (Q i) k) (hn : nb (Q i) k < ce L) (h1 : seen (nb (Q i) k).toNat = false) (h2 : cd (Q i) (nb (Q i) k)) (hi64 : ∀ c, 64 ≤ c → seen c = false) (hs : ∀ c, c < 64 → (seen' c = true ↔ seen c = true ∨ c = (nb (Q i) k).toNat)) : last < 36 ∧ FI L nb cd fm seen' (up1 Q last (nb (Q i) k)) (last + 1) i (k + 1) := by
  have z : 4 ≤ ce L ∧ ce L ≤ 36 := sz_mul kL.1
  obtain ⟨a0, a1, a2, a3, a4, a5, a6, a7⟩ := B
  have eb : (((nb (Q i) k).toNat : Nat) : Int) = nb (Q i) k := by omega
  have lt : last < 36 := by
    have := cnb_full (P := fun c : Nat => seen c = true) (n := (ce L).toNat) (c := (nb (Q i) k).toNat) (by omega) (fun y => by rw [h1] at y; exact absurd y (by decide))
    omega
  have qi : up1 Q last (nb (Q i) k) i = Q i := up1_n (by omega)
  have qj : ∀ j, j < last → up1 Q last (nb (Q i) k) j = Q j := fun j hj => up1_n (by omega)
  have inn : ∀ j, j < last → (Q j).toNat < 64 := fun j hj => by have b := (a3 j hj).1; have := b.1; have := b.2; omega
  have mono : ∀ c, c < 64 → seen c = true → seen' c = true := fun c hc y => (hs c hc).mpr (Or.inl y)
  refine ⟨lt, ⟨by omega, by omega, by omega⟩, ⟨a1.1, mono _ (by have := a1.1.1; have := a1.1.2; omega) a1.2⟩, fun c hc y => ?_, fun j hj => ?_, fun c hc y => ?_, ?_, fun j hj d r => ?_, fun j hj g0 g1 => ?_⟩
  · rcases (hs c hc).mp y with v | v
    · exact a2 c hc v
    · refine ⟨by omega, ?_⟩
      obtain ⟨n, hw⟩ := (a2 _ (inn i hi) (a3 i hi).2).2
      rw [show (((Q i).toNat : Nat) : Int) = Q i by have := (a3 i hi).1.1; omega] at hw
      rw [v, eb]
      exact ⟨n + 1, gw_snoc hw ⟨h2, h0, k, hk, rfl⟩⟩
  · by_cases y : j = last
    · rw [y, up1_s]; exact ⟨⟨h0, hn⟩, (hs _ (by omega)).mpr (Or.inr rfl)⟩
    · rw [qj j (by omega)]; exact ⟨(a3 j (by omega)).1, mono _ (inn j (by omega)) (a3 j (by omega)).2⟩
  · rcases (hs c (by omega)).mp y with v | v
    · obtain ⟨j, j1, j2⟩ := a4 c hc v
      exact ⟨j, by omega, by rw [qj j j1]; exact j2⟩
    · exact ⟨last, by omega, by rw [up1_s, v, eb]⟩
  · rw [a5]
    exact (cnb_add (c := (nb (Q i) k).toNat) (by omega) (fun y => by rw [h1] at y; exact absurd y (by decide)) (fun c hc => hs c (by omega))).symm
  · rw [qj j (by omega)] at r
    have y := a6 j hj d r
    by_cases v : d.toNat < 64
    · exact mono _ v y
    · exact absurd y (by rw [hi64 _ (by omega)]; decide)
  · rw [qi] at g0 g1 ⊢
    rcases Nat.lt_or_ge j k with y | y
    · have y2 := a7 j y g0 g1
      by_cases v : (nb (Q i) j).toNat < 64
      · exact mono _ v y2
      · exact absurd y2 (by rw [hi64 _ (by omega)]; decide)
    · rw [show j = k by omega]; exact (hs _ (by omega)).mpr (Or.inr rfl)
theorem FI_end (B : FI L nb cd fm seen Q last last 0) (hr : ∀ c d, inr L c → rs nb cd c d → inr L d) : ∀ (n : Nat) (c d : Int), inr L c → seen c.toNat = true → gw (rs nb cd) n c d → seen d.toNat = true
  | 0, c, d, hc, hs, h => by have e : c = d := h; rw [← e]; exact hs
  | n + 1, c, d, hc, hs, ⟨e, h1, h2⟩ => by
    obtain ⟨j, j1, j2⟩ := B.2.2.2.2.1 c.toNat (by have := hc.1; have := hc.2; omega) hs
    rw [show ((c.toNat : Nat) : Int) = c by have := hc.1; omega] at j2
    exact FI_end B hr n e d (hr c e hc h1) (B.2.2.2.2.2.2.1 j j1 e (by rw [j2]; exact h1)) h2
end Fa
theorem st_rs {L W : Nat → Int} {O : Int → Prop} {c d : Int} : st L W O c d ↔ rs (fun c k => bs L c k) (fun c d => ¬ ag W c d ∧ O d) c d := by
  constructor
  · intro ⟨⟨h0, s, hs, e⟩, h1, h2⟩
    refine ⟨⟨h1, h2⟩, h0, s.toNat, by unfold s4 at hs; omega, ?_⟩
    show bs L c (s.toNat : Nat) = d
    rw [show ((s.toNat : Nat) : Int) = s by unfold s4 at hs; omega]; exact e
  · intro ⟨⟨h1, h2⟩, h0, k, hk, e⟩
    exact ⟨⟨h0, k, by unfold s4; omega, e⟩, h1, h2⟩
theorem gw_c {R R' : Int → Int → Prop} (h : ∀ c d, R c d ↔ R' c d) {d : Int} : ∀ {n : Nat} {c : Int}, gw R n c d ↔ gw R' n c d
  | 0, c => Iff.rfl
  | n + 1, c => ⟨fun ⟨e, h1, h2⟩ => ⟨e, (h c e).mp h1, (gw_c h).mp h2⟩, fun ⟨e, h1, h2⟩ => ⟨e, (h c e).mpr h1, (gw_c h).mpr h2⟩⟩
section Ce
variable {h : pH} {a p q : Nat} {L W wt sv S : Nat → Int} {u : Bool} {d : Nat}
theorem c_rc_side {load c0 : Int} {O : Int → Prop} {last i : Nat} {y : Int64} {K : Int64 → Int → Int → pH → Option (Int64 × pH)} (C : CX h p q L W) (X : WX h p q) (hO : ∀ c : Nat, (c : Int) < ce L → (load ≤ pi h 313 c ↔ O c)) (hi : i < last) (B : FI L (fun c k => bs L c k) (fun c d => ¬ ag W c d ∧ O d) c0 (tb y) (pi h 315) last i 0) : ∃ (y' : Int64) (last' : Nat) (h' : pH), pl_Wa_reach_44 load c0 K fu_ y last i (pi h 315 i) 0 h = K y' last' i h' ∧ fr (fun b => b = 315) h h' ∧ FI L (fun c k => bs L c k) (fun c d => ¬ ag W c d ∧ O d) c0 (tb y') (pi h' 315) last' (i + 1) 0 ∧ i < last' := by
  have kL := C.2.2.1
  have z : 4 ≤ ce L ∧ ce L ≤ 36 := sz_mul kL.1
  refine lpf (F := fun n (k : Nat) (t : Int64 × Nat × pH) => pl_Wa_reach_44 load c0 K n t.1 t.2.1 i (pi h 315 i) k t.2.2) (Q := fun r => ∃ (y' : Int64) (last' : Nat) (h' : pH), r = K y' last' i h' ∧ fr (fun b => b = 315) h h' ∧ FI L (fun c k => bs L c k) (fun c d => ¬ ag W c d ∧ O d) c0 (tb y') (pi h' 315) last' (i + 1) 0 ∧ i < last') 4 (fun k t => fr (fun b => b = 315) h t.2.2 ∧ i < t.2.1 ∧ pi t.2.2 315 i = pi h 315 i ∧ FI L (fun c k => bs L c k) (fun c d => ¬ ag W c d ∧ O d) c0 (tb t.1) (pi t.2.2 315) t.2.1 i k) ?_ ?_ fu_ 0 (y, last, h) (by omega) (by unfold fu_; omega) ⟨fr_refl, hi, rfl, B⟩
  · intro n k t hk ⟨f, hi, qi, B⟩
    right
    obtain ⟨y, lst, t⟩ := t
    have f : fr (fun b => b = 315) h t := f
    have hi : i < lst := hi
    have qi : pi t 315 i = pi h 315 i := qi
    have B : FI L (fun c k => bs L c k) (fun c d => ¬ ag W c d ∧ O d) c0 (tb y) (pi t 315) lst i k := B
    have C1 : CX t p q L W := CX_fr C f (fun b hb => by omega)
    have X1 : WX t p q := WX_fr X f (by omega)
    have l36 := B.1.2.1
    show ∃ t' : Int64 × Nat × pH, pl_Wa_reach_44 load c0 K (n + 1) y lst i (pi h 315 i) k t = pl_Wa_reach_44 load c0 K n t'.1 t'.2.1 i (pi h 315 i) (k + 1 : Nat) t'.2.2 ∧ _
    rw [← qi]
    obtain ⟨q0, q1⟩ := (B.2.2.2.1 i hi).1
    have eq : (((pi t 315 i).toNat : Nat) : Int) = pi t 315 i := by omega
    have sd := (C1.1.2.2.2.2.1 (pi t 315 i).toNat k (by omega) hk).1
    rw [eq] at sd
    have t1 : (pi t 315 i * 4 + k).toNat = 4 * (pi t 315 i).toNat + k := by omega
    have b0 : -1 ≤ bs L (pi t 315 i) k ∧ bs L (pi t 315 i) k < ce L := ⟨be_lo kL.1 q0 q1, be_hi kL.1 q0 q1⟩
    have keep : (0 ≤ bs L (pi t 315 i) k → (¬ ag W (pi t 315 i) (bs L (pi t 315 i) k) ∧ O (bs L (pi t 315 i) k)) → tb y (bs L (pi t 315 i) k).toNat = true) → ∃ t' : Int64 × Nat × pH, pl_Wa_reach_44 load c0 K n y lst i (pi t 315 i) (k + 1 : Nat) t = pl_Wa_reach_44 load c0 K n t'.1 t'.2.1 i (pi t 315 i) (k + 1 : Nat) t'.2.2 ∧ (fr (fun b => b = 315) h t'.2.2 ∧ i < t'.2.1 ∧ pi t'.2.2 315 i = pi t 315 i ∧ FI L (fun c k => bs L c k) (fun c d => ¬ ag W c d ∧ O d) c0 (tb t'.1) (pi t'.2.2 315) t'.2.1 i (k + 1)) := fun v => ⟨(y, lst, t), rfl, f, hi, rfl, FI_keep B v⟩
    rw [pl_Wa_reach_44, if_neg (by omega), X1.1]
    simp (disch := omega) only [wr_eq, gib, t1, sd]
    by_cases y1 : bs L (pi t 315 i) k = -1
    · rw [if_pos y1]
      exact keep (fun v => by omega)
    · rw [if_neg y1]
      have eb : (((bs L (pi t 315 i) k).toNat : Nat) : Int) = bs L (pi t 315 i) k := by omega
      have hb := c_hasBit (y := y) (n := (bs L (pi t 315 i) k).toNat) (h := t) (by omega)
      rw [eb] at hb
      rw [hb, bsm, if1]
      by_cases y2 : tb y (bs L (pi t 315 i) k).toNat = true
      · rw [if_pos y2]
        exact keep (fun _ _ => y2)
      · rw [if_neg y2]
        have ho2 : load ≤ pi t 313 (bs L (pi t 315 i) k).toNat ↔ O (bs L (pi t 315 i) k) := by
          have := hO (bs L (pi t 315 i) k).toNat (by omega)
          rw [eb] at this
          rw [fr_i f (by omega)]
          exact this
        try simp (disch := omega) only [gib]
        by_cases y3 : pi t 313 (bs L (pi t 315 i) k).toNat < load
        · rw [if_pos y3]
          exact keep (fun _ v => by have := ho2.mpr v.2; omega)
        · rw [if_neg y3, c_mayStep C1 X1 ⟨q0, by omega⟩ ⟨by omega, by omega⟩, bsm]
          by_cases y4 : ag W (pi t 315 i) (bs L (pi t 315 i) k)
          · rw [cif_t y4, if_pos rfl]
            exact keep (fun _ v => absurd y4 v.1)
          · rw [cif_f y4, if_neg (by decide), c_bit, bsm]
            obtain ⟨lt, B2⟩ := FI_push (seen' := tb (y ||| plshl 1 (bs L (pi t 315 i) k))) kL B hi hk (by omega) b0.2 (by simpa using y2) ⟨y4, ho2.mp (by omega)⟩ (fun _ hc => tb_hi hc) (fun c hc => by
              show tb (y ||| plshl 1 (bs L (pi t 315 i) k)) c = true ↔ tb y c = true ∨ c = (bs L (pi t 315 i) k).toNat
              rw [tb_or, ← eb, tb_bit (by omega) hc, Bool.or_eq_true, decide_eq_true_eq, Int.toNat_natCast])
            try rw [gib (by omega) (by omega)]
            rw [Int.toNat_natCast]
            refine ⟨(y ||| plshl 1 (bs L (pi t 315 i) k), lst + 1, pwI t 315 lst (bs L (pi t 315 i) k)), rfl, fr_wI f rfl, by show i < lst + 1; omega, ?_, ?_⟩
            · show pi (pwI t 315 lst _) 315 i = _
              rw [pi_wIi (by omega)]
            · show FI L _ _ c0 _ (pi (pwI t 315 lst _) 315) (lst + 1) i (k + 1)
              rw [up1_pi]
              exact B2
  · intro n t ⟨f, hi, qi, B⟩
    refine ⟨t.1, t.2.1, t.2.2, ?_, f, FI_next B hi, hi⟩
    show pl_Wa_reach_44 load c0 K (n + 1) t.1 t.2.1 i (pi h 315 i) (4 : Nat) t.2.2 = _
    rw [pl_Wa_reach_44, if_pos (by omega)]
theorem c_reach {load c : Int} {O : Int → Prop} (C : CX h p q L W) (X : WX h p q) (hO : ∀ c : Nat, (c : Int) < ce L → (load ≤ pi h 313 c ↔ O c)) (hc : inr L c) : ∃ (y : Int64) (h' : pH), pf_Wa_reach load c h = some (y, h') ∧ fr (fun b => b = 315) h h' ∧ ∀ e : Nat, e < 64 → (tb y e = true ↔ (e : Int) < ce L ∧ isw L W O c e) := by
  have kL := C.2.2.1
  have z : 4 ≤ ce L ∧ ce L ≤ 36 := sz_mul kL.1
  have c0 := hc.1
  have c1 := hc.2
  have ec : ((c.toNat : Nat) : Int) = c := by omega
  unfold pf_Wa_reach
  rw [c_bit, bsm]
  refine lp (F := fun n (t : Int64 × Nat × Nat × pH) => pl_Wa_reach_18 load c (fun y3 h => pj_Wa_reach_136 load c y3 h) n t.1 t.2.1 t.2.2.1 t.2.2.2) (Q := fun r => ∃ (y : Int64) (h' : pH), r = some (y, h') ∧ fr (fun b => b = 315) h h' ∧ ∀ e : Nat, e < 64 → (tb y e = true ↔ (e : Int) < ce L ∧ isw L W O c e)) (I := fun t => fr (fun b => b = 315) h t.2.2.2 ∧ FI L (fun c k => bs L c k) (fun c d => ¬ ag W c d ∧ O d) c (tb t.1) (pi t.2.2.2 315) t.2.1 t.2.2.1 0) (fun t => 40 - t.2.2.1) ?_ fu_ (plshl 1 c, 1, 0, pwI h 315 0 c) ⟨fr_wI fr_refl rfl, ?_⟩ (by show 40 - 0 < fu_; unfold fu_; omega)
  · intro n t ⟨f, B⟩
    obtain ⟨y, lst, i, t⟩ := t
    have f : fr (fun b => b = 315) h t := f
    have B : FI L (fun c k => bs L c k) (fun c d => ¬ ag W c d ∧ O d) c (tb y) (pi t 315) lst i 0 := B
    have C1 : CX t p q L W := CX_fr C f (fun b hb => by omega)
    have X1 : WX t p q := WX_fr X f (by omega)
    have b1 := B.1
    by_cases y1 : lst ≤ i
    · left
      have e : i = lst := by omega
      subst e
      refine ⟨y &&& (plshl 1 c ^^^ (-1)), t, ?_, f, fun e he => ?_⟩
      · show pl_Wa_reach_18 load c _ (n + 1) y i i t = _
        rw [pl_Wa_reach_18, if_pos (by omega)]
        unfold pj_Wa_reach_136
        rw [c_bit, bsm]
      · rw [tb_and, tb_nx he, ← ec, tb_bit (by omega) he, ec, Bool.and_eq_true]
        have fwd : tb y e = true → (e : Int) < ce L ∧ ∃ n, wk L W O n c e := fun v => by
          obtain ⟨v1, m, v2⟩ := B.2.2.1 e he v
          exact ⟨v1, m, gw_wk.mp ((gw_c (fun a b => st_rs)).mpr v2)⟩
        constructor
        · intro ⟨v1, v2⟩
          obtain ⟨v3, v4⟩ := fwd v1
          refine ⟨v3, fun v5 => ?_, dst_ge.mpr v4⟩
          rw [decide_eq_true (show e = c.toNat by omega)] at v2
          exact absurd v2 (by decide)
        · intro ⟨v1, v2, v3⟩
          obtain ⟨m, v4⟩ := dst_ge.mp v3
          have v5 := FI_end B (fun a b ha hr => sd_in kL ha (st_rs.mpr hr).1) m c e hc B.2.1.2 ((gw_c (fun a b => st_rs)).mp (gw_wk.mpr v4))
          rw [Int.toNat_natCast] at v5
          exact ⟨v5, by rw [decide_eq_false (show ¬ e = c.toNat by omega)]; rfl⟩
    · right
      obtain ⟨y', last', h', r1, r2, r3, r4⟩ := c_rc_side (load := load) (K := fun y3 x5 x6 h => pl_Wa_reach_18 load c (fun y3 h => pj_Wa_reach_136 load c y3 h) n y3 x5 (wr (x6 + 1)) h) C1 X1 (fun c hc => by rw [fr_i f (by omega)]; exact hO c hc) (by omega) B
      refine ⟨(y', last', i + 1, h'), ?_, ⟨fr_trans f r2, r3⟩, by show 40 - (i + 1) < 40 - i; omega⟩
      show pl_Wa_reach_18 load c _ (n + 1) y lst i t = pl_Wa_reach_18 load c _ n y' last' (i + 1 : Nat) h'
      rw [pl_Wa_reach_18, if_neg (by omega), if_neg (by omega), gib (by omega) (by omega), Int.toNat_natCast, r1, wr_eq (by omega) (by omega)]
      rfl
  · refine FI_start kL hc (fun e he => ?_) pi_wIs
    show tb (plshl 1 c) e = true ↔ _
    rw [← ec, tb_bit (by omega) he, decide_eq_true_eq]
    omega
end Ce
