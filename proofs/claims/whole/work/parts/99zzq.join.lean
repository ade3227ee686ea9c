/-! one call of both, over the heaps of the machine -/
theorem join2 {w : ia_O0} {fc fm : ia_H → Option (Int32 × ia_H)} {cf mf : pH → Option (Int × pH)} (qc : ∀ h, rq e2 (fc h) (cf (vw h))) (qm : ∀ h, rq e2 (fm h) (mf (vw h))) (k : keepsO cf mf) {h : ia_H} (g : gd_ w h) (oc : OCw w) (I : INV (vw h)) : ∃ r h1 h2, fc h = some (r, h1) ∧ fm h1 = some (r, h2) ∧ INV (vw h2) := by
  obtain ⟨r, p1, p2, a1, a2, a3⟩ := k (vw h) (OC_gd g oc) I
  have q1 := qc h
  unfold rq at q1
  rw [a1] at q1
  cases e : fc h with
  | none => rw [e] at q1; cases q1
  | some z =>
    obtain ⟨r1, h1⟩ := z
    rw [e] at q1
    have q1' : e2 (r1, h1) = (r, p1) := Option.some.inj q1
    have x1 : r1.toInt = r := congrArg Prod.fst q1'
    have x2 : vw h1 = p1 := congrArg Prod.snd q1'
    have q2 := qm h1
    unfold rq at q2
    rw [x2, a2] at q2
    cases e' : fm h1 with
    | none => rw [e'] at q2; cases q2
    | some z =>
      obtain ⟨r2, h2⟩ := z
      rw [e'] at q2
      have q2' : e2 (r2, h2) = (r, p2) := Option.some.inj q2
      have y1 : r2.toInt = r := congrArg Prod.fst q2'
      have y2 : vw h2 = p2 := congrArg Prod.snd q2'
      have : r2 = r1 := Int32.toInt_inj.mp (by rw [x1, y1])
      rw [this] at e'
      exact ⟨r1, h1, h2, rfl, e', by rw [y2]; exact a3⟩
theorem j_end {w : ia_O0} {x : Int32} {h : ia_H} (g : gd_ w h) (oc : OCw w) (I : INV (vw h)) : ∃ r h1 h2, f_I_end x h = some (r, h1) ∧ f_M_end x h1 = some (r, h2) ∧ INV (vw h2) := join2 (fun _ => qf_I_end rfl rfl) (fun _ => qf_M_end rfl rfl) (keeps_O p_end) g oc I
theorem j_text {w : ia_O0} {x y : Int32} {h : ia_H} (g : gd_ w h) (oc : OCw w) (I : INV (vw h)) : ∃ r h1 h2, f_I_text x y h = some (r, h1) ∧ f_M_text x y h1 = some (r, h2) ∧ INV (vw h2) := join2 (fun _ => qf_I_text rfl rfl rfl) (fun _ => qf_M_text rfl rfl rfl) text_O g oc I
