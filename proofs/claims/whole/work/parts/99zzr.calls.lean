/-! one call of both, over the heaps of the machine: all calls (printed by genJ.py) -/
theorem join3 {w : ia_O0} {fc fm : ia_H → Option (Int64 × ia_H)} {cf mf : pH → Option (Int64 × pH)} (qc : ∀ h, rq e3 (fc h) (cf (vw h))) (qm : ∀ h, rq e3 (fm h) (mf (vw h))) (k : keepsO cf mf) {h : ia_H} (g : gd_ w h) (oc : OCw w) (I : INV (vw h)) : ∃ r h1 h2, fc h = some (r, h1) ∧ fm h1 = some (r, h2) ∧ INV (vw h2) := by
  obtain ⟨r, p1, p2, a1, a2, a3⟩ := k (vw h) (OC_gd g oc) I
  have q1 := qc h
  unfold rq at q1
  rw [a1] at q1
  cases e : fc h with
  | none => rw [e] at q1; cases q1
  | some z =>
    obtain ⟨r1, h1⟩ := z
    rw [e] at q1
    have q1' : e3 (r1, h1) = (r, p1) := Option.some.inj q1
    have x1 : r1 = r := congrArg Prod.fst q1'
    have x2 : vw h1 = p1 := congrArg Prod.snd q1'
    have q2 := qm h1
    unfold rq at q2
    rw [x2, a2] at q2
    cases e' : fm h1 with
    | none => rw [e'] at q2; cases q2
    | some z =>
      obtain ⟨r2, h2⟩ := z
      rw [e'] at q2
      have q2' : e3 (r2, h2) = (r, p2) := Option.some.inj q2
      have y1 : r2 = r := congrArg Prod.fst q2'
      have y2 : vw h2 = p2 := congrArg Prod.snd q2'
      rw [y1, ← x1] at e'
      exact ⟨r1, h1, h2, rfl, e', by rw [y2]; exact a3⟩
theorem join1 {fc fm : ia_H → Option Int32} {cf mf : pH → Option Int} (qc : ∀ h, rq Int32.toInt (fc h) (cf (vw h))) (qm : ∀ h, rq Int32.toInt (fm h) (mf (vw h))) (k : tells cf mf) {h : ia_H} (I : INV (vw h)) : ∃ r, fc h = some r ∧ fm h = some r := by
  obtain ⟨r, a1, a2⟩ := tells_keeps k (vw h) I
  have q1 := qc h
  have q2 := qm h
  unfold rq at q1 q2
  rw [a1] at q1
  rw [a2] at q2
  cases e : fc h with
  | none => rw [e] at q1; cases q1
  | some z =>
    cases e' : fm h with
    | none => rw [e'] at q2; cases q2
    | some z' =>
      rw [e] at q1
      rw [e'] at q2
      have x1 : z.toInt = r := Option.some.inj q1
      have x2 : z'.toInt = r := Option.some.inj q2
      have : z' = z := Int32.toInt_inj.mp (by rw [x1, x2])
      exact ⟨z, rfl, by rw [this]⟩
theorem i32_r {x : Int32} : -2147483648 ≤ x.toInt ∧ x.toInt < 2147483648 := ⟨Int32.le_toInt x, Int32.toInt_lt x⟩
theorem j_feed {w : ia_O0} {x1 : Int32} {x2 : Int32} {x3 : Int32} {x4 : Int32} {x5 : Int32} {h : ia_H} (g : gd_ w h) (oc : OCw w) (I : INV (vw h)) : ∃ r h1 h2, f_I_feed x1 x2 x3 x4 x5 h = some (r, h1) ∧ f_M_feed x1 x2 x3 x4 x5 h1 = some (r, h2) ∧ INV (vw h2) := join2 (fun _ => qf_I_feed rfl rfl rfl rfl rfl rfl) (fun _ => qf_M_feed rfl rfl rfl rfl rfl rfl) (keeps_O p_feed) g oc I
theorem j_fault {x1 : Int32} {h : ia_H} (I : INV (vw h)) : ∃ r, f_I_fault x1 h = some r ∧ f_M_fault x1 h = some r := join1 (fun _ => qf_I_fault rfl rfl) (fun _ => qf_M_fault rfl rfl) p_fault I
theorem j_lake {x1 : Int32} {x2 : Int32} {h : ia_H} (I : INV (vw h)) : ∃ r, f_I_lake x1 x2 h = some r ∧ f_M_lake x1 x2 h = some r := join1 (fun _ => qf_I_lake rfl rfl rfl) (fun _ => qf_M_lake rfl rfl rfl) p_lake I
theorem j_cell {x1 : Int32} {x2 : Int32} {x3 : Int32} {h : ia_H} (I : INV (vw h)) : ∃ r, f_I_cell x1 x2 x3 h = some r ∧ f_M_cell x1 x2 x3 h = some r := join1 (fun _ => qf_I_cell rfl rfl rfl rfl) (fun _ => qf_M_cell rfl rfl rfl rfl) p_cell I
theorem j_shop {x1 : Int32} {x2 : Int32} {x3 : Int32} {h : ia_H} (I : INV (vw h)) : ∃ r, f_I_shop x1 x2 x3 h = some r ∧ f_M_shop x1 x2 x3 h = some r := join1 (fun _ => qf_I_shop rfl rfl rfl rfl) (fun _ => qf_M_shop rfl rfl rfl rfl) p_shop I
theorem j_law {x1 : Int32} {x2 : Int32} {h : ia_H} (I : INV (vw h)) : ∃ r, f_I_law x1 x2 h = some r ∧ f_M_law x1 x2 h = some r := join1 (fun _ => qf_I_law rfl rfl rfl) (fun _ => qf_M_law rfl rfl rfl) p_law I
theorem j_act {x1 : Int32} {x2 : Int32} {x3 : Int32} {h : ia_H} (I : INV (vw h)) : ∃ r, f_I_act x1 x2 x3 h = some r ∧ f_M_act x1 x2 x3 h = some r := join1 (fun _ => qf_I_act rfl rfl rfl rfl) (fun _ => qf_M_act rfl rfl rfl rfl) p_act I
theorem j_stop {w : ia_O0} {x1 : Int32} {x2 : Int32} {x3 : Int32} {h : ia_H} (g : gd_ w h) (oc : OCw w) (I : INV (vw h)) : ∃ r h1 h2, f_I_stop x1 x2 x3 h = some (r, h1) ∧ f_M_stop x1 x2 x3 h1 = some (r, h2) ∧ INV (vw h2) := join2 (fun _ => qf_I_stop rfl rfl rfl rfl) (fun _ => qf_M_stop rfl rfl rfl rfl) (keeps_O (asks_keeps p_stop)) g oc I
theorem j_state {w : ia_O0} {x1 : Int32} {x2 : Int32} {x3 : Int32} {x4 : Int32} {x5 : Int32} {h : ia_H} (g : gd_ w h) (oc : OCw w) (I : INV (vw h)) : ∃ r h1 h2, f_I_state x1 x2 x3 x4 x5 h = some (r, h1) ∧ f_M_state x1 x2 x3 x4 x5 h1 = some (r, h2) ∧ INV (vw h2) := join2 (fun _ => qf_I_state rfl rfl rfl rfl rfl rfl) (fun _ => qf_M_state rfl rfl rfl rfl rfl rfl) (keeps_O (asks_keeps p_state)) g oc I
theorem j_ice {w : ia_O0} {x1 : Int32} {x2 : Int32} {x3 : Int32} {x4 : Int32} {x5 : Int32} {x6 : Int32} {h : ia_H} (g : gd_ w h) (oc : OCw w) (I : INV (vw h)) : ∃ r h1 h2, f_I_ice x1 x2 x3 x4 x5 x6 h = some (r, h1) ∧ f_M_ice x1 x2 x3 x4 x5 x6 h1 = some (r, h2) ∧ INV (vw h2) := join2 (fun _ => qf_I_ice rfl rfl rfl rfl rfl rfl rfl) (fun _ => qf_M_ice rfl rfl rfl rfl rfl rfl rfl) (keeps_O (asks_keeps p_ice)) g oc I
theorem j_way {w : ia_O0} {x1 : Int32} {x2 : Int32} {x3 : Int32} {x4 : Int32} {x5 : Int32} {x6 : Int32} {x7 : Int32} {x8 : Int32} {x9 : Int32} {h : ia_H} (g : gd_ w h) (oc : OCw w) (I : INV (vw h)) : ∃ r h1 h2, f_I_way x1 x2 x3 x4 x5 x6 x7 x8 x9 h = some (r, h1) ∧ f_M_way x1 x2 x3 x4 x5 x6 x7 x8 x9 h1 = some (r, h2) ∧ INV (vw h2) := join2 (fun _ => qf_I_way rfl rfl rfl rfl rfl rfl rfl rfl rfl rfl) (fun _ => qf_M_way rfl rfl rfl rfl rfl rfl rfl rfl rfl rfl) (keeps_O (asks_keeps p_way)) g oc I
theorem j_luck {w : ia_O0} {x1 : Int32} {x2 : Int32} {x3 : Int32} {x4 : Int32} {x5 : Int32} {x6 : Int32} {x7 : Int32} {h : ia_H} (g : gd_ w h) (oc : OCw w) (I : INV (vw h)) : ∃ r h1 h2, f_I_luck x1 x2 x3 x4 x5 x6 x7 h = some (r, h1) ∧ f_M_luck x1 x2 x3 x4 x5 x6 x7 h1 = some (r, h2) ∧ INV (vw h2) := join3 (fun _ => qf_I_luck rfl rfl rfl rfl rfl rfl rfl rfl) (fun _ => qf_M_luck rfl rfl rfl rfl rfl rfl rfl rfl) (keeps_O (asks_keeps p_luck)) g oc I
theorem j_most {w : ia_O0} {x1 : Int32} {x2 : Int32} {x3 : Int32} {x4 : Int32} {x5 : Int32} {x6 : Int32} {h : ia_H} (g : gd_ w h) (oc : OCw w) (I : INV (vw h)) : ∃ r h1 h2, f_I_most x1 x2 x3 x4 x5 x6 h = some (r, h1) ∧ f_M_most x1 x2 x3 x4 x5 x6 h1 = some (r, h2) ∧ INV (vw h2) := join2 (fun _ => qf_I_most rfl rfl rfl rfl rfl rfl rfl) (fun _ => qf_M_most rfl rfl rfl rfl rfl rfl rfl) (keeps_O (asks_keeps p_most)) g oc I
theorem j_from {w : ia_O0} {x1 : Int32} {x2 : Int32} {x3 : Int32} {x4 : Int32} {x5 : Int32} {x6 : Int32} {h : ia_H} (g : gd_ w h) (oc : OCw w) (I : INV (vw h)) : ∃ r h1 h2, f_I_from x1 x2 x3 x4 x5 x6 h = some (r, h1) ∧ f_M_from x1 x2 x3 x4 x5 x6 h1 = some (r, h2) ∧ INV (vw h2) := join3 (fun _ => qf_I_from rfl rfl rfl rfl rfl rfl rfl) (fun _ => qf_M_from rfl rfl rfl rfl rfl rfl rfl) (keeps_O (asks_keeps p_from)) g oc I
theorem j_part {w : ia_O0} {x1 : Int32} {x2 : Int32} {x3 : Int32} {x4 : Int32} {x5 : Int32} {x6 : Int32} {h : ia_H} (g : gd_ w h) (oc : OCw w) (I : INV (vw h)) : ∃ r h1 h2, f_I_part x1 x2 x3 x4 x5 x6 h = some (r, h1) ∧ f_M_part x1 x2 x3 x4 x5 x6 h1 = some (r, h2) ∧ INV (vw h2) := join3 (fun _ => qf_I_part rfl rfl rfl rfl rfl rfl rfl) (fun _ => qf_M_part rfl rfl rfl rfl rfl rfl rfl) (keeps_O (asks_keeps p_part)) g oc I
theorem j_holds {w : ia_O0} {x1 : Int32} {x2 : Int32} {x3 : Int32} {x4 : Int32} {x5 : Int32} {h : ia_H} (g : gd_ w h) (oc : OCw w) (I : INV (vw h)) : ∃ r h1 h2, f_I_holds x1 x2 x3 x4 x5 h = some (r, h1) ∧ f_M_holds x1 x2 x3 x4 x5 h1 = some (r, h2) ∧ INV (vw h2) := join2 (fun _ => qf_I_holds rfl rfl rfl rfl rfl rfl) (fun _ => qf_M_holds rfl rfl rfl rfl rfl rfl) (keeps_O (asks_keeps p_holds)) g oc I
theorem j_fair {w : ia_O0} {x1 : Int32} {x2 : Int32} {x3 : Int32} {x4 : Int32} {x5 : Int32} {x6 : Int32} {x7 : Int32} {x8 : Int32} {h : ia_H} (g : gd_ w h) (oc : OCw w) (I : INV (vw h)) : ∃ r h1 h2, f_I_fair x1 x2 x3 x4 x5 x6 x7 x8 h = some (r, h1) ∧ f_M_fair x1 x2 x3 x4 x5 x6 x7 x8 h1 = some (r, h2) ∧ INV (vw h2) := join2 (fun _ => qf_I_fair rfl rfl rfl rfl rfl rfl rfl rfl rfl) (fun _ => qf_M_fair rfl rfl rfl rfl rfl rfl rfl rfl rfl) (keeps_O (asks_keeps p_fair)) g oc I
theorem j_drawn {w : ia_O0} {x1 : Int32} {x2 : Int32} {x3 : Int32} {x4 : Int32} {x5 : Int32} {x6 : Int32} {h : ia_H} (g : gd_ w h) (oc : OCw w) (I : INV (vw h)) : ∃ r h1 h2, f_I_drawn x1 x2 x3 x4 x5 x6 h = some (r, h1) ∧ f_M_drawn x1 x2 x3 x4 x5 x6 h1 = some (r, h2) ∧ INV (vw h2) := join2 (fun _ => qf_I_drawn rfl rfl rfl rfl rfl rfl rfl) (fun _ => qf_M_drawn rfl rfl rfl rfl rfl rfl rfl) (keeps_O (asks_keeps (p_drawn i32_r.2))) g oc I
theorem j_set {w : ia_O0} {x1 : Int32} {x2 : Int32} {x3 : Int32} {x4 : Int32} {x5 : Int32} {h : ia_H} (g : gd_ w h) (oc : OCw w) (I : INV (vw h)) : ∃ r h1 h2, f_I_set x1 x2 x3 x4 x5 h = some (r, h1) ∧ f_M_set x1 x2 x3 x4 x5 h1 = some (r, h2) ∧ INV (vw h2) := join2 (fun _ => qf_I_set rfl rfl rfl rfl rfl rfl) (fun _ => qf_M_set rfl rfl rfl rfl rfl rfl) (keeps_O (asks_keeps p_set)) g oc I
theorem j_hearth {w : ia_O0} {x1 : Int32} {x2 : Int32} {x3 : Int32} {x4 : Int32} {h : ia_H} (g : gd_ w h) (oc : OCw w) (I : INV (vw h)) : ∃ r h1 h2, f_I_hearth x1 x2 x3 x4 h = some (r, h1) ∧ f_M_hearth x1 x2 x3 x4 h1 = some (r, h2) ∧ INV (vw h2) := join2 (fun _ => qf_I_hearth rfl rfl rfl rfl rfl) (fun _ => qf_M_hearth rfl rfl rfl rfl rfl) (keeps_O (asks_keeps p_hearth)) g oc I
theorem j_branches {w : ia_O0} {x1 : Int32} {x2 : Int32} {x3 : Int32} {x4 : Int32} {x5 : Int32} {x6 : Int32} {x7 : Int32} {x8 : Int32} {h : ia_H} (g : gd_ w h) (oc : OCw w) (I : INV (vw h)) : ∃ r h1 h2, f_I_branches x1 x2 x3 x4 x5 x6 x7 x8 h = some (r, h1) ∧ f_M_branches x1 x2 x3 x4 x5 x6 x7 x8 h1 = some (r, h2) ∧ INV (vw h2) := join3 (fun _ => qf_I_branches rfl rfl rfl rfl rfl rfl rfl rfl rfl) (fun _ => qf_M_branches rfl rfl rfl rfl rfl rfl rfl rfl rfl) (keeps_O (asks_keeps p_branches)) g oc I
theorem j_old {w : ia_O0} {x1 : Int32} {x2 : Int32} {x3 : Int32} {x4 : Int32} {x5 : Int32} {x6 : Int32} {x7 : Int32} {x8 : Int64} {h : ia_H} (g : gd_ w h) (oc : OCw w) (I : INV (vw h)) : ∃ r h1 h2, f_I_old x1 x2 x3 x4 x5 x6 x7 x8 h = some (r, h1) ∧ f_M_old x1 x2 x3 x4 x5 x6 x7 x8 h1 = some (r, h2) ∧ INV (vw h2) := join2 (fun _ => qf_I_old rfl rfl rfl rfl rfl rfl rfl rfl rfl) (fun _ => qf_M_old rfl rfl rfl rfl rfl rfl rfl rfl rfl) (keeps_O (asks_keeps p_old)) g oc I
theorem j_thaw {w : ia_O0} {x1 : Int32} {x2 : Int32} {x3 : Int32} {x4 : Int32} {x5 : Int32} {x6 : Int32} {x7 : Int32} {h : ia_H} (g : gd_ w h) (oc : OCw w) (I : INV (vw h)) : ∃ r h1 h2, f_I_thaw x1 x2 x3 x4 x5 x6 x7 h = some (r, h1) ∧ f_M_thaw x1 x2 x3 x4 x5 x6 x7 h1 = some (r, h2) ∧ INV (vw h2) := join2 (fun _ => qf_I_thaw rfl rfl rfl rfl rfl rfl rfl rfl) (fun _ => qf_M_thaw rfl rfl rfl rfl rfl rfl rfl rfl) (keeps_O (asks_keeps p_thaw)) g oc I
theorem j_gulls {w : ia_O0} {x1 : Int32} {x2 : Int32} {x3 : Int32} {x4 : Int32} {h : ia_H} (g : gd_ w h) (oc : OCw w) (I : INV (vw h)) : ∃ r h1 h2, f_I_gulls x1 x2 x3 x4 h = some (r, h1) ∧ f_M_gulls x1 x2 x3 x4 h1 = some (r, h2) ∧ INV (vw h2) := join2 (fun _ => qf_I_gulls rfl rfl rfl rfl rfl) (fun _ => qf_M_gulls rfl rfl rfl rfl rfl) (keeps_O (asks_keeps p_gulls)) g oc I
theorem j_sawn {w : ia_O0} {x1 : Int32} {x2 : Int32} {x3 : Int32} {x4 : Int32} {x5 : Int32} {x6 : Int32} {x7 : Int32} {h : ia_H} (g : gd_ w h) (oc : OCw w) (I : INV (vw h)) : ∃ r h1 h2, f_I_sawn x1 x2 x3 x4 x5 x6 x7 h = some (r, h1) ∧ f_M_sawn x1 x2 x3 x4 x5 x6 x7 h1 = some (r, h2) ∧ INV (vw h2) := join2 (fun _ => qf_I_sawn rfl rfl rfl rfl rfl rfl rfl rfl) (fun _ => qf_M_sawn rfl rfl rfl rfl rfl rfl rfl rfl) (keeps_O (asks_keeps p_sawn)) g oc I
theorem j_meet {w : ia_O0} {x1 : Int32} {x2 : Int32} {x3 : Int32} {x4 : Int32} {x5 : Int32} {x6 : Int32} {x7 : Int32} {x8 : Int32} {x9 : Int32} {h : ia_H} (g : gd_ w h) (oc : OCw w) (I : INV (vw h)) : ∃ r h1 h2, f_I_meet x1 x2 x3 x4 x5 x6 x7 x8 x9 h = some (r, h1) ∧ f_M_meet x1 x2 x3 x4 x5 x6 x7 x8 x9 h1 = some (r, h2) ∧ INV (vw h2) := join2 (fun _ => qf_I_meet rfl rfl rfl rfl rfl rfl rfl rfl rfl rfl) (fun _ => qf_M_meet rfl rfl rfl rfl rfl rfl rfl rfl rfl rfl) (keeps_O (asks_keeps (p_meet i32_r i32_r i32_r))) g oc I
theorem j_winter {w : ia_O0} {x1 : Int32} {x2 : Int32} {x3 : Int32} {x4 : Int32} {x5 : Int32} {x6 : Int32} {x7 : Int32} {h : ia_H} (g : gd_ w h) (oc : OCw w) (I : INV (vw h)) : ∃ r h1 h2, f_I_winter x1 x2 x3 x4 x5 x6 x7 h = some (r, h1) ∧ f_M_winter x1 x2 x3 x4 x5 x6 x7 h1 = some (r, h2) ∧ INV (vw h2) := join2 (fun _ => qf_I_winter rfl rfl rfl rfl rfl rfl rfl rfl) (fun _ => qf_M_winter rfl rfl rfl rfl rfl rfl rfl rfl) (keeps_O (asks_keeps (p_winter i32_r.2))) g oc I
theorem j_fallen {w : ia_O0} {x1 : Int32} {x2 : Int32} {x3 : Int32} {x4 : Int32} {x5 : Int32} {x6 : Int32} {x7 : Int32} {x8 : Int32} {h : ia_H} (g : gd_ w h) (oc : OCw w) (I : INV (vw h)) : ∃ r h1 h2, f_I_fallen x1 x2 x3 x4 x5 x6 x7 x8 h = some (r, h1) ∧ f_M_fallen x1 x2 x3 x4 x5 x6 x7 x8 h1 = some (r, h2) ∧ INV (vw h2) := join2 (fun _ => qf_I_fallen rfl rfl rfl rfl rfl rfl rfl rfl rfl) (fun _ => qf_M_fallen rfl rfl rfl rfl rfl rfl rfl rfl rfl) (keeps_O (asks_keeps p_fallen)) g oc I
theorem j_shopping {w : ia_O0} {x1 : Int32} {x2 : Int32} {x3 : Int32} {x4 : Int32} {x5 : Int32} {x6 : Int32} {h : ia_H} (g : gd_ w h) (oc : OCw w) (I : INV (vw h)) : ∃ r h1 h2, f_I_shopping x1 x2 x3 x4 x5 x6 h = some (r, h1) ∧ f_M_shopping x1 x2 x3 x4 x5 x6 h1 = some (r, h2) ∧ INV (vw h2) := join2 (fun _ => qf_I_shopping rfl rfl rfl rfl rfl rfl rfl) (fun _ => qf_M_shopping rfl rfl rfl rfl rfl rfl rfl) (keeps_O (asks_keeps p_shopping)) g oc I
theorem j_cold {w : ia_O0} {x1 : Int32} {x2 : Int32} {x3 : Int32} {x4 : Int32} {x5 : Int32} {x6 : Int32} {h : ia_H} (g : gd_ w h) (oc : OCw w) (I : INV (vw h)) : ∃ r h1 h2, f_I_cold x1 x2 x3 x4 x5 x6 h = some (r, h1) ∧ f_M_cold x1 x2 x3 x4 x5 x6 h1 = some (r, h2) ∧ INV (vw h2) := join2 (fun _ => qf_I_cold rfl rfl rfl rfl rfl rfl rfl) (fun _ => qf_M_cold rfl rfl rfl rfl rfl rfl rfl) (keeps_O (asks_keeps p_cold)) g oc I
theorem j_lacks {w : ia_O0} {x1 : Int32} {x2 : Int32} {x3 : Int32} {x4 : Int32} {x5 : Int32} {x6 : Int32} {x7 : Int32} {x8 : Int32} {h : ia_H} (g : gd_ w h) (oc : OCw w) (I : INV (vw h)) : ∃ r h1 h2, f_I_lacks x1 x2 x3 x4 x5 x6 x7 x8 h = some (r, h1) ∧ f_M_lacks x1 x2 x3 x4 x5 x6 x7 x8 h1 = some (r, h2) ∧ INV (vw h2) := join2 (fun _ => qf_I_lacks rfl rfl rfl rfl rfl rfl rfl rfl rfl) (fun _ => qf_M_lacks rfl rfl rfl rfl rfl rfl rfl rfl rfl) (keeps_O (asks_keeps p_lacks)) g oc I
theorem j_needs {w : ia_O0} {x1 : Int32} {x2 : Int32} {x3 : Int32} {x4 : Int32} {x5 : Int32} {x6 : Int32} {x7 : Int32} {h : ia_H} (g : gd_ w h) (oc : OCw w) (I : INV (vw h)) : ∃ r h1 h2, f_I_needs x1 x2 x3 x4 x5 x6 x7 h = some (r, h1) ∧ f_M_needs x1 x2 x3 x4 x5 x6 x7 h1 = some (r, h2) ∧ INV (vw h2) := join3 (fun _ => qf_I_needs rfl rfl rfl rfl rfl rfl rfl rfl) (fun _ => qf_M_needs rfl rfl rfl rfl rfl rfl rfl rfl) (keeps_O (asks_keeps p_needs)) g oc I
theorem j_spread {w : ia_O0} {x1 : Int32} {x2 : Int32} {x3 : Int32} {x4 : Int32} {h : ia_H} (g : gd_ w h) (oc : OCw w) (I : INV (vw h)) : ∃ r h1 h2, f_I_spread x1 x2 x3 x4 h = some (r, h1) ∧ f_M_spread x1 x2 x3 x4 h1 = some (r, h2) ∧ INV (vw h2) := join2 (fun _ => qf_I_spread rfl rfl rfl rfl rfl) (fun _ => qf_M_spread rfl rfl rfl rfl rfl) (keeps_O (asks_keeps p_spread)) g oc I
theorem j_count {x1 : Int32} {h : ia_H} (I : INV (vw h)) : ∃ r, f_I_count x1 h = some r ∧ f_M_count x1 h = some r := join1 (fun _ => qf_I_count rfl rfl) (fun _ => qf_M_count rfl rfl) p_count I
theorem j_image {w : ia_O0} {x1 : Int32} {h : ia_H} (g : gd_ w h) (oc : OCw w) (I : INV (vw h)) : ∃ r h1 h2, f_I_image x1 h = some (r, h1) ∧ f_M_image x1 h1 = some (r, h2) ∧ INV (vw h2) := join2 (fun _ => qf_I_image rfl rfl) (fun _ => qf_M_image rfl rfl) (keeps_O p_image) g oc I
theorem j_again {w : ia_O0} {x1 : Int32} {h : ia_H} (g : gd_ w h) (oc : OCw w) (I : INV (vw h)) : ∃ r h1 h2, f_I_again x1 h = some (r, h1) ∧ f_M_again x1 h1 = some (r, h2) ∧ INV (vw h2) := join2 (fun _ => qf_I_again rfl rfl) (fun _ => qf_M_again rfl rfl) (keeps_O p_again) g oc I
