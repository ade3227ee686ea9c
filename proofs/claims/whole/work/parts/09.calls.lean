/-! calls -/
section Ie
variable {p : Program} {l : Launch} {e : Env} {R : Room} {s : State} {m : MethodId} {args : Array Value} {below : List Frame} {meth : Method} {co : Code} {g : ia_G} {n0 w0 : Nat} {Q : State → Prop} {c nL : Nat} {ini : Bool} {cc : ByteArray} {pc : Nat} {h : ia_H} {H : Heap} {locs : List Loc} {cells slots : Nat} {ls : Array Slot}
theorem ia_W_sz {fr : JFrame} (k : H.size ≤ s.heap.size + cells → W p l e R s m args below meth co H locs cells slots Q fr) : W p l e R s m args below meth co H locs cells slots Q fr := by
  intro T hT X
  refine k ?_ T hT X
  have h := X.same.2.2.1
  rw [← hT]
  exact h
theorem ia_hsz (G : ia_Gd c nL ini cc p s m args meth co g n0) (hP : va_P (ia_D g) ia_cl (ia_w g h) H) (hS : va_S (ia_A g) s.heap H locs) (hn : n0 ≤ ia_n h) (hle : H.size ≤ s.heap.size + (ia_n h - n0)) : H.size = ia_z g + ia_n h := by
  have hs := G.2.2.2.2.2.2.2.2.2
  have h1 := hS.1
  rcases Nat.eq_zero_or_pos (ia_n h) with q | q
  · omega
  · have hw := ia_w_at (g := g) (h := h) (a := 64 + (ia_n h - 1)) (by omega) (by omega)
    have h2 := (hP _ _ hw).lt
    simp only at h2
    omega
theorem ia_Rep_of (G : ia_Gd c nL ini cc p s m args meth co g n0) (hX : ia_ex g s) (hP : va_P (ia_D g) ia_cl (ia_w g h) H) (hk : ia_hk g h) (hS : va_S (ia_A g) s.heap H locs) (hsz : H.size = ia_z g + ia_n h) {U : State} (hU : U.heap = H) (hW : s.WarmedH U.vm) : ia_Rep g h U := by
  have hq : ∀ q : Nat, q < s.heap.size → ¬ ia_A g q → U.heap[q]? = s.heap[q]? := fun q h1 h2 => by rw [hU]; exact hS.2.1 q h1 h2
  refine ⟨by rw [hU]; exact hP, hk, va_K.moved hW.alike G.2.2.2.2.2.2.1, fun a ha => ?_, by rw [hU]; exact hsz, ia_ex_move hW hq hX⟩
  rcases G.2.2.2.2.2.2.2.1 a ha with q | ⟨q1, q2, q3, q4⟩
  · exact Or.inl q
  · exact Or.inr ⟨q1, q2, (q3.moved hW.alike).kept hq, q4⟩
theorem ia_blind {as : List ia_V} : FrameBlind (va_Pc (as.map (ia_rv g)) (ia_Rep g h)) := by
  intro a U fr mk q
  obtain ⟨q0, hP, hk, hK, hO, hz, hX⟩ := q
  refine ⟨q0, hP, hk, va_K.moved (u := U) (U := U.calling fr mk a) (Vm.Alike.refl U.vm) hK, fun b hb => ?_, hz, ia_ex_move (s := U) (U := U.calling fr mk a) (State.WarmedH.refl U) (fun _ _ _ => rfl) hX⟩
  rcases hO b hb with r | ⟨q1, q2, q3, q4⟩
  · exact Or.inl r
  · exact Or.inr ⟨q1, q2, va_T.moved (u := U) (U := U.calling fr mk a) (Vm.Alike.refl U.vm) q3, q4⟩
/-- behind a call -/
theorem ia_after {mc ms : Nat} {st0 rest : List Value} {a : Array Value} {r : Option ia_V} {h1 : ia_H} (hr : va_Run p l e R s m args below meth co H locs cells slots mc ms (F0 m pc ls st0) rest (ia_Q g r h1 a) (ia_A g)) (hS : va_S (ia_A g) s.heap H locs)
    (kk : ∀ (H1 : Heap) (locs1 : List Loc), va_P (ia_D g) ia_cl (ia_w g h1) H1 → ia_hk g h1 → va_S (ia_A g) s.heap H1 locs1 → W p l e R s m args below meth co H1 locs1 (cells + mc) (slots + ms) Q (F0 m (pc + 3) ls ((r.map (ia_rv g)).toList ++ rest))) : W p l e R s m args below meth co H locs cells slots Q (F0 m pc ls st0) := by
  intro T hT X
  obtain ⟨v, st₀, t, T', L, h0, X', hL, e1, e2, ⟨hv, hP, hk, hF⟩, st⟩ := hr T hT X
  cases hv
  have hz := hF.1
  have hkp := hF.2
  rw [h0] at hz hkp
  obtain ⟨t2, a1, b1⟩ := kk T'.heap (locs ++ L) (by rw [e1]; exact hP) hk ⟨Nat.le_trans hS.1 (by rw [e1]; exact hz), fun q h1 h2 => by rw [e1, hkp q (Nat.lt_of_lt_of_le h1 hS.1) h2]; exact hS.2.1 q h1 h2, fun q hq => by
      rcases List.mem_append.mp hq with h | h
      · exact hS.2.2 q h
      · exact hL q h⟩ T' rfl X'
  exact ⟨t2, st t2 a1, b1⟩
end Ie
/-- what a caller must know of a method: 0 static, 1 of an object, 2 makes an object -/
def ia_mkn (M : ia_M) (kd n : Nat) : Prop := Cond.code M.1 M.2.1 M.2.2.1 M.2.2.2.1 ∈ ia_tb ∧ Cond.initialized M.1.cls ∈ ia_tb ∧ (M.1.cls ≠ "java/lang/invoke/MethodHandle" ∧ M.1.cls ≠ "java/lang/invoke/VarHandle" ∧ (parseMethodDescriptor M.1.desc).map (fun d => d.parameters.length) = some n) ∧ M.2.2.1 ≤ 45 ∧ match kd with
  | 0 => Cond.static M.1 ∈ ia_tb
  | 1 => Cond.instanceMethod M.1 ∈ ia_tb ∧ Cond.selects M.1.cls M.1 M.1 ∈ ia_tb
  | _ => Cond.instanceMethod M.1 ∈ ia_tb ∧ M.1.name = "<init>" ∧ M.2.2.2.1 = none
theorem ia_goodT {w : Cond} (h : w ∈ ia_tb) : w ∈ ia_tb ∧ ((w.onTables && w.keeps) = true ∨ ∃ ty, w = .arrayClass ty) := ⟨h, good_of_word (List.mem_filter.mp h).2⟩
theorem ia_goodW {M : ia_M} (h : Cond.code M.1 M.2.1 M.2.2.1 M.2.2.2.1 ∈ ia_tb) : GoodIn ia_tb (ia_ws M) := by
  intro w hw
  rcases List.mem_cons.mp hw with rfl | hw
  · exact ia_goodT h
  · exact ia_goodT hw
/-- a call's link: 0 to 2 by methodLink, 3 to 5 by a nest mate's -/
def ia_lnk (c idx : Nat) (y : MethodName) (nest : Bool) : Prop := match nest with
  | false => Cond.methodLink (ia_O c) idx y ∈ ia_tb
  | true => ∃ host, Cond.methodLinkNest (ia_O c) idx y host ∈ ia_nest
theorem ia_st_map (g : ia_G) (as st : List ia_V) : (as.reverse ++ st).map (ia_rv g) = (as.map (ia_rv g)).reverse ++ st.map (ia_rv g) := by simp
/-- the words on the stack below the arguments -/
def ia_wd (st : List ia_V) : Nat := match st with
  | [] => 0
  | .inr (.inl _) :: t => 2 + ia_wd t
  | _ :: t => 1 + ia_wd t
theorem ia_wd_eq (g : ia_G) : ∀ st : List ia_V, ((st.map (ia_rv g)).map fun v => v.category).sum = ia_wd st
  | [] => rfl
  | .inl x :: t => by simp only [List.map_cons, List.sum_cons, ia_wd_eq g t, ia_cat]; rfl
  | .inr (.inl x) :: t => by simp only [List.map_cons, List.sum_cons, ia_wd_eq g t, ia_cat]; rfl
  | .inr (.inr x) :: t => by simp only [List.map_cons, List.sum_cons, ia_wd_eq g t, ia_cat]; rfl
theorem ia_callS {d : Nat} {M M' : ia_M} {N1 W1 : Nat} {K : ia_K} {pc idx n : Nat} {nest : Bool} {lv : ia_L} {st as : List ia_V} {h h1 : ia_H} {r : Option ia_V} (hK : ia_isK (d + 1) M N1 W1 K) (hm : ia_mkn M' 0 n) (hl : ia_lnk M.2.2.2.2.1 idx M'.1 nest) (hd : decode M.2.1 pc = .ok (.invokestatic idx, 3)) (hn : as.length = n) (hw : ia_wd st ≤ 8) (hev : ia_Ev d M' as h r h1) (hcap : (ia_n h1 = ia_n h ∧ ia_m h1 = ia_m h) ∨ (ia_n h1 ≤ N1 ∧ ia_m h1 ≤ W1))
    (kk : K (pc + 3) lv (r.toList ++ st) h1) : K pc lv (as.reverse ++ st) h := by
  obtain ⟨p, l, e, R, s, m, args, below, meth, co, g, n0, w0, Q, rfl, G, hX, hR1, hR2, hR3, hR4⟩ := hK
  intro H locs ls hl' hnn hP hk hS
  obtain ⟨hln, hn0, hw0, hc1, hc2⟩ := hnn
  obtain ⟨m1, m2, m3, m4, m5⟩ := hm
  refine ia_W_sz fun hle => ?_
  have hsz := ia_hsz G hP hS hn0 hle
  have hmet := hev.2.2 l g
  have hb1 := hev.1
  have hb2 := hev.2.1
  have hcap2 : ia_n h1 - n0 ≤ R.cells ∧ ia_m h1 - w0 ≤ R.slots := by
    rcases hcap with ⟨q1, q2⟩ | ⟨q1, q2⟩
    · rw [q1, q2]; exact ⟨hc1, hc2⟩
    · constructor <;> omega
  have hroom : (ia_rm d (ia_n h1 - ia_n h) (ia_m h1 - ia_m h)).frames + 1 ≤ R.frames ∧ 8 + (M'.2.2.1 + 11) + (ia_rm d (ia_n h1 - ia_n h) (ia_m h1 - ia_m h)).locals ≤ R.locals := by
    simp only [ia_rm]
    omega
  have hpre : PreS s H (va_Pc (as.map (ia_rv g)) (ia_Rep g h)) (as.map (ia_rv g)) := ⟨ia_blind, fun U hU hW => ⟨rfl, ia_Rep_of G hX hP hk hS hsz hU hW⟩⟩
  have hstk : (F0 m pc ls ((as.reverse ++ st).map (ia_rv g))).stack = (as.map (ia_rv g)).reverse ++ st.map (ia_rv g) := ia_st_map g as st
  have hrun : va_Run p l e R s m args below meth co H locs (ia_n h - n0) (ia_m h - w0) (ia_n h1 - ia_n h) (ia_m h1 - ia_m h) (F0 m pc ls ((as.reverse ++ st).map (ia_rv g))) (st.map (ia_rv g)) (ia_Q g r h1 (as.map (ia_rv g)).toArray) (ia_A g) := by
    cases nest with
    | false => exact va_runS ⟨G.1, G.2.1, G.2.2.1, G.2.2.2.1, G.2.2.2.2.1⟩ hmet (va_cwS n G.2.2.2.2.1 (fun w hw => by
        rcases List.mem_append.mp hw with q | q
        · simp only [List.mem_cons, List.not_mem_nil, or_false] at q
          rcases q with rfl | rfl | rfl
          · exact ia_goodT hl
          · exact ia_goodT m5
          · exact ia_goodT m2
        · exact ia_goodW m1 w q) rfl rfl rfl m3 hroom) hpre rfl (by simpa using hn) hl'.1 hstk (lv_room (by rw [ia_wd_eq]; exact hw)) hd ⟨by omega, by omega⟩
    | true =>
      obtain ⟨host, hh⟩ := hl
      exact va_runSN ⟨G.1, G.2.1, G.2.2.1, G.2.2.2.1, G.2.2.2.2.1⟩ hmet ⟨va_cnB n G.2.2.2.2.1 (ia_goodW m1) rfl rfl rfl (hX.1 _ hh) (G.2.2.2.2.1 _ m2) m3 hroom, G.2.2.2.2.1 _ m5, trivial⟩ hpre rfl (by simpa using hn) hl'.1 hstk (lv_room (by rw [ia_wd_eq]; exact hw)) hd ⟨by omega, by omega⟩
  refine ia_after hrun hS (fun H1 locs1 p1 p2 p3 => ?_)
  have h2 := kk H1 locs1 ls hl' ⟨hln, by omega, by omega, hcap2.1, hcap2.2⟩ p1 p2 p3
  rw [show ia_n h - n0 + (ia_n h1 - ia_n h) = ia_n h1 - n0 by omega, show ia_m h - w0 + (ia_m h1 - ia_m h) = ia_m h1 - w0 by omega]
  cases r <;> exact h2
theorem ia_callV {d : Nat} {M M' : ia_M} {N1 W1 : Nat} {K : ia_K} {pc idx n ci b : Nat} {nest : Bool} {lv : ia_L} {st as : List ia_V} {h h1 : ia_H} {r : Option ia_V} (hK : ia_isK (d + 1) M N1 W1 K) (hm : ia_mkn M' 1 n) (hl : ia_lnk M.2.2.2.2.1 idx M'.1 nest) (hd : decode M.2.1 pc = .ok (.invokevirtual idx, 3)) (hn : as.length = n) (hw : ia_wd st ≤ 8) (hci : ci < 13) (hcl : ia_R ci = M'.1.cls) (hb : (ia_k h b).1 = ci) (hev : ia_Ev d M' (.inr (.inr b) :: as) h r h1) (hcap : (ia_n h1 = ia_n h ∧ ia_m h1 = ia_m h) ∨ (ia_n h1 ≤ N1 ∧ ia_m h1 ≤ W1))
    (kk : K (pc + 3) lv (r.toList ++ st) h1) : K pc lv (as.reverse ++ .inr (.inr b) :: st) h := by
  obtain ⟨p, l, e, R, s, m, args, below, meth, co, g, n0, w0, Q, rfl, G, hX, hR1, hR2, hR3, hR4⟩ := hK
  intro H locs ls hl' hnn hP hk hS
  obtain ⟨hln, hn0, hw0, hc1, hc2⟩ := hnn
  obtain ⟨m1, m2, m3, m4, m5, m6⟩ := hm
  refine ia_W_sz fun hle => ?_
  have hsz := ia_hsz G hP hS hn0 hle
  have hmet := hev.2.2 l g
  have hb1 := hev.1
  have hb2 := hev.2.1
  have hcap2 : ia_n h1 - n0 ≤ R.cells ∧ ia_m h1 - w0 ≤ R.slots := by
    rcases hcap with ⟨q1, q2⟩ | ⟨q1, q2⟩
    · rw [q1, q2]; exact ⟨hc1, hc2⟩
    · constructor <;> omega
  have hroom : (ia_rm d (ia_n h1 - ia_n h) (ia_m h1 - ia_m h)).frames + 1 ≤ R.frames ∧ 8 + (M'.2.2.1 + 11) + (ia_rm d (ia_n h1 - ia_n h) (ia_m h1 - ia_m h)).locals ≤ R.locals := by
    simp only [ia_rm]
    omega
  obtain ⟨h4, h5⟩ := ia_new_of (a := b) G.2.2.2.2.2.2.2.1 hk (by omega) (by omega)
  have hrb := ia_rv_new (g := g) h4
  have hwb := ia_w_at (g := g) h4 h5
  rw [ia_en_ob hb hci] at hwb
  have hpre : PreV s H M'.1.cls (ia_z g + (b - 64)) (va_Pc ((.inr (.inr b) :: as).map (ia_rv g)) (ia_Rep g h)) (as.map (ia_rv g)) := by
    refine ⟨ia_blind, ?_, fun U hU hW => ⟨by rw [List.map_cons, hrb], ia_Rep_of G hX hP hk hS hsz hU hW⟩⟩
    rw [← hcl]
    exact va_recv G.2.2.2.2.2.2.1 hP (ia_cl_at hci) hwb
  have hstk : (F0 m pc ls ((as.reverse ++ .inr (.inr b) :: st).map (ia_rv g))).stack = (as.map (ia_rv g)).reverse ++ .ref (ia_z g + (b - 64)) :: st.map (ia_rv g) := by
    rw [← hrb]
    exact ia_st_map g as (.inr (.inr b) :: st)
  have hrun : va_Run p l e R s m args below meth co H locs (ia_n h - n0) (ia_m h - w0) (ia_n h1 - ia_n h) (ia_m h1 - ia_m h) (F0 m pc ls ((as.reverse ++ .inr (.inr b) :: st).map (ia_rv g))) (st.map (ia_rv g)) (ia_Q g r h1 (Value.ref (ia_z g + (b - 64)) :: as.map (ia_rv g)).toArray) (ia_A g) := by
    cases nest with
    | false => exact va_runV ⟨G.1, G.2.1, G.2.2.1, G.2.2.2.1, G.2.2.2.2.1⟩ hmet (cwV n G.2.2.2.2.1 (fun w hw => by
        rcases List.mem_append.mp hw with q | q
        · simp only [List.mem_cons, List.not_mem_nil, or_false] at q
          rcases q with rfl | rfl | rfl | rfl
          · exact ia_goodT hl
          · exact ia_goodT m5
          · exact ia_goodT m6
          · exact ia_goodT m2
        · exact ia_goodW m1 w q) rfl rfl rfl ⟨rfl, m3⟩ hroom) hpre rfl (by simpa using hn) hl'.1 hstk (lv_room (by rw [ia_wd_eq]; exact hw)) hd ⟨by omega, by omega⟩
    | true =>
      obtain ⟨host, hh⟩ := hl
      exact va_runVN ⟨G.1, G.2.1, G.2.2.1, G.2.2.2.1, G.2.2.2.2.1⟩ hmet ⟨va_cnB n G.2.2.2.2.1 (ia_goodW m1) rfl rfl rfl (hX.1 _ hh) (G.2.2.2.2.1 _ m2) m3 hroom, G.2.2.2.2.1 _ m5, G.2.2.2.2.1 _ m6⟩ hpre rfl (by simpa using hn) hl'.1 hstk (lv_room (by rw [ia_wd_eq]; exact hw)) hd ⟨by omega, by omega⟩
  refine ia_after hrun hS (fun H1 locs1 p1 p2 p3 => ?_)
  have h2 := kk H1 locs1 ls hl' ⟨hln, by omega, by omega, hcap2.1, hcap2.2⟩ p1 p2 p3
  rw [show ia_n h - n0 + (ia_n h1 - ia_n h) = ia_n h1 - n0 by omega, show ia_m h - w0 + (ia_m h1 - ia_m h) = ia_m h1 - w0 by omega]
  cases r <;> exact h2
