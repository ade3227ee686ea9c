theorem ck_Wa_isCutBy_0 : ia_cks 11 8 false prog_12_method_23_code 0 [(.aload_n 0, 0, 0, 0, 0), (.iload_n 2, 0, 0, 0, 0), (.iload_n 3, 0, 0, 0, 0), (.iload 4, 0, 0, 0, 0)] = true := by decide +kernel
theorem ck_Wa_isCutBy_8 : ia_cks 11 8 false prog_12_method_23_code 8 [(.ifCond .ne 5, 0, 0, 0, 0)] = true := by decide +kernel
theorem ck_Wa_isCutBy_13 : ia_cks 11 8 false prog_12_method_23_code 13 [(.iload_n 1, 0, 0, 0, 0), (.ifCond .gt 5, 0, 0, 0, 0)] = true := by decide +kernel
theorem ck_Wa_isCutBy_19 : ia_cks 11 8 false prog_12_method_23_code 19 [(.aload_n 0, 0, 0, 0, 0)] = true := by decide +kernel
theorem ck_Wa_isCutBy_23 : ia_cks 11 8 false prog_12_method_23_code 23 [(.iload_n 3, 0, 0, 0, 0)] = true := by decide +kernel
theorem ck_Wa_isCutBy_30 : ia_cks 11 8 false prog_12_method_23_code 30 [(.lxor, 0, 0, 0, 0), (.land, 0, 0, 0, 0), (.iload 4, 0, 0, 0, 0)] = true := by decide +kernel
theorem ck_Wa_isCutBy_40 : ia_cks 11 8 false prog_12_method_23_code 40 [(.lxor, 0, 0, 0, 0), (.land, 0, 0, 0, 0), (.lstore 5, 0, 0, 0, 0), (.iconst 0, 0, 0, 0, 0), (.istore 7, 0, 0, 0, 0)] = true := by decide +kernel
theorem ck_Wa_isCutBy_47 : ia_cks 11 8 false prog_12_method_23_code 47 [(.iload 7, 0, 0, 0, 0), (.aload_n 0, 0, 0, 0, 0), (.getfield 29, 11, 4, 2, 0)] = true := by decide +kernel
theorem ck_Wa_isCutBy_56 : ia_cks 11 8 false prog_12_method_23_code 56 [(.if_icmp .ge 35, 0, 0, 0, 0)] = true := by decide +kernel
theorem ck_Wa_isCutBy_59 : ia_cks 11 8 false prog_12_method_23_code 59 [(.lload 5, 0, 0, 0, 0), (.iload 7, 0, 0, 0, 0)] = true := by decide +kernel
theorem ck_Wa_isCutBy_66 : ia_cks 11 8 false prog_12_method_23_code 66 [(.ifCond .eq 19, 0, 0, 0, 0)] = true := by decide +kernel
theorem ck_Wa_isCutBy_85 : ia_cks 11 8 false prog_12_method_23_code 85 [(.iinc 7 1, 0, 0, 0, 0), (.goto (-41), 0, 0, 0, 0)] = true := by decide +kernel
theorem ck_Wa_isCutBy_69 : ia_cks 11 8 false prog_12_method_23_code 69 [(.aload_n 0, 0, 0, 0, 0), (.iload 7, 0, 0, 0, 0), (.iload_n 1, 0, 0, 0, 0), (.iload_n 2, 0, 0, 0, 0), (.iload_n 3, 0, 0, 0, 0), (.iload 4, 0, 0, 0, 0)] = true := by decide +kernel
theorem ck_Wa_isCutBy_80 : ia_cks 11 8 false prog_12_method_23_code 80 [(.ifCond .eq 5, 0, 0, 0, 0)] = true := by decide +kernel
theorem ck_Wa_isCutBy_83 : ia_cks 11 8 false prog_12_method_23_code 83 [(.iconst 1, 0, 0, 0, 0)] = true := by decide +kernel
theorem ck_Wa_isCutBy_91 : ia_cks 11 8 false prog_12_method_23_code 91 [(.iconst 0, 0, 0, 0, 0)] = true := by decide +kernel
theorem ck_Wa_isCutBy_17 : ia_cks 11 8 false prog_12_method_23_code 17 [(.iconst 0, 0, 0, 0, 0)] = true := by decide +kernel
theorem ck_Wa_isCutBy_11 : ia_cks 11 8 false prog_12_method_23_code 11 [(.iconst 1, 0, 0, 0, 0)] = true := by decide +kernel
theorem dc_Wa_isCutBy_5 : decode prog_12_method_23_code 5 = .ok (.invokevirtual 73, 3) := by decide +kernel
theorem dc_Wa_isCutBy_20 : decode prog_12_method_23_code 20 = .ok (.invokevirtual 187, 3) := by decide +kernel
theorem dc_Wa_isCutBy_24 : decode prog_12_method_23_code 24 = .ok (.invokestatic 142, 3) := by decide +kernel
theorem dc_Wa_isCutBy_27 : decode prog_12_method_23_code 27 = .ok (.ldc2_w 150, 3) := by decide +kernel
theorem dc_Wa_isCutBy_34 : decode prog_12_method_23_code 34 = .ok (.invokestatic 142, 3) := by decide +kernel
theorem dc_Wa_isCutBy_37 : decode prog_12_method_23_code 37 = .ok (.ldc2_w 150, 3) := by decide +kernel
theorem dc_Wa_isCutBy_53 : decode prog_12_method_23_code 53 = .ok (.invokevirtual 41, 3) := by decide +kernel
theorem dc_Wa_isCutBy_63 : decode prog_12_method_23_code 63 = .ok (.invokestatic 146, 3) := by decide +kernel
theorem dc_Wa_isCutBy_77 : decode prog_12_method_23_code 77 = .ok (.invokevirtual 195, 3) := by decide +kernel
theorem dc_Wa_isCutBy_84 : decode prog_12_method_23_code 84 = .ok (.ireturn, 1) := by decide +kernel
theorem dc_Wa_isCutBy_92 : decode prog_12_method_23_code 92 = .ok (.ireturn, 1) := by decide +kernel
theorem dc_Wa_isCutBy_18 : decode prog_12_method_23_code 18 = .ok (.ireturn, 1) := by decide +kernel
theorem dc_Wa_isCutBy_12 : decode prog_12_method_23_code 12 = .ok (.ireturn, 1) := by decide +kernel
def l_Wa_isCutBy_47 (rc : Int32 → Int32 → Int32 → Int32 → ia_H → Option (Int32 × ia_H)) (x1 : Int32) (x2 : Int32) (x3 : Int32) (x4 : Int32) (k83 : ia_H → Option (Int32 × ia_H)) (k91 : ia_H → Option (Int32 × ia_H)) (n : Nat) (y5 : Int64) (x7 : Int32) (h : ia_H) : Option (Int32 × ia_H) := match n with
  | 0 => none
  | n + 1 => (f_La_cells (ia_r h 311 4) h).bind fun v5 => (if v5 ≤ x7 then (k91 h) else ((f_I_hasBit y5 x7 h).bind fun v6 => (if v6 = 0 then (l_Wa_isCutBy_47 rc x1 x2 x3 x4 k83 k91 n y5 (x7 + 1) h) else ((f_Wa_isCutWithout rc x7 x1 x2 x3 x4 h).bind fun v7 => (if v7.1 = 0 then (l_Wa_isCutBy_47 rc x1 x2 x3 x4 k83 k91 n y5 (x7 + 1) v7.2) else (k83 v7.2))))))
theorem tl_Wa_isCutBy_47 {w : ia_O0} {d N1 W1 : Nat} {n2 : Nat} {rc : Int32 → Int32 → Int32 → Int32 → ia_H → Option (Int32 × ia_H)} (hrc : ∀ (z0 : Int32) (z1 : Int32) (z2 : Int32) (z3 : Int32)  (h : ia_H) (q : Int32 × ia_H), gd_ w h → rc z0 z1 z2 z3 h = some q → gd_ w q.2 ∧ ∀ d, ia_Ev (d + n2 + 4) mm_Wa_isCutBy [.inr (.inr 311), .inl z0, .inl z1, .inl z2, .inl z3] h (some (.inl q.1)) q.2) {K : ia_K} (hK : ia_isK (d + n2 + 6) mm_Wa_isCutBy N1 W1 K) {x1 : Int32} {x2 : Int32} {x3 : Int32} {x4 : Int32} {r : Int32} {h1 : ia_H} (hret : ∀ (pc : Nat) (lv : ia_L), ia_ret mm_Wa_isCutBy pc (some (.inl r)) → K pc lv ((some (.inl r)) : Option ia_V).toList h1) {k83 : ia_H → Option (Int32 × ia_H)} {k91 : ia_H → Option (Int32 × ia_H)} (hk83 : ∀ (h : ia_H), gd_ w h → k83 h = some (r, h1) → K 83 [none, none, none, none, none, none, none, none] [] h) (hk91 : ∀ (h : ia_H), gd_ w h → k91 h = some (r, h1) → K 91 [none, none, none, none, none, none, none, none] [] h) : ∀ (n : Nat) (y5 : Int64) (x7 : Int32) (h : ia_H), gd_ w h → l_Wa_isCutBy_47 rc x1 x2 x3 x4 k83 k91 n y5 x7 h = some (r, h1) → K 47 [some (.inr (.inr 311)), some (.inl x1), some (.inl x2), some (.inl x3), some (.inl x4), some (.inr (.inl y5)), none, some (.inl x7)] [] h := by
  intro n
  induction n with
  | zero =>
    intro y5 x7 h hg hm
    cases (show (none : Option (Int32 × ia_H)) = some _ from hm)
  | succ n ih =>
    intro y5 x7 h hg hm
    rw [l_Wa_isCutBy_47] at hm
    refine ia_go hK ck_Wa_isCutBy_47 ⟨gk_11 hg pk_311, ?_⟩
    show K 53 [some (.inr (.inr 311)), some (.inl x1), some (.inl x2), some (.inl x3), some (.inl x4), some (.inr (.inl y5)), none, some (.inl x7)] [.inr (.inr (ia_r h 311 4)), .inl x7] h
    obtain ⟨v5, hv5, hm⟩ := ia_bnd hm
    have ev5 := t_La_cells (d + n2 + 5) hg (gm_11_4 hg pk_311) hv5
    refine ia_cV hK mk_La_cells lk_11_41 dc_Wa_isCutBy_53 (ia_r h 311 4) [] [.inl x7] rfl rfl (Nat.le_of_ble_eq_true rfl) (by decide) rfl (gk_3 hg (gm_11_4 hg pk_311)) ev5 ⟨rfl, rfl⟩ ?_
    show K 56 [some (.inr (.inr 311)), some (.inl x1), some (.inl x2), some (.inl x3), some (.inl x4), some (.inr (.inl y5)), none, some (.inl x7)] [.inl v5, .inl x7] h
    refine ia_go hK ck_Wa_isCutBy_56 ⟨fun c => ?_, fun c => ?_⟩
    · replace hm := ia_ifp hm c
      show K 91 [some (.inr (.inr 311)), some (.inl x1), some (.inl x2), some (.inl x3), some (.inl x4), some (.inr (.inl y5)), none, some (.inl x7)] [] h
      refine ia_fg hK (lv' := [none, none, none, none, none, none, none, none]) trivial ?_
      exact hk91 h hg hm
    · replace hm := ia_ifn hm c
      show K 59 [some (.inr (.inr 311)), some (.inl x1), some (.inl x2), some (.inl x3), some (.inl x4), some (.inr (.inl y5)), none, some (.inl x7)] [] h
      refine ia_go hK ck_Wa_isCutBy_59 ?_
      show K 63 [some (.inr (.inr 311)), some (.inl x1), some (.inl x2), some (.inl x3), some (.inl x4), some (.inr (.inl y5)), none, some (.inl x7)] [.inl x7, .inr (.inl y5)] h
      obtain ⟨v6, hv6, hm⟩ := ia_bnd hm
      have ev6 := t_I_hasBit (d + n2 + 5) hg hv6
      refine ia_cS hK mk_I_hasBit lk_11_146 dc_Wa_isCutBy_63 [.inr (.inl y5), .inl x7] [] rfl rfl (Nat.le_of_ble_eq_true rfl) ev6 ⟨rfl, rfl⟩ ?_
      show K 66 [some (.inr (.inr 311)), some (.inl x1), some (.inl x2), some (.inl x3), some (.inl x4), some (.inr (.inl y5)), none, some (.inl x7)] [.inl v6] h
      refine ia_go hK ck_Wa_isCutBy_66 ⟨fun c => ?_, fun c => ?_⟩
      · replace hm := ia_ifp hm c
        show K 85 [some (.inr (.inr 311)), some (.inl x1), some (.inl x2), some (.inl x3), some (.inl x4), some (.inr (.inl y5)), none, some (.inl x7)] [] h
        refine ia_go hK ck_Wa_isCutBy_85 ?_
        show K 47 [some (.inr (.inr 311)), some (.inl x1), some (.inl x2), some (.inl x3), some (.inl x4), some (.inr (.inl y5)), none, some (.inl (x7 + 1))] [] h
        exact ih y5 (x7 + 1) h hg hm
      · replace hm := ia_ifn hm c
        show K 69 [some (.inr (.inr 311)), some (.inl x1), some (.inl x2), some (.inl x3), some (.inl x4), some (.inr (.inl y5)), none, some (.inl x7)] [] h
        refine ia_go hK ck_Wa_isCutBy_69 ?_
        show K 77 [some (.inr (.inr 311)), some (.inl x1), some (.inl x2), some (.inl x3), some (.inl x4), some (.inr (.inl y5)), none, some (.inl x7)] [.inl x4, .inl x3, .inl x2, .inl x1, .inl x7, .inr (.inr 311)] h
        obtain ⟨v7, hv7, hm⟩ := ia_bnd hm
        have ev7 := t_Wa_isCutWithout hrc d hg hv7
        have gv7 := g_Wa_isCutWithout hrc hg hv7
        refine ia_cV hK mk_Wa_isCutWithout lk_11_195 dc_Wa_isCutBy_77 311 [.inl x7, .inl x1, .inl x2, .inl x3, .inl x4] [] rfl rfl (Nat.le_of_ble_eq_true rfl) (by decide) rfl (gk_11 hg pk_311) ev7 (gd_nm hg gv7) ?_
        show K 80 [some (.inr (.inr 311)), some (.inl x1), some (.inl x2), some (.inl x3), some (.inl x4), some (.inr (.inl y5)), none, some (.inl x7)] [.inl v7.1] v7.2
        refine ia_go hK ck_Wa_isCutBy_80 ⟨fun c => ?_, fun c => ?_⟩
        · replace hm := ia_ifp hm c
          show K 85 [some (.inr (.inr 311)), some (.inl x1), some (.inl x2), some (.inl x3), some (.inl x4), some (.inr (.inl y5)), none, some (.inl x7)] [] v7.2
          refine ia_go hK ck_Wa_isCutBy_85 ?_
          show K 47 [some (.inr (.inr 311)), some (.inl x1), some (.inl x2), some (.inl x3), some (.inl x4), some (.inr (.inl y5)), none, some (.inl (x7 + 1))] [] v7.2
          exact ih y5 (x7 + 1) v7.2 gv7 hm
        · replace hm := ia_ifn hm c
          show K 83 [some (.inr (.inr 311)), some (.inl x1), some (.inl x2), some (.inl x3), some (.inl x4), some (.inr (.inl y5)), none, some (.inl x7)] [] v7.2
          refine ia_fg hK (lv' := [none, none, none, none, none, none, none, none]) trivial ?_
          exact hk83 v7.2 gv7 hm
theorem gl_Wa_isCutBy_47 {w : ia_O0} {n2 : Nat} {rc : Int32 → Int32 → Int32 → Int32 → ia_H → Option (Int32 × ia_H)} (hrc : ∀ (z0 : Int32) (z1 : Int32) (z2 : Int32) (z3 : Int32)  (h : ia_H) (q : Int32 × ia_H), gd_ w h → rc z0 z1 z2 z3 h = some q → gd_ w q.2 ∧ ∀ d, ia_Ev (d + n2 + 4) mm_Wa_isCutBy [.inr (.inr 311), .inl z0, .inl z1, .inl z2, .inl z3] h (some (.inl q.1)) q.2) {x1 : Int32} {x2 : Int32} {x3 : Int32} {x4 : Int32} {r : Int32} {h1 : ia_H} {k83 : ia_H → Option (Int32 × ia_H)} {k91 : ia_H → Option (Int32 × ia_H)} (hk83 : ∀ (h : ia_H), gd_ w h → k83 h = some (r, h1) → gd_ w h1) (hk91 : ∀ (h : ia_H), gd_ w h → k91 h = some (r, h1) → gd_ w h1) : ∀ (n : Nat) (y5 : Int64) (x7 : Int32) (h : ia_H), gd_ w h → l_Wa_isCutBy_47 rc x1 x2 x3 x4 k83 k91 n y5 x7 h = some (r, h1) → gd_ w h1 := by
  intro n
  induction n with
  | zero =>
    intro y5 x7 h hg hm
    cases (show (none : Option (Int32 × ia_H)) = some _ from hm)
  | succ n ih =>
    intro y5 x7 h hg hm
    rw [l_Wa_isCutBy_47] at hm
    obtain ⟨v5, hv5, hm⟩ := ia_bnd hm
    by_cases c : v5 ≤ x7
    · replace hm := ia_ifp hm c
      exact hk91 h hg hm
    · replace hm := ia_ifn hm c
      obtain ⟨v6, hv6, hm⟩ := ia_bnd hm
      by_cases c : v6 = 0
      · replace hm := ia_ifp hm c
        exact ih y5 (x7 + 1) h hg hm
      · replace hm := ia_ifn hm c
        obtain ⟨v7, hv7, hm⟩ := ia_bnd hm
        have gv7 := g_Wa_isCutWithout hrc hg hv7
        by_cases c : v7.1 = 0
        · replace hm := ia_ifp hm c
          exact ih y5 (x7 + 1) v7.2 gv7 hm
        · replace hm := ia_ifn hm c
          exact hk83 v7.2 gv7 hm
def f_Wa_isCutBy (rc : Int32 → Int32 → Int32 → Int32 → ia_H → Option (Int32 × ia_H)) (x1 : Int32) (x2 : Int32) (x3 : Int32) (x4 : Int32) (h : ia_H) : Option (Int32 × ia_H) := (f_Wa_findShort x2 x3 x4 h).bind fun v1 => (if v1.1 = 0 then (some (1, v1.2)) else (if 0 < x1 then ((f_Wa_pathCells v1.2).bind fun v2 => ((f_I_bit x3 v1.2).bind fun v3 => ((f_I_bit x4 v1.2).bind fun v4 => (l_Wa_isCutBy_47 rc x1 x2 x3 x4 (fun h => some (1, h)) (fun h => some (0, h)) fu_ ((v2 &&& (v3 ^^^ (-1))) &&& (v4 ^^^ (-1))) 0 v1.2)))) else (some (0, v1.2))))
theorem g_Wa_isCutBy {w : ia_O0} {n2 : Nat} {rc : Int32 → Int32 → Int32 → Int32 → ia_H → Option (Int32 × ia_H)} (hrc : ∀ (z0 : Int32) (z1 : Int32) (z2 : Int32) (z3 : Int32)  (h : ia_H) (q : Int32 × ia_H), gd_ w h → rc z0 z1 z2 z3 h = some q → gd_ w q.2 ∧ ∀ d, ia_Ev (d + n2 + 4) mm_Wa_isCutBy [.inr (.inr 311), .inl z0, .inl z1, .inl z2, .inl z3] h (some (.inl q.1)) q.2) {x1 : Int32} {x2 : Int32} {x3 : Int32} {x4 : Int32} {h : ia_H} (hg : gd_ w h) {q : (Int32 × ia_H)} (hm : f_Wa_isCutBy rc x1 x2 x3 x4 h = some q) : gd_ w q.2 := by
  obtain ⟨r, h1⟩ := q
  unfold f_Wa_isCutBy at hm
  obtain ⟨v1, hv1, hm⟩ := ia_bnd hm
  have gv1 := g_Wa_findShort hg hv1
  by_cases c : v1.1 = 0
  · replace hm := ia_ifp hm c
    obtain ⟨rfl, rfl⟩ := Prod.mk.inj (Option.some.inj hm)
    exact gv1
  · replace hm := ia_ifn hm c
    by_cases c : 0 < x1
    · replace hm := ia_ifp hm c
      obtain ⟨v2, hv2, hm⟩ := ia_bnd hm
      obtain ⟨v3, hv3, hm⟩ := ia_bnd hm
      obtain ⟨v4, hv4, hm⟩ := ia_bnd hm
      refine gl_Wa_isCutBy_47 hrc ?_ ?_ fu_ ((v2 &&& (v3 ^^^ (-1))) &&& (v4 ^^^ (-1))) 0 v1.2 gv1 hm
      · intro h hg hm
        obtain ⟨rfl, rfl⟩ := Prod.mk.inj (Option.some.inj hm)
        exact hg
      · intro h hg hm
        obtain ⟨rfl, rfl⟩ := Prod.mk.inj (Option.some.inj hm)
        exact hg
    · replace hm := ia_ifn hm c
      obtain ⟨rfl, rfl⟩ := Prod.mk.inj (Option.some.inj hm)
      exact gv1
theorem t_Wa_isCutBy {w : ia_O0} {n2 : Nat} {rc : Int32 → Int32 → Int32 → Int32 → ia_H → Option (Int32 × ia_H)} (hrc : ∀ (z0 : Int32) (z1 : Int32) (z2 : Int32) (z3 : Int32)  (h : ia_H) (q : Int32 × ia_H), gd_ w h → rc z0 z1 z2 z3 h = some q → gd_ w q.2 ∧ ∀ d, ia_Ev (d + n2 + 4) mm_Wa_isCutBy [.inr (.inr 311), .inl z0, .inl z1, .inl z2, .inl z3] h (some (.inl q.1)) q.2) (d : Nat) {x1 : Int32} {x2 : Int32} {x3 : Int32} {x4 : Int32} {h : ia_H} (hg : gd_ w h) {q : (Int32 × ia_H)} (hm : f_Wa_isCutBy rc x1 x2 x3 x4 h = some q) : ia_Ev (d + n2 + 6) mm_Wa_isCutBy [.inr (.inr 311), .inl x1, .inl x2, .inl x3, .inl x4] h (some (.inl q.1)) q.2 := by
  have gq := g_Wa_isCutBy hrc hg hm
  refine ia_Ev_intro ok_Wa_isCutBy (gd_le hg gq).1 (gd_le hg gq).2 (Nat.le_of_ble_eq_true rfl) (fun K hK hret => ?_)
  obtain ⟨r, h1⟩ := q
  show K 0 [some (.inr (.inr 311)), some (.inl x1), some (.inl x2), some (.inl x3), some (.inl x4), none, none, none] [] h
  unfold f_Wa_isCutBy at hm
  refine ia_go hK ck_Wa_isCutBy_0 ?_
  show K 5 [some (.inr (.inr 311)), some (.inl x1), some (.inl x2), some (.inl x3), some (.inl x4), none, none, none] [.inl x4, .inl x3, .inl x2, .inr (.inr 311)] h
  obtain ⟨v1, hv1, hm⟩ := ia_bnd hm
  have ev1 := t_Wa_findShort (d + n2 + 3) hg hv1
  have gv1 := g_Wa_findShort hg hv1
  refine ia_cV hK mk_Wa_findShort lk_11_73 dc_Wa_isCutBy_5 311 [.inl x2, .inl x3, .inl x4] [] rfl rfl (Nat.le_of_ble_eq_true rfl) (by decide) rfl (gk_11 hg pk_311) ev1 (gd_nm hg gv1) ?_
  show K 8 [some (.inr (.inr 311)), some (.inl x1), some (.inl x2), some (.inl x3), some (.inl x4), none, none, none] [.inl v1.1] v1.2
  refine ia_go hK ck_Wa_isCutBy_8 ⟨fun c => ?_, fun c => ?_⟩
  · replace hm := ia_ifn hm c
    show K 13 [some (.inr (.inr 311)), some (.inl x1), some (.inl x2), some (.inl x3), some (.inl x4), none, none, none] [] v1.2
    refine ia_go hK ck_Wa_isCutBy_13 ⟨fun c => ?_, fun c => ?_⟩
    · replace hm := ia_ifp hm c
      show K 19 [some (.inr (.inr 311)), some (.inl x1), some (.inl x2), some (.inl x3), some (.inl x4), none, none, none] [] v1.2
      refine ia_go hK ck_Wa_isCutBy_19 ?_
      show K 20 [some (.inr (.inr 311)), some (.inl x1), some (.inl x2), some (.inl x3), some (.inl x4), none, none, none] [.inr (.inr 311)] v1.2
      obtain ⟨v2, hv2, hm⟩ := ia_bnd hm
      have ev2 := t_Wa_pathCells (d + n2 + 4) gv1 hv2
      refine ia_cV hK mk_Wa_pathCells lk_11_187 dc_Wa_isCutBy_20 311 [] [] rfl rfl (Nat.le_of_ble_eq_true rfl) (by decide) rfl (gk_11 gv1 pk_311) ev2 ⟨rfl, rfl⟩ ?_
      show K 23 [some (.inr (.inr 311)), some (.inl x1), some (.inl x2), some (.inl x3), some (.inl x4), none, none, none] [.inr (.inl v2)] v1.2
      refine ia_go hK ck_Wa_isCutBy_23 ?_
      show K 24 [some (.inr (.inr 311)), some (.inl x1), some (.inl x2), some (.inl x3), some (.inl x4), none, none, none] [.inl x3, .inr (.inl v2)] v1.2
      obtain ⟨v3, hv3, hm⟩ := ia_bnd hm
      have ev3 := t_I_bit (d + n2 + 5) gv1 hv3
      refine ia_cS hK mk_I_bit lk_11_142 dc_Wa_isCutBy_24 [.inl x3] [.inr (.inl v2)] rfl rfl (Nat.le_of_ble_eq_true rfl) ev3 ⟨rfl, rfl⟩ ?_
      show K 27 [some (.inr (.inr 311)), some (.inl x1), some (.inl x2), some (.inl x3), some (.inl x4), none, none, none] [.inr (.inl v3), .inr (.inl v2)] v1.2
      refine ia_ldc2 hK (v := (-1)) (ia_tb_in (List.mem_of_getElem? (i := 1132) (by decide +kernel)) rfl) dc_Wa_isCutBy_27 ?_
      show K 30 [some (.inr (.inr 311)), some (.inl x1), some (.inl x2), some (.inl x3), some (.inl x4), none, none, none] [.inr (.inl (-1)), .inr (.inl v3), .inr (.inl v2)] v1.2
      refine ia_go hK ck_Wa_isCutBy_30 ?_
      show K 34 [some (.inr (.inr 311)), some (.inl x1), some (.inl x2), some (.inl x3), some (.inl x4), none, none, none] [.inl x4, .inr (.inl (v2 &&& (v3 ^^^ (-1))))] v1.2
      obtain ⟨v4, hv4, hm⟩ := ia_bnd hm
      have ev4 := t_I_bit (d + n2 + 5) gv1 hv4
      refine ia_cS hK mk_I_bit lk_11_142 dc_Wa_isCutBy_34 [.inl x4] [.inr (.inl (v2 &&& (v3 ^^^ (-1))))] rfl rfl (Nat.le_of_ble_eq_true rfl) ev4 ⟨rfl, rfl⟩ ?_
      show K 37 [some (.inr (.inr 311)), some (.inl x1), some (.inl x2), some (.inl x3), some (.inl x4), none, none, none] [.inr (.inl v4), .inr (.inl (v2 &&& (v3 ^^^ (-1))))] v1.2
      refine ia_ldc2 hK (v := (-1)) (ia_tb_in (List.mem_of_getElem? (i := 1132) (by decide +kernel)) rfl) dc_Wa_isCutBy_37 ?_
      show K 40 [some (.inr (.inr 311)), some (.inl x1), some (.inl x2), some (.inl x3), some (.inl x4), none, none, none] [.inr (.inl (-1)), .inr (.inl v4), .inr (.inl (v2 &&& (v3 ^^^ (-1))))] v1.2
      refine ia_go hK ck_Wa_isCutBy_40 ?_
      show K 47 [some (.inr (.inr 311)), some (.inl x1), some (.inl x2), some (.inl x3), some (.inl x4), some (.inr (.inl ((v2 &&& (v3 ^^^ (-1))) &&& (v4 ^^^ (-1))))), none, some (.inl 0)] [] v1.2
      refine tl_Wa_isCutBy_47 hrc hK hret ?_ ?_ fu_ ((v2 &&& (v3 ^^^ (-1))) &&& (v4 ^^^ (-1))) 0 v1.2 gv1 hm
      · intro h hg hm
        refine ia_go hK ck_Wa_isCutBy_83 ?_
        show K 84 [none, none, none, none, none, none, none, none] [.inl 1] h
        obtain ⟨rfl, rfl⟩ := Prod.mk.inj (Option.some.inj hm)
        exact hret 84 _ ⟨Or.inr rfl, dc_Wa_isCutBy_84⟩
      · intro h hg hm
        refine ia_go hK ck_Wa_isCutBy_91 ?_
        show K 92 [none, none, none, none, none, none, none, none] [.inl 0] h
        obtain ⟨rfl, rfl⟩ := Prod.mk.inj (Option.some.inj hm)
        exact hret 92 _ ⟨Or.inl rfl, dc_Wa_isCutBy_92⟩
    · replace hm := ia_ifn hm c
      show K 17 [some (.inr (.inr 311)), some (.inl x1), some (.inl x2), some (.inl x3), some (.inl x4), none, none, none] [] v1.2
      refine ia_go hK ck_Wa_isCutBy_17 ?_
      show K 18 [some (.inr (.inr 311)), some (.inl x1), some (.inl x2), some (.inl x3), some (.inl x4), none, none, none] [.inl 0] v1.2
      obtain ⟨rfl, rfl⟩ := Prod.mk.inj (Option.some.inj hm)
      exact hret 18 _ ⟨Or.inl rfl, dc_Wa_isCutBy_18⟩
  · replace hm := ia_ifp hm c
    show K 11 [some (.inr (.inr 311)), some (.inl x1), some (.inl x2), some (.inl x3), some (.inl x4), none, none, none] [] v1.2
    refine ia_go hK ck_Wa_isCutBy_11 ?_
    show K 12 [some (.inr (.inr 311)), some (.inl x1), some (.inl x2), some (.inl x3), some (.inl x4), none, none, none] [.inl 1] v1.2
    obtain ⟨rfl, rfl⟩ := Prod.mk.inj (Option.some.inj hm)
    exact hret 12 _ ⟨Or.inr rfl, dc_Wa_isCutBy_12⟩
def fr_Wa_isCutBy (n : Nat) (z0 : Int32) (z1 : Int32) (z2 : Int32) (z3 : Int32) (h : ia_H) : Option (Int32 × ia_H) := match n with
  | 0 => none
  | n + 1 => f_Wa_isCutBy (fr_Wa_isCutBy n) z0 z1 z2 z3 h
theorem tr_Wa_isCutBy {w : ia_O0} : ∀ (n : Nat) (z0 : Int32) (z1 : Int32) (z2 : Int32) (z3 : Int32) (h : ia_H) (q : (Int32 × ia_H)), gd_ w h → fr_Wa_isCutBy n z0 z1 z2 z3 h = some q → gd_ w q.2 ∧ ∀ d, ia_Ev (d + 2 * n + 4) mm_Wa_isCutBy [.inr (.inr 311), .inl z0, .inl z1, .inl z2, .inl z3] h (some (.inl q.1)) q.2 := by
  intro n
  induction n with
  | zero =>
    intro z0 z1 z2 z3 h q hg hm
    cases (show (none : Option (Int32 × ia_H)) = some _ from hm)
  | succ n ih =>
    intro z0 z1 z2 z3 h q hg hm
    rw [fr_Wa_isCutBy] at hm
    refine ⟨g_Wa_isCutBy ih hg hm, fun d => ?_⟩
    rw [show d + 2 * (n + 1) + 4 = d + 2 * n + 6 by omega]
    exact t_Wa_isCutBy ih d hg hm
def mm_Wa_fewestCuts : ia_M := (⟨"IceStreet$Ways", "fewestCuts", "(III)I"⟩, prog_12_method_22_code, 5, (some .int), 11, false)
theorem ok_Wa_fewestCuts : ia_mok mm_Wa_fewestCuts := ⟨by decide +kernel, by decide +kernel, by decide +kernel, by decide +kernel⟩
theorem mk_Wa_fewestCuts : ia_mkn mm_Wa_fewestCuts 1 3 := ⟨ia_tb_in (List.mem_of_getElem? (i := 1452) (by decide +kernel)) rfl, ia_tb_in (List.mem_of_getElem? (i := 141) (by decide +kernel)) rfl, by decide +kernel, by decide +kernel, ⟨ia_tb_in (List.mem_of_getElem? (i := 1450) (by decide +kernel)) rfl, ia_tb_in (List.mem_of_getElem? (i := 1451) (by decide +kernel)) rfl⟩⟩
theorem ck_Wa_fewestCuts_0 : ia_cks 11 5 false prog_12_method_22_code 0 [(.iconst 0, 0, 0, 0, 0), (.istore 4, 0, 0, 0, 0)] = true := by decide +kernel
theorem ck_Wa_fewestCuts_3 : ia_cks 11 5 false prog_12_method_22_code 3 [(.iload 4, 0, 0, 0, 0), (.iconst 4, 0, 0, 0, 0), (.if_icmp .gt 24, 0, 0, 0, 0)] = true := by decide +kernel
theorem ck_Wa_fewestCuts_9 : ia_cks 11 5 false prog_12_method_22_code 9 [(.aload_n 0, 0, 0, 0, 0), (.iload 4, 0, 0, 0, 0), (.iload_n 1, 0, 0, 0, 0), (.iload_n 2, 0, 0, 0, 0), (.iload_n 3, 0, 0, 0, 0)] = true := by decide +kernel
theorem ck_Wa_fewestCuts_18 : ia_cks 11 5 false prog_12_method_22_code 18 [(.ifCond .eq 6, 0, 0, 0, 0)] = true := by decide +kernel
theorem ck_Wa_fewestCuts_24 : ia_cks 11 5 false prog_12_method_22_code 24 [(.iinc 4 1, 0, 0, 0, 0), (.goto (-24), 0, 0, 0, 0)] = true := by decide +kernel
theorem ck_Wa_fewestCuts_21 : ia_cks 11 5 false prog_12_method_22_code 21 [(.iload 4, 0, 0, 0, 0)] = true := by decide +kernel
theorem ck_Wa_fewestCuts_30 : ia_cks 11 5 false prog_12_method_22_code 30 [(.iconst (-1), 0, 0, 0, 0)] = true := by decide +kernel
theorem dc_Wa_fewestCuts_15 : decode prog_12_method_22_code 15 = .ok (.invokevirtual 191, 3) := by decide +kernel
theorem dc_Wa_fewestCuts_23 : decode prog_12_method_22_code 23 = .ok (.ireturn, 1) := by decide +kernel
theorem dc_Wa_fewestCuts_31 : decode prog_12_method_22_code 31 = .ok (.ireturn, 1) := by decide +kernel
def l_Wa_fewestCuts_3 (x1 : Int32) (x2 : Int32) (x3 : Int32) (k21 : Int32 → ia_H → Option (Int32 × ia_H)) (k30 : ia_H → Option (Int32 × ia_H)) (n : Nat) (x4 : Int32) (h : ia_H) : Option (Int32 × ia_H) := match n with
  | 0 => none
  | n + 1 => if 4 < x4 then (k30 h) else ((fr_Wa_isCutBy 10 x4 x1 x2 x3 h).bind fun v1 => (if v1.1 = 0 then (l_Wa_fewestCuts_3 x1 x2 x3 k21 k30 n (x4 + 1) v1.2) else (k21 x4 v1.2)))
theorem tl_Wa_fewestCuts_3 {w : ia_O0} {d N1 W1 : Nat} {K : ia_K} (hK : ia_isK (d + 25) mm_Wa_fewestCuts N1 W1 K) {x1 : Int32} {x2 : Int32} {x3 : Int32} {r : Int32} {h1 : ia_H} (hret : ∀ (pc : Nat) (lv : ia_L), ia_ret mm_Wa_fewestCuts pc (some (.inl r)) → K pc lv ((some (.inl r)) : Option ia_V).toList h1) {k21 : Int32 → ia_H → Option (Int32 × ia_H)} {k30 : ia_H → Option (Int32 × ia_H)} (hk21 : ∀ (x4 : Int32) (h : ia_H), gd_ w h → k21 x4 h = some (r, h1) → K 21 [none, none, none, none, some (.inl x4)] [] h) (hk30 : ∀ (h : ia_H), gd_ w h → k30 h = some (r, h1) → K 30 [none, none, none, none, none] [] h) : ∀ (n : Nat) (x4 : Int32) (h : ia_H), gd_ w h → l_Wa_fewestCuts_3 x1 x2 x3 k21 k30 n x4 h = some (r, h1) → K 3 [some (.inr (.inr 311)), some (.inl x1), some (.inl x2), some (.inl x3), some (.inl x4)] [] h := by
  intro n
  induction n with
  | zero =>
    intro x4 h hg hm
    cases (show (none : Option (Int32 × ia_H)) = some _ from hm)
  | succ n ih =>
    intro x4 h hg hm
    rw [l_Wa_fewestCuts_3] at hm
    refine ia_go hK ck_Wa_fewestCuts_3 ⟨fun c => ?_, fun c => ?_⟩
    · replace hm := ia_ifp hm c
      show K 30 [some (.inr (.inr 311)), some (.inl x1), some (.inl x2), some (.inl x3), some (.inl x4)] [] h
      refine ia_fg hK (lv' := [none, none, none, none, none]) trivial ?_
      exact hk30 h hg hm
    · replace hm := ia_ifn hm c
      show K 9 [some (.inr (.inr 311)), some (.inl x1), some (.inl x2), some (.inl x3), some (.inl x4)] [] h
      refine ia_go hK ck_Wa_fewestCuts_9 ?_
      show K 15 [some (.inr (.inr 311)), some (.inl x1), some (.inl x2), some (.inl x3), some (.inl x4)] [.inl x3, .inl x2, .inl x1, .inl x4, .inr (.inr 311)] h
      obtain ⟨v1, hv1, hm⟩ := ia_bnd hm
      have ev1 := (tr_Wa_isCutBy 10 x4 x1 x2 x3 h _ hg hv1).2 (d + 0)
      have gv1 := (tr_Wa_isCutBy 10 x4 x1 x2 x3 h _ hg hv1).1
      refine ia_cV hK mk_Wa_isCutBy lk_11_191 dc_Wa_fewestCuts_15 311 [.inl x4, .inl x1, .inl x2, .inl x3] [] rfl rfl (Nat.le_of_ble_eq_true rfl) (by decide) rfl (gk_11 hg pk_311) ev1 (gd_nm hg gv1) ?_
      show K 18 [some (.inr (.inr 311)), some (.inl x1), some (.inl x2), some (.inl x3), some (.inl x4)] [.inl v1.1] v1.2
      refine ia_go hK ck_Wa_fewestCuts_18 ⟨fun c => ?_, fun c => ?_⟩
      · replace hm := ia_ifp hm c
        show K 24 [some (.inr (.inr 311)), some (.inl x1), some (.inl x2), some (.inl x3), some (.inl x4)] [] v1.2
        refine ia_go hK ck_Wa_fewestCuts_24 ?_
        show K 3 [some (.inr (.inr 311)), some (.inl x1), some (.inl x2), some (.inl x3), some (.inl (x4 + 1))] [] v1.2
        exact ih (x4 + 1) v1.2 gv1 hm
      · replace hm := ia_ifn hm c
        show K 21 [some (.inr (.inr 311)), some (.inl x1), some (.inl x2), some (.inl x3), some (.inl x4)] [] v1.2
        refine ia_fg hK (lv' := [none, none, none, none, some (.inl x4)]) ⟨rfl, trivial⟩ ?_
        exact hk21 x4 v1.2 gv1 hm
theorem gl_Wa_fewestCuts_3 {w : ia_O0} {x1 : Int32} {x2 : Int32} {x3 : Int32} {r : Int32} {h1 : ia_H} {k21 : Int32 → ia_H → Option (Int32 × ia_H)} {k30 : ia_H → Option (Int32 × ia_H)} (hk21 : ∀ (x4 : Int32) (h : ia_H), gd_ w h → k21 x4 h = some (r, h1) → gd_ w h1) (hk30 : ∀ (h : ia_H), gd_ w h → k30 h = some (r, h1) → gd_ w h1) : ∀ (n : Nat) (x4 : Int32) (h : ia_H), gd_ w h → l_Wa_fewestCuts_3 x1 x2 x3 k21 k30 n x4 h = some (r, h1) → gd_ w h1 := by
  intro n
  induction n with
  | zero =>
    intro x4 h hg hm
    cases (show (none : Option (Int32 × ia_H)) = some _ from hm)
  | succ n ih =>
    intro x4 h hg hm
    rw [l_Wa_fewestCuts_3] at hm
    by_cases c : 4 < x4
    · replace hm := ia_ifp hm c
      exact hk30 h hg hm
    · replace hm := ia_ifn hm c
      obtain ⟨v1, hv1, hm⟩ := ia_bnd hm
      have gv1 := (tr_Wa_isCutBy 10 x4 x1 x2 x3 h _ hg hv1).1
      by_cases c : v1.1 = 0
      · replace hm := ia_ifp hm c
        exact ih (x4 + 1) v1.2 gv1 hm
      · replace hm := ia_ifn hm c
        exact hk21 x4 v1.2 gv1 hm
def f_Wa_fewestCuts (x1 : Int32) (x2 : Int32) (x3 : Int32) (h : ia_H) : Option (Int32 × ia_H) := l_Wa_fewestCuts_3 x1 x2 x3 (fun x4 h => some (x4, h)) (fun h => some ((-1), h)) fu_ 0 h
theorem g_Wa_fewestCuts {w : ia_O0} {x1 : Int32} {x2 : Int32} {x3 : Int32} {h : ia_H} (hg : gd_ w h) {q : (Int32 × ia_H)} (hm : f_Wa_fewestCuts x1 x2 x3 h = some q) : gd_ w q.2 := by
  obtain ⟨r, h1⟩ := q
  unfold f_Wa_fewestCuts at hm
  refine gl_Wa_fewestCuts_3 ?_ ?_ fu_ 0 h hg hm
  · intro x4 h hg hm
    obtain ⟨rfl, rfl⟩ := Prod.mk.inj (Option.some.inj hm)
    exact hg
  · intro h hg hm
    obtain ⟨rfl, rfl⟩ := Prod.mk.inj (Option.some.inj hm)
    exact hg
theorem t_Wa_fewestCuts {w : ia_O0} (d : Nat) {x1 : Int32} {x2 : Int32} {x3 : Int32} {h : ia_H} (hg : gd_ w h) {q : (Int32 × ia_H)} (hm : f_Wa_fewestCuts x1 x2 x3 h = some q) : ia_Ev (d + 25) mm_Wa_fewestCuts [.inr (.inr 311), .inl x1, .inl x2, .inl x3] h (some (.inl q.1)) q.2 := by
  have gq := g_Wa_fewestCuts hg hm
  refine ia_Ev_intro ok_Wa_fewestCuts (gd_le hg gq).1 (gd_le hg gq).2 (Nat.le_of_ble_eq_true rfl) (fun K hK hret => ?_)
  obtain ⟨r, h1⟩ := q
  show K 0 [some (.inr (.inr 311)), some (.inl x1), some (.inl x2), some (.inl x3), none] [] h
  unfold f_Wa_fewestCuts at hm
  refine ia_go hK ck_Wa_fewestCuts_0 ?_
  show K 3 [some (.inr (.inr 311)), some (.inl x1), some (.inl x2), some (.inl x3), some (.inl 0)] [] h
  refine tl_Wa_fewestCuts_3 hK hret ?_ ?_ fu_ 0 h hg hm
  · intro x4 h hg hm
    refine ia_go hK ck_Wa_fewestCuts_21 ?_
    show K 23 [none, none, none, none, some (.inl x4)] [.inl x4] h
    obtain ⟨rfl, rfl⟩ := Prod.mk.inj (Option.some.inj hm)
    exact hret 23 _ dc_Wa_fewestCuts_23
  · intro h hg hm
    refine ia_go hK ck_Wa_fewestCuts_30 ?_
    show K 31 [none, none, none, none, none] [.inl (-1)] h
    obtain ⟨rfl, rfl⟩ := Prod.mk.inj (Option.some.inj hm)
    exact hret 31 _ dc_Wa_fewestCuts_31
def mm_I_sawn : ia_M := (⟨"IceStreet", "sawn", "(IIIIIII)I"⟩, prog_1_method_30_code, 8, (some .int), 0, false)
theorem ok_I_sawn : ia_mok mm_I_sawn := ⟨by decide +kernel, by decide +kernel, by decide +kernel, by decide +kernel⟩
theorem mk_I_sawn : ia_mkn mm_I_sawn 1 7 := ⟨ia_tb_in (List.mem_of_getElem? (i := 1448) (by decide +kernel)) rfl, ia_tb_in (List.mem_of_getElem? (i := 133) (by decide +kernel)) rfl, by decide +kernel, by decide +kernel, ⟨ia_tb_in (List.mem_of_getElem? (i := 1446) (by decide +kernel)) rfl, ia_tb_in (List.mem_of_getElem? (i := 1447) (by decide +kernel)) rfl⟩⟩
theorem ck_I_sawn_0 : ia_cks 0 8 false prog_1_method_30_code 0 [(.aload_n 0, 0, 0, 0, 0), (.iload_n 1, 0, 0, 0, 0), (.iload_n 2, 0, 0, 0, 0), (.iload_n 3, 0, 0, 0, 0), (.iload 4, 0, 0, 0, 0)] = true := by decide +kernel
theorem ck_I_sawn_9 : ia_cks 0 8 false prog_1_method_30_code 9 [(.ifCond .eq 16, 0, 0, 0, 0)] = true := by decide +kernel
theorem ck_I_sawn_25 : ia_cks 0 8 false prog_1_method_30_code 25 [(.iconst (-1), 0, 0, 0, 0)] = true := by decide +kernel
theorem ck_I_sawn_12 : ia_cks 0 8 false prog_1_method_30_code 12 [(.aload_n 0, 0, 0, 0, 0), (.iload 5, 0, 0, 0, 0), (.iload 6, 0, 0, 0, 0), (.iload 7, 0, 0, 0, 0)] = true := by decide +kernel
theorem ck_I_sawn_22 : ia_cks 0 8 false prog_1_method_30_code 22 [(.ifCond .ne 5, 0, 0, 0, 0)] = true := by decide +kernel
theorem ck_I_sawn_27 : ia_cks 0 8 false prog_1_method_30_code 27 [(.aload_n 0, 0, 0, 0, 0), (.getfield 51, 0, 5, 3, 247), (.aload_n 0, 0, 0, 0, 0), (.getfield 44, 0, 4, 3, 239), (.iconst 0, 0, 0, 0, 0)] = true := by decide +kernel
theorem ck_I_sawn_39 : ia_cks 0 8 false prog_1_method_30_code 39 [(.aload_n 0, 0, 0, 0, 0), (.getfield 51, 0, 5, 3, 247), (.iload 5, 0, 0, 0, 0), (.iload 6, 0, 0, 0, 0), (.iload 7, 0, 0, 0, 0)] = true := by decide +kernel
theorem dc_I_sawn_6 : decode prog_1_method_30_code 6 = .ok (.invokevirtual 266, 3) := by decide +kernel
theorem dc_I_sawn_26 : decode prog_1_method_30_code 26 = .ok (.ireturn, 1) := by decide +kernel
theorem dc_I_sawn_19 : decode prog_1_method_30_code 19 = .ok (.invokevirtual 299, 3) := by decide +kernel
theorem dc_I_sawn_36 : decode prog_1_method_30_code 36 = .ok (.invokevirtual 303, 3) := by decide +kernel
theorem dc_I_sawn_49 : decode prog_1_method_30_code 49 = .ok (.invokevirtual 394, 3) := by decide +kernel
theorem dc_I_sawn_52 : decode prog_1_method_30_code 52 = .ok (.ireturn, 1) := by decide +kernel
def f_I_sawn (x1 : Int32) (x2 : Int32) (x3 : Int32) (x4 : Int32) (x5 : Int32) (x6 : Int32) (x7 : Int32) (h : ia_H) : Option (Int32 × ia_H) := (f_I_stage x1 x2 x3 x4 h).bind fun v1 => (if v1.1 = 0 then (some ((-1), v1.2)) else ((f_I_isTrip x5 x6 x7 v1.2).bind fun v2 => (if v2 = 0 then (some ((-1), v1.2)) else ((f_Wa_survey 303 0 v1.2).bind fun v3 => ((f_Wa_fewestCuts x5 x6 x7 v3).bind fun v4 => (some (v4.1, v4.2)))))))
theorem g_I_sawn {w : ia_O0} {x1 : Int32} {x2 : Int32} {x3 : Int32} {x4 : Int32} {x5 : Int32} {x6 : Int32} {x7 : Int32} {h : ia_H} (hg : gd_ w h) {q : (Int32 × ia_H)} (hm : f_I_sawn x1 x2 x3 x4 x5 x6 x7 h = some q) : gd_ w q.2 := by
  obtain ⟨r, h1⟩ := q
  unfold f_I_sawn at hm
  obtain ⟨v1, hv1, hm⟩ := ia_bnd hm
  have gv1 := g_I_stage hg hv1
  by_cases c : v1.1 = 0
  · replace hm := ia_ifp hm c
    obtain ⟨rfl, rfl⟩ := Prod.mk.inj (Option.some.inj hm)
    exact gv1
  · replace hm := ia_ifn hm c
    obtain ⟨v2, hv2, hm⟩ := ia_bnd hm
    by_cases c : v2 = 0
    · replace hm := ia_ifp hm c
      obtain ⟨rfl, rfl⟩ := Prod.mk.inj (Option.some.inj hm)
      exact gv1
    · replace hm := ia_ifn hm c
      obtain ⟨v3, hv3, hm⟩ := ia_bnd hm
      have gv3 := g_Wa_survey gv1 (ka_0_4 pk_64) hv3
      obtain ⟨v4, hv4, hm⟩ := ia_bnd hm
      have gv4 := g_Wa_fewestCuts gv3 hv4
      obtain ⟨rfl, rfl⟩ := Prod.mk.inj (Option.some.inj hm)
      exact gv4
theorem t_I_sawn {w : ia_O0} (d : Nat) {x1 : Int32} {x2 : Int32} {x3 : Int32} {x4 : Int32} {x5 : Int32} {x6 : Int32} {x7 : Int32} {h : ia_H} (hg : gd_ w h) {q : (Int32 × ia_H)} (hm : f_I_sawn x1 x2 x3 x4 x5 x6 x7 h = some q) : ia_Ev (d + 26) mm_I_sawn [.inr (.inr 64), .inl x1, .inl x2, .inl x3, .inl x4, .inl x5, .inl x6, .inl x7] h (some (.inl q.1)) q.2 := by
  have gq := g_I_sawn hg hm
  refine ia_Ev_intro ok_I_sawn (gd_le hg gq).1 (gd_le hg gq).2 (Nat.le_of_ble_eq_true rfl) (fun K hK hret => ?_)
  obtain ⟨r, h1⟩ := q
  show K 0 [some (.inr (.inr 64)), some (.inl x1), some (.inl x2), some (.inl x3), some (.inl x4), some (.inl x5), some (.inl x6), some (.inl x7)] [] h
  unfold f_I_sawn at hm
  refine ia_go hK ck_I_sawn_0 ?_
  show K 6 [some (.inr (.inr 64)), some (.inl x1), some (.inl x2), some (.inl x3), some (.inl x4), some (.inl x5), some (.inl x6), some (.inl x7)] [.inl x4, .inl x3, .inl x2, .inl x1, .inr (.inr 64)] h
  obtain ⟨v1, hv1, hm⟩ := ia_bnd hm
  have ev1 := t_I_stage (d + 19) hg hv1
  have gv1 := g_I_stage hg hv1
  refine ia_cV hK mk_I_stage lk_0_266 dc_I_sawn_6 64 [.inl x1, .inl x2, .inl x3, .inl x4] [] rfl rfl (Nat.le_of_ble_eq_true rfl) (by decide) rfl (gk_0 hg pk_64) ev1 (gd_nm hg gv1) ?_
  show K 9 [some (.inr (.inr 64)), some (.inl x1), some (.inl x2), some (.inl x3), some (.inl x4), some (.inl x5), some (.inl x6), some (.inl x7)] [.inl v1.1] v1.2
  refine ia_go hK ck_I_sawn_9 ⟨fun c => ?_, fun c => ?_⟩
  · replace hm := ia_ifp hm c
    show K 25 [some (.inr (.inr 64)), some (.inl x1), some (.inl x2), some (.inl x3), some (.inl x4), some (.inl x5), some (.inl x6), some (.inl x7)] [] v1.2
    refine ia_go hK ck_I_sawn_25 ?_
    show K 26 [some (.inr (.inr 64)), some (.inl x1), some (.inl x2), some (.inl x3), some (.inl x4), some (.inl x5), some (.inl x6), some (.inl x7)] [.inl (-1)] v1.2
    obtain ⟨rfl, rfl⟩ := Prod.mk.inj (Option.some.inj hm)
    exact hret 26 _ dc_I_sawn_26
  · replace hm := ia_ifn hm c
    show K 12 [some (.inr (.inr 64)), some (.inl x1), some (.inl x2), some (.inl x3), some (.inl x4), some (.inl x5), some (.inl x6), some (.inl x7)] [] v1.2
    refine ia_go hK ck_I_sawn_12 ?_
    show K 19 [some (.inr (.inr 64)), some (.inl x1), some (.inl x2), some (.inl x3), some (.inl x4), some (.inl x5), some (.inl x6), some (.inl x7)] [.inl x7, .inl x6, .inl x5, .inr (.inr 64)] v1.2
    obtain ⟨v2, hv2, hm⟩ := ia_bnd hm
    have ev2 := t_I_isTrip (d + 24) gv1 hv2
    refine ia_cV hK mk_I_isTrip lk_0_299 dc_I_sawn_19 64 [.inl x5, .inl x6, .inl x7] [] rfl rfl (Nat.le_of_ble_eq_true rfl) (by decide) rfl (gk_0 gv1 pk_64) ev2 ⟨rfl, rfl⟩ ?_
    show K 22 [some (.inr (.inr 64)), some (.inl x1), some (.inl x2), some (.inl x3), some (.inl x4), some (.inl x5), some (.inl x6), some (.inl x7)] [.inl v2] v1.2
    refine ia_go hK ck_I_sawn_22 ⟨fun c => ?_, fun c => ?_⟩
    · replace hm := ia_ifn hm c
      show K 27 [some (.inr (.inr 64)), some (.inl x1), some (.inl x2), some (.inl x3), some (.inl x4), some (.inl x5), some (.inl x6), some (.inl x7)] [] v1.2
      refine ia_go hK ck_I_sawn_27 ⟨gk_0 gv1 pk_64, gr_0_5 gv1 pk_64, gk_0 gv1 pk_64, gr_0_4 gv1 pk_64, ?_⟩
      show K 36 [some (.inr (.inr 64)), some (.inl x1), some (.inl x2), some (.inl x3), some (.inl x4), some (.inl x5), some (.inl x6), some (.inl x7)] [.inl 0, .inr (.inr 303), .inr (.inr 311)] v1.2
      obtain ⟨v3, hv3, hm⟩ := ia_bnd hm
      have ev3 := t_Wa_survey (d + 24) gv1 (ka_0_4 pk_64) hv3
      have gv3 := g_Wa_survey gv1 (ka_0_4 pk_64) hv3
      refine ia_cV hK mk_Wa_survey lk_0_303 dc_I_sawn_36 311 [.inr (.inr 303), .inl 0] [] rfl rfl (Nat.le_of_ble_eq_true rfl) (by decide) rfl (gk_11 gv1 (ka_0_5 pk_64)) ev3 (gd_nm gv1 gv3) ?_
      show K 39 [some (.inr (.inr 64)), some (.inl x1), some (.inl x2), some (.inl x3), some (.inl x4), some (.inl x5), some (.inl x6), some (.inl x7)] [] v3
      refine ia_go hK ck_I_sawn_39 ⟨gk_0 gv3 pk_64, gr_0_5 gv3 pk_64, ?_⟩
      show K 49 [some (.inr (.inr 64)), some (.inl x1), some (.inl x2), some (.inl x3), some (.inl x4), some (.inl x5), some (.inl x6), some (.inl x7)] [.inl x7, .inl x6, .inl x5, .inr (.inr 311)] v3
      obtain ⟨v4, hv4, hm⟩ := ia_bnd hm
      have ev4 := t_Wa_fewestCuts (d + 0) gv3 hv4
      have gv4 := g_Wa_fewestCuts gv3 hv4
      refine ia_cV hK mk_Wa_fewestCuts lk_0_394 dc_I_sawn_49 311 [.inl x5, .inl x6, .inl x7] [] rfl rfl (Nat.le_of_ble_eq_true rfl) (by decide) rfl (gk_11 gv3 (ka_0_5 pk_64)) ev4 (gd_nm gv3 gv4) ?_
      show K 52 [some (.inr (.inr 64)), some (.inl x1), some (.inl x2), some (.inl x3), some (.inl x4), some (.inl x5), some (.inl x6), some (.inl x7)] [.inl v4.1] v4.2
      obtain ⟨rfl, rfl⟩ := Prod.mk.inj (Option.some.inj hm)
      exact hret 52 _ dc_I_sawn_52
    · replace hm := ia_ifp hm c
      show K 25 [some (.inr (.inr 64)), some (.inl x1), some (.inl x2), some (.inl x3), some (.inl x4), some (.inl x5), some (.inl x6), some (.inl x7)] [] v1.2
      refine ia_go hK ck_I_sawn_25 ?_
      show K 26 [some (.inr (.inr 64)), some (.inl x1), some (.inl x2), some (.inl x3), some (.inl x4), some (.inl x5), some (.inl x6), some (.inl x7)] [.inl (-1)] v1.2
      obtain ⟨rfl, rfl⟩ := Prod.mk.inj (Option.some.inj hm)
      exact hret 26 _ dc_I_sawn_26
def mm_Ro_take : ia_M := (⟨"IceStreet$Route", "take", "(LIceStreet$Ways;II)Z"⟩, prog_9_method_2_code, 4, (some .boolean), 8, false)
theorem ok_Ro_take : ia_mok mm_Ro_take := ⟨by decide +kernel, by decide +kernel, by decide +kernel, by decide +kernel⟩
theorem mk_Ro_take : ia_mkn mm_Ro_take 1 3 := ⟨ia_tb_in (List.mem_of_getElem? (i := 1468) (by decide +kernel)) rfl, ia_tb_in (List.mem_of_getElem? (i := 145) (by decide +kernel)) rfl, by decide +kernel, by decide +kernel, ⟨ia_tb_in (List.mem_of_getElem? (i := 1466) (by decide +kernel)) rfl, ia_tb_in (List.mem_of_getElem? (i := 1467) (by decide +kernel)) rfl⟩⟩
theorem ck_Ro_take_0 : ia_cks 8 4 false prog_9_method_2_code 0 [(.aload_n 0, 0, 0, 0, 0), (.iload_n 2, 0, 0, 0, 0), (.putfield 15, 8, 0, 0, 0), (.aload_n 1, 0, 0, 0, 0), (.iload_n 2, 0, 0, 0, 0), (.iload_n 3, 0, 0, 0, 0), (.bipush 100, 0, 0, 0, 0), (.irem, 0, 0, 0, 0), (.iload_n 3, 0, 0, 0, 0), (.bipush 100, 0, 0, 0, 0), (.idiv, 0, 0, 0, 0)] = true := by decide +kernel
theorem ck_Ro_take_18 : ia_cks 8 4 false prog_9_method_2_code 18 [(.ifCond .ne 5, 0, 0, 0, 0)] = true := by decide +kernel
theorem ck_Ro_take_23 : ia_cks 8 4 false prog_9_method_2_code 23 [(.aload_n 0, 0, 0, 0, 0), (.aload_n 1, 0, 0, 0, 0), (.getfield 25, 11, 0, 0, 0), (.putfield 28, 8, 1, 0, 0), (.aload_n 1, 0, 0, 0, 0), (.getfield 29, 11, 3, 3, 1), (.iconst 0, 0, 0, 0, 0), (.aload_n 0, 0, 0, 0, 0), (.getfield 9, 8, 2, 3, 1), (.iconst 0, 0, 0, 0, 0), (.aload_n 0, 0, 0, 0, 0), (.getfield 28, 8, 1, 0, 0)] = true := by decide +kernel
theorem ck_Ro_take_48 : ia_cks 8 4 false prog_9_method_2_code 48 [(.iconst 1, 0, 0, 0, 0)] = true := by decide +kernel
theorem ck_Ro_take_21 : ia_cks 8 4 false prog_9_method_2_code 21 [(.iconst 0, 0, 0, 0, 0)] = true := by decide +kernel
theorem dc_Ro_take_15 : decode prog_9_method_2_code 15 = .ok (.invokevirtual 19, 3) := by decide +kernel
theorem dc_Ro_take_45 : decode prog_9_method_2_code 45 = .ok (.invokestatic 32, 3) := by decide +kernel
theorem dc_Ro_take_49 : decode prog_9_method_2_code 49 = .ok (.ireturn, 1) := by decide +kernel
theorem dc_Ro_take_22 : decode prog_9_method_2_code 22 = .ok (.ireturn, 1) := by decide +kernel
def f_Ro_take (a0 : Nat) (x2 : Int32) (x3 : Int32) (h : ia_H) : Option (Int32 × ia_H) := (f_Wa_findShort x2 (x3 - x3 / 100 * 100) (x3 / 100) (ia_wI h a0 0 x2)).bind fun v1 => (if v1.1 = 0 then (some (0, v1.2)) else (ia_gd (ia_cb 0 0 (ia_i (ia_wI v1.2 a0 1 (ia_i v1.2 311 0)) a0 1) 36 36) (some (1, ia_cpI (ia_wI v1.2 a0 1 (ia_i v1.2 311 0)) 312 (a0 + 1) 0 0 ((ia_i (ia_wI v1.2 a0 1 (ia_i v1.2 311 0)) a0 1).toNatClampNeg)))))
theorem g_Ro_take {w : ia_O0} {a0 : Nat} {x2 : Int32} {x3 : Int32} {h : ia_H} (hg : gd_ w h) (p0 : (kd_D a0).1 = 8) {q : (Int32 × ia_H)} (hm : f_Ro_take a0 x2 x3 h = some q) : gd_ w q.2 := by
  obtain ⟨r, h1⟩ := q
  unfold f_Ro_take at hm
  obtain ⟨v1, hv1, hm⟩ := ia_bnd hm
  have gv1 := g_Wa_findShort (gd_wI hg (ko_8 p0)) hv1
  by_cases c : v1.1 = 0
  · replace hm := ia_ifp hm c
    obtain ⟨rfl, rfl⟩ := Prod.mk.inj (Option.some.inj hm)
    exact gv1
  · replace hm := ia_ifn hm c
    obtain ⟨c2, hm⟩ := ia_gd_some hm
    obtain ⟨rfl, rfl⟩ := Prod.mk.inj (Option.some.inj hm)
    exact (gd_cpI (gd_wI gv1 (ko_8 p0)) (kx_100 (ka_8_2 p0)))
theorem t_Ro_take {w : ia_O0} (d : Nat) {a0 : Nat} {x2 : Int32} {x3 : Int32} {h : ia_H} (hg : gd_ w h) (p0 : (kd_D a0).1 = 8) {q : (Int32 × ia_H)} (hm : f_Ro_take a0 x2 x3 h = some q) : ia_Ev (d + 3) mm_Ro_take [.inr (.inr a0), .inr (.inr 311), .inl x2, .inl x3] h (some (.inl q.1)) q.2 := by
  have gq := g_Ro_take hg p0 hm
  refine ia_Ev_intro ok_Ro_take (gd_le hg gq).1 (gd_le hg gq).2 (Nat.le_of_ble_eq_true rfl) (fun K hK hret => ?_)
  obtain ⟨r, h1⟩ := q
  show K 0 [some (.inr (.inr a0)), some (.inr (.inr 311)), some (.inl x2), some (.inl x3)] [] h
  unfold f_Ro_take at hm
  refine ia_go hK ck_Ro_take_0 ⟨gk_8 hg p0, (by decide), (by decide), ?_⟩
  show K 15 [some (.inr (.inr a0)), some (.inr (.inr 311)), some (.inl x2), some (.inl x3)] [.inl (x3 / 100), .inl (x3 - x3 / 100 * 100), .inl x2, .inr (.inr 311)] (ia_wI h a0 0 x2)
  obtain ⟨v1, hv1, hm⟩ := ia_bnd hm
  have ev1 := t_Wa_findShort (d + 0) (gd_wI hg (ko_8 p0)) hv1
  have gv1 := g_Wa_findShort (gd_wI hg (ko_8 p0)) hv1
  refine ia_cV hK mk_Wa_findShort lk_8_19 dc_Ro_take_15 311 [.inl x2, .inl (x3 - x3 / 100 * 100), .inl (x3 / 100)] [] rfl rfl (Nat.le_of_ble_eq_true rfl) (by decide) rfl (gk_11 (gd_wI hg (ko_8 p0)) pk_311) ev1 (gd_nm (gd_wI hg (ko_8 p0)) gv1) ?_
  show K 18 [some (.inr (.inr a0)), some (.inr (.inr 311)), some (.inl x2), some (.inl x3)] [.inl v1.1] v1.2
  refine ia_go hK ck_Ro_take_18 ⟨fun c => ?_, fun c => ?_⟩
  · replace hm := ia_ifn hm c
    show K 23 [some (.inr (.inr a0)), some (.inr (.inr 311)), some (.inl x2), some (.inl x3)] [] v1.2
    refine ia_go hK ck_Ro_take_23 ⟨gk_11 gv1 pk_311, gk_8 gv1 p0, gk_11 (gd_wI gv1 (ko_8 p0)) pk_311, gr_11_3 (gd_wI gv1 (ko_8 p0)) pk_311, gk_8 (gd_wI gv1 (ko_8 p0)) p0, gr_8_2 (gd_wI gv1 (ko_8 p0)) p0, gk_8 (gd_wI gv1 (ko_8 p0)) p0, ?_⟩
    show K 45 [some (.inr (.inr a0)), some (.inr (.inr 311)), some (.inl x2), some (.inl x3)] [.inl (ia_i (ia_wI v1.2 a0 1 (ia_i v1.2 311 0)) a0 1), .inl 0, .inr (.inr (a0 + 1)), .inl 0, .inr (.inr 312)] (ia_wI v1.2 a0 1 (ia_i v1.2 311 0))
    obtain ⟨c2, hm⟩ := ia_gd_some hm
    refine gd_cI hK (ia_tb_in (List.mem_of_getElem? (i := 1470) (by decide +kernel)) rfl) dc_Ro_take_45 (Nat.le_of_ble_eq_true rfl) (Or.inl rfl) (gd_wI gv1 (ko_8 p0)) (ka_11_3 pk_311) (ka_8_2 p0) c2 rfl ?_
    show K 48 [some (.inr (.inr a0)), some (.inr (.inr 311)), some (.inl x2), some (.inl x3)] [] (ia_cpI (ia_wI v1.2 a0 1 (ia_i v1.2 311 0)) 312 (a0 + 1) 0 0 ((ia_i (ia_wI v1.2 a0 1 (ia_i v1.2 311 0)) a0 1).toNatClampNeg))
    refine ia_go hK ck_Ro_take_48 ?_
    show K 49 [some (.inr (.inr a0)), some (.inr (.inr 311)), some (.inl x2), some (.inl x3)] [.inl 1] (ia_cpI (ia_wI v1.2 a0 1 (ia_i v1.2 311 0)) 312 (a0 + 1) 0 0 ((ia_i (ia_wI v1.2 a0 1 (ia_i v1.2 311 0)) a0 1).toNatClampNeg))
    obtain ⟨rfl, rfl⟩ := Prod.mk.inj (Option.some.inj hm)
    exact hret 49 _ ⟨Or.inr rfl, dc_Ro_take_49⟩
  · replace hm := ia_ifp hm c
    show K 21 [some (.inr (.inr a0)), some (.inr (.inr 311)), some (.inl x2), some (.inl x3)] [] v1.2
    refine ia_go hK ck_Ro_take_21 ?_
    show K 22 [some (.inr (.inr a0)), some (.inr (.inr 311)), some (.inl x2), some (.inl x3)] [.inl 0] v1.2
    obtain ⟨rfl, rfl⟩ := Prod.mk.inj (Option.some.inj hm)
    exact hret 22 _ ⟨Or.inl rfl, dc_Ro_take_22⟩
def mm_Ro_breaks : ia_M := (⟨"IceStreet$Route", "breaks", "(LIceStreet$Scene;III)Z"⟩, prog_9_method_6_code, 4, (some .boolean), 8, false)
theorem ok_Ro_breaks : ia_mok mm_Ro_breaks := ⟨by decide +kernel, by decide +kernel, by decide +kernel, by decide +kernel⟩
theorem mk_Ro_breaks : ia_mkn mm_Ro_breaks 0 4 := ⟨ia_tb_in (List.mem_of_getElem? (i := 1487) (by decide +kernel)) rfl, ia_tb_in (List.mem_of_getElem? (i := 145) (by decide +kernel)) rfl, by decide +kernel, by decide +kernel, ia_tb_in (List.mem_of_getElem? (i := 1486) (by decide +kernel)) rfl⟩
theorem ck_Ro_breaks_0 : ia_cks 8 4 false prog_9_method_6_code 0 [(.aload_n 0, 0, 0, 0, 0), (.iload_n 1, 0, 0, 0, 0)] = true := by decide +kernel
theorem ck_Ro_breaks_5 : ia_cks 8 4 false prog_9_method_6_code 5 [(.iload_n 2, 0, 0, 0, 0), (.aload_n 0, 0, 0, 0, 0), (.getfield 74, 9, 4, 3, 3), (.iload_n 1, 0, 0, 0, 0), (.iaload, 0, 0, 0, 0), (.iadd, 0, 0, 0, 0), (.aload_n 0, 0, 0, 0, 0), (.getfield 76, 9, 1, 2, 0), (.iload_n 3, 0, 0, 0, 0)] = true := by decide +kernel
theorem ck_Ro_breaks_21 : ia_cks 8 4 false prog_9_method_6_code 21 [(.iadd, 0, 0, 0, 0), (.if_icmp .ge 7, 0, 0, 0, 0)] = true := by decide +kernel
theorem ck_Ro_breaks_29 : ia_cks 8 4 false prog_9_method_6_code 29 [(.iconst 0, 0, 0, 0, 0)] = true := by decide +kernel
theorem ck_Ro_breaks_25 : ia_cks 8 4 false prog_9_method_6_code 25 [(.iconst 1, 0, 0, 0, 0), (.goto 4, 0, 0, 0, 0)] = true := by decide +kernel
theorem dc_Ro_breaks_2 : decode prog_9_method_6_code 2 = .ok (.invokevirtual 70, 3) := by decide +kernel
theorem dc_Ro_breaks_18 : decode prog_9_method_6_code 18 = .ok (.invokevirtual 80, 3) := by decide +kernel
theorem dc_Ro_breaks_30 : decode prog_9_method_6_code 30 = .ok (.ireturn, 1) := by decide +kernel
def f_Ro_breaks (a0 : Nat) (x1 : Int32) (x2 : Int32) (x3 : Int32) (h : ia_H) : Option Int32 := (f_Sc_bears a0 x1 h).bind fun v1 => (ia_gd (ia_ib x1 36) ((f_Lw_shareOf (ia_r h a0 1) x3 h).bind fun v3 => (if ((x2 + (ia_i h (a0 + 3) ((x1).toNatClampNeg))) + v3) ≤ v1 then (some 0) else (some 1))))
theorem t_Ro_breaks {w : ia_O0} (d : Nat) {a0 : Nat} {x1 : Int32} {x2 : Int32} {x3 : Int32} {h : ia_H} (hg : gd_ w h) (p0 : (kd_D a0).1 = 9) {r : Int32} (hm : f_Ro_breaks a0 x1 x2 x3 h = some r) : ia_Ev (d + 2) mm_Ro_breaks [.inr (.inr a0), .inl x1, .inl x2, .inl x3] h (some (.inl r)) h := by
  refine ia_Ev_intro ok_Ro_breaks (Nat.le_refl _) (Nat.le_refl _) (Nat.le_of_ble_eq_true rfl) (fun K hK hret => ?_)
  show K 0 [some (.inr (.inr a0)), some (.inl x1), some (.inl x2), some (.inl x3)] [] h
  unfold f_Ro_breaks at hm
  refine ia_go hK ck_Ro_breaks_0 ?_
  show K 2 [some (.inr (.inr a0)), some (.inl x1), some (.inl x2), some (.inl x3)] [.inl x1, .inr (.inr a0)] h
  obtain ⟨v1, hv1, hm⟩ := ia_bnd hm
  have ev1 := t_Sc_bears (d + 0) hg p0 hv1
  refine ia_cV hK mk_Sc_bears lk_8_70 dc_Ro_breaks_2 a0 [.inl x1] [] rfl rfl (Nat.le_of_ble_eq_true rfl) (by decide) rfl (gk_9 hg p0) ev1 ⟨rfl, rfl⟩ ?_
  show K 5 [some (.inr (.inr a0)), some (.inl x1), some (.inl x2), some (.inl x3)] [.inl v1] h
  obtain ⟨c2, hm⟩ := ia_gd_some hm
  refine ia_go hK ck_Ro_breaks_5 ⟨gk_9 hg p0, gr_9_4 hg p0, ga_i100 hg (ka_9_4 p0) c2, gk_9 hg p0, ?_⟩
  show K 18 [some (.inr (.inr a0)), some (.inl x1), some (.inl x2), some (.inl x3)] [.inl x3, .inr (.inr (ia_r h a0 1)), .inl (x2 + (ia_i h (a0 + 3) ((x1).toNatClampNeg))), .inl v1] h
  obtain ⟨v3, hv3, hm⟩ := ia_bnd hm
  have ev3 := t_Lw_shareOf (d + 1) hg (gm_9_1 hg p0) hv3
  refine ia_cV hK mk_Lw_shareOf lk_8_80 dc_Ro_breaks_18 (ia_r h a0 1) [.inl x3] [.inl (x2 + (ia_i h (a0 + 3) ((x1).toNatClampNeg))), .inl v1] rfl rfl (Nat.le_of_ble_eq_true rfl) (by decide) rfl (gk_4 hg (gm_9_1 hg p0)) ev3 ⟨rfl, rfl⟩ ?_
  show K 21 [some (.inr (.inr a0)), some (.inl x1), some (.inl x2), some (.inl x3)] [.inl v3, .inl (x2 + (ia_i h (a0 + 3) ((x1).toNatClampNeg))), .inl v1] h
  refine ia_go hK ck_Ro_breaks_21 ⟨fun c => ?_, fun c => ?_⟩
  · replace hm := ia_ifp hm c
    show K 29 [some (.inr (.inr a0)), some (.inl x1), some (.inl x2), some (.inl x3)] [] h
    refine ia_go hK ck_Ro_breaks_29 ?_
    show K 30 [some (.inr (.inr a0)), some (.inl x1), some (.inl x2), some (.inl x3)] [.inl 0] h
    obtain rfl := Option.some.inj hm
    exact hret 30 _ ⟨Or.inl rfl, dc_Ro_breaks_30⟩
  · replace hm := ia_ifn hm c
    show K 25 [some (.inr (.inr a0)), some (.inl x1), some (.inl x2), some (.inl x3)] [] h
    refine ia_go hK ck_Ro_breaks_25 ?_
    show K 30 [some (.inr (.inr a0)), some (.inl x1), some (.inl x2), some (.inl x3)] [.inl 1] h
    obtain rfl := Option.some.inj hm
    exact hret 30 _ ⟨Or.inr rfl, dc_Ro_breaks_30⟩
def mm_Ro_clashes : ia_M := (⟨"IceStreet$Route", "clashes", "(LIceStreet$Scene;ILIceStreet$Route;I)Z"⟩, prog_9_method_5_code, 6, (some .boolean), 8, false)
theorem ok_Ro_clashes : ia_mok mm_Ro_clashes := ⟨by decide +kernel, by decide +kernel, by decide +kernel, by decide +kernel⟩
theorem mk_Ro_clashes : ia_mkn mm_Ro_clashes 1 4 := ⟨ia_tb_in (List.mem_of_getElem? (i := 1482) (by decide +kernel)) rfl, ia_tb_in (List.mem_of_getElem? (i := 145) (by decide +kernel)) rfl, by decide +kernel, by decide +kernel, ⟨ia_tb_in (List.mem_of_getElem? (i := 1481) (by decide +kernel)) rfl, ia_tb_in (List.mem_of_getElem? (i := 48) (by decide +kernel)) rfl⟩⟩
theorem ck_Ro_clashes_0 : ia_cks 8 6 false prog_9_method_5_code 0 [(.iload_n 2, 0, 0, 0, 0), (.iload 4, 0, 0, 0, 0), (.if_icmp .ne 5, 0, 0, 0, 0)] = true := by decide +kernel
theorem ck_Ro_clashes_8 : ia_cks 8 6 false prog_9_method_5_code 8 [(.aload_n 1, 0, 0, 0, 0), (.getfield 46, 9, 0, 2, 0), (.iload_n 2, 0, 0, 0, 0), (.iload 4, 0, 0, 0, 0)] = true := by decide +kernel
theorem ck_Ro_clashes_18 : ia_cks 8 6 false prog_9_method_5_code 18 [(.iconst 1, 0, 0, 0, 0), (.if_icmp .ne 24, 0, 0, 0, 0)] = true := by decide +kernel
theorem ck_Ro_clashes_43 : ia_cks 8 6 false prog_9_method_5_code 43 [(.iconst 0, 0, 0, 0, 0)] = true := by decide +kernel
theorem ck_Ro_clashes_44 : ia_cks 8 6 false prog_9_method_5_code 44 [(.istore 5, 0, 0, 0, 0), (.iload 5, 0, 0, 0, 0), (.ifCond .eq 40, 0, 0, 0, 0)] = true := by decide +kernel
theorem ck_Ro_clashes_88 : ia_cks 8 6 false prog_9_method_5_code 88 [(.iconst 0, 0, 0, 0, 0)] = true := by decide +kernel
theorem ck_Ro_clashes_51 : ia_cks 8 6 false prog_9_method_5_code 51 [(.aload_n 1, 0, 0, 0, 0), (.iload_n 2, 0, 0, 0, 0), (.aload_n 0, 0, 0, 0, 0), (.getfield 15, 8, 0, 0, 0), (.aload_n 3, 0, 0, 0, 0), (.getfield 15, 8, 0, 0, 0)] = true := by decide +kernel
theorem ck_Ro_clashes_64 : ia_cks 8 6 false prog_9_method_5_code 64 [(.ifCond .ne 20, 0, 0, 0, 0)] = true := by decide +kernel
theorem ck_Ro_clashes_84 : ia_cks 8 6 false prog_9_method_5_code 84 [(.iconst 1, 0, 0, 0, 0), (.goto 4, 0, 0, 0, 0)] = true := by decide +kernel
theorem ck_Ro_clashes_67 : ia_cks 8 6 false prog_9_method_5_code 67 [(.aload_n 1, 0, 0, 0, 0), (.iload 4, 0, 0, 0, 0), (.aload_n 3, 0, 0, 0, 0), (.getfield 15, 8, 0, 0, 0), (.aload_n 0, 0, 0, 0, 0), (.getfield 15, 8, 0, 0, 0)] = true := by decide +kernel
theorem ck_Ro_clashes_81 : ia_cks 8 6 false prog_9_method_5_code 81 [(.ifCond .eq 7, 0, 0, 0, 0)] = true := by decide +kernel
theorem ck_Ro_clashes_22 : ia_cks 8 6 false prog_9_method_5_code 22 [(.aload_n 1, 0, 0, 0, 0), (.getfield 46, 9, 0, 2, 0), (.getfield 58, 3, 6, 3, 4), (.iload_n 2, 0, 0, 0, 0), (.laload, 0, 0, 0, 0), (.iload 4, 0, 0, 0, 0)] = true := by decide +kernel
theorem ck_Ro_clashes_36 : ia_cks 8 6 false prog_9_method_5_code 36 [(.ifCond .ne 7, 0, 0, 0, 0)] = true := by decide +kernel
theorem ck_Ro_clashes_39 : ia_cks 8 6 false prog_9_method_5_code 39 [(.iconst 1, 0, 0, 0, 0), (.goto 4, 0, 0, 0, 0)] = true := by decide +kernel
theorem ck_Ro_clashes_6 : ia_cks 8 6 false prog_9_method_5_code 6 [(.iconst 1, 0, 0, 0, 0)] = true := by decide +kernel
theorem dc_Ro_clashes_15 : decode prog_9_method_5_code 15 = .ok (.invokevirtual 52, 3) := by decide +kernel
theorem dc_Ro_clashes_89 : decode prog_9_method_5_code 89 = .ok (.ireturn, 1) := by decide +kernel
theorem dc_Ro_clashes_61 : decode prog_9_method_5_code 61 = .ok (.invokestatic 66, 3) := by decide +kernel
theorem dc_Ro_clashes_78 : decode prog_9_method_5_code 78 = .ok (.invokestatic 66, 3) := by decide +kernel
theorem dc_Ro_clashes_33 : decode prog_9_method_5_code 33 = .ok (.invokestatic 62, 3) := by decide +kernel
theorem dc_Ro_clashes_7 : decode prog_9_method_5_code 7 = .ok (.ireturn, 1) := by decide +kernel
def j_Ro_clashes_44 (a0 : Nat) (a1 : Nat) (x2 : Int32) (a3 : Nat) (x4 : Int32) (h : ia_H) (s0 : Int32) : Option Int32 := if s0 = 0 then (some 0) else ((f_Ro_breaks a1 x2 (ia_i h a0 0) (ia_i h a3 0) h).bind fun v2 => (if v2 = 0 then ((f_Ro_breaks a1 x4 (ia_i h a3 0) (ia_i h a0 0) h).bind fun v3 => (if v3 = 0 then (some 0) else (some 1))) else (some 1)))
theorem tj_Ro_clashes_44 {w : ia_O0} {d N1 W1 : Nat} {K : ia_K} (hK : ia_isK (d + 3) mm_Ro_clashes N1 W1 K) {a0 : Nat} {a1 : Nat} {x2 : Int32} {a3 : Nat} {x4 : Int32} {h : ia_H} (hg : gd_ w h) (p0 : (kd_D a0).1 = 8) (p1 : (kd_D a1).1 = 9) (p3 : (kd_D a3).1 = 8) {r : Int32} (hret : ∀ (pc : Nat) (lv : ia_L), ia_ret mm_Ro_clashes pc (some (.inl r)) → K pc lv ((some (.inl r)) : Option ia_V).toList h) : ∀ (s0 : Int32), j_Ro_clashes_44 a0 a1 x2 a3 x4 h s0 = some r → K 44 [some (.inr (.inr a0)), some (.inr (.inr a1)), some (.inl x2), some (.inr (.inr a3)), some (.inl x4), none] [.inl s0] h := by
  intro s0 hm
  unfold j_Ro_clashes_44 at hm
  refine ia_go hK ck_Ro_clashes_44 ⟨fun c => ?_, fun c => ?_⟩
  · replace hm := ia_ifp hm c
    show K 88 [some (.inr (.inr a0)), some (.inr (.inr a1)), some (.inl x2), some (.inr (.inr a3)), some (.inl x4), some (.inl s0)] [] h
    refine ia_go hK ck_Ro_clashes_88 ?_
    show K 89 [some (.inr (.inr a0)), some (.inr (.inr a1)), some (.inl x2), some (.inr (.inr a3)), some (.inl x4), some (.inl s0)] [.inl 0] h
    obtain rfl := Option.some.inj hm
    exact hret 89 _ ⟨Or.inl rfl, dc_Ro_clashes_89⟩
  · replace hm := ia_ifn hm c
    show K 51 [some (.inr (.inr a0)), some (.inr (.inr a1)), some (.inl x2), some (.inr (.inr a3)), some (.inl x4), some (.inl s0)] [] h
    refine ia_go hK ck_Ro_clashes_51 ⟨gk_8 hg p0, gk_8 hg p3, ?_⟩
    show K 61 [some (.inr (.inr a0)), some (.inr (.inr a1)), some (.inl x2), some (.inr (.inr a3)), some (.inl x4), some (.inl s0)] [.inl (ia_i h a3 0), .inl (ia_i h a0 0), .inl x2, .inr (.inr a1)] h
    obtain ⟨v2, hv2, hm⟩ := ia_bnd hm
    have ev2 := t_Ro_breaks (d + 0) hg p1 hv2
    refine ia_cS hK mk_Ro_breaks lk_8_66 dc_Ro_clashes_61 [.inr (.inr a1), .inl x2, .inl (ia_i h a0 0), .inl (ia_i h a3 0)] [] rfl rfl (Nat.le_of_ble_eq_true rfl) ev2 ⟨rfl, rfl⟩ ?_
    show K 64 [some (.inr (.inr a0)), some (.inr (.inr a1)), some (.inl x2), some (.inr (.inr a3)), some (.inl x4), some (.inl s0)] [.inl v2] h
    refine ia_go hK ck_Ro_clashes_64 ⟨fun c => ?_, fun c => ?_⟩
    · replace hm := ia_ifn hm c
      show K 84 [some (.inr (.inr a0)), some (.inr (.inr a1)), some (.inl x2), some (.inr (.inr a3)), some (.inl x4), some (.inl s0)] [] h
      refine ia_go hK ck_Ro_clashes_84 ?_
      show K 89 [some (.inr (.inr a0)), some (.inr (.inr a1)), some (.inl x2), some (.inr (.inr a3)), some (.inl x4), some (.inl s0)] [.inl 1] h
      obtain rfl := Option.some.inj hm
      exact hret 89 _ ⟨Or.inr rfl, dc_Ro_clashes_89⟩
    · replace hm := ia_ifp hm c
      show K 67 [some (.inr (.inr a0)), some (.inr (.inr a1)), some (.inl x2), some (.inr (.inr a3)), some (.inl x4), some (.inl s0)] [] h
      refine ia_go hK ck_Ro_clashes_67 ⟨gk_8 hg p3, gk_8 hg p0, ?_⟩
      show K 78 [some (.inr (.inr a0)), some (.inr (.inr a1)), some (.inl x2), some (.inr (.inr a3)), some (.inl x4), some (.inl s0)] [.inl (ia_i h a0 0), .inl (ia_i h a3 0), .inl x4, .inr (.inr a1)] h
      obtain ⟨v3, hv3, hm⟩ := ia_bnd hm
      have ev3 := t_Ro_breaks (d + 0) hg p1 hv3
      refine ia_cS hK mk_Ro_breaks lk_8_66 dc_Ro_clashes_78 [.inr (.inr a1), .inl x4, .inl (ia_i h a3 0), .inl (ia_i h a0 0)] [] rfl rfl (Nat.le_of_ble_eq_true rfl) ev3 ⟨rfl, rfl⟩ ?_
      show K 81 [some (.inr (.inr a0)), some (.inr (.inr a1)), some (.inl x2), some (.inr (.inr a3)), some (.inl x4), some (.inl s0)] [.inl v3] h
      refine ia_go hK ck_Ro_clashes_81 ⟨fun c => ?_, fun c => ?_⟩
      · replace hm := ia_ifp hm c
        show K 88 [some (.inr (.inr a0)), some (.inr (.inr a1)), some (.inl x2), some (.inr (.inr a3)), some (.inl x4), some (.inl s0)] [] h
        refine ia_go hK ck_Ro_clashes_88 ?_
        show K 89 [some (.inr (.inr a0)), some (.inr (.inr a1)), some (.inl x2), some (.inr (.inr a3)), some (.inl x4), some (.inl s0)] [.inl 0] h
        obtain rfl := Option.some.inj hm
        exact hret 89 _ ⟨Or.inl rfl, dc_Ro_clashes_89⟩
      · replace hm := ia_ifn hm c
        show K 84 [some (.inr (.inr a0)), some (.inr (.inr a1)), some (.inl x2), some (.inr (.inr a3)), some (.inl x4), some (.inl s0)] [] h
        refine ia_go hK ck_Ro_clashes_84 ?_
        show K 89 [some (.inr (.inr a0)), some (.inr (.inr a1)), some (.inl x2), some (.inr (.inr a3)), some (.inl x4), some (.inl s0)] [.inl 1] h
        obtain rfl := Option.some.inj hm
        exact hret 89 _ ⟨Or.inr rfl, dc_Ro_clashes_89⟩
def f_Ro_clashes (a0 : Nat) (a1 : Nat) (x2 : Int32) (a3 : Nat) (x4 : Int32) (h : ia_H) : Option Int32 := if x2 = x4 then (some 1) else ((f_La_steps (ia_r h a1 0) x2 x4 h).bind fun v1 => (if v1 = 1 then (ia_gd (ia_ib x2 36) ((f_I_hasBit (ia_l h ((ia_r h a1 0) + 4) ((x2).toNatClampNeg)) x4 h).bind fun v5 => (if v5 = 0 then (j_Ro_clashes_44 a0 a1 x2 a3 x4 h 1) else (j_Ro_clashes_44 a0 a1 x2 a3 x4 h 0)))) else (j_Ro_clashes_44 a0 a1 x2 a3 x4 h 0)))
theorem t_Ro_clashes {w : ia_O0} (d : Nat) {a0 : Nat} {a1 : Nat} {x2 : Int32} {a3 : Nat} {x4 : Int32} {h : ia_H} (hg : gd_ w h) (p0 : (kd_D a0).1 = 8) (p1 : (kd_D a1).1 = 9) (p3 : (kd_D a3).1 = 8) {r : Int32} (hm : f_Ro_clashes a0 a1 x2 a3 x4 h = some r) : ia_Ev (d + 3) mm_Ro_clashes [.inr (.inr a0), .inr (.inr a1), .inl x2, .inr (.inr a3), .inl x4] h (some (.inl r)) h := by
  refine ia_Ev_intro ok_Ro_clashes (Nat.le_refl _) (Nat.le_refl _) (Nat.le_of_ble_eq_true rfl) (fun K hK hret => ?_)
  show K 0 [some (.inr (.inr a0)), some (.inr (.inr a1)), some (.inl x2), some (.inr (.inr a3)), some (.inl x4), none] [] h
  unfold f_Ro_clashes at hm
  refine ia_go hK ck_Ro_clashes_0 ⟨fun c => ?_, fun c => ?_⟩
  · replace hm := ia_ifn hm c
    show K 8 [some (.inr (.inr a0)), some (.inr (.inr a1)), some (.inl x2), some (.inr (.inr a3)), some (.inl x4), none] [] h
    refine ia_go hK ck_Ro_clashes_8 ⟨gk_9 hg p1, ?_⟩
    show K 15 [some (.inr (.inr a0)), some (.inr (.inr a1)), some (.inl x2), some (.inr (.inr a3)), some (.inl x4), none] [.inl x4, .inl x2, .inr (.inr (ia_r h a1 0))] h
    obtain ⟨v1, hv1, hm⟩ := ia_bnd hm
    have ev1 := t_La_steps (d + 2) hg (gm_9_0 hg p1) hv1
    refine ia_cV hK mk_La_steps lk_8_52 dc_Ro_clashes_15 (ia_r h a1 0) [.inl x2, .inl x4] [] rfl rfl (Nat.le_of_ble_eq_true rfl) (by decide) rfl (gk_3 hg (gm_9_0 hg p1)) ev1 ⟨rfl, rfl⟩ ?_
    show K 18 [some (.inr (.inr a0)), some (.inr (.inr a1)), some (.inl x2), some (.inr (.inr a3)), some (.inl x4), none] [.inl v1] h
    refine ia_go hK ck_Ro_clashes_18 ⟨fun c => ?_, fun c => ?_⟩
    · replace hm := ia_ifn hm c
      show K 43 [some (.inr (.inr a0)), some (.inr (.inr a1)), some (.inl x2), some (.inr (.inr a3)), some (.inl x4), none] [] h
      refine ia_go hK ck_Ro_clashes_43 ?_
      show K 44 [some (.inr (.inr a0)), some (.inr (.inr a1)), some (.inl x2), some (.inr (.inr a3)), some (.inl x4), none] [.inl 0] h
      exact tj_Ro_clashes_44 hK hg p0 p1 p3 hret 0 hm
    · replace hm := ia_ifp hm c
      show K 22 [some (.inr (.inr a0)), some (.inr (.inr a1)), some (.inl x2), some (.inr (.inr a3)), some (.inl x4), none] [] h
      obtain ⟨c4, hm⟩ := ia_gd_some hm
      refine ia_go hK ck_Ro_clashes_22 ⟨gk_9 hg p1, gk_3 hg (gm_9_0 hg p1), gr_3_6 hg (gm_9_0 hg p1), ga_s103 hg (ka_3_6 (gm_9_0 hg p1)) c4, ?_⟩
      show K 33 [some (.inr (.inr a0)), some (.inr (.inr a1)), some (.inl x2), some (.inr (.inr a3)), some (.inl x4), none] [.inl x4, .inr (.inl (ia_l h ((ia_r h a1 0) + 4) ((x2).toNatClampNeg)))] h
      obtain ⟨v5, hv5, hm⟩ := ia_bnd hm
      have ev5 := t_I_hasBit (d + 2) hg hv5
      refine ia_cS hK mk_I_hasBit lk_8_62 dc_Ro_clashes_33 [.inr (.inl (ia_l h ((ia_r h a1 0) + 4) ((x2).toNatClampNeg))), .inl x4] [] rfl rfl (Nat.le_of_ble_eq_true rfl) ev5 ⟨rfl, rfl⟩ ?_
      show K 36 [some (.inr (.inr a0)), some (.inr (.inr a1)), some (.inl x2), some (.inr (.inr a3)), some (.inl x4), none] [.inl v5] h
      refine ia_go hK ck_Ro_clashes_36 ⟨fun c => ?_, fun c => ?_⟩
      · replace hm := ia_ifn hm c
        show K 43 [some (.inr (.inr a0)), some (.inr (.inr a1)), some (.inl x2), some (.inr (.inr a3)), some (.inl x4), none] [] h
        refine ia_go hK ck_Ro_clashes_43 ?_
        show K 44 [some (.inr (.inr a0)), some (.inr (.inr a1)), some (.inl x2), some (.inr (.inr a3)), some (.inl x4), none] [.inl 0] h
        exact tj_Ro_clashes_44 hK hg p0 p1 p3 hret 0 hm
      · replace hm := ia_ifp hm c
        show K 39 [some (.inr (.inr a0)), some (.inr (.inr a1)), some (.inl x2), some (.inr (.inr a3)), some (.inl x4), none] [] h
        refine ia_go hK ck_Ro_clashes_39 ?_
        show K 44 [some (.inr (.inr a0)), some (.inr (.inr a1)), some (.inl x2), some (.inr (.inr a3)), some (.inl x4), none] [.inl 1] h
        exact tj_Ro_clashes_44 hK hg p0 p1 p3 hret 1 hm
  · replace hm := ia_ifp hm c
    show K 6 [some (.inr (.inr a0)), some (.inr (.inr a1)), some (.inl x2), some (.inr (.inr a3)), some (.inl x4), none] [] h
    refine ia_go hK ck_Ro_clashes_6 ?_
    show K 7 [some (.inr (.inr a0)), some (.inr (.inr a1)), some (.inl x2), some (.inr (.inr a3)), some (.inl x4), none] [.inl 1] h
    obtain rfl := Option.some.inj hm
    exact hret 7 _ ⟨Or.inr rfl, dc_Ro_clashes_7⟩
def mm_Ro_minuteMet : ia_M := (⟨"IceStreet$Route", "minuteMet", "(LIceStreet$Scene;LIceStreet$Route;I)I"⟩, prog_9_method_3_code, 6, (some .int), 8, false)
theorem ok_Ro_minuteMet : ia_mok mm_Ro_minuteMet := ⟨by decide +kernel, by decide +kernel, by decide +kernel, by decide +kernel⟩
theorem mk_Ro_minuteMet : ia_mkn mm_Ro_minuteMet 1 3 := ⟨ia_tb_in (List.mem_of_getElem? (i := 1478) (by decide +kernel)) rfl, ia_tb_in (List.mem_of_getElem? (i := 145) (by decide +kernel)) rfl, by decide +kernel, by decide +kernel, ⟨ia_tb_in (List.mem_of_getElem? (i := 1476) (by decide +kernel)) rfl, ia_tb_in (List.mem_of_getElem? (i := 1477) (by decide +kernel)) rfl⟩⟩
theorem ck_Ro_minuteMet_0 : ia_cks 8 6 false prog_9_method_3_code 0 [(.iconst 0, 0, 0, 0, 0), (.istore 4, 0, 0, 0, 0)] = true := by decide +kernel
theorem ck_Ro_minuteMet_3 : ia_cks 8 6 false prog_9_method_3_code 3 [(.iload 4, 0, 0, 0, 0), (.aload_n 0, 0, 0, 0, 0), (.getfield 28, 8, 1, 0, 0), (.if_icmp .ge 55, 0, 0, 0, 0)] = true := by decide +kernel
theorem ck_Ro_minuteMet_12 : ia_cks 8 6 false prog_9_method_3_code 12 [(.iload 4, 0, 0, 0, 0), (.iload_n 3, 0, 0, 0, 0), (.isub, 0, 0, 0, 0), (.istore 5, 0, 0, 0, 0), (.iload 5, 0, 0, 0, 0), (.ifCond .lt 38, 0, 0, 0, 0)] = true := by decide +kernel
theorem ck_Ro_minuteMet_58 : ia_cks 8 6 false prog_9_method_3_code 58 [(.iinc 4 1, 0, 0, 0, 0), (.goto (-58), 0, 0, 0, 0)] = true := by decide +kernel
theorem ck_Ro_minuteMet_23 : ia_cks 8 6 false prog_9_method_3_code 23 [(.iload 5, 0, 0, 0, 0), (.aload_n 2, 0, 0, 0, 0), (.getfield 28, 8, 1, 0, 0), (.if_icmp .ge 29, 0, 0, 0, 0)] = true := by decide +kernel
theorem ck_Ro_minuteMet_32 : ia_cks 8 6 false prog_9_method_3_code 32 [(.aload_n 0, 0, 0, 0, 0), (.aload_n 1, 0, 0, 0, 0), (.aload_n 0, 0, 0, 0, 0), (.getfield 9, 8, 2, 3, 1), (.iload 4, 0, 0, 0, 0), (.iaload, 0, 0, 0, 0), (.aload_n 2, 0, 0, 0, 0), (.aload_n 2, 0, 0, 0, 0), (.getfield 9, 8, 2, 3, 1), (.iload 5, 0, 0, 0, 0), (.iaload, 0, 0, 0, 0)] = true := by decide +kernel
theorem ck_Ro_minuteMet_52 : ia_cks 8 6 false prog_9_method_3_code 52 [(.ifCond .eq 6, 0, 0, 0, 0)] = true := by decide +kernel
theorem ck_Ro_minuteMet_55 : ia_cks 8 6 false prog_9_method_3_code 55 [(.iload 4, 0, 0, 0, 0)] = true := by decide +kernel
theorem ck_Ro_minuteMet_64 : ia_cks 8 6 false prog_9_method_3_code 64 [(.iconst (-1), 0, 0, 0, 0)] = true := by decide +kernel
theorem dc_Ro_minuteMet_49 : decode prog_9_method_3_code 49 = .ok (.invokevirtual 38, 3) := by decide +kernel
theorem dc_Ro_minuteMet_57 : decode prog_9_method_3_code 57 = .ok (.ireturn, 1) := by decide +kernel
theorem dc_Ro_minuteMet_65 : decode prog_9_method_3_code 65 = .ok (.ireturn, 1) := by decide +kernel
def l_Ro_minuteMet_3 (a0 : Nat) (a1 : Nat) (a2 : Nat) (x3 : Int32) (h : ia_H) (k55 : Int32 → Option Int32) (k64 : Option Int32) (n : Nat) (x4 : Int32) : Option Int32 := match n with
  | 0 => none
  | n + 1 => if (ia_i h a0 1) ≤ x4 then k64 else (if (x4 - x3) < 0 then (l_Ro_minuteMet_3 a0 a1 a2 x3 h k55 k64 n (x4 + 1)) else (if (ia_i h a2 1) ≤ (x4 - x3) then (l_Ro_minuteMet_3 a0 a1 a2 x3 h k55 k64 n (x4 + 1)) else (ia_gd (ia_ib x4 36) (ia_gd (ia_ib (x4 - x3) 36) ((f_Ro_clashes a0 a1 (ia_i h (a0 + 1) ((x4).toNatClampNeg)) a2 (ia_i h (a2 + 1) ((x4 - x3).toNatClampNeg)) h).bind fun v3 => (if v3 = 0 then (l_Ro_minuteMet_3 a0 a1 a2 x3 h k55 k64 n (x4 + 1)) else (k55 x4)))))))
theorem tl_Ro_minuteMet_3 {w : ia_O0} {d N1 W1 : Nat} {K : ia_K} (hK : ia_isK (d + 4) mm_Ro_minuteMet N1 W1 K) {a0 : Nat} {a1 : Nat} {a2 : Nat} {x3 : Int32} {h : ia_H} (hg : gd_ w h) (p0 : (kd_D a0).1 = 8) (p1 : (kd_D a1).1 = 9) (p2 : (kd_D a2).1 = 8) {r : Int32} (hret : ∀ (pc : Nat) (lv : ia_L), ia_ret mm_Ro_minuteMet pc (some (.inl r)) → K pc lv ((some (.inl r)) : Option ia_V).toList h) {k55 : Int32 → Option Int32} {k64 : Option Int32} (hk55 : ∀ (x4 : Int32), k55 x4 = some r → K 55 [none, none, none, none, some (.inl x4), none] [] h) (hk64 : k64 = some r → K 64 [none, none, none, none, none, none] [] h) : ∀ (n : Nat) (x4 : Int32), l_Ro_minuteMet_3 a0 a1 a2 x3 h k55 k64 n x4 = some r → K 3 [some (.inr (.inr a0)), some (.inr (.inr a1)), some (.inr (.inr a2)), some (.inl x3), some (.inl x4), none] [] h := by
  intro n
  induction n with
  | zero =>
    intro x4 hm
    cases (show (none : Option Int32) = some _ from hm)
  | succ n ih =>
    intro x4 hm
    rw [l_Ro_minuteMet_3] at hm
    refine ia_go hK ck_Ro_minuteMet_3 ⟨gk_8 hg p0, fun c => ?_, fun c => ?_⟩
    · replace hm := ia_ifp hm c
      show K 64 [some (.inr (.inr a0)), some (.inr (.inr a1)), some (.inr (.inr a2)), some (.inl x3), some (.inl x4), none] [] h
      refine ia_fg hK (lv' := [none, none, none, none, none, none]) trivial ?_
      exact hk64 hm
    · replace hm := ia_ifn hm c
      show K 12 [some (.inr (.inr a0)), some (.inr (.inr a1)), some (.inr (.inr a2)), some (.inl x3), some (.inl x4), none] [] h
      refine ia_go hK ck_Ro_minuteMet_12 ⟨fun c => ?_, fun c => ?_⟩
      · replace hm := ia_ifp hm c
        show K 58 [some (.inr (.inr a0)), some (.inr (.inr a1)), some (.inr (.inr a2)), some (.inl x3), some (.inl x4), some (.inl (x4 - x3))] [] h
        refine ia_go hK ck_Ro_minuteMet_58 ?_
        show K 3 [some (.inr (.inr a0)), some (.inr (.inr a1)), some (.inr (.inr a2)), some (.inl x3), some (.inl (x4 + 1)), some (.inl (x4 - x3))] [] h
        refine ia_fg hK (lv' := [some (.inr (.inr a0)), some (.inr (.inr a1)), some (.inr (.inr a2)), some (.inl x3), some (.inl (x4 + 1)), none]) ⟨rfl, rfl, rfl, rfl, rfl, trivial⟩ ?_
        exact ih (x4 + 1) hm
      · replace hm := ia_ifn hm c
        show K 23 [some (.inr (.inr a0)), some (.inr (.inr a1)), some (.inr (.inr a2)), some (.inl x3), some (.inl x4), some (.inl (x4 - x3))] [] h
        refine ia_go hK ck_Ro_minuteMet_23 ⟨gk_8 hg p2, fun c => ?_, fun c => ?_⟩
        · replace hm := ia_ifp hm c
          show K 58 [some (.inr (.inr a0)), some (.inr (.inr a1)), some (.inr (.inr a2)), some (.inl x3), some (.inl x4), some (.inl (x4 - x3))] [] h
          refine ia_go hK ck_Ro_minuteMet_58 ?_
          show K 3 [some (.inr (.inr a0)), some (.inr (.inr a1)), some (.inr (.inr a2)), some (.inl x3), some (.inl (x4 + 1)), some (.inl (x4 - x3))] [] h
          refine ia_fg hK (lv' := [some (.inr (.inr a0)), some (.inr (.inr a1)), some (.inr (.inr a2)), some (.inl x3), some (.inl (x4 + 1)), none]) ⟨rfl, rfl, rfl, rfl, rfl, trivial⟩ ?_
          exact ih (x4 + 1) hm
        · replace hm := ia_ifn hm c
          show K 32 [some (.inr (.inr a0)), some (.inr (.inr a1)), some (.inr (.inr a2)), some (.inl x3), some (.inl x4), some (.inl (x4 - x3))] [] h
          obtain ⟨c1, hm⟩ := ia_gd_some hm
          obtain ⟨c2, hm⟩ := ia_gd_some hm
          refine ia_go hK ck_Ro_minuteMet_32 ⟨gk_8 hg p0, gr_8_2 hg p0, ga_i100 hg (ka_8_2 p0) c1, gk_8 hg p2, gr_8_2 hg p2, ga_i100 hg (ka_8_2 p2) c2, ?_⟩
          show K 49 [some (.inr (.inr a0)), some (.inr (.inr a1)), some (.inr (.inr a2)), some (.inl x3), some (.inl x4), some (.inl (x4 - x3))] [.inl (ia_i h (a2 + 1) ((x4 - x3).toNatClampNeg)), .inr (.inr a2), .inl (ia_i h (a0 + 1) ((x4).toNatClampNeg)), .inr (.inr a1), .inr (.inr a0)] h
          obtain ⟨v3, hv3, hm⟩ := ia_bnd hm
          have ev3 := t_Ro_clashes (d + 0) hg p0 p1 p2 hv3
          refine ia_cV hK mk_Ro_clashes lk_8_38 dc_Ro_minuteMet_49 a0 [.inr (.inr a1), .inl (ia_i h (a0 + 1) ((x4).toNatClampNeg)), .inr (.inr a2), .inl (ia_i h (a2 + 1) ((x4 - x3).toNatClampNeg))] [] rfl rfl (Nat.le_of_ble_eq_true rfl) (by decide) rfl (gk_8 hg p0) ev3 ⟨rfl, rfl⟩ ?_
          show K 52 [some (.inr (.inr a0)), some (.inr (.inr a1)), some (.inr (.inr a2)), some (.inl x3), some (.inl x4), some (.inl (x4 - x3))] [.inl v3] h
          refine ia_go hK ck_Ro_minuteMet_52 ⟨fun c => ?_, fun c => ?_⟩
          · replace hm := ia_ifp hm c
            show K 58 [some (.inr (.inr a0)), some (.inr (.inr a1)), some (.inr (.inr a2)), some (.inl x3), some (.inl x4), some (.inl (x4 - x3))] [] h
            refine ia_go hK ck_Ro_minuteMet_58 ?_
            show K 3 [some (.inr (.inr a0)), some (.inr (.inr a1)), some (.inr (.inr a2)), some (.inl x3), some (.inl (x4 + 1)), some (.inl (x4 - x3))] [] h
            refine ia_fg hK (lv' := [some (.inr (.inr a0)), some (.inr (.inr a1)), some (.inr (.inr a2)), some (.inl x3), some (.inl (x4 + 1)), none]) ⟨rfl, rfl, rfl, rfl, rfl, trivial⟩ ?_
            exact ih (x4 + 1) hm
          · replace hm := ia_ifn hm c
            show K 55 [some (.inr (.inr a0)), some (.inr (.inr a1)), some (.inr (.inr a2)), some (.inl x3), some (.inl x4), some (.inl (x4 - x3))] [] h
            refine ia_fg hK (lv' := [none, none, none, none, some (.inl x4), none]) ⟨rfl, trivial⟩ ?_
            exact hk55 x4 hm
def f_Ro_minuteMet (a0 : Nat) (a1 : Nat) (a2 : Nat) (x3 : Int32) (h : ia_H) : Option Int32 := l_Ro_minuteMet_3 a0 a1 a2 x3 h (fun x4 => some x4) (some (-1)) fu_ 0
theorem t_Ro_minuteMet {w : ia_O0} (d : Nat) {a0 : Nat} {a1 : Nat} {a2 : Nat} {x3 : Int32} {h : ia_H} (hg : gd_ w h) (p0 : (kd_D a0).1 = 8) (p1 : (kd_D a1).1 = 9) (p2 : (kd_D a2).1 = 8) {r : Int32} (hm : f_Ro_minuteMet a0 a1 a2 x3 h = some r) : ia_Ev (d + 4) mm_Ro_minuteMet [.inr (.inr a0), .inr (.inr a1), .inr (.inr a2), .inl x3] h (some (.inl r)) h := by
  refine ia_Ev_intro ok_Ro_minuteMet (Nat.le_refl _) (Nat.le_refl _) (Nat.le_of_ble_eq_true rfl) (fun K hK hret => ?_)
  show K 0 [some (.inr (.inr a0)), some (.inr (.inr a1)), some (.inr (.inr a2)), some (.inl x3), none, none] [] h
  unfold f_Ro_minuteMet at hm
  refine ia_go hK ck_Ro_minuteMet_0 ?_
  show K 3 [some (.inr (.inr a0)), some (.inr (.inr a1)), some (.inr (.inr a2)), some (.inl x3), some (.inl 0), none] [] h
  refine tl_Ro_minuteMet_3 hK hg p0 p1 p2 hret ?_ ?_ fu_ 0 hm
  · intro x4 hm
    refine ia_go hK ck_Ro_minuteMet_55 ?_
    show K 57 [none, none, none, none, some (.inl x4), none] [.inl x4] h
    obtain rfl := Option.some.inj hm
    exact hret 57 _ dc_Ro_minuteMet_57
  · intro hm
    refine ia_go hK ck_Ro_minuteMet_64 ?_
    show K 65 [none, none, none, none, none, none] [.inl (-1)] h
    obtain rfl := Option.some.inj hm
    exact hret 65 _ dc_Ro_minuteMet_65
def mm_Ro_fewestLater : ia_M := (⟨"IceStreet$Route", "fewestLater", "(LIceStreet$Scene;LIceStreet$Route;)I"⟩, prog_9_method_4_code, 4, (some .int), 8, false)
theorem ok_Ro_fewestLater : ia_mok mm_Ro_fewestLater := ⟨by decide +kernel, by decide +kernel, by decide +kernel, by decide +kernel⟩
theorem mk_Ro_fewestLater : ia_mkn mm_Ro_fewestLater 1 2 := ⟨ia_tb_in (List.mem_of_getElem? (i := 1474) (by decide +kernel)) rfl, ia_tb_in (List.mem_of_getElem? (i := 145) (by decide +kernel)) rfl, by decide +kernel, by decide +kernel, ⟨ia_tb_in (List.mem_of_getElem? (i := 1472) (by decide +kernel)) rfl, ia_tb_in (List.mem_of_getElem? (i := 1473) (by decide +kernel)) rfl⟩⟩
theorem ck_Ro_fewestLater_0 : ia_cks 8 4 false prog_9_method_4_code 0 [(.iconst 0, 0, 0, 0, 0), (.istore_n 3, 0, 0, 0, 0)] = true := by decide +kernel
theorem ck_Ro_fewestLater_2 : ia_cks 8 4 false prog_9_method_4_code 2 [(.iload_n 3, 0, 0, 0, 0), (.bipush 40, 0, 0, 0, 0), (.if_icmp .gt 22, 0, 0, 0, 0)] = true := by decide +kernel
theorem ck_Ro_fewestLater_8 : ia_cks 8 4 false prog_9_method_4_code 8 [(.aload_n 0, 0, 0, 0, 0), (.aload_n 1, 0, 0, 0, 0), (.aload_n 2, 0, 0, 0, 0), (.iload_n 3, 0, 0, 0, 0)] = true := by decide +kernel
theorem ck_Ro_fewestLater_15 : ia_cks 8 4 false prog_9_method_4_code 15 [(.iconst (-1), 0, 0, 0, 0), (.if_icmp .ne 5, 0, 0, 0, 0)] = true := by decide +kernel
theorem ck_Ro_fewestLater_21 : ia_cks 8 4 false prog_9_method_4_code 21 [(.iinc 3 1, 0, 0, 0, 0), (.goto (-22), 0, 0, 0, 0)] = true := by decide +kernel
theorem ck_Ro_fewestLater_19 : ia_cks 8 4 false prog_9_method_4_code 19 [(.iload_n 3, 0, 0, 0, 0)] = true := by decide +kernel
theorem ck_Ro_fewestLater_27 : ia_cks 8 4 false prog_9_method_4_code 27 [(.iconst (-1), 0, 0, 0, 0)] = true := by decide +kernel
theorem dc_Ro_fewestLater_12 : decode prog_9_method_4_code 12 = .ok (.invokevirtual 42, 3) := by decide +kernel
theorem dc_Ro_fewestLater_20 : decode prog_9_method_4_code 20 = .ok (.ireturn, 1) := by decide +kernel
theorem dc_Ro_fewestLater_28 : decode prog_9_method_4_code 28 = .ok (.ireturn, 1) := by decide +kernel
def l_Ro_fewestLater_2 (a0 : Nat) (a1 : Nat) (a2 : Nat) (h : ia_H) (k19 : Int32 → Option Int32) (k27 : Option Int32) (n : Nat) (x3 : Int32) : Option Int32 := match n with
  | 0 => none
  | n + 1 => if 40 < x3 then k27 else ((f_Ro_minuteMet a0 a1 a2 x3 h).bind fun v1 => (if v1 = (-1) then (k19 x3) else (l_Ro_fewestLater_2 a0 a1 a2 h k19 k27 n (x3 + 1))))
theorem tl_Ro_fewestLater_2 {w : ia_O0} {d N1 W1 : Nat} {K : ia_K} (hK : ia_isK (d + 5) mm_Ro_fewestLater N1 W1 K) {a0 : Nat} {a1 : Nat} {a2 : Nat} {h : ia_H} (hg : gd_ w h) (p0 : (kd_D a0).1 = 8) (p1 : (kd_D a1).1 = 9) (p2 : (kd_D a2).1 = 8) {r : Int32} (hret : ∀ (pc : Nat) (lv : ia_L), ia_ret mm_Ro_fewestLater pc (some (.inl r)) → K pc lv ((some (.inl r)) : Option ia_V).toList h) {k19 : Int32 → Option Int32} {k27 : Option Int32} (hk19 : ∀ (x3 : Int32), k19 x3 = some r → K 19 [none, none, none, some (.inl x3)] [] h) (hk27 : k27 = some r → K 27 [none, none, none, none] [] h) : ∀ (n : Nat) (x3 : Int32), l_Ro_fewestLater_2 a0 a1 a2 h k19 k27 n x3 = some r → K 2 [some (.inr (.inr a0)), some (.inr (.inr a1)), some (.inr (.inr a2)), some (.inl x3)] [] h := by
  intro n
  induction n with
  | zero =>
    intro x3 hm
    cases (show (none : Option Int32) = some _ from hm)
  | succ n ih =>
    intro x3 hm
    rw [l_Ro_fewestLater_2] at hm
    refine ia_go hK ck_Ro_fewestLater_2 ⟨fun c => ?_, fun c => ?_⟩
    · replace hm := ia_ifp hm c
      show K 27 [some (.inr (.inr a0)), some (.inr (.inr a1)), some (.inr (.inr a2)), some (.inl x3)] [] h
      refine ia_fg hK (lv' := [none, none, none, none]) trivial ?_
      exact hk27 hm
    · replace hm := ia_ifn hm c
      show K 8 [some (.inr (.inr a0)), some (.inr (.inr a1)), some (.inr (.inr a2)), some (.inl x3)] [] h
      refine ia_go hK ck_Ro_fewestLater_8 ?_
      show K 12 [some (.inr (.inr a0)), some (.inr (.inr a1)), some (.inr (.inr a2)), some (.inl x3)] [.inl x3, .inr (.inr a2), .inr (.inr a1), .inr (.inr a0)] h
      obtain ⟨v1, hv1, hm⟩ := ia_bnd hm
      have ev1 := t_Ro_minuteMet (d + 0) hg p0 p1 p2 hv1
      refine ia_cV hK mk_Ro_minuteMet lk_8_42 dc_Ro_fewestLater_12 a0 [.inr (.inr a1), .inr (.inr a2), .inl x3] [] rfl rfl (Nat.le_of_ble_eq_true rfl) (by decide) rfl (gk_8 hg p0) ev1 ⟨rfl, rfl⟩ ?_
      show K 15 [some (.inr (.inr a0)), some (.inr (.inr a1)), some (.inr (.inr a2)), some (.inl x3)] [.inl v1] h
      refine ia_go hK ck_Ro_fewestLater_15 ⟨fun c => ?_, fun c => ?_⟩
      · replace hm := ia_ifn hm c
        show K 21 [some (.inr (.inr a0)), some (.inr (.inr a1)), some (.inr (.inr a2)), some (.inl x3)] [] h
        refine ia_go hK ck_Ro_fewestLater_21 ?_
        show K 2 [some (.inr (.inr a0)), some (.inr (.inr a1)), some (.inr (.inr a2)), some (.inl (x3 + 1))] [] h
        exact ih (x3 + 1) hm
      · replace hm := ia_ifp hm c
        show K 19 [some (.inr (.inr a0)), some (.inr (.inr a1)), some (.inr (.inr a2)), some (.inl x3)] [] h
        refine ia_fg hK (lv' := [none, none, none, some (.inl x3)]) ⟨rfl, trivial⟩ ?_
        exact hk19 x3 hm
def f_Ro_fewestLater (a0 : Nat) (a1 : Nat) (a2 : Nat) (h : ia_H) : Option Int32 := l_Ro_fewestLater_2 a0 a1 a2 h (fun x3 => some x3) (some (-1)) fu_ 0
theorem t_Ro_fewestLater {w : ia_O0} (d : Nat) {a0 : Nat} {a1 : Nat} {a2 : Nat} {h : ia_H} (hg : gd_ w h) (p0 : (kd_D a0).1 = 8) (p1 : (kd_D a1).1 = 9) (p2 : (kd_D a2).1 = 8) {r : Int32} (hm : f_Ro_fewestLater a0 a1 a2 h = some r) : ia_Ev (d + 5) mm_Ro_fewestLater [.inr (.inr a0), .inr (.inr a1), .inr (.inr a2)] h (some (.inl r)) h := by
  refine ia_Ev_intro ok_Ro_fewestLater (Nat.le_refl _) (Nat.le_refl _) (Nat.le_of_ble_eq_true rfl) (fun K hK hret => ?_)
  show K 0 [some (.inr (.inr a0)), some (.inr (.inr a1)), some (.inr (.inr a2)), none] [] h
  unfold f_Ro_fewestLater at hm
  refine ia_go hK ck_Ro_fewestLater_0 ?_
  show K 2 [some (.inr (.inr a0)), some (.inr (.inr a1)), some (.inr (.inr a2)), some (.inl 0)] [] h
  refine tl_Ro_fewestLater_2 hK hg p0 p1 p2 hret ?_ ?_ fu_ 0 hm
  · intro x3 hm
    refine ia_go hK ck_Ro_fewestLater_19 ?_
    show K 20 [none, none, none, some (.inl x3)] [.inl x3] h
    obtain rfl := Option.some.inj hm
    exact hret 20 _ dc_Ro_fewestLater_20
  · intro hm
    refine ia_go hK ck_Ro_fewestLater_27 ?_
    show K 28 [none, none, none, none] [.inl (-1)] h
    obtain rfl := Option.some.inj hm
    exact hret 28 _ dc_Ro_fewestLater_28
def mm_I_meet : ia_M := (⟨"IceStreet", "meet", "(IIIIIIIIZ)I"⟩, prog_1_method_31_code, 12, (some .int), 0, false)
theorem ok_I_meet : ia_mok mm_I_meet := ⟨by decide +kernel, by decide +kernel, by decide +kernel, by decide +kernel⟩
theorem mk_I_meet : ia_mkn mm_I_meet 1 9 := ⟨ia_tb_in (List.mem_of_getElem? (i := 1464) (by decide +kernel)) rfl, ia_tb_in (List.mem_of_getElem? (i := 133) (by decide +kernel)) rfl, by decide +kernel, by decide +kernel, ⟨ia_tb_in (List.mem_of_getElem? (i := 1462) (by decide +kernel)) rfl, ia_tb_in (List.mem_of_getElem? (i := 1463) (by decide +kernel)) rfl⟩⟩
theorem ck_I_meet_0 : ia_cks 0 12 false prog_1_method_31_code 0 [(.iload 9, 0, 0, 0, 0), (.ifCond .ne 15, 0, 0, 0, 0)] = true := by decide +kernel
theorem ck_I_meet_17 : ia_cks 0 12 false prog_1_method_31_code 17 [(.aload_n 0, 0, 0, 0, 0), (.iload_n 1, 0, 0, 0, 0), (.iload_n 2, 0, 0, 0, 0), (.iload_n 3, 0, 0, 0, 0), (.iload 4, 0, 0, 0, 0)] = true := by decide +kernel
theorem ck_I_meet_26 : ia_cks 0 12 false prog_1_method_31_code 26 [(.ifCond .ne 5, 0, 0, 0, 0)] = true := by decide +kernel
theorem ck_I_meet_31 : ia_cks 0 12 false prog_1_method_31_code 31 [(.iload 5, 0, 0, 0, 0), (.sipush 1000, 0, 0, 0, 0), (.irem, 0, 0, 0, 0), (.istore 10, 0, 0, 0, 0), (.iload 5, 0, 0, 0, 0), (.sipush 1000, 0, 0, 0, 0), (.idiv, 0, 0, 0, 0), (.istore 11, 0, 0, 0, 0), (.aload_n 0, 0, 0, 0, 0), (.iload 10, 0, 0, 0, 0), (.iload 6, 0, 0, 0, 0), (.bipush 100, 0, 0, 0, 0), (.irem, 0, 0, 0, 0), (.iload 6, 0, 0, 0, 0), (.bipush 100, 0, 0, 0, 0), (.idiv, 0, 0, 0, 0)] = true := by decide +kernel
theorem ck_I_meet_63 : ia_cks 0 12 false prog_1_method_31_code 63 [(.ifCond .eq 22, 0, 0, 0, 0)] = true := by decide +kernel
theorem ck_I_meet_85 : ia_cks 0 12 false prog_1_method_31_code 85 [(.iconst (-1), 0, 0, 0, 0)] = true := by decide +kernel
theorem ck_I_meet_66 : ia_cks 0 12 false prog_1_method_31_code 66 [(.aload_n 0, 0, 0, 0, 0), (.iload 11, 0, 0, 0, 0), (.iload 7, 0, 0, 0, 0), (.bipush 100, 0, 0, 0, 0), (.irem, 0, 0, 0, 0), (.iload 7, 0, 0, 0, 0), (.bipush 100, 0, 0, 0, 0), (.idiv, 0, 0, 0, 0)] = true := by decide +kernel
theorem ck_I_meet_82 : ia_cks 0 12 false prog_1_method_31_code 82 [(.ifCond .ne 5, 0, 0, 0, 0)] = true := by decide +kernel
theorem ck_I_meet_87 : ia_cks 0 12 false prog_1_method_31_code 87 [(.aload_n 0, 0, 0, 0, 0), (.getfield 51, 0, 5, 3, 247), (.aload_n 0, 0, 0, 0, 0), (.getfield 44, 0, 4, 3, 239), (.iconst 0, 0, 0, 0, 0)] = true := by decide +kernel
theorem ck_I_meet_99 : ia_cks 0 12 false prog_1_method_31_code 99 [(.aload_n 0, 0, 0, 0, 0), (.getfield 83, 0, 9, 3, 349), (.aload_n 0, 0, 0, 0, 0), (.getfield 51, 0, 5, 3, 247), (.iload 10, 0, 0, 0, 0), (.iload 6, 0, 0, 0, 0)] = true := by decide +kernel
theorem ck_I_meet_114 : ia_cks 0 12 false prog_1_method_31_code 114 [(.ifCond .eq 21, 0, 0, 0, 0)] = true := by decide +kernel
theorem ck_I_meet_135 : ia_cks 0 12 false prog_1_method_31_code 135 [(.iconst (-1), 0, 0, 0, 0)] = true := by decide +kernel
theorem ck_I_meet_117 : ia_cks 0 12 false prog_1_method_31_code 117 [(.aload_n 0, 0, 0, 0, 0), (.getfield 87, 0, 10, 3, 351), (.aload_n 0, 0, 0, 0, 0), (.getfield 51, 0, 5, 3, 247), (.iload 11, 0, 0, 0, 0), (.iload 7, 0, 0, 0, 0)] = true := by decide +kernel
theorem ck_I_meet_132 : ia_cks 0 12 false prog_1_method_31_code 132 [(.ifCond .ne 5, 0, 0, 0, 0)] = true := by decide +kernel
theorem ck_I_meet_137 : ia_cks 0 12 false prog_1_method_31_code 137 [(.iload 9, 0, 0, 0, 0), (.ifCond .eq 21, 0, 0, 0, 0)] = true := by decide +kernel
theorem ck_I_meet_160 : ia_cks 0 12 false prog_1_method_31_code 160 [(.aload_n 0, 0, 0, 0, 0), (.getfield 83, 0, 9, 3, 349), (.aload_n 0, 0, 0, 0, 0), (.getfield 44, 0, 4, 3, 239), (.aload_n 0, 0, 0, 0, 0), (.getfield 87, 0, 10, 3, 351), (.iload 8, 0, 0, 0, 0)] = true := by decide +kernel
theorem ck_I_meet_142 : ia_cks 0 12 false prog_1_method_31_code 142 [(.aload_n 0, 0, 0, 0, 0), (.getfield 83, 0, 9, 3, 349), (.aload_n 0, 0, 0, 0, 0), (.getfield 44, 0, 4, 3, 239), (.aload_n 0, 0, 0, 0, 0), (.getfield 87, 0, 10, 3, 351)] = true := by decide +kernel
theorem ck_I_meet_157 : ia_cks 0 12 false prog_1_method_31_code 157 [(.goto 20, 0, 0, 0, 0)] = true := by decide +kernel
theorem ck_I_meet_29 : ia_cks 0 12 false prog_1_method_31_code 29 [(.iconst (-1), 0, 0, 0, 0)] = true := by decide +kernel
theorem ck_I_meet_5 : ia_cks 0 12 false prog_1_method_31_code 5 [(.iload 8, 0, 0, 0, 0), (.ifCond .lt 22, 0, 0, 0, 0)] = true := by decide +kernel
theorem ck_I_meet_10 : ia_cks 0 12 false prog_1_method_31_code 10 [(.iload 8, 0, 0, 0, 0), (.bipush 40, 0, 0, 0, 0), (.if_icmp .gt 15, 0, 0, 0, 0)] = true := by decide +kernel
theorem dc_I_meet_23 : decode prog_1_method_31_code 23 = .ok (.invokevirtual 266, 3) := by decide +kernel
theorem dc_I_meet_60 : decode prog_1_method_31_code 60 = .ok (.invokevirtual 299, 3) := by decide +kernel
theorem dc_I_meet_86 : decode prog_1_method_31_code 86 = .ok (.ireturn, 1) := by decide +kernel
theorem dc_I_meet_79 : decode prog_1_method_31_code 79 = .ok (.invokevirtual 299, 3) := by decide +kernel
theorem dc_I_meet_96 : decode prog_1_method_31_code 96 = .ok (.invokevirtual 303, 3) := by decide +kernel
theorem dc_I_meet_111 : decode prog_1_method_31_code 111 = .ok (.invokevirtual 398, 3) := by decide +kernel
theorem dc_I_meet_136 : decode prog_1_method_31_code 136 = .ok (.ireturn, 1) := by decide +kernel
theorem dc_I_meet_129 : decode prog_1_method_31_code 129 = .ok (.invokevirtual 398, 3) := by decide +kernel
theorem dc_I_meet_174 : decode prog_1_method_31_code 174 = .ok (.invokevirtual 406, 3) := by decide +kernel
theorem dc_I_meet_177 : decode prog_1_method_31_code 177 = .ok (.ireturn, 1) := by decide +kernel
theorem dc_I_meet_154 : decode prog_1_method_31_code 154 = .ok (.invokevirtual 402, 3) := by decide +kernel
theorem dc_I_meet_30 : decode prog_1_method_31_code 30 = .ok (.ireturn, 1) := by decide +kernel
def j_I_meet_17 (x1 : Int32) (x2 : Int32) (x3 : Int32) (x4 : Int32) (x5 : Int32) (x6 : Int32) (x7 : Int32) (x8 : Int32) (x9 : Int32) (h : ia_H) : Option (Int32 × ia_H) := (f_I_stage x1 x2 x3 x4 h).bind fun v1 => (if v1.1 = 0 then (some ((-1), v1.2)) else ((f_I_isTrip (x5 - x5 / 1000 * 1000) (x6 - x6 / 100 * 100) (x6 / 100) v1.2).bind fun v2 => (if v2 = 0 then (some ((-1), v1.2)) else ((f_I_isTrip (x5 / 1000) (x7 - x7 / 100 * 100) (x7 / 100) v1.2).bind fun v3 => (if v3 = 0 then (some ((-1), v1.2)) else ((f_Wa_survey 303 0 v1.2).bind fun v4 => ((f_Ro_take 413 (x5 - x5 / 1000 * 1000) x6 v4).bind fun v5 => (if v5.1 = 0 then (some ((-1), v5.2)) else ((f_Ro_take 415 (x5 / 1000) x7 v5.2).bind fun v6 => (if v6.1 = 0 then (some ((-1), v6.2)) else (if x9 = 0 then ((f_Ro_minuteMet 413 303 415 x8 v6.2).bind fun v7 => (some (v7, v6.2))) else ((f_Ro_fewestLater 413 303 415 v6.2).bind fun v8 => (some (v8, v6.2))))))))))))))
theorem tj_I_meet_17 {w : ia_O0} {d N1 W1 : Nat} {K : ia_K} (hK : ia_isK (d + 7) mm_I_meet N1 W1 K) {x1 : Int32} {x2 : Int32} {x3 : Int32} {x4 : Int32} {x5 : Int32} {x6 : Int32} {x7 : Int32} {x8 : Int32} {x9 : Int32} {r : Int32} {h1 : ia_H} (hret : ∀ (pc : Nat) (lv : ia_L), ia_ret mm_I_meet pc (some (.inl r)) → K pc lv ((some (.inl r)) : Option ia_V).toList h1) : ∀ (h : ia_H), gd_ w h → j_I_meet_17 x1 x2 x3 x4 x5 x6 x7 x8 x9 h = some (r, h1) → K 17 [some (.inr (.inr 64)), some (.inl x1), some (.inl x2), some (.inl x3), some (.inl x4), some (.inl x5), some (.inl x6), some (.inl x7), some (.inl x8), some (.inl x9), none, none] [] h := by
  intro h hg hm
  unfold j_I_meet_17 at hm
  refine ia_go hK ck_I_meet_17 ?_
  show K 23 [some (.inr (.inr 64)), some (.inl x1), some (.inl x2), some (.inl x3), some (.inl x4), some (.inl x5), some (.inl x6), some (.inl x7), some (.inl x8), some (.inl x9), none, none] [.inl x4, .inl x3, .inl x2, .inl x1, .inr (.inr 64)] h
  obtain ⟨v1, hv1, hm⟩ := ia_bnd hm
  have ev1 := t_I_stage (d + 0) hg hv1
  have gv1 := g_I_stage hg hv1
  refine ia_cV hK mk_I_stage lk_0_266 dc_I_meet_23 64 [.inl x1, .inl x2, .inl x3, .inl x4] [] rfl rfl (Nat.le_of_ble_eq_true rfl) (by decide) rfl (gk_0 hg pk_64) ev1 (gd_nm hg gv1) ?_
  show K 26 [some (.inr (.inr 64)), some (.inl x1), some (.inl x2), some (.inl x3), some (.inl x4), some (.inl x5), some (.inl x6), some (.inl x7), some (.inl x8), some (.inl x9), none, none] [.inl v1.1] v1.2
  refine ia_go hK ck_I_meet_26 ⟨fun c => ?_, fun c => ?_⟩
  · replace hm := ia_ifn hm c
    show K 31 [some (.inr (.inr 64)), some (.inl x1), some (.inl x2), some (.inl x3), some (.inl x4), some (.inl x5), some (.inl x6), some (.inl x7), some (.inl x8), some (.inl x9), none, none] [] v1.2
    refine ia_go hK ck_I_meet_31 ⟨(by decide), (by decide), (by decide), (by decide), ?_⟩
    show K 60 [some (.inr (.inr 64)), some (.inl x1), some (.inl x2), some (.inl x3), some (.inl x4), some (.inl x5), some (.inl x6), some (.inl x7), some (.inl x8), some (.inl x9), some (.inl (x5 - x5 / 1000 * 1000)), some (.inl (x5 / 1000))] [.inl (x6 / 100), .inl (x6 - x6 / 100 * 100), .inl (x5 - x5 / 1000 * 1000), .inr (.inr 64)] v1.2
    obtain ⟨v2, hv2, hm⟩ := ia_bnd hm
    have ev2 := t_I_isTrip (d + 5) gv1 hv2
    refine ia_cV hK mk_I_isTrip lk_0_299 dc_I_meet_60 64 [.inl (x5 - x5 / 1000 * 1000), .inl (x6 - x6 / 100 * 100), .inl (x6 / 100)] [] rfl rfl (Nat.le_of_ble_eq_true rfl) (by decide) rfl (gk_0 gv1 pk_64) ev2 ⟨rfl, rfl⟩ ?_
    show K 63 [some (.inr (.inr 64)), some (.inl x1), some (.inl x2), some (.inl x3), some (.inl x4), some (.inl x5), some (.inl x6), some (.inl x7), some (.inl x8), some (.inl x9), some (.inl (x5 - x5 / 1000 * 1000)), some (.inl (x5 / 1000))] [.inl v2] v1.2
    refine ia_go hK ck_I_meet_63 ⟨fun c => ?_, fun c => ?_⟩
    · replace hm := ia_ifp hm c
      show K 85 [some (.inr (.inr 64)), some (.inl x1), some (.inl x2), some (.inl x3), some (.inl x4), some (.inl x5), some (.inl x6), some (.inl x7), some (.inl x8), some (.inl x9), some (.inl (x5 - x5 / 1000 * 1000)), some (.inl (x5 / 1000))] [] v1.2
      refine ia_go hK ck_I_meet_85 ?_
      show K 86 [some (.inr (.inr 64)), some (.inl x1), some (.inl x2), some (.inl x3), some (.inl x4), some (.inl x5), some (.inl x6), some (.inl x7), some (.inl x8), some (.inl x9), some (.inl (x5 - x5 / 1000 * 1000)), some (.inl (x5 / 1000))] [.inl (-1)] v1.2
      obtain ⟨rfl, rfl⟩ := Prod.mk.inj (Option.some.inj hm)
      exact hret 86 _ dc_I_meet_86
    · replace hm := ia_ifn hm c
      show K 66 [some (.inr (.inr 64)), some (.inl x1), some (.inl x2), some (.inl x3), some (.inl x4), some (.inl x5), some (.inl x6), some (.inl x7), some (.inl x8), some (.inl x9), some (.inl (x5 - x5 / 1000 * 1000)), some (.inl (x5 / 1000))] [] v1.2
      refine ia_go hK ck_I_meet_66 ⟨(by decide), (by decide), ?_⟩
      show K 79 [some (.inr (.inr 64)), some (.inl x1), some (.inl x2), some (.inl x3), some (.inl x4), some (.inl x5), some (.inl x6), some (.inl x7), some (.inl x8), some (.inl x9), some (.inl (x5 - x5 / 1000 * 1000)), some (.inl (x5 / 1000))] [.inl (x7 / 100), .inl (x7 - x7 / 100 * 100), .inl (x5 / 1000), .inr (.inr 64)] v1.2
      obtain ⟨v3, hv3, hm⟩ := ia_bnd hm
      have ev3 := t_I_isTrip (d + 5) gv1 hv3
      refine ia_cV hK mk_I_isTrip lk_0_299 dc_I_meet_79 64 [.inl (x5 / 1000), .inl (x7 - x7 / 100 * 100), .inl (x7 / 100)] [] rfl rfl (Nat.le_of_ble_eq_true rfl) (by decide) rfl (gk_0 gv1 pk_64) ev3 ⟨rfl, rfl⟩ ?_
      show K 82 [some (.inr (.inr 64)), some (.inl x1), some (.inl x2), some (.inl x3), some (.inl x4), some (.inl x5), some (.inl x6), some (.inl x7), some (.inl x8), some (.inl x9), some (.inl (x5 - x5 / 1000 * 1000)), some (.inl (x5 / 1000))] [.inl v3] v1.2
      refine ia_go hK ck_I_meet_82 ⟨fun c => ?_, fun c => ?_⟩
      · replace hm := ia_ifn hm c
        show K 87 [some (.inr (.inr 64)), some (.inl x1), some (.inl x2), some (.inl x3), some (.inl x4), some (.inl x5), some (.inl x6), some (.inl x7), some (.inl x8), some (.inl x9), some (.inl (x5 - x5 / 1000 * 1000)), some (.inl (x5 / 1000))] [] v1.2
        refine ia_go hK ck_I_meet_87 ⟨gk_0 gv1 pk_64, gr_0_5 gv1 pk_64, gk_0 gv1 pk_64, gr_0_4 gv1 pk_64, ?_⟩
        show K 96 [some (.inr (.inr 64)), some (.inl x1), some (.inl x2), some (.inl x3), some (.inl x4), some (.inl x5), some (.inl x6), some (.inl x7), some (.inl x8), some (.inl x9), some (.inl (x5 - x5 / 1000 * 1000)), some (.inl (x5 / 1000))] [.inl 0, .inr (.inr 303), .inr (.inr 311)] v1.2
        obtain ⟨v4, hv4, hm⟩ := ia_bnd hm
        have ev4 := t_Wa_survey (d + 5) gv1 (ka_0_4 pk_64) hv4
        have gv4 := g_Wa_survey gv1 (ka_0_4 pk_64) hv4
        refine ia_cV hK mk_Wa_survey lk_0_303 dc_I_meet_96 311 [.inr (.inr 303), .inl 0] [] rfl rfl (Nat.le_of_ble_eq_true rfl) (by decide) rfl (gk_11 gv1 (ka_0_5 pk_64)) ev4 (gd_nm gv1 gv4) ?_
        show K 99 [some (.inr (.inr 64)), some (.inl x1), some (.inl x2), some (.inl x3), some (.inl x4), some (.inl x5), some (.inl x6), some (.inl x7), some (.inl x8), some (.inl x9), some (.inl (x5 - x5 / 1000 * 1000)), some (.inl (x5 / 1000))] [] v4
        refine ia_go hK ck_I_meet_99 ⟨gk_0 gv4 pk_64, gr_0_9 gv4 pk_64, gk_0 gv4 pk_64, gr_0_5 gv4 pk_64, ?_⟩
        show K 111 [some (.inr (.inr 64)), some (.inl x1), some (.inl x2), some (.inl x3), some (.inl x4), some (.inl x5), some (.inl x6), some (.inl x7), some (.inl x8), some (.inl x9), some (.inl (x5 - x5 / 1000 * 1000)), some (.inl (x5 / 1000))] [.inl x6, .inl (x5 - x5 / 1000 * 1000), .inr (.inr 311), .inr (.inr 413)] v4
        obtain ⟨v5, hv5, hm⟩ := ia_bnd hm
        have ev5 := t_Ro_take (d + 3) gv4 (ka_0_9 pk_64) hv5
        have gv5 := g_Ro_take gv4 (ka_0_9 pk_64) hv5
        refine ia_cV hK mk_Ro_take lk_0_398 dc_I_meet_111 413 [.inr (.inr 311), .inl (x5 - x5 / 1000 * 1000), .inl x6] [] rfl rfl (Nat.le_of_ble_eq_true rfl) (by decide) rfl (gk_8 gv4 (ka_0_9 pk_64)) ev5 (gd_nm gv4 gv5) ?_
        show K 114 [some (.inr (.inr 64)), some (.inl x1), some (.inl x2), some (.inl x3), some (.inl x4), some (.inl x5), some (.inl x6), some (.inl x7), some (.inl x8), some (.inl x9), some (.inl (x5 - x5 / 1000 * 1000)), some (.inl (x5 / 1000))] [.inl v5.1] v5.2
        refine ia_go hK ck_I_meet_114 ⟨fun c => ?_, fun c => ?_⟩
        · replace hm := ia_ifp hm c
          show K 135 [some (.inr (.inr 64)), some (.inl x1), some (.inl x2), some (.inl x3), some (.inl x4), some (.inl x5), some (.inl x6), some (.inl x7), some (.inl x8), some (.inl x9), some (.inl (x5 - x5 / 1000 * 1000)), some (.inl (x5 / 1000))] [] v5.2
          refine ia_go hK ck_I_meet_135 ?_
          show K 136 [some (.inr (.inr 64)), some (.inl x1), some (.inl x2), some (.inl x3), some (.inl x4), some (.inl x5), some (.inl x6), some (.inl x7), some (.inl x8), some (.inl x9), some (.inl (x5 - x5 / 1000 * 1000)), some (.inl (x5 / 1000))] [.inl (-1)] v5.2
          obtain ⟨rfl, rfl⟩ := Prod.mk.inj (Option.some.inj hm)
          exact hret 136 _ dc_I_meet_136
        · replace hm := ia_ifn hm c
          show K 117 [some (.inr (.inr 64)), some (.inl x1), some (.inl x2), some (.inl x3), some (.inl x4), some (.inl x5), some (.inl x6), some (.inl x7), some (.inl x8), some (.inl x9), some (.inl (x5 - x5 / 1000 * 1000)), some (.inl (x5 / 1000))] [] v5.2
          refine ia_go hK ck_I_meet_117 ⟨gk_0 gv5 pk_64, gr_0_10 gv5 pk_64, gk_0 gv5 pk_64, gr_0_5 gv5 pk_64, ?_⟩
          show K 129 [some (.inr (.inr 64)), some (.inl x1), some (.inl x2), some (.inl x3), some (.inl x4), some (.inl x5), some (.inl x6), some (.inl x7), some (.inl x8), some (.inl x9), some (.inl (x5 - x5 / 1000 * 1000)), some (.inl (x5 / 1000))] [.inl x7, .inl (x5 / 1000), .inr (.inr 311), .inr (.inr 415)] v5.2
          obtain ⟨v6, hv6, hm⟩ := ia_bnd hm
          have ev6 := t_Ro_take (d + 3) gv5 (ka_0_10 pk_64) hv6
          have gv6 := g_Ro_take gv5 (ka_0_10 pk_64) hv6
          refine ia_cV hK mk_Ro_take lk_0_398 dc_I_meet_129 415 [.inr (.inr 311), .inl (x5 / 1000), .inl x7] [] rfl rfl (Nat.le_of_ble_eq_true rfl) (by decide) rfl (gk_8 gv5 (ka_0_10 pk_64)) ev6 (gd_nm gv5 gv6) ?_
          show K 132 [some (.inr (.inr 64)), some (.inl x1), some (.inl x2), some (.inl x3), some (.inl x4), some (.inl x5), some (.inl x6), some (.inl x7), some (.inl x8), some (.inl x9), some (.inl (x5 - x5 / 1000 * 1000)), some (.inl (x5 / 1000))] [.inl v6.1] v6.2
          refine ia_go hK ck_I_meet_132 ⟨fun c => ?_, fun c => ?_⟩
          · replace hm := ia_ifn hm c
            show K 137 [some (.inr (.inr 64)), some (.inl x1), some (.inl x2), some (.inl x3), some (.inl x4), some (.inl x5), some (.inl x6), some (.inl x7), some (.inl x8), some (.inl x9), some (.inl (x5 - x5 / 1000 * 1000)), some (.inl (x5 / 1000))] [] v6.2
            refine ia_go hK ck_I_meet_137 ⟨fun c => ?_, fun c => ?_⟩
            · replace hm := ia_ifp hm c
              show K 160 [some (.inr (.inr 64)), some (.inl x1), some (.inl x2), some (.inl x3), some (.inl x4), some (.inl x5), some (.inl x6), some (.inl x7), some (.inl x8), some (.inl x9), some (.inl (x5 - x5 / 1000 * 1000)), some (.inl (x5 / 1000))] [] v6.2
              refine ia_go hK ck_I_meet_160 ⟨gk_0 gv6 pk_64, gr_0_9 gv6 pk_64, gk_0 gv6 pk_64, gr_0_4 gv6 pk_64, gk_0 gv6 pk_64, gr_0_10 gv6 pk_64, ?_⟩
              show K 174 [some (.inr (.inr 64)), some (.inl x1), some (.inl x2), some (.inl x3), some (.inl x4), some (.inl x5), some (.inl x6), some (.inl x7), some (.inl x8), some (.inl x9), some (.inl (x5 - x5 / 1000 * 1000)), some (.inl (x5 / 1000))] [.inl x8, .inr (.inr 415), .inr (.inr 303), .inr (.inr 413)] v6.2
              obtain ⟨v7, hv7, hm⟩ := ia_bnd hm
              have ev7 := t_Ro_minuteMet (d + 2) gv6 (ka_0_9 pk_64) (ka_0_4 pk_64) (ka_0_10 pk_64) hv7
              refine ia_cV hK mk_Ro_minuteMet lk_0_406 dc_I_meet_174 413 [.inr (.inr 303), .inr (.inr 415), .inl x8] [] rfl rfl (Nat.le_of_ble_eq_true rfl) (by decide) rfl (gk_8 gv6 (ka_0_9 pk_64)) ev7 ⟨rfl, rfl⟩ ?_
              show K 177 [some (.inr (.inr 64)), some (.inl x1), some (.inl x2), some (.inl x3), some (.inl x4), some (.inl x5), some (.inl x6), some (.inl x7), some (.inl x8), some (.inl x9), some (.inl (x5 - x5 / 1000 * 1000)), some (.inl (x5 / 1000))] [.inl v7] v6.2
              obtain ⟨rfl, rfl⟩ := Prod.mk.inj (Option.some.inj hm)
              exact hret 177 _ dc_I_meet_177
            · replace hm := ia_ifn hm c
              show K 142 [some (.inr (.inr 64)), some (.inl x1), some (.inl x2), some (.inl x3), some (.inl x4), some (.inl x5), some (.inl x6), some (.inl x7), some (.inl x8), some (.inl x9), some (.inl (x5 - x5 / 1000 * 1000)), some (.inl (x5 / 1000))] [] v6.2
              refine ia_go hK ck_I_meet_142 ⟨gk_0 gv6 pk_64, gr_0_9 gv6 pk_64, gk_0 gv6 pk_64, gr_0_4 gv6 pk_64, gk_0 gv6 pk_64, gr_0_10 gv6 pk_64, ?_⟩
              show K 154 [some (.inr (.inr 64)), some (.inl x1), some (.inl x2), some (.inl x3), some (.inl x4), some (.inl x5), some (.inl x6), some (.inl x7), some (.inl x8), some (.inl x9), some (.inl (x5 - x5 / 1000 * 1000)), some (.inl (x5 / 1000))] [.inr (.inr 415), .inr (.inr 303), .inr (.inr 413)] v6.2
              obtain ⟨v8, hv8, hm⟩ := ia_bnd hm
              have ev8 := t_Ro_fewestLater (d + 1) gv6 (ka_0_9 pk_64) (ka_0_4 pk_64) (ka_0_10 pk_64) hv8
              refine ia_cV hK mk_Ro_fewestLater lk_0_402 dc_I_meet_154 413 [.inr (.inr 303), .inr (.inr 415)] [] rfl rfl (Nat.le_of_ble_eq_true rfl) (by decide) rfl (gk_8 gv6 (ka_0_9 pk_64)) ev8 ⟨rfl, rfl⟩ ?_
              show K 157 [some (.inr (.inr 64)), some (.inl x1), some (.inl x2), some (.inl x3), some (.inl x4), some (.inl x5), some (.inl x6), some (.inl x7), some (.inl x8), some (.inl x9), some (.inl (x5 - x5 / 1000 * 1000)), some (.inl (x5 / 1000))] [.inl v8] v6.2
              refine ia_go hK ck_I_meet_157 ?_
              show K 177 [some (.inr (.inr 64)), some (.inl x1), some (.inl x2), some (.inl x3), some (.inl x4), some (.inl x5), some (.inl x6), some (.inl x7), some (.inl x8), some (.inl x9), some (.inl (x5 - x5 / 1000 * 1000)), some (.inl (x5 / 1000))] [.inl v8] v6.2
              obtain ⟨rfl, rfl⟩ := Prod.mk.inj (Option.some.inj hm)
              exact hret 177 _ dc_I_meet_177
          · replace hm := ia_ifp hm c
            show K 135 [some (.inr (.inr 64)), some (.inl x1), some (.inl x2), some (.inl x3), some (.inl x4), some (.inl x5), some (.inl x6), some (.inl x7), some (.inl x8), some (.inl x9), some (.inl (x5 - x5 / 1000 * 1000)), some (.inl (x5 / 1000))] [] v6.2
            refine ia_go hK ck_I_meet_135 ?_
            show K 136 [some (.inr (.inr 64)), some (.inl x1), some (.inl x2), some (.inl x3), some (.inl x4), some (.inl x5), some (.inl x6), some (.inl x7), some (.inl x8), some (.inl x9), some (.inl (x5 - x5 / 1000 * 1000)), some (.inl (x5 / 1000))] [.inl (-1)] v6.2
            obtain ⟨rfl, rfl⟩ := Prod.mk.inj (Option.some.inj hm)
            exact hret 136 _ dc_I_meet_136
      · replace hm := ia_ifp hm c
        show K 85 [some (.inr (.inr 64)), some (.inl x1), some (.inl x2), some (.inl x3), some (.inl x4), some (.inl x5), some (.inl x6), some (.inl x7), some (.inl x8), some (.inl x9), some (.inl (x5 - x5 / 1000 * 1000)), some (.inl (x5 / 1000))] [] v1.2
        refine ia_go hK ck_I_meet_85 ?_
        show K 86 [some (.inr (.inr 64)), some (.inl x1), some (.inl x2), some (.inl x3), some (.inl x4), some (.inl x5), some (.inl x6), some (.inl x7), some (.inl x8), some (.inl x9), some (.inl (x5 - x5 / 1000 * 1000)), some (.inl (x5 / 1000))] [.inl (-1)] v1.2
        obtain ⟨rfl, rfl⟩ := Prod.mk.inj (Option.some.inj hm)
        exact hret 86 _ dc_I_meet_86
  · replace hm := ia_ifp hm c
    show K 29 [some (.inr (.inr 64)), some (.inl x1), some (.inl x2), some (.inl x3), some (.inl x4), some (.inl x5), some (.inl x6), some (.inl x7), some (.inl x8), some (.inl x9), none, none] [] v1.2
    refine ia_go hK ck_I_meet_29 ?_
    show K 30 [some (.inr (.inr 64)), some (.inl x1), some (.inl x2), some (.inl x3), some (.inl x4), some (.inl x5), some (.inl x6), some (.inl x7), some (.inl x8), some (.inl x9), none, none] [.inl (-1)] v1.2
    obtain ⟨rfl, rfl⟩ := Prod.mk.inj (Option.some.inj hm)
    exact hret 30 _ dc_I_meet_30
theorem gj_I_meet_17 {w : ia_O0} {x1 : Int32} {x2 : Int32} {x3 : Int32} {x4 : Int32} {x5 : Int32} {x6 : Int32} {x7 : Int32} {x8 : Int32} {x9 : Int32} {r : Int32} {h1 : ia_H} : ∀ (h : ia_H), gd_ w h → j_I_meet_17 x1 x2 x3 x4 x5 x6 x7 x8 x9 h = some (r, h1) → gd_ w h1 := by
  intro h hg hm
  unfold j_I_meet_17 at hm
  obtain ⟨v1, hv1, hm⟩ := ia_bnd hm
  have gv1 := g_I_stage hg hv1
  by_cases c : v1.1 = 0
  · replace hm := ia_ifp hm c
    obtain ⟨rfl, rfl⟩ := Prod.mk.inj (Option.some.inj hm)
    exact gv1
  · replace hm := ia_ifn hm c
    obtain ⟨v2, hv2, hm⟩ := ia_bnd hm
    by_cases c : v2 = 0
    · replace hm := ia_ifp hm c
      obtain ⟨rfl, rfl⟩ := Prod.mk.inj (Option.some.inj hm)
      exact gv1
    · replace hm := ia_ifn hm c
      obtain ⟨v3, hv3, hm⟩ := ia_bnd hm
      by_cases c : v3 = 0
      · replace hm := ia_ifp hm c
        obtain ⟨rfl, rfl⟩ := Prod.mk.inj (Option.some.inj hm)
        exact gv1
      · replace hm := ia_ifn hm c
        obtain ⟨v4, hv4, hm⟩ := ia_bnd hm
        have gv4 := g_Wa_survey gv1 (ka_0_4 pk_64) hv4
        obtain ⟨v5, hv5, hm⟩ := ia_bnd hm
        have gv5 := g_Ro_take gv4 (ka_0_9 pk_64) hv5
        by_cases c : v5.1 = 0
        · replace hm := ia_ifp hm c
          obtain ⟨rfl, rfl⟩ := Prod.mk.inj (Option.some.inj hm)
          exact gv5
        · replace hm := ia_ifn hm c
          obtain ⟨v6, hv6, hm⟩ := ia_bnd hm
          have gv6 := g_Ro_take gv5 (ka_0_10 pk_64) hv6
          by_cases c : v6.1 = 0
          · replace hm := ia_ifp hm c
            obtain ⟨rfl, rfl⟩ := Prod.mk.inj (Option.some.inj hm)
            exact gv6
          · replace hm := ia_ifn hm c
            by_cases c : x9 = 0
            · replace hm := ia_ifp hm c
              obtain ⟨v7, hv7, hm⟩ := ia_bnd hm
              obtain ⟨rfl, rfl⟩ := Prod.mk.inj (Option.some.inj hm)
              exact gv6
            · replace hm := ia_ifn hm c
              obtain ⟨v8, hv8, hm⟩ := ia_bnd hm
              obtain ⟨rfl, rfl⟩ := Prod.mk.inj (Option.some.inj hm)
              exact gv6
def f_I_meet (x1 : Int32) (x2 : Int32) (x3 : Int32) (x4 : Int32) (x5 : Int32) (x6 : Int32) (x7 : Int32) (x8 : Int32) (x9 : Int32) (h : ia_H) : Option (Int32 × ia_H) := if x9 = 0 then (if x8 < 0 then (some ((-1), h)) else (if 40 < x8 then (some ((-1), h)) else (j_I_meet_17 x1 x2 x3 x4 x5 x6 x7 x8 x9 h))) else (j_I_meet_17 x1 x2 x3 x4 x5 x6 x7 x8 x9 h)
theorem g_I_meet {w : ia_O0} {x1 : Int32} {x2 : Int32} {x3 : Int32} {x4 : Int32} {x5 : Int32} {x6 : Int32} {x7 : Int32} {x8 : Int32} {x9 : Int32} {h : ia_H} (hg : gd_ w h) {q : (Int32 × ia_H)} (hm : f_I_meet x1 x2 x3 x4 x5 x6 x7 x8 x9 h = some q) : gd_ w q.2 := by
  obtain ⟨r, h1⟩ := q
  unfold f_I_meet at hm
  by_cases c : x9 = 0
  · replace hm := ia_ifp hm c
    by_cases c : x8 < 0
    · replace hm := ia_ifp hm c
      obtain ⟨rfl, rfl⟩ := Prod.mk.inj (Option.some.inj hm)
      exact hg
    · replace hm := ia_ifn hm c
      by_cases c : 40 < x8
      · replace hm := ia_ifp hm c
        obtain ⟨rfl, rfl⟩ := Prod.mk.inj (Option.some.inj hm)
        exact hg
      · replace hm := ia_ifn hm c
        exact gj_I_meet_17 h hg hm
  · replace hm := ia_ifn hm c
    exact gj_I_meet_17 h hg hm
theorem t_I_meet {w : ia_O0} (d : Nat) {x1 : Int32} {x2 : Int32} {x3 : Int32} {x4 : Int32} {x5 : Int32} {x6 : Int32} {x7 : Int32} {x8 : Int32} {x9 : Int32} {h : ia_H} (hg : gd_ w h) {q : (Int32 × ia_H)} (hm : f_I_meet x1 x2 x3 x4 x5 x6 x7 x8 x9 h = some q) : ia_Ev (d + 7) mm_I_meet [.inr (.inr 64), .inl x1, .inl x2, .inl x3, .inl x4, .inl x5, .inl x6, .inl x7, .inl x8, .inl x9] h (some (.inl q.1)) q.2 := by
  have gq := g_I_meet hg hm
  refine ia_Ev_intro ok_I_meet (gd_le hg gq).1 (gd_le hg gq).2 (Nat.le_of_ble_eq_true rfl) (fun K hK hret => ?_)
  obtain ⟨r, h1⟩ := q
  show K 0 [some (.inr (.inr 64)), some (.inl x1), some (.inl x2), some (.inl x3), some (.inl x4), some (.inl x5), some (.inl x6), some (.inl x7), some (.inl x8), some (.inl x9), none, none] [] h
  unfold f_I_meet at hm
  refine ia_go hK ck_I_meet_0 ⟨fun c => ?_, fun c => ?_⟩
  · replace hm := ia_ifn hm c
    show K 17 [some (.inr (.inr 64)), some (.inl x1), some (.inl x2), some (.inl x3), some (.inl x4), some (.inl x5), some (.inl x6), some (.inl x7), some (.inl x8), some (.inl x9), none, none] [] h
    exact tj_I_meet_17 hK hret h hg hm
  · replace hm := ia_ifp hm c
    show K 5 [some (.inr (.inr 64)), some (.inl x1), some (.inl x2), some (.inl x3), some (.inl x4), some (.inl x5), some (.inl x6), some (.inl x7), some (.inl x8), some (.inl x9), none, none] [] h
    refine ia_go hK ck_I_meet_5 ⟨fun c => ?_, fun c => ?_⟩
    · replace hm := ia_ifp hm c
      show K 29 [some (.inr (.inr 64)), some (.inl x1), some (.inl x2), some (.inl x3), some (.inl x4), some (.inl x5), some (.inl x6), some (.inl x7), some (.inl x8), some (.inl x9), none, none] [] h
      refine ia_go hK ck_I_meet_29 ?_
      show K 30 [some (.inr (.inr 64)), some (.inl x1), some (.inl x2), some (.inl x3), some (.inl x4), some (.inl x5), some (.inl x6), some (.inl x7), some (.inl x8), some (.inl x9), none, none] [.inl (-1)] h
      obtain ⟨rfl, rfl⟩ := Prod.mk.inj (Option.some.inj hm)
      exact hret 30 _ dc_I_meet_30
    · replace hm := ia_ifn hm c
      show K 10 [some (.inr (.inr 64)), some (.inl x1), some (.inl x2), some (.inl x3), some (.inl x4), some (.inl x5), some (.inl x6), some (.inl x7), some (.inl x8), some (.inl x9), none, none] [] h
      refine ia_go hK ck_I_meet_10 ⟨fun c => ?_, fun c => ?_⟩
      · replace hm := ia_ifp hm c
        show K 29 [some (.inr (.inr 64)), some (.inl x1), some (.inl x2), some (.inl x3), some (.inl x4), some (.inl x5), some (.inl x6), some (.inl x7), some (.inl x8), some (.inl x9), none, none] [] h
        refine ia_go hK ck_I_meet_29 ?_
        show K 30 [some (.inr (.inr 64)), some (.inl x1), some (.inl x2), some (.inl x3), some (.inl x4), some (.inl x5), some (.inl x6), some (.inl x7), some (.inl x8), some (.inl x9), none, none] [.inl (-1)] h
        obtain ⟨rfl, rfl⟩ := Prod.mk.inj (Option.some.inj hm)
        exact hret 30 _ dc_I_meet_30
      · replace hm := ia_ifn hm c
        show K 17 [some (.inr (.inr 64)), some (.inl x1), some (.inl x2), some (.inl x3), some (.inl x4), some (.inl x5), some (.inl x6), some (.inl x7), some (.inl x8), some (.inl x9), none, none] [] h
        exact tj_I_meet_17 hK hret h hg hm
def mm_I_nextDraw : ia_M := (⟨"IceStreet", "nextDraw", "(I)I"⟩, prog_1_method_48_code, 1, (some .int), 0, false)
theorem ok_I_nextDraw : ia_mok mm_I_nextDraw := ⟨by decide +kernel, by decide +kernel, by decide +kernel, by decide +kernel⟩
theorem mk_I_nextDraw : ia_mkn mm_I_nextDraw 0 1 := ⟨ia_tb_in (List.mem_of_getElem? (i := 1497) (by decide +kernel)) rfl, ia_tb_in (List.mem_of_getElem? (i := 133) (by decide +kernel)) rfl, by decide +kernel, by decide +kernel, ia_tb_in (List.mem_of_getElem? (i := 1496) (by decide +kernel)) rfl⟩
theorem ck_I_nextDraw_0 : ia_cks 0 1 false prog_1_method_48_code 0 [(.iload_n 0, 0, 0, 0, 0)] = true := by decide +kernel
theorem ck_I_nextDraw_4 : ia_cks 0 1 false prog_1_method_48_code 4 [(.imul, 0, 0, 0, 0), (.sipush 12345, 0, 0, 0, 0), (.iadd, 0, 0, 0, 0)] = true := by decide +kernel
theorem dc_I_nextDraw_1 : decode prog_1_method_48_code 1 = .ok (.ldc_w 453, 3) := by decide +kernel
theorem dc_I_nextDraw_9 : decode prog_1_method_48_code 9 = .ok (.ireturn, 1) := by decide +kernel
def f_I_nextDraw (x0 : Int32) (h : ia_H) : Option Int32 := some ((x0 * 1103515245) + 12345)
theorem t_I_nextDraw {w : ia_O0} (d : Nat) {x0 : Int32} {h : ia_H} (hg : gd_ w h) {r : Int32} (hm : f_I_nextDraw x0 h = some r) : ia_Ev (d + 0) mm_I_nextDraw [.inl x0] h (some (.inl r)) h := by
  refine ia_Ev_intro ok_I_nextDraw (Nat.le_refl _) (Nat.le_refl _) (Nat.le_of_ble_eq_true rfl) (fun K hK hret => ?_)
  show K 0 [some (.inl x0)] [] h
  unfold f_I_nextDraw at hm
  refine ia_go hK ck_I_nextDraw_0 ?_
  show K 1 [some (.inl x0)] [.inl x0] h
  refine ia_ldcw hK (v := 1103515245) (ia_tb_in (List.mem_of_getElem? (i := 1498) (by decide +kernel)) rfl) dc_I_nextDraw_1 ?_
  show K 4 [some (.inl x0)] [.inl 1103515245, .inl x0] h
  refine ia_go hK ck_I_nextDraw_4 ?_
  show K 9 [some (.inl x0)] [.inl ((x0 * 1103515245) + 12345)] h
  obtain rfl := Option.some.inj hm
  exact hret 9 _ dc_I_nextDraw_9
def mm_I_drawnFrost : ia_M := (⟨"IceStreet", "drawnFrost", "(I)I"⟩, prog_1_method_49_code, 1, (some .int), 0, false)
theorem ok_I_drawnFrost : ia_mok mm_I_drawnFrost := ⟨by decide +kernel, by decide +kernel, by decide +kernel, by decide +kernel⟩
theorem mk_I_drawnFrost : ia_mkn mm_I_drawnFrost 0 1 := ⟨ia_tb_in (List.mem_of_getElem? (i := 1501) (by decide +kernel)) rfl, ia_tb_in (List.mem_of_getElem? (i := 133) (by decide +kernel)) rfl, by decide +kernel, by decide +kernel, ia_tb_in (List.mem_of_getElem? (i := 1500) (by decide +kernel)) rfl⟩
theorem ck_I_drawnFrost_0 : ia_cks 0 1 false prog_1_method_49_code 0 [(.iload_n 0, 0, 0, 0, 0), (.bipush 16, 0, 0, 0, 0), (.iushr, 0, 0, 0, 0), (.bipush 7, 0, 0, 0, 0), (.irem, 0, 0, 0, 0), (.iconst 3, 0, 0, 0, 0), (.isub, 0, 0, 0, 0)] = true := by decide +kernel
theorem dc_I_drawnFrost_9 : decode prog_1_method_49_code 9 = .ok (.ireturn, 1) := by decide +kernel
def f_I_drawnFrost (x0 : Int32) (h : ia_H) : Option Int32 := some ((((x0.toUInt32 >>> ((16 : Int32).toUInt32 &&& Int32.toUInt32 31)).toInt32) - ((x0.toUInt32 >>> ((16 : Int32).toUInt32 &&& Int32.toUInt32 31)).toInt32) / 7 * 7) - 3)
theorem t_I_drawnFrost {w : ia_O0} (d : Nat) {x0 : Int32} {h : ia_H} (hg : gd_ w h) {r : Int32} (hm : f_I_drawnFrost x0 h = some r) : ia_Ev (d + 0) mm_I_drawnFrost [.inl x0] h (some (.inl r)) h := by
  refine ia_Ev_intro ok_I_drawnFrost (Nat.le_refl _) (Nat.le_refl _) (Nat.le_of_ble_eq_true rfl) (fun K hK hret => ?_)
  show K 0 [some (.inl x0)] [] h
  unfold f_I_drawnFrost at hm
  refine ia_go hK ck_I_drawnFrost_0 ⟨(by decide), ?_⟩
  show K 9 [some (.inl x0)] [.inl ((((x0.toUInt32 >>> ((16 : Int32).toUInt32 &&& Int32.toUInt32 31)).toInt32) - ((x0.toUInt32 >>> ((16 : Int32).toUInt32 &&& Int32.toUInt32 31)).toInt32) / 7 * 7) - 3)] h
  obtain rfl := Option.some.inj hm
  exact hret 9 _ dc_I_drawnFrost_9
def mm_Sc_standing : ia_M := (⟨"IceStreet$Scene", "standing", "()I"⟩, prog_10_method_22_code, 3, (some .int), 9, false)
theorem ok_Sc_standing : ia_mok mm_Sc_standing := ⟨by decide +kernel, by decide +kernel, by decide +kernel, by decide +kernel⟩
theorem mk_Sc_standing : ia_mkn mm_Sc_standing 1 0 := ⟨ia_tb_in (List.mem_of_getElem? (i := 1505) (by decide +kernel)) rfl, ia_tb_in (List.mem_of_getElem? (i := 140) (by decide +kernel)) rfl, by decide +kernel, by decide +kernel, ⟨ia_tb_in (List.mem_of_getElem? (i := 1503) (by decide +kernel)) rfl, ia_tb_in (List.mem_of_getElem? (i := 1504) (by decide +kernel)) rfl⟩⟩
theorem ck_Sc_standing_0 : ia_cks 9 3 false prog_10_method_22_code 0 [(.iconst 0, 0, 0, 0, 0), (.istore_n 1, 0, 0, 0, 0), (.iconst 0, 0, 0, 0, 0), (.istore_n 2, 0, 0, 0, 0)] = true := by decide +kernel
theorem ck_Sc_standing_4 : ia_cks 9 3 false prog_10_method_22_code 4 [(.iload_n 2, 0, 0, 0, 0), (.aload_n 0, 0, 0, 0, 0), (.getfield 33, 9, 0, 2, 0), (.getfield 66, 3, 11, 0, 0), (.if_icmp .ge 26, 0, 0, 0, 0)] = true := by decide +kernel
theorem ck_Sc_standing_15 : ia_cks 9 3 false prog_10_method_22_code 15 [(.iload_n 1, 0, 0, 0, 0), (.aload_n 0, 0, 0, 0, 0), (.getfield 24, 9, 6, 3, 5), (.iload_n 2, 0, 0, 0, 0), (.iaload, 0, 0, 0, 0), (.ifCond .lt 7, 0, 0, 0, 0)] = true := by decide +kernel
theorem ck_Sc_standing_29 : ia_cks 9 3 false prog_10_method_22_code 29 [(.iconst 0, 0, 0, 0, 0)] = true := by decide +kernel
theorem ck_Sc_standing_30 : ia_cks 9 3 false prog_10_method_22_code 30 [(.iadd, 0, 0, 0, 0), (.istore_n 1, 0, 0, 0, 0), (.iinc 2 1, 0, 0, 0, 0), (.goto (-31), 0, 0, 0, 0)] = true := by decide +kernel
theorem ck_Sc_standing_25 : ia_cks 9 3 false prog_10_method_22_code 25 [(.iconst 1, 0, 0, 0, 0), (.goto 4, 0, 0, 0, 0)] = true := by decide +kernel
theorem ck_Sc_standing_38 : ia_cks 9 3 false prog_10_method_22_code 38 [(.iload_n 1, 0, 0, 0, 0)] = true := by decide +kernel
theorem dc_Sc_standing_39 : decode prog_10_method_22_code 39 = .ok (.ireturn, 1) := by decide +kernel
def j_Sc_standing_30 (a0 : Nat) (h : ia_H) (kr : Int32 → Int32 → Option Int32) (k38 : Int32 → Option Int32) (x2 : Int32) (s0 : Int32) (s1 : Int32) : Option Int32 := kr (s0 + s1) (x2 + 1)
theorem tj_Sc_standing_30 {w : ia_O0} {d N1 W1 : Nat} {K : ia_K} (hK : ia_isK (d + 0) mm_Sc_standing N1 W1 K) {a0 : Nat} {h : ia_H} (hg : gd_ w h) (p0 : (kd_D a0).1 = 9) {r : Int32} (hret : ∀ (pc : Nat) (lv : ia_L), ia_ret mm_Sc_standing pc (some (.inl r)) → K pc lv ((some (.inl r)) : Option ia_V).toList h) {kr : Int32 → Int32 → Option Int32} {k38 : Int32 → Option Int32} (hkr : ∀ (x1 : Int32) (x2 : Int32), kr x1 x2 = some r → K 4 [some (.inr (.inr a0)), some (.inl x1), some (.inl x2)] [] h) (hk38 : ∀ (x1 : Int32), k38 x1 = some r → K 38 [none, some (.inl x1), none] [] h) : ∀ (x2 : Int32) (s0 : Int32) (s1 : Int32), j_Sc_standing_30 a0 h kr k38 x2 s0 s1 = some r → K 30 [some (.inr (.inr a0)), none, some (.inl x2)] [.inl s1, .inl s0] h := by
  intro x2 s0 s1 hm
  unfold j_Sc_standing_30 at hm
  refine ia_go hK ck_Sc_standing_30 ?_
  show K 4 [some (.inr (.inr a0)), some (.inl (s0 + s1)), some (.inl (x2 + 1))] [] h
  exact hkr (s0 + s1) (x2 + 1) hm
def l_Sc_standing_4 (a0 : Nat) (h : ia_H) (k38 : Int32 → Option Int32) (n : Nat) (x1 : Int32) (x2 : Int32) : Option Int32 := match n with
  | 0 => none
  | n + 1 => if (ia_i h (ia_r h a0 0) 11) ≤ x2 then (k38 x1) else (ia_gd (ia_ib x2 6) (if (ia_i h (a0 + 5) ((x2).toNatClampNeg)) < 0 then (j_Sc_standing_30 a0 h (l_Sc_standing_4 a0 h k38 n) k38 x2 x1 0) else (j_Sc_standing_30 a0 h (l_Sc_standing_4 a0 h k38 n) k38 x2 x1 1)))
theorem tl_Sc_standing_4 {w : ia_O0} {d N1 W1 : Nat} {K : ia_K} (hK : ia_isK (d + 0) mm_Sc_standing N1 W1 K) {a0 : Nat} {h : ia_H} (hg : gd_ w h) (p0 : (kd_D a0).1 = 9) {r : Int32} (hret : ∀ (pc : Nat) (lv : ia_L), ia_ret mm_Sc_standing pc (some (.inl r)) → K pc lv ((some (.inl r)) : Option ia_V).toList h) {k38 : Int32 → Option Int32} (hk38 : ∀ (x1 : Int32), k38 x1 = some r → K 38 [none, some (.inl x1), none] [] h) : ∀ (n : Nat) (x1 : Int32) (x2 : Int32), l_Sc_standing_4 a0 h k38 n x1 x2 = some r → K 4 [some (.inr (.inr a0)), some (.inl x1), some (.inl x2)] [] h := by
  intro n
  induction n with
  | zero =>
    intro x1 x2 hm
    cases (show (none : Option Int32) = some _ from hm)
  | succ n ih =>
    intro x1 x2 hm
    rw [l_Sc_standing_4] at hm
    refine ia_go hK ck_Sc_standing_4 ⟨gk_9 hg p0, gk_3 hg (gm_9_0 hg p0), fun c => ?_, fun c => ?_⟩
    · replace hm := ia_ifp hm c
      show K 38 [some (.inr (.inr a0)), some (.inl x1), some (.inl x2)] [] h
      refine ia_fg hK (lv' := [none, some (.inl x1), none]) ⟨rfl, trivial⟩ ?_
      exact hk38 x1 hm
    · replace hm := ia_ifn hm c
      show K 15 [some (.inr (.inr a0)), some (.inl x1), some (.inl x2)] [] h
      obtain ⟨c1, hm⟩ := ia_gd_some hm
      refine ia_go hK ck_Sc_standing_15 ⟨gk_9 hg p0, gr_9_6 hg p0, ga_i100 hg (ka_9_6 p0) c1, fun c => ?_, fun c => ?_⟩
      · replace hm := ia_ifp hm c
        show K 29 [some (.inr (.inr a0)), some (.inl x1), some (.inl x2)] [.inl x1] h
        refine ia_go hK ck_Sc_standing_29 ?_
        show K 30 [some (.inr (.inr a0)), some (.inl x1), some (.inl x2)] [.inl 0, .inl x1] h
        refine ia_fg hK (lv' := [some (.inr (.inr a0)), none, some (.inl x2)]) ⟨rfl, rfl, trivial⟩ ?_
        exact tj_Sc_standing_30 hK hg p0 hret ih hk38 x2 x1 0 hm
      · replace hm := ia_ifn hm c
        show K 25 [some (.inr (.inr a0)), some (.inl x1), some (.inl x2)] [.inl x1] h
        refine ia_go hK ck_Sc_standing_25 ?_
        show K 30 [some (.inr (.inr a0)), some (.inl x1), some (.inl x2)] [.inl 1, .inl x1] h
        refine ia_fg hK (lv' := [some (.inr (.inr a0)), none, some (.inl x2)]) ⟨rfl, rfl, trivial⟩ ?_
        exact tj_Sc_standing_30 hK hg p0 hret ih hk38 x2 x1 1 hm
def f_Sc_standing (a0 : Nat) (h : ia_H) : Option Int32 := l_Sc_standing_4 a0 h (fun x1 => some x1) fu_ 0 0
theorem t_Sc_standing {w : ia_O0} (d : Nat) {a0 : Nat} {h : ia_H} (hg : gd_ w h) (p0 : (kd_D a0).1 = 9) {r : Int32} (hm : f_Sc_standing a0 h = some r) : ia_Ev (d + 0) mm_Sc_standing [.inr (.inr a0)] h (some (.inl r)) h := by
  refine ia_Ev_intro ok_Sc_standing (Nat.le_refl _) (Nat.le_refl _) (Nat.le_of_ble_eq_true rfl) (fun K hK hret => ?_)
  show K 0 [some (.inr (.inr a0)), none, none] [] h
  unfold f_Sc_standing at hm
  refine ia_go hK ck_Sc_standing_0 ?_
  show K 4 [some (.inr (.inr a0)), some (.inl 0), some (.inl 0)] [] h
  refine tl_Sc_standing_4 hK hg p0 hret ?_ fu_ 0 0 hm
  · intro x1 hm
    refine ia_go hK ck_Sc_standing_38 ?_
    show K 39 [none, some (.inl x1), none] [.inl x1] h
    obtain rfl := Option.some.inj hm
    exact hret 39 _ dc_Sc_standing_39
def mm_I_winter : ia_M := (⟨"IceStreet", "winter", "(IIIIIII)I"⟩, prog_1_method_32_code, 10, (some .int), 0, false)
theorem ok_I_winter : ia_mok mm_I_winter := ⟨by decide +kernel, by decide +kernel, by decide +kernel, by decide +kernel⟩
theorem mk_I_winter : ia_mkn mm_I_winter 1 7 := ⟨ia_tb_in (List.mem_of_getElem? (i := 1494) (by decide +kernel)) rfl, ia_tb_in (List.mem_of_getElem? (i := 133) (by decide +kernel)) rfl, by decide +kernel, by decide +kernel, ⟨ia_tb_in (List.mem_of_getElem? (i := 1492) (by decide +kernel)) rfl, ia_tb_in (List.mem_of_getElem? (i := 1493) (by decide +kernel)) rfl⟩⟩
theorem ck_I_winter_0 : ia_cks 0 10 false prog_1_method_32_code 0 [(.iload 6, 0, 0, 0, 0), (.ifCond .lt 22, 0, 0, 0, 0)] = true := by decide +kernel
theorem ck_I_winter_24 : ia_cks 0 10 false prog_1_method_32_code 24 [(.iconst (-1), 0, 0, 0, 0)] = true := by decide +kernel
theorem ck_I_winter_5 : ia_cks 0 10 false prog_1_method_32_code 5 [(.iload 6, 0, 0, 0, 0), (.bipush 60, 0, 0, 0, 0), (.if_icmp .gt 15, 0, 0, 0, 0)] = true := by decide +kernel
theorem ck_I_winter_12 : ia_cks 0 10 false prog_1_method_32_code 12 [(.aload_n 0, 0, 0, 0, 0), (.iload_n 1, 0, 0, 0, 0), (.iload_n 2, 0, 0, 0, 0), (.iload_n 3, 0, 0, 0, 0), (.iload 4, 0, 0, 0, 0)] = true := by decide +kernel
theorem ck_I_winter_21 : ia_cks 0 10 false prog_1_method_32_code 21 [(.ifCond .ne 5, 0, 0, 0, 0)] = true := by decide +kernel
theorem ck_I_winter_26 : ia_cks 0 10 false prog_1_method_32_code 26 [(.iload 5, 0, 0, 0, 0), (.istore 8, 0, 0, 0, 0), (.iconst 0, 0, 0, 0, 0), (.istore 9, 0, 0, 0, 0)] = true := by decide +kernel
theorem ck_I_winter_33 : ia_cks 0 10 false prog_1_method_32_code 33 [(.iload 9, 0, 0, 0, 0), (.iload 6, 0, 0, 0, 0), (.if_icmp .ge 36, 0, 0, 0, 0)] = true := by decide +kernel
theorem ck_I_winter_40 : ia_cks 0 10 false prog_1_method_32_code 40 [(.iload 8, 0, 0, 0, 0)] = true := by decide +kernel
theorem ck_I_winter_45 : ia_cks 0 10 false prog_1_method_32_code 45 [(.istore 8, 0, 0, 0, 0), (.aload_n 0, 0, 0, 0, 0), (.getfield 44, 0, 4, 3, 239), (.aload_n 0, 0, 0, 0, 0), (.getfield 44, 0, 4, 3, 239)] = true := by decide +kernel
theorem ck_I_winter_58 : ia_cks 0 10 false prog_1_method_32_code 58 [(.iload 8, 0, 0, 0, 0)] = true := by decide +kernel
theorem ck_I_winter_63 : ia_cks 0 10 false prog_1_method_32_code 63 [(.iadd, 0, 0, 0, 0)] = true := by decide +kernel
theorem ck_I_winter_67 : ia_cks 0 10 false prog_1_method_32_code 67 [(.iinc 9 1, 0, 0, 0, 0), (.goto (-37), 0, 0, 0, 0)] = true := by decide +kernel
theorem ck_I_winter_73 : ia_cks 0 10 false prog_1_method_32_code 73 [(.iload 7, 0, 0, 0, 0), (.tableswitch 49 0 2 #[25, 33, 41], 0, 0, 0, 0)] = true := by decide +kernel
theorem ck_I_winter_100 : ia_cks 0 10 false prog_1_method_32_code 100 [(.aload_n 0, 0, 0, 0, 0), (.getfield 44, 0, 4, 3, 239)] = true := by decide +kernel
theorem ck_I_winter_108 : ia_cks 0 10 false prog_1_method_32_code 108 [(.aload_n 0, 0, 0, 0, 0), (.getfield 44, 0, 4, 3, 239), (.getfield 273, 9, 10, 0, 0)] = true := by decide +kernel
theorem ck_I_winter_116 : ia_cks 0 10 false prog_1_method_32_code 116 [(.aload_n 0, 0, 0, 0, 0), (.getfield 44, 0, 4, 3, 239)] = true := by decide +kernel
theorem ck_I_winter_124 : ia_cks 0 10 false prog_1_method_32_code 124 [(.iload 7, 0, 0, 0, 0), (.bipush 100, 0, 0, 0, 0), (.if_icmp .lt 37, 0, 0, 0, 0)] = true := by decide +kernel
theorem ck_I_winter_165 : ia_cks 0 10 false prog_1_method_32_code 165 [(.iconst (-1), 0, 0, 0, 0)] = true := by decide +kernel
theorem ck_I_winter_131 : ia_cks 0 10 false prog_1_method_32_code 131 [(.aload_n 0, 0, 0, 0, 0), (.getfield 44, 0, 4, 3, 239), (.getfield 283, 9, 0, 2, 0), (.iload 7, 0, 0, 0, 0), (.bipush 100, 0, 0, 0, 0), (.isub, 0, 0, 0, 0)] = true := by decide +kernel
theorem ck_I_winter_146 : ia_cks 0 10 false prog_1_method_32_code 146 [(.ifCond .eq 19, 0, 0, 0, 0)] = true := by decide +kernel
theorem ck_I_winter_149 : ia_cks 0 10 false prog_1_method_32_code 149 [(.aload_n 0, 0, 0, 0, 0), (.getfield 44, 0, 4, 3, 239), (.getfield 291, 9, 2, 3, 1), (.iload 7, 0, 0, 0, 0), (.bipush 100, 0, 0, 0, 0), (.isub, 0, 0, 0, 0), (.iaload, 0, 0, 0, 0), (.goto 4, 0, 0, 0, 0)] = true := by decide +kernel
theorem dc_I_winter_25 : decode prog_1_method_32_code 25 = .ok (.ireturn, 1) := by decide +kernel
theorem dc_I_winter_18 : decode prog_1_method_32_code 18 = .ok (.invokevirtual 266, 3) := by decide +kernel
theorem dc_I_winter_42 : decode prog_1_method_32_code 42 = .ok (.invokestatic 410, 3) := by decide +kernel
theorem dc_I_winter_55 : decode prog_1_method_32_code 55 = .ok (.invokevirtual 377, 3) := by decide +kernel
theorem dc_I_winter_60 : decode prog_1_method_32_code 60 = .ok (.invokestatic 413, 3) := by decide +kernel
theorem dc_I_winter_64 : decode prog_1_method_32_code 64 = .ok (.invokevirtual 380, 3) := by decide +kernel
theorem dc_I_winter_104 : decode prog_1_method_32_code 104 = .ok (.invokevirtual 276, 3) := by decide +kernel
theorem dc_I_winter_107 : decode prog_1_method_32_code 107 = .ok (.ireturn, 1) := by decide +kernel
theorem dc_I_winter_115 : decode prog_1_method_32_code 115 = .ok (.ireturn, 1) := by decide +kernel
theorem dc_I_winter_120 : decode prog_1_method_32_code 120 = .ok (.invokevirtual 416, 3) := by decide +kernel
theorem dc_I_winter_123 : decode prog_1_method_32_code 123 = .ok (.ireturn, 1) := by decide +kernel
theorem dc_I_winter_166 : decode prog_1_method_32_code 166 = .ok (.ireturn, 1) := by decide +kernel
theorem dc_I_winter_143 : decode prog_1_method_32_code 143 = .ok (.invokevirtual 182, 3) := by decide +kernel
def l_I_winter_33 (x1 : Int32) (x2 : Int32) (x3 : Int32) (x4 : Int32) (x5 : Int32) (x6 : Int32) (x7 : Int32) (k73 : ia_H → Option (Int32 × ia_H)) (n : Nat) (x8 : Int32) (x9 : Int32) (h : ia_H) : Option (Int32 × ia_H) := match n with
  | 0 => none
  | n + 1 => if x6 ≤ x9 then (k73 h) else ((f_I_nextDraw x8 h).bind fun v2 => ((f_Sc_frost 303 h).bind fun v3 => ((f_I_drawnFrost v2 h).bind fun v4 => ((f_Sc_passDay 303 (v3 + v4) h).bind fun v5 => (l_I_winter_33 x1 x2 x3 x4 x5 x6 x7 k73 n v2 (x9 + 1) v5)))))
theorem tl_I_winter_33 {w : ia_O0} {d N1 W1 : Nat} {K : ia_K} (hK : ia_isK (d + 7) mm_I_winter N1 W1 K) {x1 : Int32} {x2 : Int32} {x3 : Int32} {x4 : Int32} {x5 : Int32} {x6 : Int32} {x7 : Int32} {r : Int32} {h1 : ia_H} (hret : ∀ (pc : Nat) (lv : ia_L), ia_ret mm_I_winter pc (some (.inl r)) → K pc lv ((some (.inl r)) : Option ia_V).toList h1) {k73 : ia_H → Option (Int32 × ia_H)} (hk73 : ∀ (h : ia_H), gd_ w h → k73 h = some (r, h1) → K 73 [some (.inr (.inr 64)), none, none, none, none, none, none, some (.inl x7), none, none] [] h) : ∀ (n : Nat) (x8 : Int32) (x9 : Int32) (h : ia_H), gd_ w h → l_I_winter_33 x1 x2 x3 x4 x5 x6 x7 k73 n x8 x9 h = some (r, h1) → K 33 [some (.inr (.inr 64)), none, none, none, none, none, some (.inl x6), some (.inl x7), some (.inl x8), some (.inl x9)] [] h := by
  intro n
  induction n with
  | zero =>
    intro x8 x9 h hg hm
    cases (show (none : Option (Int32 × ia_H)) = some _ from hm)
  | succ n ih =>
    intro x8 x9 h hg hm
    rw [l_I_winter_33] at hm
    refine ia_go hK ck_I_winter_33 ⟨fun c => ?_, fun c => ?_⟩
    · replace hm := ia_ifp hm c
      show K 73 [some (.inr (.inr 64)), none, none, none, none, none, some (.inl x6), some (.inl x7), some (.inl x8), some (.inl x9)] [] h
      refine ia_fg hK (lv' := [some (.inr (.inr 64)), none, none, none, none, none, none, some (.inl x7), none, none]) ⟨rfl, rfl, trivial⟩ ?_
      exact hk73 h hg hm
    · replace hm := ia_ifn hm c
      show K 40 [some (.inr (.inr 64)), none, none, none, none, none, some (.inl x6), some (.inl x7), some (.inl x8), some (.inl x9)] [] h
      refine ia_go hK ck_I_winter_40 ?_
      show K 42 [some (.inr (.inr 64)), none, none, none, none, none, some (.inl x6), some (.inl x7), some (.inl x8), some (.inl x9)] [.inl x8] h
      obtain ⟨v2, hv2, hm⟩ := ia_bnd hm
      have ev2 := t_I_nextDraw (d + 6) hg hv2
      refine ia_cS hK mk_I_nextDraw lk_0_410 dc_I_winter_42 [.inl x8] [] rfl rfl (Nat.le_of_ble_eq_true rfl) ev2 ⟨rfl, rfl⟩ ?_
      show K 45 [some (.inr (.inr 64)), none, none, none, none, none, some (.inl x6), some (.inl x7), some (.inl x8), some (.inl x9)] [.inl v2] h
      refine ia_go hK ck_I_winter_45 ⟨gk_0 hg pk_64, gr_0_4 hg pk_64, gk_0 hg pk_64, gr_0_4 hg pk_64, ?_⟩
      show K 55 [some (.inr (.inr 64)), none, none, none, none, none, some (.inl x6), some (.inl x7), some (.inl v2), some (.inl x9)] [.inr (.inr 303), .inr (.inr 303)] h
      obtain ⟨v3, hv3, hm⟩ := ia_bnd hm
      have ev3 := t_Sc_frost (d + 6) hg (ka_0_4 pk_64) hv3
      refine ia_cV hK mk_Sc_frost lk_0_377 dc_I_winter_55 303 [] [.inr (.inr 303)] rfl rfl (Nat.le_of_ble_eq_true rfl) (by decide) rfl (gk_9 hg (ka_0_4 pk_64)) ev3 ⟨rfl, rfl⟩ ?_
      show K 58 [some (.inr (.inr 64)), none, none, none, none, none, some (.inl x6), some (.inl x7), some (.inl v2), some (.inl x9)] [.inl v3, .inr (.inr 303)] h
      refine ia_go hK ck_I_winter_58 ?_
      show K 60 [some (.inr (.inr 64)), none, none, none, none, none, some (.inl x6), some (.inl x7), some (.inl v2), some (.inl x9)] [.inl v2, .inl v3, .inr (.inr 303)] h
      obtain ⟨v4, hv4, hm⟩ := ia_bnd hm
      have ev4 := t_I_drawnFrost (d + 6) hg hv4
      refine ia_cS hK mk_I_drawnFrost lk_0_413 dc_I_winter_60 [.inl v2] [.inl v3, .inr (.inr 303)] rfl rfl (Nat.le_of_ble_eq_true rfl) ev4 ⟨rfl, rfl⟩ ?_
      show K 63 [some (.inr (.inr 64)), none, none, none, none, none, some (.inl x6), some (.inl x7), some (.inl v2), some (.inl x9)] [.inl v4, .inl v3, .inr (.inr 303)] h
      refine ia_go hK ck_I_winter_63 ?_
      show K 64 [some (.inr (.inr 64)), none, none, none, none, none, some (.inl x6), some (.inl x7), some (.inl v2), some (.inl x9)] [.inl (v3 + v4), .inr (.inr 303)] h
      obtain ⟨v5, hv5, hm⟩ := ia_bnd hm
      have ev5 := t_Sc_passDay (d + 3) hg (ka_0_4 pk_64) hv5
      have gv5 := g_Sc_passDay hg (ka_0_4 pk_64) hv5
      refine ia_cV hK mk_Sc_passDay lk_0_380 dc_I_winter_64 303 [.inl (v3 + v4)] [] rfl rfl (Nat.le_of_ble_eq_true rfl) (by decide) rfl (gk_9 hg (ka_0_4 pk_64)) ev5 (gd_nm hg gv5) ?_
      show K 67 [some (.inr (.inr 64)), none, none, none, none, none, some (.inl x6), some (.inl x7), some (.inl v2), some (.inl x9)] [] v5
      refine ia_go hK ck_I_winter_67 ?_
      show K 33 [some (.inr (.inr 64)), none, none, none, none, none, some (.inl x6), some (.inl x7), some (.inl v2), some (.inl (x9 + 1))] [] v5
      exact ih v2 (x9 + 1) v5 gv5 hm
theorem gl_I_winter_33 {w : ia_O0} {x1 : Int32} {x2 : Int32} {x3 : Int32} {x4 : Int32} {x5 : Int32} {x6 : Int32} {x7 : Int32} {r : Int32} {h1 : ia_H} {k73 : ia_H → Option (Int32 × ia_H)} (hk73 : ∀ (h : ia_H), gd_ w h → k73 h = some (r, h1) → gd_ w h1) : ∀ (n : Nat) (x8 : Int32) (x9 : Int32) (h : ia_H), gd_ w h → l_I_winter_33 x1 x2 x3 x4 x5 x6 x7 k73 n x8 x9 h = some (r, h1) → gd_ w h1 := by
  intro n
  induction n with
  | zero =>
    intro x8 x9 h hg hm
    cases (show (none : Option (Int32 × ia_H)) = some _ from hm)
  | succ n ih =>
    intro x8 x9 h hg hm
    rw [l_I_winter_33] at hm
    by_cases c : x6 ≤ x9
    · replace hm := ia_ifp hm c
      exact hk73 h hg hm
    · replace hm := ia_ifn hm c
      obtain ⟨v2, hv2, hm⟩ := ia_bnd hm
      obtain ⟨v3, hv3, hm⟩ := ia_bnd hm
      obtain ⟨v4, hv4, hm⟩ := ia_bnd hm
      obtain ⟨v5, hv5, hm⟩ := ia_bnd hm
      have gv5 := g_Sc_passDay hg (ka_0_4 pk_64) hv5
      exact ih v2 (x9 + 1) v5 gv5 hm
def f_I_winter (x1 : Int32) (x2 : Int32) (x3 : Int32) (x4 : Int32) (x5 : Int32) (x6 : Int32) (x7 : Int32) (h : ia_H) : Option (Int32 × ia_H) := if x6 < 0 then (some ((-1), h)) else (if 60 < x6 then (some ((-1), h)) else ((f_I_stage x1 x2 x3 x4 h).bind fun v1 => (if v1.1 = 0 then (some ((-1), v1.2)) else (l_I_winter_33 x1 x2 x3 x4 x5 x6 x7 (fun h => if x7 = 0 then ((f_Sc_lost 303 h).bind fun v6 => (some (v6, h))) else if x7 = 1 then (some (ia_i h 303 10, h)) else if x7 = 2 then ((f_Sc_standing 303 h).bind fun v9 => (some (v9, h))) else (if x7 < 100 then (some ((-1), h)) else ((f_La_isCell (ia_r h 303 0) (x7 - 100) h).bind fun v11 => (if v11 = 0 then (some ((-1), h)) else (ia_gd (ia_ib (x7 - 100) 36) (some (ia_i h 304 ((x7 - 100).toNatClampNeg), h))))))) fu_ x5 0 v1.2))))
theorem g_I_winter {w : ia_O0} {x1 : Int32} {x2 : Int32} {x3 : Int32} {x4 : Int32} {x5 : Int32} {x6 : Int32} {x7 : Int32} {h : ia_H} (hg : gd_ w h) {q : (Int32 × ia_H)} (hm : f_I_winter x1 x2 x3 x4 x5 x6 x7 h = some q) : gd_ w q.2 := by
  obtain ⟨r, h1⟩ := q
  unfold f_I_winter at hm
  by_cases c : x6 < 0
  · replace hm := ia_ifp hm c
    obtain ⟨rfl, rfl⟩ := Prod.mk.inj (Option.some.inj hm)
    exact hg
  · replace hm := ia_ifn hm c
    by_cases c : 60 < x6
    · replace hm := ia_ifp hm c
      obtain ⟨rfl, rfl⟩ := Prod.mk.inj (Option.some.inj hm)
      exact hg
    · replace hm := ia_ifn hm c
      obtain ⟨v1, hv1, hm⟩ := ia_bnd hm
      have gv1 := g_I_stage hg hv1
      by_cases c : v1.1 = 0
      · replace hm := ia_ifp hm c
        obtain ⟨rfl, rfl⟩ := Prod.mk.inj (Option.some.inj hm)
        exact gv1
      · replace hm := ia_ifn hm c
        refine gl_I_winter_33 ?_ fu_ x5 0 v1.2 gv1 hm
        · intro h hg hm
          by_cases c7 : x7 = 0
          · replace hm := ia_ifp hm c7
            obtain ⟨v6, hv6, hm⟩ := ia_bnd hm
            obtain ⟨rfl, rfl⟩ := Prod.mk.inj (Option.some.inj hm)
            exact hg
          · replace hm := ia_ifn hm c7
            by_cases c8 : x7 = 1
            · replace hm := ia_ifp hm c8
              obtain ⟨rfl, rfl⟩ := Prod.mk.inj (Option.some.inj hm)
              exact hg
            · replace hm := ia_ifn hm c8
              by_cases c10 : x7 = 2
              · replace hm := ia_ifp hm c10
                obtain ⟨v9, hv9, hm⟩ := ia_bnd hm
                obtain ⟨rfl, rfl⟩ := Prod.mk.inj (Option.some.inj hm)
                exact hg
              · replace hm := ia_ifn hm c10
                by_cases c : x7 < 100
                · replace hm := ia_ifp hm c
                  obtain ⟨rfl, rfl⟩ := Prod.mk.inj (Option.some.inj hm)
                  exact hg
                · replace hm := ia_ifn hm c
                  obtain ⟨v11, hv11, hm⟩ := ia_bnd hm
                  by_cases c : v11 = 0
                  · replace hm := ia_ifp hm c
                    obtain ⟨rfl, rfl⟩ := Prod.mk.inj (Option.some.inj hm)
                    exact hg
                  · replace hm := ia_ifn hm c
                    obtain ⟨c12, hm⟩ := ia_gd_some hm
                    obtain ⟨rfl, rfl⟩ := Prod.mk.inj (Option.some.inj hm)
                    exact hg
theorem t_I_winter {w : ia_O0} (d : Nat) {x1 : Int32} {x2 : Int32} {x3 : Int32} {x4 : Int32} {x5 : Int32} {x6 : Int32} {x7 : Int32} {h : ia_H} (hg : gd_ w h) {q : (Int32 × ia_H)} (hm : f_I_winter x1 x2 x3 x4 x5 x6 x7 h = some q) : ia_Ev (d + 7) mm_I_winter [.inr (.inr 64), .inl x1, .inl x2, .inl x3, .inl x4, .inl x5, .inl x6, .inl x7] h (some (.inl q.1)) q.2 := by
  have gq := g_I_winter hg hm
  refine ia_Ev_intro ok_I_winter (gd_le hg gq).1 (gd_le hg gq).2 (Nat.le_of_ble_eq_true rfl) (fun K hK hret => ?_)
  obtain ⟨r, h1⟩ := q
  show K 0 [some (.inr (.inr 64)), some (.inl x1), some (.inl x2), some (.inl x3), some (.inl x4), some (.inl x5), some (.inl x6), some (.inl x7), none, none] [] h
  unfold f_I_winter at hm
  refine ia_go hK ck_I_winter_0 ⟨fun c => ?_, fun c => ?_⟩
  · replace hm := ia_ifp hm c
    show K 24 [some (.inr (.inr 64)), some (.inl x1), some (.inl x2), some (.inl x3), some (.inl x4), some (.inl x5), some (.inl x6), some (.inl x7), none, none] [] h
    refine ia_go hK ck_I_winter_24 ?_
    show K 25 [some (.inr (.inr 64)), some (.inl x1), some (.inl x2), some (.inl x3), some (.inl x4), some (.inl x5), some (.inl x6), some (.inl x7), none, none] [.inl (-1)] h
    obtain ⟨rfl, rfl⟩ := Prod.mk.inj (Option.some.inj hm)
    exact hret 25 _ dc_I_winter_25
  · replace hm := ia_ifn hm c
    show K 5 [some (.inr (.inr 64)), some (.inl x1), some (.inl x2), some (.inl x3), some (.inl x4), some (.inl x5), some (.inl x6), some (.inl x7), none, none] [] h
    refine ia_go hK ck_I_winter_5 ⟨fun c => ?_, fun c => ?_⟩
    · replace hm := ia_ifp hm c
      show K 24 [some (.inr (.inr 64)), some (.inl x1), some (.inl x2), some (.inl x3), some (.inl x4), some (.inl x5), some (.inl x6), some (.inl x7), none, none] [] h
      refine ia_go hK ck_I_winter_24 ?_
      show K 25 [some (.inr (.inr 64)), some (.inl x1), some (.inl x2), some (.inl x3), some (.inl x4), some (.inl x5), some (.inl x6), some (.inl x7), none, none] [.inl (-1)] h
      obtain ⟨rfl, rfl⟩ := Prod.mk.inj (Option.some.inj hm)
      exact hret 25 _ dc_I_winter_25
    · replace hm := ia_ifn hm c
      show K 12 [some (.inr (.inr 64)), some (.inl x1), some (.inl x2), some (.inl x3), some (.inl x4), some (.inl x5), some (.inl x6), some (.inl x7), none, none] [] h
      refine ia_go hK ck_I_winter_12 ?_
      show K 18 [some (.inr (.inr 64)), some (.inl x1), some (.inl x2), some (.inl x3), some (.inl x4), some (.inl x5), some (.inl x6), some (.inl x7), none, none] [.inl x4, .inl x3, .inl x2, .inl x1, .inr (.inr 64)] h
      obtain ⟨v1, hv1, hm⟩ := ia_bnd hm
      have ev1 := t_I_stage (d + 0) hg hv1
      have gv1 := g_I_stage hg hv1
      refine ia_cV hK mk_I_stage lk_0_266 dc_I_winter_18 64 [.inl x1, .inl x2, .inl x3, .inl x4] [] rfl rfl (Nat.le_of_ble_eq_true rfl) (by decide) rfl (gk_0 hg pk_64) ev1 (gd_nm hg gv1) ?_
      show K 21 [some (.inr (.inr 64)), some (.inl x1), some (.inl x2), some (.inl x3), some (.inl x4), some (.inl x5), some (.inl x6), some (.inl x7), none, none] [.inl v1.1] v1.2
      refine ia_go hK ck_I_winter_21 ⟨fun c => ?_, fun c => ?_⟩
      · replace hm := ia_ifn hm c
        show K 26 [some (.inr (.inr 64)), some (.inl x1), some (.inl x2), some (.inl x3), some (.inl x4), some (.inl x5), some (.inl x6), some (.inl x7), none, none] [] v1.2
        refine ia_go hK ck_I_winter_26 ?_
        show K 33 [some (.inr (.inr 64)), some (.inl x1), some (.inl x2), some (.inl x3), some (.inl x4), some (.inl x5), some (.inl x6), some (.inl x7), some (.inl x5), some (.inl 0)] [] v1.2
        refine ia_fg hK (lv' := [some (.inr (.inr 64)), none, none, none, none, none, some (.inl x6), some (.inl x7), some (.inl x5), some (.inl 0)]) ⟨rfl, rfl, rfl, rfl, rfl, trivial⟩ ?_
        refine tl_I_winter_33 hK hret ?_ fu_ x5 0 v1.2 gv1 hm
        · intro h hg hm
          refine ia_go hK ck_I_winter_73 ?_
          show K (ia_tsw 75 49 0 2 #[25, 33, 41] x7) [some (.inr (.inr 64)), none, none, none, none, none, none, some (.inl x7), none, none] [] h
          by_cases c7 : x7 = 0
          · replace hm := ia_ifp hm c7
            rw [show ia_tsw 75 49 0 2 #[25, 33, 41] x7 = 100 from by rw [c7]; decide]
            refine ia_go hK ck_I_winter_100 ⟨gk_0 hg pk_64, gr_0_4 hg pk_64, ?_⟩
            show K 104 [some (.inr (.inr 64)), none, none, none, none, none, none, some (.inl x7), none, none] [.inr (.inr 303)] h
            obtain ⟨v6, hv6, hm⟩ := ia_bnd hm
            have ev6 := t_Sc_lost (d + 6) hg (ka_0_4 pk_64) hv6
            refine ia_cV hK mk_Sc_lost lk_0_276 dc_I_winter_104 303 [] [] rfl rfl (Nat.le_of_ble_eq_true rfl) (by decide) rfl (gk_9 hg (ka_0_4 pk_64)) ev6 ⟨rfl, rfl⟩ ?_
            show K 107 [some (.inr (.inr 64)), none, none, none, none, none, none, some (.inl x7), none, none] [.inl v6] h
            obtain ⟨rfl, rfl⟩ := Prod.mk.inj (Option.some.inj hm)
            exact hret 107 _ dc_I_winter_107
          · replace hm := ia_ifn hm c7
            by_cases c8 : x7 = 1
            · replace hm := ia_ifp hm c8
              rw [show ia_tsw 75 49 0 2 #[25, 33, 41] x7 = 108 from by rw [c8]; decide]
              refine ia_go hK ck_I_winter_108 ⟨gk_0 hg pk_64, gr_0_4 hg pk_64, gk_9 hg (ka_0_4 pk_64), ?_⟩
              show K 115 [some (.inr (.inr 64)), none, none, none, none, none, none, some (.inl x7), none, none] [.inl (ia_i h 303 10)] h
              obtain ⟨rfl, rfl⟩ := Prod.mk.inj (Option.some.inj hm)
              exact hret 115 _ dc_I_winter_115
            · replace hm := ia_ifn hm c8
              by_cases c10 : x7 = 2
              · replace hm := ia_ifp hm c10
                rw [show ia_tsw 75 49 0 2 #[25, 33, 41] x7 = 116 from by rw [c10]; decide]
                refine ia_go hK ck_I_winter_116 ⟨gk_0 hg pk_64, gr_0_4 hg pk_64, ?_⟩
                show K 120 [some (.inr (.inr 64)), none, none, none, none, none, none, some (.inl x7), none, none] [.inr (.inr 303)] h
                obtain ⟨v9, hv9, hm⟩ := ia_bnd hm
                have ev9 := t_Sc_standing (d + 6) hg (ka_0_4 pk_64) hv9
                refine ia_cV hK mk_Sc_standing lk_0_416 dc_I_winter_120 303 [] [] rfl rfl (Nat.le_of_ble_eq_true rfl) (by decide) rfl (gk_9 hg (ka_0_4 pk_64)) ev9 ⟨rfl, rfl⟩ ?_
                show K 123 [some (.inr (.inr 64)), none, none, none, none, none, none, some (.inl x7), none, none] [.inl v9] h
                obtain ⟨rfl, rfl⟩ := Prod.mk.inj (Option.some.inj hm)
                exact hret 123 _ dc_I_winter_123
              · replace hm := ia_ifn hm c10
                rw [show ia_tsw 75 49 0 2 #[25, 33, 41] x7 = 124 from (ia_tsw_d (fun k h1 h2 => by
                    rcases (show k = 0 ∨ k = 1 ∨ k = 2 by omega) with rfl | rfl | rfl
                    · exact c7
                    · exact c8
                    · exact c10
                    )).trans (by decide)]
                refine ia_go hK ck_I_winter_124 ⟨fun c => ?_, fun c => ?_⟩
                · replace hm := ia_ifp hm c
                  show K 165 [some (.inr (.inr 64)), none, none, none, none, none, none, some (.inl x7), none, none] [] h
                  refine ia_go hK ck_I_winter_165 ?_
                  show K 166 [some (.inr (.inr 64)), none, none, none, none, none, none, some (.inl x7), none, none] [.inl (-1)] h
                  obtain ⟨rfl, rfl⟩ := Prod.mk.inj (Option.some.inj hm)
                  exact hret 166 _ dc_I_winter_166
                · replace hm := ia_ifn hm c
                  show K 131 [some (.inr (.inr 64)), none, none, none, none, none, none, some (.inl x7), none, none] [] h
                  refine ia_go hK ck_I_winter_131 ⟨gk_0 hg pk_64, gr_0_4 hg pk_64, gk_9 hg (ka_0_4 pk_64), ?_⟩
                  show K 143 [some (.inr (.inr 64)), none, none, none, none, none, none, some (.inl x7), none, none] [.inl (x7 - 100), .inr (.inr (ia_r h 303 0))] h
                  obtain ⟨v11, hv11, hm⟩ := ia_bnd hm
                  have ev11 := t_La_isCell (d + 6) hg (gm_9_0 hg (ka_0_4 pk_64)) hv11
                  refine ia_cV hK mk_La_isCell lk_0_182 dc_I_winter_143 (ia_r h 303 0) [.inl (x7 - 100)] [] rfl rfl (Nat.le_of_ble_eq_true rfl) (by decide) rfl (gk_3 hg (gm_9_0 hg (ka_0_4 pk_64))) ev11 ⟨rfl, rfl⟩ ?_
                  show K 146 [some (.inr (.inr 64)), none, none, none, none, none, none, some (.inl x7), none, none] [.inl v11] h
                  refine ia_go hK ck_I_winter_146 ⟨fun c => ?_, fun c => ?_⟩
                  · replace hm := ia_ifp hm c
                    show K 165 [some (.inr (.inr 64)), none, none, none, none, none, none, some (.inl x7), none, none] [] h
                    refine ia_go hK ck_I_winter_165 ?_
                    show K 166 [some (.inr (.inr 64)), none, none, none, none, none, none, some (.inl x7), none, none] [.inl (-1)] h
                    obtain ⟨rfl, rfl⟩ := Prod.mk.inj (Option.some.inj hm)
                    exact hret 166 _ dc_I_winter_166
                  · replace hm := ia_ifn hm c
                    show K 149 [some (.inr (.inr 64)), none, none, none, none, none, none, some (.inl x7), none, none] [] h
                    obtain ⟨c12, hm⟩ := ia_gd_some hm
                    refine ia_go hK ck_I_winter_149 ⟨gk_0 hg pk_64, gr_0_4 hg pk_64, gk_9 hg (ka_0_4 pk_64), gr_9_2 hg (ka_0_4 pk_64), ga_i100 hg (ka_9_2 (ka_0_4 pk_64)) c12, ?_⟩
                    show K 166 [some (.inr (.inr 64)), none, none, none, none, none, none, some (.inl x7), none, none] [.inl (ia_i h 304 ((x7 - 100).toNatClampNeg))] h
                    obtain ⟨rfl, rfl⟩ := Prod.mk.inj (Option.some.inj hm)
                    exact hret 166 _ dc_I_winter_166
      · replace hm := ia_ifp hm c
        show K 24 [some (.inr (.inr 64)), some (.inl x1), some (.inl x2), some (.inl x3), some (.inl x4), some (.inl x5), some (.inl x6), some (.inl x7), none, none] [] v1.2
        refine ia_go hK ck_I_winter_24 ?_
        show K 25 [some (.inr (.inr 64)), some (.inl x1), some (.inl x2), some (.inl x3), some (.inl x4), some (.inl x5), some (.inl x6), some (.inl x7), none, none] [.inl (-1)] v1.2
        obtain ⟨rfl, rfl⟩ := Prod.mk.inj (Option.some.inj hm)
        exact hret 25 _ dc_I_winter_25
def mm_Ou_fallsBySeed : ia_M := (⟨"IceStreet$Outlook", "fallsBySeed", "(LIceStreet$Scene;III)Z"⟩, prog_6_method_12_code, 7, (some .boolean), 5, false)
theorem ok_Ou_fallsBySeed : ia_mok mm_Ou_fallsBySeed := ⟨by decide +kernel, by decide +kernel, by decide +kernel, by decide +kernel⟩
theorem mk_Ou_fallsBySeed : ia_mkn mm_Ou_fallsBySeed 1 4 := ⟨ia_tb_in (List.mem_of_getElem? (i := 1513) (by decide +kernel)) rfl, ia_tb_in (List.mem_of_getElem? (i := 143) (by decide +kernel)) rfl, by decide +kernel, by decide +kernel, ⟨ia_tb_in (List.mem_of_getElem? (i := 1511) (by decide +kernel)) rfl, ia_tb_in (List.mem_of_getElem? (i := 1512) (by decide +kernel)) rfl⟩⟩
theorem ck_Ou_fallsBySeed_0 : ia_cks 5 7 false prog_6_method_12_code 0 [(.aload_n 0, 0, 0, 0, 0), (.getfield 27, 5, 1, 3, 3), (.aload_n 1, 0, 0, 0, 0)] = true := by decide +kernel
theorem ck_Ou_fallsBySeed_8 : ia_cks 5 7 false prog_6_method_12_code 8 [(.iload_n 3, 0, 0, 0, 0), (.istore 5, 0, 0, 0, 0), (.iconst 0, 0, 0, 0, 0), (.istore 6, 0, 0, 0, 0)] = true := by decide +kernel
theorem ck_Ou_fallsBySeed_14 : ia_cks 5 7 false prog_6_method_12_code 14 [(.iload 6, 0, 0, 0, 0), (.iload 4, 0, 0, 0, 0), (.if_icmp .ge 47, 0, 0, 0, 0)] = true := by decide +kernel
theorem ck_Ou_fallsBySeed_21 : ia_cks 5 7 false prog_6_method_12_code 21 [(.aload_n 0, 0, 0, 0, 0), (.getfield 27, 5, 1, 3, 3), (.iload_n 2, 0, 0, 0, 0)] = true := by decide +kernel
theorem ck_Ou_fallsBySeed_29 : ia_cks 5 7 false prog_6_method_12_code 29 [(.ifCond .eq 36, 0, 0, 0, 0)] = true := by decide +kernel
theorem ck_Ou_fallsBySeed_32 : ia_cks 5 7 false prog_6_method_12_code 32 [(.iload 5, 0, 0, 0, 0)] = true := by decide +kernel
theorem ck_Ou_fallsBySeed_37 : ia_cks 5 7 false prog_6_method_12_code 37 [(.istore 5, 0, 0, 0, 0), (.aload_n 0, 0, 0, 0, 0), (.getfield 27, 5, 1, 3, 3), (.aload_n 0, 0, 0, 0, 0), (.getfield 27, 5, 1, 3, 3)] = true := by decide +kernel
theorem ck_Ou_fallsBySeed_50 : ia_cks 5 7 false prog_6_method_12_code 50 [(.iload 5, 0, 0, 0, 0)] = true := by decide +kernel
theorem ck_Ou_fallsBySeed_55 : ia_cks 5 7 false prog_6_method_12_code 55 [(.iadd, 0, 0, 0, 0)] = true := by decide +kernel
theorem ck_Ou_fallsBySeed_59 : ia_cks 5 7 false prog_6_method_12_code 59 [(.iinc 6 1, 0, 0, 0, 0), (.goto (-48), 0, 0, 0, 0)] = true := by decide +kernel
theorem ck_Ou_fallsBySeed_65 : ia_cks 5 7 false prog_6_method_12_code 65 [(.aload_n 0, 0, 0, 0, 0), (.getfield 27, 5, 1, 3, 3), (.iload_n 2, 0, 0, 0, 0)] = true := by decide +kernel
theorem ck_Ou_fallsBySeed_73 : ia_cks 5 7 false prog_6_method_12_code 73 [(.ifCond .ne 7, 0, 0, 0, 0)] = true := by decide +kernel
theorem ck_Ou_fallsBySeed_80 : ia_cks 5 7 false prog_6_method_12_code 80 [(.iconst 0, 0, 0, 0, 0)] = true := by decide +kernel
theorem ck_Ou_fallsBySeed_76 : ia_cks 5 7 false prog_6_method_12_code 76 [(.iconst 1, 0, 0, 0, 0), (.goto 4, 0, 0, 0, 0)] = true := by decide +kernel
theorem dc_Ou_fallsBySeed_5 : decode prog_6_method_12_code 5 = .ok (.invokevirtual 34, 3) := by decide +kernel
theorem dc_Ou_fallsBySeed_26 : decode prog_6_method_12_code 26 = .ok (.invokevirtual 38, 3) := by decide +kernel
theorem dc_Ou_fallsBySeed_34 : decode prog_6_method_12_code 34 = .ok (.invokestatic 148, 3) := by decide +kernel
theorem dc_Ou_fallsBySeed_47 : decode prog_6_method_12_code 47 = .ok (.invokevirtual 42, 3) := by decide +kernel
theorem dc_Ou_fallsBySeed_52 : decode prog_6_method_12_code 52 = .ok (.invokestatic 151, 3) := by decide +kernel
theorem dc_Ou_fallsBySeed_56 : decode prog_6_method_12_code 56 = .ok (.invokevirtual 46, 3) := by decide +kernel
theorem dc_Ou_fallsBySeed_70 : decode prog_6_method_12_code 70 = .ok (.invokevirtual 38, 3) := by decide +kernel
theorem dc_Ou_fallsBySeed_81 : decode prog_6_method_12_code 81 = .ok (.ireturn, 1) := by decide +kernel
def l_Ou_fallsBySeed_14 (a1 : Nat) (x2 : Int32) (x3 : Int32) (x4 : Int32) (k65 : ia_H → Option (Int32 × ia_H)) (n : Nat) (x5 : Int32) (x6 : Int32) (h : ia_H) : Option (Int32 × ia_H) := match n with
  | 0 => none
  | n + 1 => if x4 ≤ x6 then (k65 h) else ((f_Sc_stands 329 x2 h).bind fun v2 => (if v2 = 0 then (k65 h) else ((f_I_nextDraw x5 h).bind fun v3 => ((f_Sc_frost 329 h).bind fun v4 => ((f_I_drawnFrost v3 h).bind fun v5 => ((f_Sc_passDayUnderShops 329 (v4 + v5) h).bind fun v6 => (l_Ou_fallsBySeed_14 a1 x2 x3 x4 k65 n v3 (x6 + 1) v6)))))))
theorem tl_Ou_fallsBySeed_14 {w : ia_O0} {d N1 W1 : Nat} {K : ia_K} (hK : ia_isK (d + 4) mm_Ou_fallsBySeed N1 W1 K) {a1 : Nat} {x2 : Int32} {x3 : Int32} {x4 : Int32} (p1 : (kd_D a1).1 = 9) {r : Int32} {h1 : ia_H} (hret : ∀ (pc : Nat) (lv : ia_L), ia_ret mm_Ou_fallsBySeed pc (some (.inl r)) → K pc lv ((some (.inl r)) : Option ia_V).toList h1) {k65 : ia_H → Option (Int32 × ia_H)} (hk65 : ∀ (h : ia_H), gd_ w h → k65 h = some (r, h1) → K 65 [some (.inr (.inr 326)), none, some (.inl x2), none, none, none, none] [] h) : ∀ (n : Nat) (x5 : Int32) (x6 : Int32) (h : ia_H), gd_ w h → l_Ou_fallsBySeed_14 a1 x2 x3 x4 k65 n x5 x6 h = some (r, h1) → K 14 [some (.inr (.inr 326)), none, some (.inl x2), none, some (.inl x4), some (.inl x5), some (.inl x6)] [] h := by
  intro n
  induction n with
  | zero =>
    intro x5 x6 h hg hm
    cases (show (none : Option (Int32 × ia_H)) = some _ from hm)
  | succ n ih =>
    intro x5 x6 h hg hm
    rw [l_Ou_fallsBySeed_14] at hm
    refine ia_go hK ck_Ou_fallsBySeed_14 ⟨fun c => ?_, fun c => ?_⟩
    · replace hm := ia_ifp hm c
      show K 65 [some (.inr (.inr 326)), none, some (.inl x2), none, some (.inl x4), some (.inl x5), some (.inl x6)] [] h
      refine ia_fg hK (lv' := [some (.inr (.inr 326)), none, some (.inl x2), none, none, none, none]) ⟨rfl, rfl, trivial⟩ ?_
      exact hk65 h hg hm
    · replace hm := ia_ifn hm c
      show K 21 [some (.inr (.inr 326)), none, some (.inl x2), none, some (.inl x4), some (.inl x5), some (.inl x6)] [] h
      refine ia_go hK ck_Ou_fallsBySeed_21 ⟨gk_5 hg pk_326, gr_5_1 hg pk_326, ?_⟩
      show K 26 [some (.inr (.inr 326)), none, some (.inl x2), none, some (.inl x4), some (.inl x5), some (.inl x6)] [.inl x2, .inr (.inr 329)] h
      obtain ⟨v2, hv2, hm⟩ := ia_bnd hm
      have ev2 := t_Sc_stands (d + 3) hg (ka_5_1 pk_326) hv2
      refine ia_cV hK mk_Sc_stands lk_5_38 dc_Ou_fallsBySeed_26 329 [.inl x2] [] rfl rfl (Nat.le_of_ble_eq_true rfl) (by decide) rfl (gk_9 hg (ka_5_1 pk_326)) ev2 ⟨rfl, rfl⟩ ?_
      show K 29 [some (.inr (.inr 326)), none, some (.inl x2), none, some (.inl x4), some (.inl x5), some (.inl x6)] [.inl v2] h
      refine ia_go hK ck_Ou_fallsBySeed_29 ⟨fun c => ?_, fun c => ?_⟩
      · replace hm := ia_ifp hm c
        show K 65 [some (.inr (.inr 326)), none, some (.inl x2), none, some (.inl x4), some (.inl x5), some (.inl x6)] [] h
        refine ia_fg hK (lv' := [some (.inr (.inr 326)), none, some (.inl x2), none, none, none, none]) ⟨rfl, rfl, trivial⟩ ?_
        exact hk65 h hg hm
      · replace hm := ia_ifn hm c
        show K 32 [some (.inr (.inr 326)), none, some (.inl x2), none, some (.inl x4), some (.inl x5), some (.inl x6)] [] h
        refine ia_go hK ck_Ou_fallsBySeed_32 ?_
        show K 34 [some (.inr (.inr 326)), none, some (.inl x2), none, some (.inl x4), some (.inl x5), some (.inl x6)] [.inl x5] h
        obtain ⟨v3, hv3, hm⟩ := ia_bnd hm
        have ev3 := t_I_nextDraw (d + 3) hg hv3
        refine ia_cS hK mk_I_nextDraw lk_5_148 dc_Ou_fallsBySeed_34 [.inl x5] [] rfl rfl (Nat.le_of_ble_eq_true rfl) ev3 ⟨rfl, rfl⟩ ?_
        show K 37 [some (.inr (.inr 326)), none, some (.inl x2), none, some (.inl x4), some (.inl x5), some (.inl x6)] [.inl v3] h
        refine ia_go hK ck_Ou_fallsBySeed_37 ⟨gk_5 hg pk_326, gr_5_1 hg pk_326, gk_5 hg pk_326, gr_5_1 hg pk_326, ?_⟩
        show K 47 [some (.inr (.inr 326)), none, some (.inl x2), none, some (.inl x4), some (.inl v3), some (.inl x6)] [.inr (.inr 329), .inr (.inr 329)] h
        obtain ⟨v4, hv4, hm⟩ := ia_bnd hm
        have ev4 := t_Sc_frost (d + 3) hg (ka_5_1 pk_326) hv4
        refine ia_cV hK mk_Sc_frost lk_5_42 dc_Ou_fallsBySeed_47 329 [] [.inr (.inr 329)] rfl rfl (Nat.le_of_ble_eq_true rfl) (by decide) rfl (gk_9 hg (ka_5_1 pk_326)) ev4 ⟨rfl, rfl⟩ ?_
        show K 50 [some (.inr (.inr 326)), none, some (.inl x2), none, some (.inl x4), some (.inl v3), some (.inl x6)] [.inl v4, .inr (.inr 329)] h
        refine ia_go hK ck_Ou_fallsBySeed_50 ?_
        show K 52 [some (.inr (.inr 326)), none, some (.inl x2), none, some (.inl x4), some (.inl v3), some (.inl x6)] [.inl v3, .inl v4, .inr (.inr 329)] h
        obtain ⟨v5, hv5, hm⟩ := ia_bnd hm
        have ev5 := t_I_drawnFrost (d + 3) hg hv5
        refine ia_cS hK mk_I_drawnFrost lk_5_151 dc_Ou_fallsBySeed_52 [.inl v3] [.inl v4, .inr (.inr 329)] rfl rfl (Nat.le_of_ble_eq_true rfl) ev5 ⟨rfl, rfl⟩ ?_
        show K 55 [some (.inr (.inr 326)), none, some (.inl x2), none, some (.inl x4), some (.inl v3), some (.inl x6)] [.inl v5, .inl v4, .inr (.inr 329)] h
        refine ia_go hK ck_Ou_fallsBySeed_55 ?_
        show K 56 [some (.inr (.inr 326)), none, some (.inl x2), none, some (.inl x4), some (.inl v3), some (.inl x6)] [.inl (v4 + v5), .inr (.inr 329)] h
        obtain ⟨v6, hv6, hm⟩ := ia_bnd hm
        have ev6 := t_Sc_passDayUnderShops (d + 0) hg (ka_5_1 pk_326) hv6
        have gv6 := g_Sc_passDayUnderShops hg (ka_5_1 pk_326) hv6
        refine ia_cV hK mk_Sc_passDayUnderShops lk_5_46 dc_Ou_fallsBySeed_56 329 [.inl (v4 + v5)] [] rfl rfl (Nat.le_of_ble_eq_true rfl) (by decide) rfl (gk_9 hg (ka_5_1 pk_326)) ev6 (gd_nm hg gv6) ?_
        show K 59 [some (.inr (.inr 326)), none, some (.inl x2), none, some (.inl x4), some (.inl v3), some (.inl x6)] [] v6
        refine ia_go hK ck_Ou_fallsBySeed_59 ?_
        show K 14 [some (.inr (.inr 326)), none, some (.inl x2), none, some (.inl x4), some (.inl v3), some (.inl (x6 + 1))] [] v6
        exact ih v3 (x6 + 1) v6 gv6 hm
theorem gl_Ou_fallsBySeed_14 {w : ia_O0} {a1 : Nat} {x2 : Int32} {x3 : Int32} {x4 : Int32} (p1 : (kd_D a1).1 = 9) {r : Int32} {h1 : ia_H} {k65 : ia_H → Option (Int32 × ia_H)} (hk65 : ∀ (h : ia_H), gd_ w h → k65 h = some (r, h1) → gd_ w h1) : ∀ (n : Nat) (x5 : Int32) (x6 : Int32) (h : ia_H), gd_ w h → l_Ou_fallsBySeed_14 a1 x2 x3 x4 k65 n x5 x6 h = some (r, h1) → gd_ w h1 := by
  intro n
  induction n with
  | zero =>
    intro x5 x6 h hg hm
    cases (show (none : Option (Int32 × ia_H)) = some _ from hm)
  | succ n ih =>
    intro x5 x6 h hg hm
    rw [l_Ou_fallsBySeed_14] at hm
    by_cases c : x4 ≤ x6
    · replace hm := ia_ifp hm c
      exact hk65 h hg hm
    · replace hm := ia_ifn hm c
      obtain ⟨v2, hv2, hm⟩ := ia_bnd hm
      by_cases c : v2 = 0
      · replace hm := ia_ifp hm c
        exact hk65 h hg hm
      · replace hm := ia_ifn hm c
        obtain ⟨v3, hv3, hm⟩ := ia_bnd hm
        obtain ⟨v4, hv4, hm⟩ := ia_bnd hm
        obtain ⟨v5, hv5, hm⟩ := ia_bnd hm
        obtain ⟨v6, hv6, hm⟩ := ia_bnd hm
        have gv6 := g_Sc_passDayUnderShops hg (ka_5_1 pk_326) hv6
        exact ih v3 (x6 + 1) v6 gv6 hm
def j_Ou_fallsBySeed_65 (a1 : Nat) (x2 : Int32) (x3 : Int32) (x4 : Int32) (h : ia_H) : Option (Int32 × ia_H) := (f_Sc_stands 329 x2 h).bind fun v7 => (if v7 = 0 then (some (1, h)) else (some (0, h)))
theorem tj_Ou_fallsBySeed_65 {w : ia_O0} {d N1 W1 : Nat} {K : ia_K} (hK : ia_isK (d + 4) mm_Ou_fallsBySeed N1 W1 K) {a1 : Nat} {x2 : Int32} {x3 : Int32} {x4 : Int32} (p1 : (kd_D a1).1 = 9) {r : Int32} {h1 : ia_H} (hret : ∀ (pc : Nat) (lv : ia_L), ia_ret mm_Ou_fallsBySeed pc (some (.inl r)) → K pc lv ((some (.inl r)) : Option ia_V).toList h1) : ∀ (h : ia_H), gd_ w h → j_Ou_fallsBySeed_65 a1 x2 x3 x4 h = some (r, h1) → K 65 [some (.inr (.inr 326)), none, some (.inl x2), none, none, none, none] [] h := by
  intro h hg hm
  unfold j_Ou_fallsBySeed_65 at hm
  refine ia_go hK ck_Ou_fallsBySeed_65 ⟨gk_5 hg pk_326, gr_5_1 hg pk_326, ?_⟩
  show K 70 [some (.inr (.inr 326)), none, some (.inl x2), none, none, none, none] [.inl x2, .inr (.inr 329)] h
  obtain ⟨v7, hv7, hm⟩ := ia_bnd hm
  have ev7 := t_Sc_stands (d + 3) hg (ka_5_1 pk_326) hv7
  refine ia_cV hK mk_Sc_stands lk_5_38 dc_Ou_fallsBySeed_70 329 [.inl x2] [] rfl rfl (Nat.le_of_ble_eq_true rfl) (by decide) rfl (gk_9 hg (ka_5_1 pk_326)) ev7 ⟨rfl, rfl⟩ ?_
  show K 73 [some (.inr (.inr 326)), none, some (.inl x2), none, none, none, none] [.inl v7] h
  refine ia_go hK ck_Ou_fallsBySeed_73 ⟨fun c => ?_, fun c => ?_⟩
  · replace hm := ia_ifn hm c
    show K 80 [some (.inr (.inr 326)), none, some (.inl x2), none, none, none, none] [] h
    refine ia_go hK ck_Ou_fallsBySeed_80 ?_
    show K 81 [some (.inr (.inr 326)), none, some (.inl x2), none, none, none, none] [.inl 0] h
    obtain ⟨rfl, rfl⟩ := Prod.mk.inj (Option.some.inj hm)
    exact hret 81 _ ⟨Or.inl rfl, dc_Ou_fallsBySeed_81⟩
  · replace hm := ia_ifp hm c
    show K 76 [some (.inr (.inr 326)), none, some (.inl x2), none, none, none, none] [] h
    refine ia_go hK ck_Ou_fallsBySeed_76 ?_
    show K 81 [some (.inr (.inr 326)), none, some (.inl x2), none, none, none, none] [.inl 1] h
    obtain ⟨rfl, rfl⟩ := Prod.mk.inj (Option.some.inj hm)
    exact hret 81 _ ⟨Or.inr rfl, dc_Ou_fallsBySeed_81⟩
theorem gj_Ou_fallsBySeed_65 {w : ia_O0} {a1 : Nat} {x2 : Int32} {x3 : Int32} {x4 : Int32} (p1 : (kd_D a1).1 = 9) {r : Int32} {h1 : ia_H} : ∀ (h : ia_H), gd_ w h → j_Ou_fallsBySeed_65 a1 x2 x3 x4 h = some (r, h1) → gd_ w h1 := by
  intro h hg hm
  unfold j_Ou_fallsBySeed_65 at hm
  obtain ⟨v7, hv7, hm⟩ := ia_bnd hm
  by_cases c : v7 = 0
  · replace hm := ia_ifp hm c
    obtain ⟨rfl, rfl⟩ := Prod.mk.inj (Option.some.inj hm)
    exact hg
  · replace hm := ia_ifn hm c
    obtain ⟨rfl, rfl⟩ := Prod.mk.inj (Option.some.inj hm)
    exact hg
def f_Ou_fallsBySeed (a1 : Nat) (x2 : Int32) (x3 : Int32) (x4 : Int32) (h : ia_H) : Option (Int32 × ia_H) := (f_Sc_become 329 a1 h).bind fun v1 => (l_Ou_fallsBySeed_14 a1 x2 x3 x4 (fun h => j_Ou_fallsBySeed_65 a1 x2 x3 x4 h) fu_ x3 0 v1)
theorem g_Ou_fallsBySeed {w : ia_O0} {a1 : Nat} {x2 : Int32} {x3 : Int32} {x4 : Int32} {h : ia_H} (hg : gd_ w h) (p1 : (kd_D a1).1 = 9) {q : (Int32 × ia_H)} (hm : f_Ou_fallsBySeed a1 x2 x3 x4 h = some q) : gd_ w q.2 := by
  obtain ⟨r, h1⟩ := q
  unfold f_Ou_fallsBySeed at hm
  obtain ⟨v1, hv1, hm⟩ := ia_bnd hm
  have gv1 := g_Sc_become hg (ka_5_1 pk_326) p1 hv1
  refine gl_Ou_fallsBySeed_14 p1 ?_ fu_ x3 0 v1 gv1 hm
  · intro h hg hm
    exact gj_Ou_fallsBySeed_65 p1 h hg hm
theorem t_Ou_fallsBySeed {w : ia_O0} (d : Nat) {a1 : Nat} {x2 : Int32} {x3 : Int32} {x4 : Int32} {h : ia_H} (hg : gd_ w h) (p1 : (kd_D a1).1 = 9) {q : (Int32 × ia_H)} (hm : f_Ou_fallsBySeed a1 x2 x3 x4 h = some q) : ia_Ev (d + 4) mm_Ou_fallsBySeed [.inr (.inr 326), .inr (.inr a1), .inl x2, .inl x3, .inl x4] h (some (.inl q.1)) q.2 := by
  have gq := g_Ou_fallsBySeed hg p1 hm
  refine ia_Ev_intro ok_Ou_fallsBySeed (gd_le hg gq).1 (gd_le hg gq).2 (Nat.le_of_ble_eq_true rfl) (fun K hK hret => ?_)
  obtain ⟨r, h1⟩ := q
  show K 0 [some (.inr (.inr 326)), some (.inr (.inr a1)), some (.inl x2), some (.inl x3), some (.inl x4), none, none] [] h
  unfold f_Ou_fallsBySeed at hm
  refine ia_go hK ck_Ou_fallsBySeed_0 ⟨gk_5 hg pk_326, gr_5_1 hg pk_326, ?_⟩
  show K 5 [some (.inr (.inr 326)), some (.inr (.inr a1)), some (.inl x2), some (.inl x3), some (.inl x4), none, none] [.inr (.inr a1), .inr (.inr 329)] h
  obtain ⟨v1, hv1, hm⟩ := ia_bnd hm
  have ev1 := t_Sc_become (d + 3) hg (ka_5_1 pk_326) p1 hv1
  have gv1 := g_Sc_become hg (ka_5_1 pk_326) p1 hv1
  refine ia_cV hK mk_Sc_become lk_5_34 dc_Ou_fallsBySeed_5 329 [.inr (.inr a1)] [] rfl rfl (Nat.le_of_ble_eq_true rfl) (by decide) rfl (gk_9 hg (ka_5_1 pk_326)) ev1 (gd_nm hg gv1) ?_
  show K 8 [some (.inr (.inr 326)), some (.inr (.inr a1)), some (.inl x2), some (.inl x3), some (.inl x4), none, none] [] v1
  refine ia_go hK ck_Ou_fallsBySeed_8 ?_
  show K 14 [some (.inr (.inr 326)), some (.inr (.inr a1)), some (.inl x2), some (.inl x3), some (.inl x4), some (.inl x3), some (.inl 0)] [] v1
  refine ia_fg hK (lv' := [some (.inr (.inr 326)), none, some (.inl x2), none, some (.inl x4), some (.inl x3), some (.inl 0)]) ⟨rfl, rfl, rfl, rfl, rfl, trivial⟩ ?_
  refine tl_Ou_fallsBySeed_14 hK p1 hret ?_ fu_ x3 0 v1 gv1 hm
  · intro h hg hm
    exact tj_Ou_fallsBySeed_65 hK p1 hret h hg hm
