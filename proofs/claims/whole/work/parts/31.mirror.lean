def mm_I_fallen : ia_M := (⟨"IceStreet", "fallen", "(IIIIIIII)I"⟩, prog_1_method_33_code, 11, (some .int), 0, false)
theorem ok_I_fallen : ia_mok mm_I_fallen := ⟨by decide +kernel, by decide +kernel, by decide +kernel, by decide +kernel⟩
theorem mk_I_fallen : ia_mkn mm_I_fallen 1 8 := ⟨ia_tb_in (List.mem_of_getElem? (i := 1509) (by decide +kernel)) rfl, ia_tb_in (List.mem_of_getElem? (i := 133) (by decide +kernel)) rfl, by decide +kernel, by decide +kernel, ⟨ia_tb_in (List.mem_of_getElem? (i := 1507) (by decide +kernel)) rfl, ia_tb_in (List.mem_of_getElem? (i := 1508) (by decide +kernel)) rfl⟩⟩
theorem ck_I_fallen_0 : ia_cks 0 11 false prog_1_method_33_code 0 [(.iload 6, 0, 0, 0, 0), (.iconst 1, 0, 0, 0, 0), (.if_icmp .lt 22, 0, 0, 0, 0)] = true := by decide +kernel
theorem ck_I_fallen_25 : ia_cks 0 11 false prog_1_method_33_code 25 [(.iconst (-1), 0, 0, 0, 0)] = true := by decide +kernel
theorem ck_I_fallen_6 : ia_cks 0 11 false prog_1_method_33_code 6 [(.iload 6, 0, 0, 0, 0), (.bipush 9, 0, 0, 0, 0), (.if_icmp .gt 15, 0, 0, 0, 0)] = true := by decide +kernel
theorem ck_I_fallen_13 : ia_cks 0 11 false prog_1_method_33_code 13 [(.iload 7, 0, 0, 0, 0), (.ifCond .lt 10, 0, 0, 0, 0)] = true := by decide +kernel
theorem ck_I_fallen_18 : ia_cks 0 11 false prog_1_method_33_code 18 [(.iload 7, 0, 0, 0, 0), (.bipush 60, 0, 0, 0, 0), (.if_icmp .le 5, 0, 0, 0, 0)] = true := by decide +kernel
theorem ck_I_fallen_27 : ia_cks 0 11 false prog_1_method_33_code 27 [(.aload_n 0, 0, 0, 0, 0), (.iload_n 1, 0, 0, 0, 0), (.iload_n 2, 0, 0, 0, 0), (.iload_n 3, 0, 0, 0, 0), (.iload 4, 0, 0, 0, 0)] = true := by decide +kernel
theorem ck_I_fallen_36 : ia_cks 0 11 false prog_1_method_33_code 36 [(.ifCond .eq 15, 0, 0, 0, 0)] = true := by decide +kernel
theorem ck_I_fallen_51 : ia_cks 0 11 false prog_1_method_33_code 51 [(.iconst (-1), 0, 0, 0, 0)] = true := by decide +kernel
theorem ck_I_fallen_39 : ia_cks 0 11 false prog_1_method_33_code 39 [(.aload_n 0, 0, 0, 0, 0), (.getfield 44, 0, 4, 3, 239), (.iload 8, 0, 0, 0, 0)] = true := by decide +kernel
theorem ck_I_fallen_48 : ia_cks 0 11 false prog_1_method_33_code 48 [(.ifCond .ne 5, 0, 0, 0, 0)] = true := by decide +kernel
theorem ck_I_fallen_53 : ia_cks 0 11 false prog_1_method_33_code 53 [(.iconst 0, 0, 0, 0, 0), (.istore 9, 0, 0, 0, 0), (.iconst 0, 0, 0, 0, 0), (.istore 10, 0, 0, 0, 0)] = true := by decide +kernel
theorem ck_I_fallen_59 : ia_cks 0 11 false prog_1_method_33_code 59 [(.iload 10, 0, 0, 0, 0), (.iload 6, 0, 0, 0, 0), (.if_icmp .ge 35, 0, 0, 0, 0)] = true := by decide +kernel
theorem ck_I_fallen_66 : ia_cks 0 11 false prog_1_method_33_code 66 [(.aload_n 0, 0, 0, 0, 0), (.getfield 69, 0, 7, 3, 262), (.aload_n 0, 0, 0, 0, 0), (.getfield 44, 0, 4, 3, 239), (.iload 8, 0, 0, 0, 0), (.iload 5, 0, 0, 0, 0), (.iload 10, 0, 0, 0, 0), (.iadd, 0, 0, 0, 0), (.iload 7, 0, 0, 0, 0)] = true := by decide +kernel
theorem ck_I_fallen_86 : ia_cks 0 11 false prog_1_method_33_code 86 [(.ifCond .eq 6, 0, 0, 0, 0)] = true := by decide +kernel
theorem ck_I_fallen_92 : ia_cks 0 11 false prog_1_method_33_code 92 [(.iinc 10 1, 0, 0, 0, 0), (.goto (-36), 0, 0, 0, 0)] = true := by decide +kernel
theorem ck_I_fallen_89 : ia_cks 0 11 false prog_1_method_33_code 89 [(.iinc 9 1, 0, 0, 0, 0), (.iinc 10 1, 0, 0, 0, 0), (.goto (-36), 0, 0, 0, 0)] = true := by decide +kernel
theorem ck_I_fallen_98 : ia_cks 0 11 false prog_1_method_33_code 98 [(.iload 9, 0, 0, 0, 0)] = true := by decide +kernel
theorem dc_I_fallen_26 : decode prog_1_method_33_code 26 = .ok (.ireturn, 1) := by decide +kernel
theorem dc_I_fallen_33 : decode prog_1_method_33_code 33 = .ok (.invokevirtual 266, 3) := by decide +kernel
theorem dc_I_fallen_52 : decode prog_1_method_33_code 52 = .ok (.ireturn, 1) := by decide +kernel
theorem dc_I_fallen_45 : decode prog_1_method_33_code 45 = .ok (.invokevirtual 347, 3) := by decide +kernel
theorem dc_I_fallen_83 : decode prog_1_method_33_code 83 = .ok (.invokevirtual 419, 3) := by decide +kernel
theorem dc_I_fallen_100 : decode prog_1_method_33_code 100 = .ok (.ireturn, 1) := by decide +kernel
def l_I_fallen_59 (x1 : Int32) (x2 : Int32) (x3 : Int32) (x4 : Int32) (x5 : Int32) (x6 : Int32) (x7 : Int32) (x8 : Int32) (k98 : Int32 → ia_H → Option (Int32 × ia_H)) (n : Nat) (x9 : Int32) (x10 : Int32) (h : ia_H) : Option (Int32 × ia_H) := match n with
  | 0 => none
  | n + 1 => if x6 ≤ x10 then (k98 x9 h) else ((f_Ou_fallsBySeed 303 x8 (x5 + x10) x7 h).bind fun v3 => (if v3.1 = 0 then (l_I_fallen_59 x1 x2 x3 x4 x5 x6 x7 x8 k98 n x9 (x10 + 1) v3.2) else (l_I_fallen_59 x1 x2 x3 x4 x5 x6 x7 x8 k98 n (x9 + 1) (x10 + 1) v3.2)))
theorem tl_I_fallen_59 {w : ia_O0} {d N1 W1 : Nat} {K : ia_K} (hK : ia_isK (d + 7) mm_I_fallen N1 W1 K) {x1 : Int32} {x2 : Int32} {x3 : Int32} {x4 : Int32} {x5 : Int32} {x6 : Int32} {x7 : Int32} {x8 : Int32} {r : Int32} {h1 : ia_H} (hret : ∀ (pc : Nat) (lv : ia_L), ia_ret mm_I_fallen pc (some (.inl r)) → K pc lv ((some (.inl r)) : Option ia_V).toList h1) {k98 : Int32 → ia_H → Option (Int32 × ia_H)} (hk98 : ∀ (x9 : Int32) (h : ia_H), gd_ w h → k98 x9 h = some (r, h1) → K 98 [none, none, none, none, none, none, none, none, none, some (.inl x9), none] [] h) : ∀ (n : Nat) (x9 : Int32) (x10 : Int32) (h : ia_H), gd_ w h → l_I_fallen_59 x1 x2 x3 x4 x5 x6 x7 x8 k98 n x9 x10 h = some (r, h1) → K 59 [some (.inr (.inr 64)), none, none, none, none, some (.inl x5), some (.inl x6), some (.inl x7), some (.inl x8), some (.inl x9), some (.inl x10)] [] h := by
  intro n
  induction n with
  | zero =>
    intro x9 x10 h hg hm
    cases (show (none : Option (Int32 × ia_H)) = some _ from hm)
  | succ n ih =>
    intro x9 x10 h hg hm
    rw [l_I_fallen_59] at hm
    refine ia_go hK ck_I_fallen_59 ⟨fun c => ?_, fun c => ?_⟩
    · replace hm := ia_ifp hm c
      show K 98 [some (.inr (.inr 64)), none, none, none, none, some (.inl x5), some (.inl x6), some (.inl x7), some (.inl x8), some (.inl x9), some (.inl x10)] [] h
      refine ia_fg hK (lv' := [none, none, none, none, none, none, none, none, none, some (.inl x9), none]) ⟨rfl, trivial⟩ ?_
      exact hk98 x9 h hg hm
    · replace hm := ia_ifn hm c
      show K 66 [some (.inr (.inr 64)), none, none, none, none, some (.inl x5), some (.inl x6), some (.inl x7), some (.inl x8), some (.inl x9), some (.inl x10)] [] h
      refine ia_go hK ck_I_fallen_66 ⟨gk_0 hg pk_64, gr_0_7 hg pk_64, gk_0 hg pk_64, gr_0_4 hg pk_64, ?_⟩
      show K 83 [some (.inr (.inr 64)), none, none, none, none, some (.inl x5), some (.inl x6), some (.inl x7), some (.inl x8), some (.inl x9), some (.inl x10)] [.inl x7, .inl (x5 + x10), .inl x8, .inr (.inr 303), .inr (.inr 326)] h
      obtain ⟨v3, hv3, hm⟩ := ia_bnd hm
      have ev3 := t_Ou_fallsBySeed (d + 2) hg (ka_0_4 pk_64) hv3
      have gv3 := g_Ou_fallsBySeed hg (ka_0_4 pk_64) hv3
      refine ia_cV hK mk_Ou_fallsBySeed lk_0_419 dc_I_fallen_83 326 [.inr (.inr 303), .inl x8, .inl (x5 + x10), .inl x7] [] rfl rfl (Nat.le_of_ble_eq_true rfl) (by decide) rfl (gk_5 hg (ka_0_7 pk_64)) ev3 (gd_nm hg gv3) ?_
      show K 86 [some (.inr (.inr 64)), none, none, none, none, some (.inl x5), some (.inl x6), some (.inl x7), some (.inl x8), some (.inl x9), some (.inl x10)] [.inl v3.1] v3.2
      refine ia_go hK ck_I_fallen_86 ⟨fun c => ?_, fun c => ?_⟩
      · replace hm := ia_ifp hm c
        show K 92 [some (.inr (.inr 64)), none, none, none, none, some (.inl x5), some (.inl x6), some (.inl x7), some (.inl x8), some (.inl x9), some (.inl x10)] [] v3.2
        refine ia_go hK ck_I_fallen_92 ?_
        show K 59 [some (.inr (.inr 64)), none, none, none, none, some (.inl x5), some (.inl x6), some (.inl x7), some (.inl x8), some (.inl x9), some (.inl (x10 + 1))] [] v3.2
        exact ih x9 (x10 + 1) v3.2 gv3 hm
      · replace hm := ia_ifn hm c
        show K 89 [some (.inr (.inr 64)), none, none, none, none, some (.inl x5), some (.inl x6), some (.inl x7), some (.inl x8), some (.inl x9), some (.inl x10)] [] v3.2
        refine ia_go hK ck_I_fallen_89 ?_
        show K 59 [some (.inr (.inr 64)), none, none, none, none, some (.inl x5), some (.inl x6), some (.inl x7), some (.inl x8), some (.inl (x9 + 1)), some (.inl (x10 + 1))] [] v3.2
        exact ih (x9 + 1) (x10 + 1) v3.2 gv3 hm
theorem gl_I_fallen_59 {w : ia_O0} {x1 : Int32} {x2 : Int32} {x3 : Int32} {x4 : Int32} {x5 : Int32} {x6 : Int32} {x7 : Int32} {x8 : Int32} {r : Int32} {h1 : ia_H} {k98 : Int32 → ia_H → Option (Int32 × ia_H)} (hk98 : ∀ (x9 : Int32) (h : ia_H), gd_ w h → k98 x9 h = some (r, h1) → gd_ w h1) : ∀ (n : Nat) (x9 : Int32) (x10 : Int32) (h : ia_H), gd_ w h → l_I_fallen_59 x1 x2 x3 x4 x5 x6 x7 x8 k98 n x9 x10 h = some (r, h1) → gd_ w h1 := by
  intro n
  induction n with
  | zero =>
    intro x9 x10 h hg hm
    cases (show (none : Option (Int32 × ia_H)) = some _ from hm)
  | succ n ih =>
    intro x9 x10 h hg hm
    rw [l_I_fallen_59] at hm
    by_cases c : x6 ≤ x10
    · replace hm := ia_ifp hm c
      exact hk98 x9 h hg hm
    · replace hm := ia_ifn hm c
      obtain ⟨v3, hv3, hm⟩ := ia_bnd hm
      have gv3 := g_Ou_fallsBySeed hg (ka_0_4 pk_64) hv3
      by_cases c : v3.1 = 0
      · replace hm := ia_ifp hm c
        exact ih x9 (x10 + 1) v3.2 gv3 hm
      · replace hm := ia_ifn hm c
        exact ih (x9 + 1) (x10 + 1) v3.2 gv3 hm
def f_I_fallen (x1 : Int32) (x2 : Int32) (x3 : Int32) (x4 : Int32) (x5 : Int32) (x6 : Int32) (x7 : Int32) (x8 : Int32) (h : ia_H) : Option (Int32 × ia_H) := if x6 < 1 then (some ((-1), h)) else (if 9 < x6 then (some ((-1), h)) else (if x7 < 0 then (some ((-1), h)) else (if x7 ≤ 60 then ((f_I_stage x1 x2 x3 x4 h).bind fun v1 => (if v1.1 = 0 then (some ((-1), v1.2)) else ((f_Sc_stands 303 x8 v1.2).bind fun v2 => (if v2 = 0 then (some ((-1), v1.2)) else (l_I_fallen_59 x1 x2 x3 x4 x5 x6 x7 x8 (fun x9 h => some (x9, h)) fu_ 0 0 v1.2))))) else (some ((-1), h)))))
theorem g_I_fallen {w : ia_O0} {x1 : Int32} {x2 : Int32} {x3 : Int32} {x4 : Int32} {x5 : Int32} {x6 : Int32} {x7 : Int32} {x8 : Int32} {h : ia_H} (hg : gd_ w h) {q : (Int32 × ia_H)} (hm : f_I_fallen x1 x2 x3 x4 x5 x6 x7 x8 h = some q) : gd_ w q.2 := by
  obtain ⟨r, h1⟩ := q
  unfold f_I_fallen at hm
  by_cases c : x6 < 1
  · replace hm := ia_ifp hm c
    obtain ⟨rfl, rfl⟩ := Prod.mk.inj (Option.some.inj hm)
    exact hg
  · replace hm := ia_ifn hm c
    by_cases c : 9 < x6
    · replace hm := ia_ifp hm c
      obtain ⟨rfl, rfl⟩ := Prod.mk.inj (Option.some.inj hm)
      exact hg
    · replace hm := ia_ifn hm c
      by_cases c : x7 < 0
      · replace hm := ia_ifp hm c
        obtain ⟨rfl, rfl⟩ := Prod.mk.inj (Option.some.inj hm)
        exact hg
      · replace hm := ia_ifn hm c
        by_cases c : x7 ≤ 60
        · replace hm := ia_ifp hm c
          obtain ⟨v1, hv1, hm⟩ := ia_bnd hm
          have gv1 := g_I_stage hg hv1
          by_cases c : v1.1 = 0
          · replace hm := ia_ifp hm c
            obtain ⟨rfl, rfl⟩ := Prod.mk.inj (Option.some.inj hm)
            exact gv1
          · replace hm := ia_ifn hm c
            obtain ⟨v2, hv2, hm⟩ := ia_bnd hm
            by_cases c : v2 = 0
            · replace hm := ia_ifp hm c
              obtain ⟨rfl, rfl⟩ := Prod.mk.inj (Option.some.inj hm)
              exact gv1
            · replace hm := ia_ifn hm c
              refine gl_I_fallen_59 ?_ fu_ 0 0 v1.2 gv1 hm
              · intro x9 h hg hm
                obtain ⟨rfl, rfl⟩ := Prod.mk.inj (Option.some.inj hm)
                exact hg
        · replace hm := ia_ifn hm c
          obtain ⟨rfl, rfl⟩ := Prod.mk.inj (Option.some.inj hm)
          exact hg
theorem t_I_fallen {w : ia_O0} (d : Nat) {x1 : Int32} {x2 : Int32} {x3 : Int32} {x4 : Int32} {x5 : Int32} {x6 : Int32} {x7 : Int32} {x8 : Int32} {h : ia_H} (hg : gd_ w h) {q : (Int32 × ia_H)} (hm : f_I_fallen x1 x2 x3 x4 x5 x6 x7 x8 h = some q) : ia_Ev (d + 7) mm_I_fallen [.inr (.inr 64), .inl x1, .inl x2, .inl x3, .inl x4, .inl x5, .inl x6, .inl x7, .inl x8] h (some (.inl q.1)) q.2 := by
  have gq := g_I_fallen hg hm
  refine ia_Ev_intro ok_I_fallen (gd_le hg gq).1 (gd_le hg gq).2 (Nat.le_of_ble_eq_true rfl) (fun K hK hret => ?_)
  obtain ⟨r, h1⟩ := q
  show K 0 [some (.inr (.inr 64)), some (.inl x1), some (.inl x2), some (.inl x3), some (.inl x4), some (.inl x5), some (.inl x6), some (.inl x7), some (.inl x8), none, none] [] h
  unfold f_I_fallen at hm
  refine ia_go hK ck_I_fallen_0 ⟨fun c => ?_, fun c => ?_⟩
  · replace hm := ia_ifp hm c
    show K 25 [some (.inr (.inr 64)), some (.inl x1), some (.inl x2), some (.inl x3), some (.inl x4), some (.inl x5), some (.inl x6), some (.inl x7), some (.inl x8), none, none] [] h
    refine ia_go hK ck_I_fallen_25 ?_
    show K 26 [some (.inr (.inr 64)), some (.inl x1), some (.inl x2), some (.inl x3), some (.inl x4), some (.inl x5), some (.inl x6), some (.inl x7), some (.inl x8), none, none] [.inl (-1)] h
    obtain ⟨rfl, rfl⟩ := Prod.mk.inj (Option.some.inj hm)
    exact hret 26 _ dc_I_fallen_26
  · replace hm := ia_ifn hm c
    show K 6 [some (.inr (.inr 64)), some (.inl x1), some (.inl x2), some (.inl x3), some (.inl x4), some (.inl x5), some (.inl x6), some (.inl x7), some (.inl x8), none, none] [] h
    refine ia_go hK ck_I_fallen_6 ⟨fun c => ?_, fun c => ?_⟩
    · replace hm := ia_ifp hm c
      show K 25 [some (.inr (.inr 64)), some (.inl x1), some (.inl x2), some (.inl x3), some (.inl x4), some (.inl x5), some (.inl x6), some (.inl x7), some (.inl x8), none, none] [] h
      refine ia_go hK ck_I_fallen_25 ?_
      show K 26 [some (.inr (.inr 64)), some (.inl x1), some (.inl x2), some (.inl x3), some (.inl x4), some (.inl x5), some (.inl x6), some (.inl x7), some (.inl x8), none, none] [.inl (-1)] h
      obtain ⟨rfl, rfl⟩ := Prod.mk.inj (Option.some.inj hm)
      exact hret 26 _ dc_I_fallen_26
    · replace hm := ia_ifn hm c
      show K 13 [some (.inr (.inr 64)), some (.inl x1), some (.inl x2), some (.inl x3), some (.inl x4), some (.inl x5), some (.inl x6), some (.inl x7), some (.inl x8), none, none] [] h
      refine ia_go hK ck_I_fallen_13 ⟨fun c => ?_, fun c => ?_⟩
      · replace hm := ia_ifp hm c
        show K 25 [some (.inr (.inr 64)), some (.inl x1), some (.inl x2), some (.inl x3), some (.inl x4), some (.inl x5), some (.inl x6), some (.inl x7), some (.inl x8), none, none] [] h
        refine ia_go hK ck_I_fallen_25 ?_
        show K 26 [some (.inr (.inr 64)), some (.inl x1), some (.inl x2), some (.inl x3), some (.inl x4), some (.inl x5), some (.inl x6), some (.inl x7), some (.inl x8), none, none] [.inl (-1)] h
        obtain ⟨rfl, rfl⟩ := Prod.mk.inj (Option.some.inj hm)
        exact hret 26 _ dc_I_fallen_26
      · replace hm := ia_ifn hm c
        show K 18 [some (.inr (.inr 64)), some (.inl x1), some (.inl x2), some (.inl x3), some (.inl x4), some (.inl x5), some (.inl x6), some (.inl x7), some (.inl x8), none, none] [] h
        refine ia_go hK ck_I_fallen_18 ⟨fun c => ?_, fun c => ?_⟩
        · replace hm := ia_ifp hm c
          show K 27 [some (.inr (.inr 64)), some (.inl x1), some (.inl x2), some (.inl x3), some (.inl x4), some (.inl x5), some (.inl x6), some (.inl x7), some (.inl x8), none, none] [] h
          refine ia_go hK ck_I_fallen_27 ?_
          show K 33 [some (.inr (.inr 64)), some (.inl x1), some (.inl x2), some (.inl x3), some (.inl x4), some (.inl x5), some (.inl x6), some (.inl x7), some (.inl x8), none, none] [.inl x4, .inl x3, .inl x2, .inl x1, .inr (.inr 64)] h
          obtain ⟨v1, hv1, hm⟩ := ia_bnd hm
          have ev1 := t_I_stage (d + 0) hg hv1
          have gv1 := g_I_stage hg hv1
          refine ia_cV hK mk_I_stage lk_0_266 dc_I_fallen_33 64 [.inl x1, .inl x2, .inl x3, .inl x4] [] rfl rfl (Nat.le_of_ble_eq_true rfl) (by decide) rfl (gk_0 hg pk_64) ev1 (gd_nm hg gv1) ?_
          show K 36 [some (.inr (.inr 64)), some (.inl x1), some (.inl x2), some (.inl x3), some (.inl x4), some (.inl x5), some (.inl x6), some (.inl x7), some (.inl x8), none, none] [.inl v1.1] v1.2
          refine ia_go hK ck_I_fallen_36 ⟨fun c => ?_, fun c => ?_⟩
          · replace hm := ia_ifp hm c
            show K 51 [some (.inr (.inr 64)), some (.inl x1), some (.inl x2), some (.inl x3), some (.inl x4), some (.inl x5), some (.inl x6), some (.inl x7), some (.inl x8), none, none] [] v1.2
            refine ia_go hK ck_I_fallen_51 ?_
            show K 52 [some (.inr (.inr 64)), some (.inl x1), some (.inl x2), some (.inl x3), some (.inl x4), some (.inl x5), some (.inl x6), some (.inl x7), some (.inl x8), none, none] [.inl (-1)] v1.2
            obtain ⟨rfl, rfl⟩ := Prod.mk.inj (Option.some.inj hm)
            exact hret 52 _ dc_I_fallen_52
          · replace hm := ia_ifn hm c
            show K 39 [some (.inr (.inr 64)), some (.inl x1), some (.inl x2), some (.inl x3), some (.inl x4), some (.inl x5), some (.inl x6), some (.inl x7), some (.inl x8), none, none] [] v1.2
            refine ia_go hK ck_I_fallen_39 ⟨gk_0 gv1 pk_64, gr_0_4 gv1 pk_64, ?_⟩
            show K 45 [some (.inr (.inr 64)), some (.inl x1), some (.inl x2), some (.inl x3), some (.inl x4), some (.inl x5), some (.inl x6), some (.inl x7), some (.inl x8), none, none] [.inl x8, .inr (.inr 303)] v1.2
            obtain ⟨v2, hv2, hm⟩ := ia_bnd hm
            have ev2 := t_Sc_stands (d + 6) gv1 (ka_0_4 pk_64) hv2
            refine ia_cV hK mk_Sc_stands lk_0_347 dc_I_fallen_45 303 [.inl x8] [] rfl rfl (Nat.le_of_ble_eq_true rfl) (by decide) rfl (gk_9 gv1 (ka_0_4 pk_64)) ev2 ⟨rfl, rfl⟩ ?_
            show K 48 [some (.inr (.inr 64)), some (.inl x1), some (.inl x2), some (.inl x3), some (.inl x4), some (.inl x5), some (.inl x6), some (.inl x7), some (.inl x8), none, none] [.inl v2] v1.2
            refine ia_go hK ck_I_fallen_48 ⟨fun c => ?_, fun c => ?_⟩
            · replace hm := ia_ifn hm c
              show K 53 [some (.inr (.inr 64)), some (.inl x1), some (.inl x2), some (.inl x3), some (.inl x4), some (.inl x5), some (.inl x6), some (.inl x7), some (.inl x8), none, none] [] v1.2
              refine ia_go hK ck_I_fallen_53 ?_
              show K 59 [some (.inr (.inr 64)), some (.inl x1), some (.inl x2), some (.inl x3), some (.inl x4), some (.inl x5), some (.inl x6), some (.inl x7), some (.inl x8), some (.inl 0), some (.inl 0)] [] v1.2
              refine ia_fg hK (lv' := [some (.inr (.inr 64)), none, none, none, none, some (.inl x5), some (.inl x6), some (.inl x7), some (.inl x8), some (.inl 0), some (.inl 0)]) ⟨rfl, rfl, rfl, rfl, rfl, rfl, rfl, trivial⟩ ?_
              refine tl_I_fallen_59 hK hret ?_ fu_ 0 0 v1.2 gv1 hm
              · intro x9 h hg hm
                refine ia_go hK ck_I_fallen_98 ?_
                show K 100 [none, none, none, none, none, none, none, none, none, some (.inl x9), none] [.inl x9] h
                obtain ⟨rfl, rfl⟩ := Prod.mk.inj (Option.some.inj hm)
                exact hret 100 _ dc_I_fallen_100
            · replace hm := ia_ifp hm c
              show K 51 [some (.inr (.inr 64)), some (.inl x1), some (.inl x2), some (.inl x3), some (.inl x4), some (.inl x5), some (.inl x6), some (.inl x7), some (.inl x8), none, none] [] v1.2
              refine ia_go hK ck_I_fallen_51 ?_
              show K 52 [some (.inr (.inr 64)), some (.inl x1), some (.inl x2), some (.inl x3), some (.inl x4), some (.inl x5), some (.inl x6), some (.inl x7), some (.inl x8), none, none] [.inl (-1)] v1.2
              obtain ⟨rfl, rfl⟩ := Prod.mk.inj (Option.some.inj hm)
              exact hret 52 _ dc_I_fallen_52
        · replace hm := ia_ifn hm c
          show K 25 [some (.inr (.inr 64)), some (.inl x1), some (.inl x2), some (.inl x3), some (.inl x4), some (.inl x5), some (.inl x6), some (.inl x7), some (.inl x8), none, none] [] h
          refine ia_go hK ck_I_fallen_25 ?_
          show K 26 [some (.inr (.inr 64)), some (.inl x1), some (.inl x2), some (.inl x3), some (.inl x4), some (.inl x5), some (.inl x6), some (.inl x7), some (.inl x8), none, none] [.inl (-1)] h
          obtain ⟨rfl, rfl⟩ := Prod.mk.inj (Option.some.inj hm)
          exact hret 26 _ dc_I_fallen_26
def mm_Ou_bestSwept : ia_M := (⟨"IceStreet$Outlook", "bestSwept", "(LIceStreet$Scene;I)I"⟩, prog_6_method_15_code, 10, (some .int), 5, false)
theorem ok_Ou_bestSwept : ia_mok mm_Ou_bestSwept := ⟨by decide +kernel, by decide +kernel, by decide +kernel, by decide +kernel⟩
theorem mk_Ou_bestSwept : ia_mkn mm_Ou_bestSwept 1 2 := ⟨ia_tb_in (List.mem_of_getElem? (i := 1523) (by decide +kernel)) rfl, ia_tb_in (List.mem_of_getElem? (i := 143) (by decide +kernel)) rfl, by decide +kernel, by decide +kernel, ⟨ia_tb_in (List.mem_of_getElem? (i := 1521) (by decide +kernel)) rfl, ia_tb_in (List.mem_of_getElem? (i := 1522) (by decide +kernel)) rfl⟩⟩
theorem ck_Ou_bestSwept_0 : ia_cks 5 10 false prog_6_method_15_code 0 [(.aload_n 0, 0, 0, 0, 0), (.aload_n 1, 0, 0, 0, 0), (.iload_n 2, 0, 0, 0, 0)] = true := by decide +kernel
theorem ck_Ou_bestSwept_6 : ia_cks 5 10 false prog_6_method_15_code 6 [(.istore_n 3, 0, 0, 0, 0), (.aload_n 1, 0, 0, 0, 0)] = true := by decide +kernel
theorem ck_Ou_bestSwept_11 : ia_cks 5 10 false prog_6_method_15_code 11 [(.lstore 4, 0, 0, 0, 0), (.iconst (-1), 0, 0, 0, 0), (.istore 6, 0, 0, 0, 0), (.iconst (-1), 0, 0, 0, 0), (.istore 7, 0, 0, 0, 0), (.iconst 0, 0, 0, 0, 0), (.istore 8, 0, 0, 0, 0)] = true := by decide +kernel
theorem ck_Ou_bestSwept_22 : ia_cks 5 10 false prog_6_method_15_code 22 [(.iload 8, 0, 0, 0, 0), (.aload_n 1, 0, 0, 0, 0), (.getfield 69, 9, 0, 2, 0)] = true := by decide +kernel
theorem ck_Ou_bestSwept_31 : ia_cks 5 10 false prog_6_method_15_code 31 [(.if_icmp .ge 77, 0, 0, 0, 0)] = true := by decide +kernel
theorem ck_Ou_bestSwept_34 : ia_cks 5 10 false prog_6_method_15_code 34 [(.iload_n 3, 0, 0, 0, 0), (.istore 9, 0, 0, 0, 0), (.aload_n 1, 0, 0, 0, 0), (.getfield 158, 9, 3, 3, 2), (.iload 8, 0, 0, 0, 0), (.iaload, 0, 0, 0, 0), (.ifCond .le 43, 0, 0, 0, 0)] = true := by decide +kernel
theorem ck_Ou_bestSwept_87 : ia_cks 5 10 false prog_6_method_15_code 87 [(.iload 9, 0, 0, 0, 0), (.iload 7, 0, 0, 0, 0), (.if_icmp .le 11, 0, 0, 0, 0)] = true := by decide +kernel
theorem ck_Ou_bestSwept_102 : ia_cks 5 10 false prog_6_method_15_code 102 [(.iinc 8 1, 0, 0, 0, 0), (.goto (-83), 0, 0, 0, 0)] = true := by decide +kernel
theorem ck_Ou_bestSwept_94 : ia_cks 5 10 false prog_6_method_15_code 94 [(.iload 9, 0, 0, 0, 0), (.istore 7, 0, 0, 0, 0), (.iload 8, 0, 0, 0, 0), (.istore 6, 0, 0, 0, 0), (.iinc 8 1, 0, 0, 0, 0), (.goto (-83), 0, 0, 0, 0)] = true := by decide +kernel
theorem ck_Ou_bestSwept_47 : ia_cks 5 10 false prog_6_method_15_code 47 [(.lload 4, 0, 0, 0, 0), (.iload 8, 0, 0, 0, 0)] = true := by decide +kernel
theorem ck_Ou_bestSwept_54 : ia_cks 5 10 false prog_6_method_15_code 54 [(.ifCond .eq 33, 0, 0, 0, 0)] = true := by decide +kernel
theorem ck_Ou_bestSwept_57 : ia_cks 5 10 false prog_6_method_15_code 57 [(.aload_n 0, 0, 0, 0, 0), (.getfield 31, 5, 2, 3, 11), (.aload_n 1, 0, 0, 0, 0)] = true := by decide +kernel
theorem ck_Ou_bestSwept_65 : ia_cks 5 10 false prog_6_method_15_code 65 [(.aload_n 0, 0, 0, 0, 0), (.getfield 31, 5, 2, 3, 11), (.getfield 158, 9, 3, 3, 2), (.iload 8, 0, 0, 0, 0), (.iconst 0, 0, 0, 0, 0), (.iastore, 0, 0, 0, 0), (.aload_n 0, 0, 0, 0, 0), (.aload_n 0, 0, 0, 0, 0), (.getfield 31, 5, 2, 3, 11), (.iload_n 2, 0, 0, 0, 0)] = true := by decide +kernel
theorem ck_Ou_bestSwept_85 : ia_cks 5 10 false prog_6_method_15_code 85 [(.istore 9, 0, 0, 0, 0)] = true := by decide +kernel
theorem ck_Ou_bestSwept_108 : ia_cks 5 10 false prog_6_method_15_code 108 [(.iload 6, 0, 0, 0, 0)] = true := by decide +kernel
theorem dc_Ou_bestSwept_3 : decode prog_6_method_15_code 3 = .ok (.invokevirtual 86, 3) := by decide +kernel
theorem dc_Ou_bestSwept_8 : decode prog_6_method_15_code 8 = .ok (.invokevirtual 125, 3) := by decide +kernel
theorem dc_Ou_bestSwept_28 : decode prog_6_method_15_code 28 = .ok (.invokevirtual 73, 3) := by decide +kernel
theorem dc_Ou_bestSwept_51 : decode prog_6_method_15_code 51 = .ok (.invokestatic 78, 3) := by decide +kernel
theorem dc_Ou_bestSwept_62 : decode prog_6_method_15_code 62 = .ok (.invokevirtual 34, 3) := by decide +kernel
theorem dc_Ou_bestSwept_82 : decode prog_6_method_15_code 82 = .ok (.invokevirtual 86, 3) := by decide +kernel
theorem dc_Ou_bestSwept_110 : decode prog_6_method_15_code 110 = .ok (.ireturn, 1) := by decide +kernel
def j_Ou_bestSwept_87 (a1 : Nat) (x2 : Int32) (kr : Int32 → Int64 → Int32 → Int32 → Int32 → ia_H → Option (Int32 × ia_H)) (k108 : Int32 → ia_H → Option (Int32 × ia_H)) (x3 : Int32) (y4 : Int64) (x6 : Int32) (x7 : Int32) (x8 : Int32) (x9 : Int32) (h : ia_H) : Option (Int32 × ia_H) := if x9 ≤ x7 then (kr x3 y4 x6 x7 (x8 + 1) h) else (kr x3 y4 x8 x9 (x8 + 1) h)
theorem tj_Ou_bestSwept_87 {w : ia_O0} {d N1 W1 : Nat} {K : ia_K} (hK : ia_isK (d + 5) mm_Ou_bestSwept N1 W1 K) {a1 : Nat} {x2 : Int32} (p1 : (kd_D a1).1 = 9) {r : Int32} {h1 : ia_H} (hret : ∀ (pc : Nat) (lv : ia_L), ia_ret mm_Ou_bestSwept pc (some (.inl r)) → K pc lv ((some (.inl r)) : Option ia_V).toList h1) {kr : Int32 → Int64 → Int32 → Int32 → Int32 → ia_H → Option (Int32 × ia_H)} {k108 : Int32 → ia_H → Option (Int32 × ia_H)} (hkr : ∀ (x3 : Int32) (y4 : Int64) (x6 : Int32) (x7 : Int32) (x8 : Int32) (h : ia_H), gd_ w h → kr x3 y4 x6 x7 x8 h = some (r, h1) → K 22 [some (.inr (.inr 326)), some (.inr (.inr a1)), some (.inl x2), some (.inl x3), some (.inr (.inl y4)), none, some (.inl x6), some (.inl x7), some (.inl x8), none] [] h) (hk108 : ∀ (x6 : Int32) (h : ia_H), gd_ w h → k108 x6 h = some (r, h1) → K 108 [none, none, none, none, none, none, some (.inl x6), none, none, none] [] h) : ∀ (x3 : Int32) (y4 : Int64) (x6 : Int32) (x7 : Int32) (x8 : Int32) (x9 : Int32) (h : ia_H), gd_ w h → j_Ou_bestSwept_87 a1 x2 kr k108 x3 y4 x6 x7 x8 x9 h = some (r, h1) → K 87 [some (.inr (.inr 326)), some (.inr (.inr a1)), some (.inl x2), some (.inl x3), some (.inr (.inl y4)), none, some (.inl x6), some (.inl x7), some (.inl x8), some (.inl x9)] [] h := by
  intro x3 y4 x6 x7 x8 x9 h hg hm
  unfold j_Ou_bestSwept_87 at hm
  refine ia_go hK ck_Ou_bestSwept_87 ⟨fun c => ?_, fun c => ?_⟩
  · replace hm := ia_ifp hm c
    show K 102 [some (.inr (.inr 326)), some (.inr (.inr a1)), some (.inl x2), some (.inl x3), some (.inr (.inl y4)), none, some (.inl x6), some (.inl x7), some (.inl x8), some (.inl x9)] [] h
    refine ia_go hK ck_Ou_bestSwept_102 ?_
    show K 22 [some (.inr (.inr 326)), some (.inr (.inr a1)), some (.inl x2), some (.inl x3), some (.inr (.inl y4)), none, some (.inl x6), some (.inl x7), some (.inl (x8 + 1)), some (.inl x9)] [] h
    refine ia_fg hK (lv' := [some (.inr (.inr 326)), some (.inr (.inr a1)), some (.inl x2), some (.inl x3), some (.inr (.inl y4)), none, some (.inl x6), some (.inl x7), some (.inl (x8 + 1)), none]) ⟨rfl, rfl, rfl, rfl, rfl, rfl, rfl, rfl, trivial⟩ ?_
    exact hkr x3 y4 x6 x7 (x8 + 1) h hg hm
  · replace hm := ia_ifn hm c
    show K 94 [some (.inr (.inr 326)), some (.inr (.inr a1)), some (.inl x2), some (.inl x3), some (.inr (.inl y4)), none, some (.inl x6), some (.inl x7), some (.inl x8), some (.inl x9)] [] h
    refine ia_go hK ck_Ou_bestSwept_94 ?_
    show K 22 [some (.inr (.inr 326)), some (.inr (.inr a1)), some (.inl x2), some (.inl x3), some (.inr (.inl y4)), none, some (.inl x8), some (.inl x9), some (.inl (x8 + 1)), some (.inl x9)] [] h
    refine ia_fg hK (lv' := [some (.inr (.inr 326)), some (.inr (.inr a1)), some (.inl x2), some (.inl x3), some (.inr (.inl y4)), none, some (.inl x8), some (.inl x9), some (.inl (x8 + 1)), none]) ⟨rfl, rfl, rfl, rfl, rfl, rfl, rfl, rfl, trivial⟩ ?_
    exact hkr x3 y4 x8 x9 (x8 + 1) h hg hm
theorem gj_Ou_bestSwept_87 {w : ia_O0} {a1 : Nat} {x2 : Int32} (p1 : (kd_D a1).1 = 9) {r : Int32} {h1 : ia_H} {kr : Int32 → Int64 → Int32 → Int32 → Int32 → ia_H → Option (Int32 × ia_H)} {k108 : Int32 → ia_H → Option (Int32 × ia_H)} (hkr : ∀ (x3 : Int32) (y4 : Int64) (x6 : Int32) (x7 : Int32) (x8 : Int32) (h : ia_H), gd_ w h → kr x3 y4 x6 x7 x8 h = some (r, h1) → gd_ w h1) (hk108 : ∀ (x6 : Int32) (h : ia_H), gd_ w h → k108 x6 h = some (r, h1) → gd_ w h1) : ∀ (x3 : Int32) (y4 : Int64) (x6 : Int32) (x7 : Int32) (x8 : Int32) (x9 : Int32) (h : ia_H), gd_ w h → j_Ou_bestSwept_87 a1 x2 kr k108 x3 y4 x6 x7 x8 x9 h = some (r, h1) → gd_ w h1 := by
  intro x3 y4 x6 x7 x8 x9 h hg hm
  unfold j_Ou_bestSwept_87 at hm
  by_cases c : x9 ≤ x7
  · replace hm := ia_ifp hm c
    exact hkr x3 y4 x6 x7 (x8 + 1) h hg hm
  · replace hm := ia_ifn hm c
    exact hkr x3 y4 x8 x9 (x8 + 1) h hg hm
def l_Ou_bestSwept_22 (a1 : Nat) (x2 : Int32) (k108 : Int32 → ia_H → Option (Int32 × ia_H)) (n : Nat) (x3 : Int32) (y4 : Int64) (x6 : Int32) (x7 : Int32) (x8 : Int32) (h : ia_H) : Option (Int32 × ia_H) := match n with
  | 0 => none
  | n + 1 => (f_La_cells (ia_r h a1 0) h).bind fun v3 => (if v3 ≤ x8 then (k108 x6 h) else (ia_gd (ia_ib x8 36) (if (ia_i h (a1 + 2) ((x8).toNatClampNeg)) ≤ 0 then (j_Ou_bestSwept_87 a1 x2 (l_Ou_bestSwept_22 a1 x2 k108 n) k108 x3 y4 x6 x7 x8 x3 h) else ((f_I_hasBit y4 x8 h).bind fun v5 => (if v5 = 0 then (j_Ou_bestSwept_87 a1 x2 (l_Ou_bestSwept_22 a1 x2 k108 n) k108 x3 y4 x6 x7 x8 x3 h) else ((f_Sc_become 337 a1 h).bind fun v6 => (ia_gd (ia_ib x8 36) ((f_Ou_daysHeld 337 x2 (ia_wI v6 339 ((x8).toNatClampNeg) 0)).bind fun v8 => (j_Ou_bestSwept_87 a1 x2 (l_Ou_bestSwept_22 a1 x2 k108 n) k108 x3 y4 x6 x7 x8 v8.1 v8.2)))))))))
theorem tl_Ou_bestSwept_22 {w : ia_O0} {d N1 W1 : Nat} {K : ia_K} (hK : ia_isK (d + 5) mm_Ou_bestSwept N1 W1 K) {a1 : Nat} {x2 : Int32} (p1 : (kd_D a1).1 = 9) {r : Int32} {h1 : ia_H} (hret : ∀ (pc : Nat) (lv : ia_L), ia_ret mm_Ou_bestSwept pc (some (.inl r)) → K pc lv ((some (.inl r)) : Option ia_V).toList h1) {k108 : Int32 → ia_H → Option (Int32 × ia_H)} (hk108 : ∀ (x6 : Int32) (h : ia_H), gd_ w h → k108 x6 h = some (r, h1) → K 108 [none, none, none, none, none, none, some (.inl x6), none, none, none] [] h) : ∀ (n : Nat) (x3 : Int32) (y4 : Int64) (x6 : Int32) (x7 : Int32) (x8 : Int32) (h : ia_H), gd_ w h → l_Ou_bestSwept_22 a1 x2 k108 n x3 y4 x6 x7 x8 h = some (r, h1) → K 22 [some (.inr (.inr 326)), some (.inr (.inr a1)), some (.inl x2), some (.inl x3), some (.inr (.inl y4)), none, some (.inl x6), some (.inl x7), some (.inl x8), none] [] h := by
  intro n
  induction n with
  | zero =>
    intro x3 y4 x6 x7 x8 h hg hm
    cases (show (none : Option (Int32 × ia_H)) = some _ from hm)
  | succ n ih =>
    intro x3 y4 x6 x7 x8 h hg hm
    rw [l_Ou_bestSwept_22] at hm
    refine ia_go hK ck_Ou_bestSwept_22 ⟨gk_9 hg p1, ?_⟩
    show K 28 [some (.inr (.inr 326)), some (.inr (.inr a1)), some (.inl x2), some (.inl x3), some (.inr (.inl y4)), none, some (.inl x6), some (.inl x7), some (.inl x8), none] [.inr (.inr (ia_r h a1 0)), .inl x8] h
    obtain ⟨v3, hv3, hm⟩ := ia_bnd hm
    have ev3 := t_La_cells (d + 4) hg (gm_9_0 hg p1) hv3
    refine ia_cV hK mk_La_cells lk_5_73 dc_Ou_bestSwept_28 (ia_r h a1 0) [] [.inl x8] rfl rfl (Nat.le_of_ble_eq_true rfl) (by decide) rfl (gk_3 hg (gm_9_0 hg p1)) ev3 ⟨rfl, rfl⟩ ?_
    show K 31 [some (.inr (.inr 326)), some (.inr (.inr a1)), some (.inl x2), some (.inl x3), some (.inr (.inl y4)), none, some (.inl x6), some (.inl x7), some (.inl x8), none] [.inl v3, .inl x8] h
    refine ia_go hK ck_Ou_bestSwept_31 ⟨fun c => ?_, fun c => ?_⟩
    · replace hm := ia_ifp hm c
      show K 108 [some (.inr (.inr 326)), some (.inr (.inr a1)), some (.inl x2), some (.inl x3), some (.inr (.inl y4)), none, some (.inl x6), some (.inl x7), some (.inl x8), none] [] h
      refine ia_fg hK (lv' := [none, none, none, none, none, none, some (.inl x6), none, none, none]) ⟨rfl, trivial⟩ ?_
      exact hk108 x6 h hg hm
    · replace hm := ia_ifn hm c
      show K 34 [some (.inr (.inr 326)), some (.inr (.inr a1)), some (.inl x2), some (.inl x3), some (.inr (.inl y4)), none, some (.inl x6), some (.inl x7), some (.inl x8), none] [] h
      obtain ⟨c4, hm⟩ := ia_gd_some hm
      refine ia_go hK ck_Ou_bestSwept_34 ⟨gk_9 hg p1, gr_9_3 hg p1, ga_i100 hg (ka_9_3 p1) c4, fun c => ?_, fun c => ?_⟩
      · replace hm := ia_ifp hm c
        show K 87 [some (.inr (.inr 326)), some (.inr (.inr a1)), some (.inl x2), some (.inl x3), some (.inr (.inl y4)), none, some (.inl x6), some (.inl x7), some (.inl x8), some (.inl x3)] [] h
        exact tj_Ou_bestSwept_87 hK p1 hret ih hk108 x3 y4 x6 x7 x8 x3 h hg hm
      · replace hm := ia_ifn hm c
        show K 47 [some (.inr (.inr 326)), some (.inr (.inr a1)), some (.inl x2), some (.inl x3), some (.inr (.inl y4)), none, some (.inl x6), some (.inl x7), some (.inl x8), some (.inl x3)] [] h
        refine ia_go hK ck_Ou_bestSwept_47 ?_
        show K 51 [some (.inr (.inr 326)), some (.inr (.inr a1)), some (.inl x2), some (.inl x3), some (.inr (.inl y4)), none, some (.inl x6), some (.inl x7), some (.inl x8), some (.inl x3)] [.inl x8, .inr (.inl y4)] h
        obtain ⟨v5, hv5, hm⟩ := ia_bnd hm
        have ev5 := t_I_hasBit (d + 4) hg hv5
        refine ia_cS hK mk_I_hasBit lk_5_78 dc_Ou_bestSwept_51 [.inr (.inl y4), .inl x8] [] rfl rfl (Nat.le_of_ble_eq_true rfl) ev5 ⟨rfl, rfl⟩ ?_
        show K 54 [some (.inr (.inr 326)), some (.inr (.inr a1)), some (.inl x2), some (.inl x3), some (.inr (.inl y4)), none, some (.inl x6), some (.inl x7), some (.inl x8), some (.inl x3)] [.inl v5] h
        refine ia_go hK ck_Ou_bestSwept_54 ⟨fun c => ?_, fun c => ?_⟩
        · replace hm := ia_ifp hm c
          show K 87 [some (.inr (.inr 326)), some (.inr (.inr a1)), some (.inl x2), some (.inl x3), some (.inr (.inl y4)), none, some (.inl x6), some (.inl x7), some (.inl x8), some (.inl x3)] [] h
          exact tj_Ou_bestSwept_87 hK p1 hret ih hk108 x3 y4 x6 x7 x8 x3 h hg hm
        · replace hm := ia_ifn hm c
          show K 57 [some (.inr (.inr 326)), some (.inr (.inr a1)), some (.inl x2), some (.inl x3), some (.inr (.inl y4)), none, some (.inl x6), some (.inl x7), some (.inl x8), some (.inl x3)] [] h
          refine ia_go hK ck_Ou_bestSwept_57 ⟨gk_5 hg pk_326, gr_5_2 hg pk_326, ?_⟩
          show K 62 [some (.inr (.inr 326)), some (.inr (.inr a1)), some (.inl x2), some (.inl x3), some (.inr (.inl y4)), none, some (.inl x6), some (.inl x7), some (.inl x8), some (.inl x3)] [.inr (.inr a1), .inr (.inr 337)] h
          obtain ⟨v6, hv6, hm⟩ := ia_bnd hm
          have ev6 := t_Sc_become (d + 4) hg (ka_5_2 pk_326) p1 hv6
          have gv6 := g_Sc_become hg (ka_5_2 pk_326) p1 hv6
          refine ia_cV hK mk_Sc_become lk_5_34 dc_Ou_bestSwept_62 337 [.inr (.inr a1)] [] rfl rfl (Nat.le_of_ble_eq_true rfl) (by decide) rfl (gk_9 hg (ka_5_2 pk_326)) ev6 (gd_nm hg gv6) ?_
          show K 65 [some (.inr (.inr 326)), some (.inr (.inr a1)), some (.inl x2), some (.inl x3), some (.inr (.inl y4)), none, some (.inl x6), some (.inl x7), some (.inl x8), some (.inl x3)] [] v6
          obtain ⟨c7, hm⟩ := ia_gd_some hm
          refine ia_go hK ck_Ou_bestSwept_65 ⟨gk_5 gv6 pk_326, gr_5_2 gv6 pk_326, gk_9 gv6 (ka_5_2 pk_326), gr_9_3 gv6 (ka_5_2 pk_326), ga_s100 gv6 (ka_9_3 (ka_5_2 pk_326)) c7, gk_5 (gd_wI gv6 (kx_100 (ka_9_3 (ka_5_2 pk_326)))) pk_326, gr_5_2 (gd_wI gv6 (kx_100 (ka_9_3 (ka_5_2 pk_326)))) pk_326, ?_⟩
          show K 82 [some (.inr (.inr 326)), some (.inr (.inr a1)), some (.inl x2), some (.inl x3), some (.inr (.inl y4)), none, some (.inl x6), some (.inl x7), some (.inl x8), some (.inl x3)] [.inl x2, .inr (.inr 337), .inr (.inr 326)] (ia_wI v6 339 ((x8).toNatClampNeg) 0)
          obtain ⟨v8, hv8, hm⟩ := ia_bnd hm
          have ev8 := t_Ou_daysHeld (d + 0) (gd_wI gv6 (kx_100 (ka_9_3 (ka_5_2 pk_326)))) (ka_5_2 pk_326) hv8
          have gv8 := g_Ou_daysHeld (gd_wI gv6 (kx_100 (ka_9_3 (ka_5_2 pk_326)))) (ka_5_2 pk_326) hv8
          refine ia_cV hK mk_Ou_daysHeld lk_5_86 dc_Ou_bestSwept_82 326 [.inr (.inr 337), .inl x2] [] rfl rfl (Nat.le_of_ble_eq_true rfl) (by decide) rfl (gk_5 (gd_wI gv6 (kx_100 (ka_9_3 (ka_5_2 pk_326)))) pk_326) ev8 (gd_nm (gd_wI gv6 (kx_100 (ka_9_3 (ka_5_2 pk_326)))) gv8) ?_
          show K 85 [some (.inr (.inr 326)), some (.inr (.inr a1)), some (.inl x2), some (.inl x3), some (.inr (.inl y4)), none, some (.inl x6), some (.inl x7), some (.inl x8), some (.inl x3)] [.inl v8.1] v8.2
          refine ia_go hK ck_Ou_bestSwept_85 ?_
          show K 87 [some (.inr (.inr 326)), some (.inr (.inr a1)), some (.inl x2), some (.inl x3), some (.inr (.inl y4)), none, some (.inl x6), some (.inl x7), some (.inl x8), some (.inl v8.1)] [] v8.2
          exact tj_Ou_bestSwept_87 hK p1 hret ih hk108 x3 y4 x6 x7 x8 v8.1 v8.2 gv8 hm
theorem gl_Ou_bestSwept_22 {w : ia_O0} {a1 : Nat} {x2 : Int32} (p1 : (kd_D a1).1 = 9) {r : Int32} {h1 : ia_H} {k108 : Int32 → ia_H → Option (Int32 × ia_H)} (hk108 : ∀ (x6 : Int32) (h : ia_H), gd_ w h → k108 x6 h = some (r, h1) → gd_ w h1) : ∀ (n : Nat) (x3 : Int32) (y4 : Int64) (x6 : Int32) (x7 : Int32) (x8 : Int32) (h : ia_H), gd_ w h → l_Ou_bestSwept_22 a1 x2 k108 n x3 y4 x6 x7 x8 h = some (r, h1) → gd_ w h1 := by
  intro n
  induction n with
  | zero =>
    intro x3 y4 x6 x7 x8 h hg hm
    cases (show (none : Option (Int32 × ia_H)) = some _ from hm)
  | succ n ih =>
    intro x3 y4 x6 x7 x8 h hg hm
    rw [l_Ou_bestSwept_22] at hm
    obtain ⟨v3, hv3, hm⟩ := ia_bnd hm
    by_cases c : v3 ≤ x8
    · replace hm := ia_ifp hm c
      exact hk108 x6 h hg hm
    · replace hm := ia_ifn hm c
      obtain ⟨c4, hm⟩ := ia_gd_some hm
      by_cases c : (ia_i h (a1 + 2) ((x8).toNatClampNeg)) ≤ 0
      · replace hm := ia_ifp hm c
        exact gj_Ou_bestSwept_87 p1 ih hk108 x3 y4 x6 x7 x8 x3 h hg hm
      · replace hm := ia_ifn hm c
        obtain ⟨v5, hv5, hm⟩ := ia_bnd hm
        by_cases c : v5 = 0
        · replace hm := ia_ifp hm c
          exact gj_Ou_bestSwept_87 p1 ih hk108 x3 y4 x6 x7 x8 x3 h hg hm
        · replace hm := ia_ifn hm c
          obtain ⟨v6, hv6, hm⟩ := ia_bnd hm
          have gv6 := g_Sc_become hg (ka_5_2 pk_326) p1 hv6
          obtain ⟨c7, hm⟩ := ia_gd_some hm
          obtain ⟨v8, hv8, hm⟩ := ia_bnd hm
          have gv8 := g_Ou_daysHeld (gd_wI gv6 (kx_100 (ka_9_3 (ka_5_2 pk_326)))) (ka_5_2 pk_326) hv8
          exact gj_Ou_bestSwept_87 p1 ih hk108 x3 y4 x6 x7 x8 v8.1 v8.2 gv8 hm
def f_Ou_bestSwept (a1 : Nat) (x2 : Int32) (h : ia_H) : Option (Int32 × ia_H) := (f_Ou_daysHeld a1 x2 h).bind fun v1 => ((f_Sc_shopCells a1 v1.2).bind fun v2 => (l_Ou_bestSwept_22 a1 x2 (fun x6 h => some (x6, h)) fu_ v1.1 v2 (-1) (-1) 0 v1.2))
theorem g_Ou_bestSwept {w : ia_O0} {a1 : Nat} {x2 : Int32} {h : ia_H} (hg : gd_ w h) (p1 : (kd_D a1).1 = 9) {q : (Int32 × ia_H)} (hm : f_Ou_bestSwept a1 x2 h = some q) : gd_ w q.2 := by
  obtain ⟨r, h1⟩ := q
  unfold f_Ou_bestSwept at hm
  obtain ⟨v1, hv1, hm⟩ := ia_bnd hm
  have gv1 := g_Ou_daysHeld hg p1 hv1
  obtain ⟨v2, hv2, hm⟩ := ia_bnd hm
  refine gl_Ou_bestSwept_22 p1 ?_ fu_ v1.1 v2 (-1) (-1) 0 v1.2 gv1 hm
  · intro x6 h hg hm
    obtain ⟨rfl, rfl⟩ := Prod.mk.inj (Option.some.inj hm)
    exact hg
theorem t_Ou_bestSwept {w : ia_O0} (d : Nat) {a1 : Nat} {x2 : Int32} {h : ia_H} (hg : gd_ w h) (p1 : (kd_D a1).1 = 9) {q : (Int32 × ia_H)} (hm : f_Ou_bestSwept a1 x2 h = some q) : ia_Ev (d + 5) mm_Ou_bestSwept [.inr (.inr 326), .inr (.inr a1), .inl x2] h (some (.inl q.1)) q.2 := by
  have gq := g_Ou_bestSwept hg p1 hm
  refine ia_Ev_intro ok_Ou_bestSwept (gd_le hg gq).1 (gd_le hg gq).2 (Nat.le_of_ble_eq_true rfl) (fun K hK hret => ?_)
  obtain ⟨r, h1⟩ := q
  show K 0 [some (.inr (.inr 326)), some (.inr (.inr a1)), some (.inl x2), none, none, none, none, none, none, none] [] h
  unfold f_Ou_bestSwept at hm
  refine ia_go hK ck_Ou_bestSwept_0 ?_
  show K 3 [some (.inr (.inr 326)), some (.inr (.inr a1)), some (.inl x2), none, none, none, none, none, none, none] [.inl x2, .inr (.inr a1), .inr (.inr 326)] h
  obtain ⟨v1, hv1, hm⟩ := ia_bnd hm
  have ev1 := t_Ou_daysHeld (d + 0) hg p1 hv1
  have gv1 := g_Ou_daysHeld hg p1 hv1
  refine ia_cV hK mk_Ou_daysHeld lk_5_86 dc_Ou_bestSwept_3 326 [.inr (.inr a1), .inl x2] [] rfl rfl (Nat.le_of_ble_eq_true rfl) (by decide) rfl (gk_5 hg pk_326) ev1 (gd_nm hg gv1) ?_
  show K 6 [some (.inr (.inr 326)), some (.inr (.inr a1)), some (.inl x2), none, none, none, none, none, none, none] [.inl v1.1] v1.2
  refine ia_go hK ck_Ou_bestSwept_6 ?_
  show K 8 [some (.inr (.inr 326)), some (.inr (.inr a1)), some (.inl x2), some (.inl v1.1), none, none, none, none, none, none] [.inr (.inr a1)] v1.2
  obtain ⟨v2, hv2, hm⟩ := ia_bnd hm
  have ev2 := t_Sc_shopCells (d + 3) gv1 p1 hv2
  refine ia_cV hK mk_Sc_shopCells lk_5_125 dc_Ou_bestSwept_8 a1 [] [] rfl rfl (Nat.le_of_ble_eq_true rfl) (by decide) rfl (gk_9 gv1 p1) ev2 ⟨rfl, rfl⟩ ?_
  show K 11 [some (.inr (.inr 326)), some (.inr (.inr a1)), some (.inl x2), some (.inl v1.1), none, none, none, none, none, none] [.inr (.inl v2)] v1.2
  refine ia_go hK ck_Ou_bestSwept_11 ?_
  show K 22 [some (.inr (.inr 326)), some (.inr (.inr a1)), some (.inl x2), some (.inl v1.1), some (.inr (.inl v2)), none, some (.inl (-1)), some (.inl (-1)), some (.inl 0), none] [] v1.2
  refine tl_Ou_bestSwept_22 hK p1 hret ?_ fu_ v1.1 v2 (-1) (-1) 0 v1.2 gv1 hm
  · intro x6 h hg hm
    refine ia_go hK ck_Ou_bestSwept_108 ?_
    show K 110 [none, none, none, none, none, none, some (.inl x6), none, none, none] [.inl x6] h
    obtain ⟨rfl, rfl⟩ := Prod.mk.inj (Option.some.inj hm)
    exact hret 110 _ dc_Ou_bestSwept_110
def mm_Sc_makeHeavier : ia_M := (⟨"IceStreet$Scene", "makeHeavier", "(I)V"⟩, prog_10_method_12_code, 3, none, 9, false)
theorem ok_Sc_makeHeavier : ia_mok mm_Sc_makeHeavier := ⟨by decide +kernel, by decide +kernel, by decide +kernel, by decide +kernel⟩
theorem mk_Sc_makeHeavier : ia_mkn mm_Sc_makeHeavier 1 1 := ⟨ia_tb_in (List.mem_of_getElem? (i := 1531) (by decide +kernel)) rfl, ia_tb_in (List.mem_of_getElem? (i := 140) (by decide +kernel)) rfl, by decide +kernel, by decide +kernel, ⟨ia_tb_in (List.mem_of_getElem? (i := 1529) (by decide +kernel)) rfl, ia_tb_in (List.mem_of_getElem? (i := 1530) (by decide +kernel)) rfl⟩⟩
theorem ck_Sc_makeHeavier_0 : ia_cks 9 3 false prog_10_method_12_code 0 [(.aload_n 0, 0, 0, 0, 0), (.getfield 24, 9, 6, 3, 5), (.iload_n 1, 0, 0, 0, 0), (.iaload, 0, 0, 0, 0), (.istore_n 2, 0, 0, 0, 0), (.aload_n 0, 0, 0, 0, 0), (.iload_n 1, 0, 0, 0, 0), (.iconst (-1), 0, 0, 0, 0)] = true := by decide +kernel
theorem ck_Sc_makeHeavier_13 : ia_cks 9 3 false prog_10_method_12_code 13 [(.aload_n 0, 0, 0, 0, 0), (.getfield 27, 9, 7, 3, 6), (.iload_n 1, 0, 0, 0, 0), (.dup2, 0, 0, 0, 0), (.iaload, 0, 0, 0, 0), (.iconst 1, 0, 0, 0, 0), (.iadd, 0, 0, 0, 0), (.iastore, 0, 0, 0, 0), (.aload_n 0, 0, 0, 0, 0), (.iload_n 1, 0, 0, 0, 0), (.iload_n 2, 0, 0, 0, 0)] = true := by decide +kernel
theorem dc_Sc_makeHeavier_10 : decode prog_10_method_12_code 10 = .ok (.invokevirtual 95, 3) := by decide +kernel
theorem dc_Sc_makeHeavier_26 : decode prog_10_method_12_code 26 = .ok (.invokevirtual 72, 3) := by decide +kernel
theorem dc_Sc_makeHeavier_29 : decode prog_10_method_12_code 29 = .ok (.return_, 1) := by decide +kernel
def f_Sc_makeHeavier (a0 : Nat) (x1 : Int32) (h : ia_H) : Option ia_H := ia_gd (ia_ib x1 6) ((f_Sc_lift a0 x1 (-1) h).bind fun v2 => (ia_gd (ia_ib x1 6) (ia_gd (ia_ib x1 6) ((f_Sc_lower a0 x1 (ia_i h (a0 + 5) ((x1).toNatClampNeg)) (ia_wI v2 (a0 + 6) ((x1).toNatClampNeg) ((ia_i v2 (a0 + 6) ((x1).toNatClampNeg)) + 1))).bind fun v5 => (some v5)))))
theorem g_Sc_makeHeavier {w : ia_O0} {a0 : Nat} {x1 : Int32} {h : ia_H} (hg : gd_ w h) (p0 : (kd_D a0).1 = 9) {q : ia_H} (hm : f_Sc_makeHeavier a0 x1 h = some q) : gd_ w q := by
  obtain ⟨h1, e1⟩ : ∃ x, x = q := ⟨_, rfl⟩
  subst e1
  unfold f_Sc_makeHeavier at hm
  obtain ⟨c1, hm⟩ := ia_gd_some hm
  obtain ⟨v2, hv2, hm⟩ := ia_bnd hm
  have gv2 := g_Sc_lift hg p0 hv2
  obtain ⟨c3, hm⟩ := ia_gd_some hm
  obtain ⟨c4, hm⟩ := ia_gd_some hm
  obtain ⟨v5, hv5, hm⟩ := ia_bnd hm
  have gv5 := g_Sc_lower (gd_wI gv2 (kx_100 (ka_9_7 p0))) p0 hv5
  obtain rfl := Option.some.inj hm
  exact gv5
theorem t_Sc_makeHeavier {w : ia_O0} (d : Nat) {a0 : Nat} {x1 : Int32} {h : ia_H} (hg : gd_ w h) (p0 : (kd_D a0).1 = 9) {q : ia_H} (hm : f_Sc_makeHeavier a0 x1 h = some q) : ia_Ev (d + 2) mm_Sc_makeHeavier [.inr (.inr a0), .inl x1] h none q := by
  have gq := g_Sc_makeHeavier hg p0 hm
  refine ia_Ev_intro ok_Sc_makeHeavier (gd_le hg gq).1 (gd_le hg gq).2 (Nat.le_of_ble_eq_true rfl) (fun K hK hret => ?_)
  obtain ⟨h1, e1⟩ : ∃ x, x = q := ⟨_, rfl⟩
  subst e1
  show K 0 [some (.inr (.inr a0)), some (.inl x1), none] [] h
  unfold f_Sc_makeHeavier at hm
  obtain ⟨c1, hm⟩ := ia_gd_some hm
  refine ia_go hK ck_Sc_makeHeavier_0 ⟨gk_9 hg p0, gr_9_6 hg p0, ga_i100 hg (ka_9_6 p0) c1, ?_⟩
  show K 10 [some (.inr (.inr a0)), some (.inl x1), some (.inl (ia_i h (a0 + 5) ((x1).toNatClampNeg)))] [.inl (-1), .inl x1, .inr (.inr a0)] h
  obtain ⟨v2, hv2, hm⟩ := ia_bnd hm
  have ev2 := t_Sc_lift (d + 0) hg p0 hv2
  have gv2 := g_Sc_lift hg p0 hv2
  refine ia_cV hK mk_Sc_lift lk_9_95 dc_Sc_makeHeavier_10 a0 [.inl x1, .inl (-1)] [] rfl rfl (Nat.le_of_ble_eq_true rfl) (by decide) rfl (gk_9 hg p0) ev2 (gd_nm hg gv2) ?_
  show K 13 [some (.inr (.inr a0)), some (.inl x1), some (.inl (ia_i h (a0 + 5) ((x1).toNatClampNeg)))] [] v2
  obtain ⟨c3, hm⟩ := ia_gd_some hm
  obtain ⟨c4, hm⟩ := ia_gd_some hm
  refine ia_go hK ck_Sc_makeHeavier_13 ⟨gk_9 gv2 p0, gr_9_7 gv2 p0, ga_i100 gv2 (ka_9_7 p0) c3, ga_s100 gv2 (ka_9_7 p0) c4, ?_⟩
  show K 26 [some (.inr (.inr a0)), some (.inl x1), some (.inl (ia_i h (a0 + 5) ((x1).toNatClampNeg)))] [.inl (ia_i h (a0 + 5) ((x1).toNatClampNeg)), .inl x1, .inr (.inr a0)] (ia_wI v2 (a0 + 6) ((x1).toNatClampNeg) ((ia_i v2 (a0 + 6) ((x1).toNatClampNeg)) + 1))
  obtain ⟨v5, hv5, hm⟩ := ia_bnd hm
  have ev5 := t_Sc_lower (d + 0) (gd_wI gv2 (kx_100 (ka_9_7 p0))) p0 hv5
  have gv5 := g_Sc_lower (gd_wI gv2 (kx_100 (ka_9_7 p0))) p0 hv5
  refine ia_cV hK mk_Sc_lower lk_9_72 dc_Sc_makeHeavier_26 a0 [.inl x1, .inl (ia_i h (a0 + 5) ((x1).toNatClampNeg))] [] rfl rfl (Nat.le_of_ble_eq_true rfl) (by decide) rfl (gk_9 (gd_wI gv2 (kx_100 (ka_9_7 p0))) p0) ev5 (gd_nm (gd_wI gv2 (kx_100 (ka_9_7 p0))) gv5) ?_
  show K 29 [some (.inr (.inr a0)), some (.inl x1), some (.inl (ia_i h (a0 + 5) ((x1).toNatClampNeg)))] [] v5
  obtain rfl := Option.some.inj hm
  exact hret 29 _ dc_Sc_makeHeavier_29
def mm_Ou_heavier : ia_M := (⟨"IceStreet$Outlook", "heavier", "(LIceStreet$Scene;I)I"⟩, prog_6_method_16_code, 4, (some .int), 5, false)
theorem ok_Ou_heavier : ia_mok mm_Ou_heavier := ⟨by decide +kernel, by decide +kernel, by decide +kernel, by decide +kernel⟩
theorem mk_Ou_heavier : ia_mkn mm_Ou_heavier 1 2 := ⟨ia_tb_in (List.mem_of_getElem? (i := 1527) (by decide +kernel)) rfl, ia_tb_in (List.mem_of_getElem? (i := 143) (by decide +kernel)) rfl, by decide +kernel, by decide +kernel, ⟨ia_tb_in (List.mem_of_getElem? (i := 1525) (by decide +kernel)) rfl, ia_tb_in (List.mem_of_getElem? (i := 1526) (by decide +kernel)) rfl⟩⟩
theorem ck_Ou_heavier_0 : ia_cks 5 4 false prog_6_method_16_code 0 [(.iconst 0, 0, 0, 0, 0), (.istore_n 3, 0, 0, 0, 0)] = true := by decide +kernel
theorem ck_Ou_heavier_2 : ia_cks 5 4 false prog_6_method_16_code 2 [(.iload_n 3, 0, 0, 0, 0), (.bipush 99, 0, 0, 0, 0), (.if_icmp .ge 24, 0, 0, 0, 0)] = true := by decide +kernel
theorem ck_Ou_heavier_8 : ia_cks 5 4 false prog_6_method_16_code 8 [(.aload_n 1, 0, 0, 0, 0), (.iload_n 2, 0, 0, 0, 0)] = true := by decide +kernel
theorem ck_Ou_heavier_13 : ia_cks 5 4 false prog_6_method_16_code 13 [(.aload_n 1, 0, 0, 0, 0)] = true := by decide +kernel
theorem ck_Ou_heavier_17 : ia_cks 5 4 false prog_6_method_16_code 17 [(.iconst (-1), 0, 0, 0, 0), (.if_icmp .eq 5, 0, 0, 0, 0)] = true := by decide +kernel
theorem ck_Ou_heavier_23 : ia_cks 5 4 false prog_6_method_16_code 23 [(.iinc 3 1, 0, 0, 0, 0), (.goto (-24), 0, 0, 0, 0)] = true := by decide +kernel
theorem ck_Ou_heavier_21 : ia_cks 5 4 false prog_6_method_16_code 21 [(.iload_n 3, 0, 0, 0, 0)] = true := by decide +kernel
theorem ck_Ou_heavier_29 : ia_cks 5 4 false prog_6_method_16_code 29 [(.bipush 99, 0, 0, 0, 0)] = true := by decide +kernel
theorem dc_Ou_heavier_10 : decode prog_6_method_16_code 10 = .ok (.invokevirtual 161, 3) := by decide +kernel
theorem dc_Ou_heavier_14 : decode prog_6_method_16_code 14 = .ok (.invokevirtual 164, 3) := by decide +kernel
theorem dc_Ou_heavier_22 : decode prog_6_method_16_code 22 = .ok (.ireturn, 1) := by decide +kernel
theorem dc_Ou_heavier_31 : decode prog_6_method_16_code 31 = .ok (.ireturn, 1) := by decide +kernel
def l_Ou_heavier_2 (a1 : Nat) (x2 : Int32) (k21 : Int32 → ia_H → Option (Int32 × ia_H)) (k29 : ia_H → Option (Int32 × ia_H)) (n : Nat) (x3 : Int32) (h : ia_H) : Option (Int32 × ia_H) := match n with
  | 0 => none
  | n + 1 => if 99 ≤ x3 then (k29 h) else ((f_Sc_makeHeavier a1 x2 h).bind fun v1 => ((f_Sc_nextToFall a1 v1).bind fun v2 => (if v2 = (-1) then (l_Ou_heavier_2 a1 x2 k21 k29 n (x3 + 1) v1) else (k21 x3 v1))))
theorem tl_Ou_heavier_2 {w : ia_O0} {d N1 W1 : Nat} {K : ia_K} (hK : ia_isK (d + 3) mm_Ou_heavier N1 W1 K) {a1 : Nat} {x2 : Int32} (p1 : (kd_D a1).1 = 9) {r : Int32} {h1 : ia_H} (hret : ∀ (pc : Nat) (lv : ia_L), ia_ret mm_Ou_heavier pc (some (.inl r)) → K pc lv ((some (.inl r)) : Option ia_V).toList h1) {k21 : Int32 → ia_H → Option (Int32 × ia_H)} {k29 : ia_H → Option (Int32 × ia_H)} (hk21 : ∀ (x3 : Int32) (h : ia_H), gd_ w h → k21 x3 h = some (r, h1) → K 21 [none, none, none, some (.inl x3)] [] h) (hk29 : ∀ (h : ia_H), gd_ w h → k29 h = some (r, h1) → K 29 [none, none, none, none] [] h) : ∀ (n : Nat) (x3 : Int32) (h : ia_H), gd_ w h → l_Ou_heavier_2 a1 x2 k21 k29 n x3 h = some (r, h1) → K 2 [none, some (.inr (.inr a1)), some (.inl x2), some (.inl x3)] [] h := by
  intro n
  induction n with
  | zero =>
    intro x3 h hg hm
    cases (show (none : Option (Int32 × ia_H)) = some _ from hm)
  | succ n ih =>
    intro x3 h hg hm
    rw [l_Ou_heavier_2] at hm
    refine ia_go hK ck_Ou_heavier_2 ⟨fun c => ?_, fun c => ?_⟩
    · replace hm := ia_ifp hm c
      show K 29 [none, some (.inr (.inr a1)), some (.inl x2), some (.inl x3)] [] h
      refine ia_fg hK (lv' := [none, none, none, none]) trivial ?_
      exact hk29 h hg hm
    · replace hm := ia_ifn hm c
      show K 8 [none, some (.inr (.inr a1)), some (.inl x2), some (.inl x3)] [] h
      refine ia_go hK ck_Ou_heavier_8 ?_
      show K 10 [none, some (.inr (.inr a1)), some (.inl x2), some (.inl x3)] [.inl x2, .inr (.inr a1)] h
      obtain ⟨v1, hv1, hm⟩ := ia_bnd hm
      have ev1 := t_Sc_makeHeavier (d + 0) hg p1 hv1
      have gv1 := g_Sc_makeHeavier hg p1 hv1
      refine ia_cV hK mk_Sc_makeHeavier lk_5_161 dc_Ou_heavier_10 a1 [.inl x2] [] rfl rfl (Nat.le_of_ble_eq_true rfl) (by decide) rfl (gk_9 hg p1) ev1 (gd_nm hg gv1) ?_
      show K 13 [none, some (.inr (.inr a1)), some (.inl x2), some (.inl x3)] [] v1
      refine ia_go hK ck_Ou_heavier_13 ?_
      show K 14 [none, some (.inr (.inr a1)), some (.inl x2), some (.inl x3)] [.inr (.inr a1)] v1
      obtain ⟨v2, hv2, hm⟩ := ia_bnd hm
      have ev2 := t_Sc_nextToFall (d + 1) gv1 p1 hv2
      refine ia_cV hK mk_Sc_nextToFall lk_5_164 dc_Ou_heavier_14 a1 [] [] rfl rfl (Nat.le_of_ble_eq_true rfl) (by decide) rfl (gk_9 gv1 p1) ev2 ⟨rfl, rfl⟩ ?_
      show K 17 [none, some (.inr (.inr a1)), some (.inl x2), some (.inl x3)] [.inl v2] v1
      refine ia_go hK ck_Ou_heavier_17 ⟨fun c => ?_, fun c => ?_⟩
      · replace hm := ia_ifp hm c
        show K 23 [none, some (.inr (.inr a1)), some (.inl x2), some (.inl x3)] [] v1
        refine ia_go hK ck_Ou_heavier_23 ?_
        show K 2 [none, some (.inr (.inr a1)), some (.inl x2), some (.inl (x3 + 1))] [] v1
        exact ih (x3 + 1) v1 gv1 hm
      · replace hm := ia_ifn hm c
        show K 21 [none, some (.inr (.inr a1)), some (.inl x2), some (.inl x3)] [] v1
        refine ia_fg hK (lv' := [none, none, none, some (.inl x3)]) ⟨rfl, trivial⟩ ?_
        exact hk21 x3 v1 gv1 hm
theorem gl_Ou_heavier_2 {w : ia_O0} {a1 : Nat} {x2 : Int32} (p1 : (kd_D a1).1 = 9) {r : Int32} {h1 : ia_H} {k21 : Int32 → ia_H → Option (Int32 × ia_H)} {k29 : ia_H → Option (Int32 × ia_H)} (hk21 : ∀ (x3 : Int32) (h : ia_H), gd_ w h → k21 x3 h = some (r, h1) → gd_ w h1) (hk29 : ∀ (h : ia_H), gd_ w h → k29 h = some (r, h1) → gd_ w h1) : ∀ (n : Nat) (x3 : Int32) (h : ia_H), gd_ w h → l_Ou_heavier_2 a1 x2 k21 k29 n x3 h = some (r, h1) → gd_ w h1 := by
  intro n
  induction n with
  | zero =>
    intro x3 h hg hm
    cases (show (none : Option (Int32 × ia_H)) = some _ from hm)
  | succ n ih =>
    intro x3 h hg hm
    rw [l_Ou_heavier_2] at hm
    by_cases c : 99 ≤ x3
    · replace hm := ia_ifp hm c
      exact hk29 h hg hm
    · replace hm := ia_ifn hm c
      obtain ⟨v1, hv1, hm⟩ := ia_bnd hm
      have gv1 := g_Sc_makeHeavier hg p1 hv1
      obtain ⟨v2, hv2, hm⟩ := ia_bnd hm
      by_cases c : v2 = (-1)
      · replace hm := ia_ifp hm c
        exact ih (x3 + 1) v1 gv1 hm
      · replace hm := ia_ifn hm c
        exact hk21 x3 v1 gv1 hm
def f_Ou_heavier (a1 : Nat) (x2 : Int32) (h : ia_H) : Option (Int32 × ia_H) := l_Ou_heavier_2 a1 x2 (fun x3 h => some (x3, h)) (fun h => some (99, h)) fu_ 0 h
theorem g_Ou_heavier {w : ia_O0} {a1 : Nat} {x2 : Int32} {h : ia_H} (hg : gd_ w h) (p1 : (kd_D a1).1 = 9) {q : (Int32 × ia_H)} (hm : f_Ou_heavier a1 x2 h = some q) : gd_ w q.2 := by
  obtain ⟨r, h1⟩ := q
  unfold f_Ou_heavier at hm
  refine gl_Ou_heavier_2 p1 ?_ ?_ fu_ 0 h hg hm
  · intro x3 h hg hm
    obtain ⟨rfl, rfl⟩ := Prod.mk.inj (Option.some.inj hm)
    exact hg
  · intro h hg hm
    obtain ⟨rfl, rfl⟩ := Prod.mk.inj (Option.some.inj hm)
    exact hg
theorem t_Ou_heavier {w : ia_O0} (d : Nat) {a1 : Nat} {x2 : Int32} {h : ia_H} (hg : gd_ w h) (p1 : (kd_D a1).1 = 9) {q : (Int32 × ia_H)} (hm : f_Ou_heavier a1 x2 h = some q) : ia_Ev (d + 3) mm_Ou_heavier [.inr (.inr 326), .inr (.inr a1), .inl x2] h (some (.inl q.1)) q.2 := by
  have gq := g_Ou_heavier hg p1 hm
  refine ia_Ev_intro ok_Ou_heavier (gd_le hg gq).1 (gd_le hg gq).2 (Nat.le_of_ble_eq_true rfl) (fun K hK hret => ?_)
  obtain ⟨r, h1⟩ := q
  show K 0 [some (.inr (.inr 326)), some (.inr (.inr a1)), some (.inl x2), none] [] h
  unfold f_Ou_heavier at hm
  refine ia_go hK ck_Ou_heavier_0 ?_
  show K 2 [some (.inr (.inr 326)), some (.inr (.inr a1)), some (.inl x2), some (.inl 0)] [] h
  refine ia_fg hK (lv' := [none, some (.inr (.inr a1)), some (.inl x2), some (.inl 0)]) ⟨rfl, rfl, rfl, trivial⟩ ?_
  refine tl_Ou_heavier_2 hK p1 hret ?_ ?_ fu_ 0 h hg hm
  · intro x3 h hg hm
    refine ia_go hK ck_Ou_heavier_21 ?_
    show K 22 [none, none, none, some (.inl x3)] [.inl x3] h
    obtain ⟨rfl, rfl⟩ := Prod.mk.inj (Option.some.inj hm)
    exact hret 22 _ dc_Ou_heavier_22
  · intro h hg hm
    refine ia_go hK ck_Ou_heavier_29 ?_
    show K 31 [none, none, none, none] [.inl 99] h
    obtain ⟨rfl, rfl⟩ := Prod.mk.inj (Option.some.inj hm)
    exact hret 31 _ dc_Ou_heavier_31
def mm_Ou_latestLeave : ia_M := (⟨"IceStreet$Outlook", "latestLeave", "(LIceStreet$Scene;I)I"⟩, prog_6_method_17_code, 5, (some .int), 5, false)
theorem ok_Ou_latestLeave : ia_mok mm_Ou_latestLeave := ⟨by decide +kernel, by decide +kernel, by decide +kernel, by decide +kernel⟩
theorem mk_Ou_latestLeave : ia_mkn mm_Ou_latestLeave 1 2 := ⟨ia_tb_in (List.mem_of_getElem? (i := 1536) (by decide +kernel)) rfl, ia_tb_in (List.mem_of_getElem? (i := 143) (by decide +kernel)) rfl, by decide +kernel, by decide +kernel, ⟨ia_tb_in (List.mem_of_getElem? (i := 1534) (by decide +kernel)) rfl, ia_tb_in (List.mem_of_getElem? (i := 1535) (by decide +kernel)) rfl⟩⟩
theorem ck_Ou_latestLeave_0 : ia_cks 5 5 false prog_6_method_17_code 0 [(.iconst (-1), 0, 0, 0, 0), (.istore_n 3, 0, 0, 0, 0), (.iconst 0, 0, 0, 0, 0), (.istore 4, 0, 0, 0, 0)] = true := by decide +kernel
theorem ck_Ou_latestLeave_5 : ia_cks 5 5 false prog_6_method_17_code 5 [(.iload 4, 0, 0, 0, 0), (.bipush 60, 0, 0, 0, 0), (.if_icmp .gt 40, 0, 0, 0, 0)] = true := by decide +kernel
theorem ck_Ou_latestLeave_12 : ia_cks 5 5 false prog_6_method_17_code 12 [(.aload_n 1, 0, 0, 0, 0), (.iload_n 2, 0, 0, 0, 0)] = true := by decide +kernel
theorem ck_Ou_latestLeave_17 : ia_cks 5 5 false prog_6_method_17_code 17 [(.ifCond .eq 32, 0, 0, 0, 0)] = true := by decide +kernel
theorem ck_Ou_latestLeave_20 : ia_cks 5 5 false prog_6_method_17_code 20 [(.aload_n 0, 0, 0, 0, 0), (.getfield 18, 5, 0, 4, 311), (.aload_n 1, 0, 0, 0, 0), (.iload_n 2, 0, 0, 0, 0)] = true := by decide +kernel
theorem ck_Ou_latestLeave_29 : ia_cks 5 5 false prog_6_method_17_code 29 [(.ifCond .eq 6, 0, 0, 0, 0)] = true := by decide +kernel
theorem ck_Ou_latestLeave_35 : ia_cks 5 5 false prog_6_method_17_code 35 [(.aload_n 1, 0, 0, 0, 0), (.aload_n 1, 0, 0, 0, 0)] = true := by decide +kernel
theorem ck_Ou_latestLeave_43 : ia_cks 5 5 false prog_6_method_17_code 43 [(.iinc 4 1, 0, 0, 0, 0), (.goto (-41), 0, 0, 0, 0)] = true := by decide +kernel
theorem ck_Ou_latestLeave_32 : ia_cks 5 5 false prog_6_method_17_code 32 [(.iload 4, 0, 0, 0, 0), (.istore_n 3, 0, 0, 0, 0)] = true := by decide +kernel
theorem ck_Ou_latestLeave_49 : ia_cks 5 5 false prog_6_method_17_code 49 [(.iload_n 3, 0, 0, 0, 0)] = true := by decide +kernel
theorem dc_Ou_latestLeave_14 : decode prog_6_method_17_code 14 = .ok (.invokevirtual 38, 3) := by decide +kernel
theorem dc_Ou_latestLeave_26 : decode prog_6_method_17_code 26 = .ok (.invokevirtual 167, 3) := by decide +kernel
theorem dc_Ou_latestLeave_37 : decode prog_6_method_17_code 37 = .ok (.invokevirtual 42, 3) := by decide +kernel
theorem dc_Ou_latestLeave_40 : decode prog_6_method_17_code 40 = .ok (.invokevirtual 111, 3) := by decide +kernel
theorem dc_Ou_latestLeave_50 : decode prog_6_method_17_code 50 = .ok (.ireturn, 1) := by decide +kernel
def j_Ou_latestLeave_35 (a1 : Nat) (x2 : Int32) (kr : Int32 → Int32 → ia_H → Option (Int32 × ia_H)) (k49 : Int32 → ia_H → Option (Int32 × ia_H)) (x3 : Int32) (x4 : Int32) (h : ia_H) : Option (Int32 × ia_H) := (f_Sc_frost a1 h).bind fun v3 => ((f_Sc_passDay a1 v3 h).bind fun v4 => (kr x3 (x4 + 1) v4))
theorem tj_Ou_latestLeave_35 {w : ia_O0} {d N1 W1 : Nat} {K : ia_K} (hK : ia_isK (d + 4) mm_Ou_latestLeave N1 W1 K) {a1 : Nat} {x2 : Int32} (p1 : (kd_D a1).1 = 9) {r : Int32} {h1 : ia_H} (hret : ∀ (pc : Nat) (lv : ia_L), ia_ret mm_Ou_latestLeave pc (some (.inl r)) → K pc lv ((some (.inl r)) : Option ia_V).toList h1) {kr : Int32 → Int32 → ia_H → Option (Int32 × ia_H)} {k49 : Int32 → ia_H → Option (Int32 × ia_H)} (hkr : ∀ (x3 : Int32) (x4 : Int32) (h : ia_H), gd_ w h → kr x3 x4 h = some (r, h1) → K 5 [some (.inr (.inr 326)), some (.inr (.inr a1)), some (.inl x2), some (.inl x3), some (.inl x4)] [] h) (hk49 : ∀ (x3 : Int32) (h : ia_H), gd_ w h → k49 x3 h = some (r, h1) → K 49 [none, none, none, some (.inl x3), none] [] h) : ∀ (x3 : Int32) (x4 : Int32) (h : ia_H), gd_ w h → j_Ou_latestLeave_35 a1 x2 kr k49 x3 x4 h = some (r, h1) → K 35 [some (.inr (.inr 326)), some (.inr (.inr a1)), some (.inl x2), some (.inl x3), some (.inl x4)] [] h := by
  intro x3 x4 h hg hm
  unfold j_Ou_latestLeave_35 at hm
  refine ia_go hK ck_Ou_latestLeave_35 ?_
  show K 37 [some (.inr (.inr 326)), some (.inr (.inr a1)), some (.inl x2), some (.inl x3), some (.inl x4)] [.inr (.inr a1), .inr (.inr a1)] h
  obtain ⟨v3, hv3, hm⟩ := ia_bnd hm
  have ev3 := t_Sc_frost (d + 3) hg p1 hv3
  refine ia_cV hK mk_Sc_frost lk_5_42 dc_Ou_latestLeave_37 a1 [] [.inr (.inr a1)] rfl rfl (Nat.le_of_ble_eq_true rfl) (by decide) rfl (gk_9 hg p1) ev3 ⟨rfl, rfl⟩ ?_
  show K 40 [some (.inr (.inr 326)), some (.inr (.inr a1)), some (.inl x2), some (.inl x3), some (.inl x4)] [.inl v3, .inr (.inr a1)] h
  obtain ⟨v4, hv4, hm⟩ := ia_bnd hm
  have ev4 := t_Sc_passDay (d + 0) hg p1 hv4
  have gv4 := g_Sc_passDay hg p1 hv4
  refine ia_cV hK mk_Sc_passDay lk_5_111 dc_Ou_latestLeave_40 a1 [.inl v3] [] rfl rfl (Nat.le_of_ble_eq_true rfl) (by decide) rfl (gk_9 hg p1) ev4 (gd_nm hg gv4) ?_
  show K 43 [some (.inr (.inr 326)), some (.inr (.inr a1)), some (.inl x2), some (.inl x3), some (.inl x4)] [] v4
  refine ia_go hK ck_Ou_latestLeave_43 ?_
  show K 5 [some (.inr (.inr 326)), some (.inr (.inr a1)), some (.inl x2), some (.inl x3), some (.inl (x4 + 1))] [] v4
  exact hkr x3 (x4 + 1) v4 gv4 hm
theorem gj_Ou_latestLeave_35 {w : ia_O0} {a1 : Nat} {x2 : Int32} (p1 : (kd_D a1).1 = 9) {r : Int32} {h1 : ia_H} {kr : Int32 → Int32 → ia_H → Option (Int32 × ia_H)} {k49 : Int32 → ia_H → Option (Int32 × ia_H)} (hkr : ∀ (x3 : Int32) (x4 : Int32) (h : ia_H), gd_ w h → kr x3 x4 h = some (r, h1) → gd_ w h1) (hk49 : ∀ (x3 : Int32) (h : ia_H), gd_ w h → k49 x3 h = some (r, h1) → gd_ w h1) : ∀ (x3 : Int32) (x4 : Int32) (h : ia_H), gd_ w h → j_Ou_latestLeave_35 a1 x2 kr k49 x3 x4 h = some (r, h1) → gd_ w h1 := by
  intro x3 x4 h hg hm
  unfold j_Ou_latestLeave_35 at hm
  obtain ⟨v3, hv3, hm⟩ := ia_bnd hm
  obtain ⟨v4, hv4, hm⟩ := ia_bnd hm
  have gv4 := g_Sc_passDay hg p1 hv4
  exact hkr x3 (x4 + 1) v4 gv4 hm
def l_Ou_latestLeave_5 (a1 : Nat) (x2 : Int32) (k49 : Int32 → ia_H → Option (Int32 × ia_H)) (n : Nat) (x3 : Int32) (x4 : Int32) (h : ia_H) : Option (Int32 × ia_H) := match n with
  | 0 => none
  | n + 1 => if 60 < x4 then (k49 x3 h) else ((f_Sc_stands a1 x2 h).bind fun v1 => (if v1 = 0 then (k49 x3 h) else ((f_Wa_canLeave a1 x2 h).bind fun v2 => (if v2.1 = 0 then (j_Ou_latestLeave_35 a1 x2 (l_Ou_latestLeave_5 a1 x2 k49 n) k49 x3 x4 v2.2) else (j_Ou_latestLeave_35 a1 x2 (l_Ou_latestLeave_5 a1 x2 k49 n) k49 x4 x4 v2.2)))))
theorem tl_Ou_latestLeave_5 {w : ia_O0} {d N1 W1 : Nat} {K : ia_K} (hK : ia_isK (d + 4) mm_Ou_latestLeave N1 W1 K) {a1 : Nat} {x2 : Int32} (p1 : (kd_D a1).1 = 9) {r : Int32} {h1 : ia_H} (hret : ∀ (pc : Nat) (lv : ia_L), ia_ret mm_Ou_latestLeave pc (some (.inl r)) → K pc lv ((some (.inl r)) : Option ia_V).toList h1) {k49 : Int32 → ia_H → Option (Int32 × ia_H)} (hk49 : ∀ (x3 : Int32) (h : ia_H), gd_ w h → k49 x3 h = some (r, h1) → K 49 [none, none, none, some (.inl x3), none] [] h) : ∀ (n : Nat) (x3 : Int32) (x4 : Int32) (h : ia_H), gd_ w h → l_Ou_latestLeave_5 a1 x2 k49 n x3 x4 h = some (r, h1) → K 5 [some (.inr (.inr 326)), some (.inr (.inr a1)), some (.inl x2), some (.inl x3), some (.inl x4)] [] h := by
  intro n
  induction n with
  | zero =>
    intro x3 x4 h hg hm
    cases (show (none : Option (Int32 × ia_H)) = some _ from hm)
  | succ n ih =>
    intro x3 x4 h hg hm
    rw [l_Ou_latestLeave_5] at hm
    refine ia_go hK ck_Ou_latestLeave_5 ⟨fun c => ?_, fun c => ?_⟩
    · replace hm := ia_ifp hm c
      show K 49 [some (.inr (.inr 326)), some (.inr (.inr a1)), some (.inl x2), some (.inl x3), some (.inl x4)] [] h
      refine ia_fg hK (lv' := [none, none, none, some (.inl x3), none]) ⟨rfl, trivial⟩ ?_
      exact hk49 x3 h hg hm
    · replace hm := ia_ifn hm c
      show K 12 [some (.inr (.inr 326)), some (.inr (.inr a1)), some (.inl x2), some (.inl x3), some (.inl x4)] [] h
      refine ia_go hK ck_Ou_latestLeave_12 ?_
      show K 14 [some (.inr (.inr 326)), some (.inr (.inr a1)), some (.inl x2), some (.inl x3), some (.inl x4)] [.inl x2, .inr (.inr a1)] h
      obtain ⟨v1, hv1, hm⟩ := ia_bnd hm
      have ev1 := t_Sc_stands (d + 3) hg p1 hv1
      refine ia_cV hK mk_Sc_stands lk_5_38 dc_Ou_latestLeave_14 a1 [.inl x2] [] rfl rfl (Nat.le_of_ble_eq_true rfl) (by decide) rfl (gk_9 hg p1) ev1 ⟨rfl, rfl⟩ ?_
      show K 17 [some (.inr (.inr 326)), some (.inr (.inr a1)), some (.inl x2), some (.inl x3), some (.inl x4)] [.inl v1] h
      refine ia_go hK ck_Ou_latestLeave_17 ⟨fun c => ?_, fun c => ?_⟩
      · replace hm := ia_ifp hm c
        show K 49 [some (.inr (.inr 326)), some (.inr (.inr a1)), some (.inl x2), some (.inl x3), some (.inl x4)] [] h
        refine ia_fg hK (lv' := [none, none, none, some (.inl x3), none]) ⟨rfl, trivial⟩ ?_
        exact hk49 x3 h hg hm
      · replace hm := ia_ifn hm c
        show K 20 [some (.inr (.inr 326)), some (.inr (.inr a1)), some (.inl x2), some (.inl x3), some (.inl x4)] [] h
        refine ia_go hK ck_Ou_latestLeave_20 ⟨gk_5 hg pk_326, gr_5_0 hg pk_326, ?_⟩
        show K 26 [some (.inr (.inr 326)), some (.inr (.inr a1)), some (.inl x2), some (.inl x3), some (.inl x4)] [.inl x2, .inr (.inr a1), .inr (.inr 311)] h
        obtain ⟨v2, hv2, hm⟩ := ia_bnd hm
        have ev2 := t_Wa_canLeave (d + 0) hg p1 hv2
        have gv2 := g_Wa_canLeave hg p1 hv2
        refine ia_cV hK mk_Wa_canLeave lk_5_167 dc_Ou_latestLeave_26 311 [.inr (.inr a1), .inl x2] [] rfl rfl (Nat.le_of_ble_eq_true rfl) (by decide) rfl (gk_11 hg pk_311) ev2 (gd_nm hg gv2) ?_
        show K 29 [some (.inr (.inr 326)), some (.inr (.inr a1)), some (.inl x2), some (.inl x3), some (.inl x4)] [.inl v2.1] v2.2
        refine ia_go hK ck_Ou_latestLeave_29 ⟨fun c => ?_, fun c => ?_⟩
        · replace hm := ia_ifp hm c
          show K 35 [some (.inr (.inr 326)), some (.inr (.inr a1)), some (.inl x2), some (.inl x3), some (.inl x4)] [] v2.2
          exact tj_Ou_latestLeave_35 hK p1 hret ih hk49 x3 x4 v2.2 gv2 hm
        · replace hm := ia_ifn hm c
          show K 32 [some (.inr (.inr 326)), some (.inr (.inr a1)), some (.inl x2), some (.inl x3), some (.inl x4)] [] v2.2
          refine ia_go hK ck_Ou_latestLeave_32 ?_
          show K 35 [some (.inr (.inr 326)), some (.inr (.inr a1)), some (.inl x2), some (.inl x4), some (.inl x4)] [] v2.2
          exact tj_Ou_latestLeave_35 hK p1 hret ih hk49 x4 x4 v2.2 gv2 hm
theorem gl_Ou_latestLeave_5 {w : ia_O0} {a1 : Nat} {x2 : Int32} (p1 : (kd_D a1).1 = 9) {r : Int32} {h1 : ia_H} {k49 : Int32 → ia_H → Option (Int32 × ia_H)} (hk49 : ∀ (x3 : Int32) (h : ia_H), gd_ w h → k49 x3 h = some (r, h1) → gd_ w h1) : ∀ (n : Nat) (x3 : Int32) (x4 : Int32) (h : ia_H), gd_ w h → l_Ou_latestLeave_5 a1 x2 k49 n x3 x4 h = some (r, h1) → gd_ w h1 := by
  intro n
  induction n with
  | zero =>
    intro x3 x4 h hg hm
    cases (show (none : Option (Int32 × ia_H)) = some _ from hm)
  | succ n ih =>
    intro x3 x4 h hg hm
    rw [l_Ou_latestLeave_5] at hm
    by_cases c : 60 < x4
    · replace hm := ia_ifp hm c
      exact hk49 x3 h hg hm
    · replace hm := ia_ifn hm c
      obtain ⟨v1, hv1, hm⟩ := ia_bnd hm
      by_cases c : v1 = 0
      · replace hm := ia_ifp hm c
        exact hk49 x3 h hg hm
      · replace hm := ia_ifn hm c
        obtain ⟨v2, hv2, hm⟩ := ia_bnd hm
        have gv2 := g_Wa_canLeave hg p1 hv2
        by_cases c : v2.1 = 0
        · replace hm := ia_ifp hm c
          exact gj_Ou_latestLeave_35 p1 ih hk49 x3 x4 v2.2 gv2 hm
        · replace hm := ia_ifn hm c
          exact gj_Ou_latestLeave_35 p1 ih hk49 x4 x4 v2.2 gv2 hm
def f_Ou_latestLeave (a1 : Nat) (x2 : Int32) (h : ia_H) : Option (Int32 × ia_H) := l_Ou_latestLeave_5 a1 x2 (fun x3 h => some (x3, h)) fu_ (-1) 0 h
theorem g_Ou_latestLeave {w : ia_O0} {a1 : Nat} {x2 : Int32} {h : ia_H} (hg : gd_ w h) (p1 : (kd_D a1).1 = 9) {q : (Int32 × ia_H)} (hm : f_Ou_latestLeave a1 x2 h = some q) : gd_ w q.2 := by
  obtain ⟨r, h1⟩ := q
  unfold f_Ou_latestLeave at hm
  refine gl_Ou_latestLeave_5 p1 ?_ fu_ (-1) 0 h hg hm
  · intro x3 h hg hm
    obtain ⟨rfl, rfl⟩ := Prod.mk.inj (Option.some.inj hm)
    exact hg
theorem t_Ou_latestLeave {w : ia_O0} (d : Nat) {a1 : Nat} {x2 : Int32} {h : ia_H} (hg : gd_ w h) (p1 : (kd_D a1).1 = 9) {q : (Int32 × ia_H)} (hm : f_Ou_latestLeave a1 x2 h = some q) : ia_Ev (d + 4) mm_Ou_latestLeave [.inr (.inr 326), .inr (.inr a1), .inl x2] h (some (.inl q.1)) q.2 := by
  have gq := g_Ou_latestLeave hg p1 hm
  refine ia_Ev_intro ok_Ou_latestLeave (gd_le hg gq).1 (gd_le hg gq).2 (Nat.le_of_ble_eq_true rfl) (fun K hK hret => ?_)
  obtain ⟨r, h1⟩ := q
  show K 0 [some (.inr (.inr 326)), some (.inr (.inr a1)), some (.inl x2), none, none] [] h
  unfold f_Ou_latestLeave at hm
  refine ia_go hK ck_Ou_latestLeave_0 ?_
  show K 5 [some (.inr (.inr 326)), some (.inr (.inr a1)), some (.inl x2), some (.inl (-1)), some (.inl 0)] [] h
  refine tl_Ou_latestLeave_5 hK p1 hret ?_ fu_ (-1) 0 h hg hm
  · intro x3 h hg hm
    refine ia_go hK ck_Ou_latestLeave_49 ?_
    show K 50 [none, none, none, some (.inl x3), none] [.inl x3] h
    obtain ⟨rfl, rfl⟩ := Prod.mk.inj (Option.some.inj hm)
    exact hret 50 _ dc_Ou_latestLeave_50
def mm_I_shopping : ia_M := (⟨"IceStreet", "shopping", "(IIIIII)I"⟩, prog_1_method_34_code, 7, (some .int), 0, false)
theorem ok_I_shopping : ia_mok mm_I_shopping := ⟨by decide +kernel, by decide +kernel, by decide +kernel, by decide +kernel⟩
theorem mk_I_shopping : ia_mkn mm_I_shopping 1 6 := ⟨ia_tb_in (List.mem_of_getElem? (i := 1519) (by decide +kernel)) rfl, ia_tb_in (List.mem_of_getElem? (i := 133) (by decide +kernel)) rfl, by decide +kernel, by decide +kernel, ⟨ia_tb_in (List.mem_of_getElem? (i := 1517) (by decide +kernel)) rfl, ia_tb_in (List.mem_of_getElem? (i := 1518) (by decide +kernel)) rfl⟩⟩
theorem ck_I_shopping_0 : ia_cks 0 7 false prog_1_method_34_code 0 [(.aload_n 0, 0, 0, 0, 0), (.iload_n 1, 0, 0, 0, 0), (.iload_n 2, 0, 0, 0, 0), (.iload_n 3, 0, 0, 0, 0), (.iload 4, 0, 0, 0, 0)] = true := by decide +kernel
theorem ck_I_shopping_9 : ia_cks 0 7 false prog_1_method_34_code 9 [(.ifCond .eq 15, 0, 0, 0, 0)] = true := by decide +kernel
theorem ck_I_shopping_24 : ia_cks 0 7 false prog_1_method_34_code 24 [(.iconst (-1), 0, 0, 0, 0)] = true := by decide +kernel
theorem ck_I_shopping_12 : ia_cks 0 7 false prog_1_method_34_code 12 [(.aload_n 0, 0, 0, 0, 0), (.getfield 44, 0, 4, 3, 239), (.iload 5, 0, 0, 0, 0)] = true := by decide +kernel
theorem ck_I_shopping_21 : ia_cks 0 7 false prog_1_method_34_code 21 [(.ifCond .ne 5, 0, 0, 0, 0)] = true := by decide +kernel
theorem ck_I_shopping_26 : ia_cks 0 7 false prog_1_method_34_code 26 [(.iload 6, 0, 0, 0, 0), (.tableswitch 70 0 2 #[28, 42, 56], 0, 0, 0, 0)] = true := by decide +kernel
theorem ck_I_shopping_56 : ia_cks 0 7 false prog_1_method_34_code 56 [(.aload_n 0, 0, 0, 0, 0), (.getfield 69, 0, 7, 3, 262), (.aload_n 0, 0, 0, 0, 0), (.getfield 44, 0, 4, 3, 239), (.iload 5, 0, 0, 0, 0)] = true := by decide +kernel
theorem ck_I_shopping_70 : ia_cks 0 7 false prog_1_method_34_code 70 [(.aload_n 0, 0, 0, 0, 0), (.getfield 69, 0, 7, 3, 262), (.aload_n 0, 0, 0, 0, 0), (.getfield 44, 0, 4, 3, 239), (.iload 5, 0, 0, 0, 0)] = true := by decide +kernel
theorem ck_I_shopping_84 : ia_cks 0 7 false prog_1_method_34_code 84 [(.aload_n 0, 0, 0, 0, 0), (.getfield 69, 0, 7, 3, 262), (.aload_n 0, 0, 0, 0, 0), (.getfield 44, 0, 4, 3, 239), (.iload 5, 0, 0, 0, 0)] = true := by decide +kernel
theorem ck_I_shopping_98 : ia_cks 0 7 false prog_1_method_34_code 98 [(.iconst (-1), 0, 0, 0, 0)] = true := by decide +kernel
theorem dc_I_shopping_6 : decode prog_1_method_34_code 6 = .ok (.invokevirtual 266, 3) := by decide +kernel
theorem dc_I_shopping_25 : decode prog_1_method_34_code 25 = .ok (.ireturn, 1) := by decide +kernel
theorem dc_I_shopping_18 : decode prog_1_method_34_code 18 = .ok (.invokevirtual 347, 3) := by decide +kernel
theorem dc_I_shopping_66 : decode prog_1_method_34_code 66 = .ok (.invokevirtual 423, 3) := by decide +kernel
theorem dc_I_shopping_69 : decode prog_1_method_34_code 69 = .ok (.ireturn, 1) := by decide +kernel
theorem dc_I_shopping_80 : decode prog_1_method_34_code 80 = .ok (.invokevirtual 426, 3) := by decide +kernel
theorem dc_I_shopping_83 : decode prog_1_method_34_code 83 = .ok (.ireturn, 1) := by decide +kernel
theorem dc_I_shopping_94 : decode prog_1_method_34_code 94 = .ok (.invokevirtual 429, 3) := by decide +kernel
theorem dc_I_shopping_97 : decode prog_1_method_34_code 97 = .ok (.ireturn, 1) := by decide +kernel
theorem dc_I_shopping_99 : decode prog_1_method_34_code 99 = .ok (.ireturn, 1) := by decide +kernel
def f_I_shopping (x1 : Int32) (x2 : Int32) (x3 : Int32) (x4 : Int32) (x5 : Int32) (x6 : Int32) (h : ia_H) : Option (Int32 × ia_H) := (f_I_stage x1 x2 x3 x4 h).bind fun v1 => (if v1.1 = 0 then (some ((-1), v1.2)) else ((f_Sc_stands 303 x5 v1.2).bind fun v2 => (if v2 = 0 then (some ((-1), v1.2)) else (if x6 = 0 then ((f_Ou_bestSwept 303 x5 v1.2).bind fun v3 => (some (v3.1, v3.2))) else if x6 = 1 then ((f_Ou_heavier 303 x5 v1.2).bind fun v5 => (some (v5.1, v5.2))) else if x6 = 2 then ((f_Ou_latestLeave 303 x5 v1.2).bind fun v7 => (some (v7.1, v7.2))) else (some ((-1), v1.2))))))
theorem g_I_shopping {w : ia_O0} {x1 : Int32} {x2 : Int32} {x3 : Int32} {x4 : Int32} {x5 : Int32} {x6 : Int32} {h : ia_H} (hg : gd_ w h) {q : (Int32 × ia_H)} (hm : f_I_shopping x1 x2 x3 x4 x5 x6 h = some q) : gd_ w q.2 := by
  obtain ⟨r, h1⟩ := q
  unfold f_I_shopping at hm
  obtain ⟨v1, hv1, hm⟩ := ia_bnd hm
  have gv1 := g_I_stage hg hv1
  by_cases c : v1.1 = 0
  · replace hm := ia_ifp hm c
    obtain ⟨rfl, rfl⟩ := Prod.mk.inj (Option.some.inj hm)
    exact gv1
  · replace hm := ia_ifn hm c
    obtain ⟨v2, hv2, hm⟩ := ia_bnd hm
    by_cases c : v2 = 0
    · replace hm := ia_ifp hm c
      obtain ⟨rfl, rfl⟩ := Prod.mk.inj (Option.some.inj hm)
      exact gv1
    · replace hm := ia_ifn hm c
      by_cases c4 : x6 = 0
      · replace hm := ia_ifp hm c4
        obtain ⟨v3, hv3, hm⟩ := ia_bnd hm
        have gv3 := g_Ou_bestSwept gv1 (ka_0_4 pk_64) hv3
        obtain ⟨rfl, rfl⟩ := Prod.mk.inj (Option.some.inj hm)
        exact gv3
      · replace hm := ia_ifn hm c4
        by_cases c6 : x6 = 1
        · replace hm := ia_ifp hm c6
          obtain ⟨v5, hv5, hm⟩ := ia_bnd hm
          have gv5 := g_Ou_heavier gv1 (ka_0_4 pk_64) hv5
          obtain ⟨rfl, rfl⟩ := Prod.mk.inj (Option.some.inj hm)
          exact gv5
        · replace hm := ia_ifn hm c6
          by_cases c8 : x6 = 2
          · replace hm := ia_ifp hm c8
            obtain ⟨v7, hv7, hm⟩ := ia_bnd hm
            have gv7 := g_Ou_latestLeave gv1 (ka_0_4 pk_64) hv7
            obtain ⟨rfl, rfl⟩ := Prod.mk.inj (Option.some.inj hm)
            exact gv7
          · replace hm := ia_ifn hm c8
            obtain ⟨rfl, rfl⟩ := Prod.mk.inj (Option.some.inj hm)
            exact gv1
theorem t_I_shopping {w : ia_O0} (d : Nat) {x1 : Int32} {x2 : Int32} {x3 : Int32} {x4 : Int32} {x5 : Int32} {x6 : Int32} {h : ia_H} (hg : gd_ w h) {q : (Int32 × ia_H)} (hm : f_I_shopping x1 x2 x3 x4 x5 x6 h = some q) : ia_Ev (d + 7) mm_I_shopping [.inr (.inr 64), .inl x1, .inl x2, .inl x3, .inl x4, .inl x5, .inl x6] h (some (.inl q.1)) q.2 := by
  have gq := g_I_shopping hg hm
  refine ia_Ev_intro ok_I_shopping (gd_le hg gq).1 (gd_le hg gq).2 (Nat.le_of_ble_eq_true rfl) (fun K hK hret => ?_)
  obtain ⟨r, h1⟩ := q
  show K 0 [some (.inr (.inr 64)), some (.inl x1), some (.inl x2), some (.inl x3), some (.inl x4), some (.inl x5), some (.inl x6)] [] h
  unfold f_I_shopping at hm
  refine ia_go hK ck_I_shopping_0 ?_
  show K 6 [some (.inr (.inr 64)), some (.inl x1), some (.inl x2), some (.inl x3), some (.inl x4), some (.inl x5), some (.inl x6)] [.inl x4, .inl x3, .inl x2, .inl x1, .inr (.inr 64)] h
  obtain ⟨v1, hv1, hm⟩ := ia_bnd hm
  have ev1 := t_I_stage (d + 0) hg hv1
  have gv1 := g_I_stage hg hv1
  refine ia_cV hK mk_I_stage lk_0_266 dc_I_shopping_6 64 [.inl x1, .inl x2, .inl x3, .inl x4] [] rfl rfl (Nat.le_of_ble_eq_true rfl) (by decide) rfl (gk_0 hg pk_64) ev1 (gd_nm hg gv1) ?_
  show K 9 [some (.inr (.inr 64)), some (.inl x1), some (.inl x2), some (.inl x3), some (.inl x4), some (.inl x5), some (.inl x6)] [.inl v1.1] v1.2
  refine ia_go hK ck_I_shopping_9 ⟨fun c => ?_, fun c => ?_⟩
  · replace hm := ia_ifp hm c
    show K 24 [some (.inr (.inr 64)), some (.inl x1), some (.inl x2), some (.inl x3), some (.inl x4), some (.inl x5), some (.inl x6)] [] v1.2
    refine ia_go hK ck_I_shopping_24 ?_
    show K 25 [some (.inr (.inr 64)), some (.inl x1), some (.inl x2), some (.inl x3), some (.inl x4), some (.inl x5), some (.inl x6)] [.inl (-1)] v1.2
    obtain ⟨rfl, rfl⟩ := Prod.mk.inj (Option.some.inj hm)
    exact hret 25 _ dc_I_shopping_25
  · replace hm := ia_ifn hm c
    show K 12 [some (.inr (.inr 64)), some (.inl x1), some (.inl x2), some (.inl x3), some (.inl x4), some (.inl x5), some (.inl x6)] [] v1.2
    refine ia_go hK ck_I_shopping_12 ⟨gk_0 gv1 pk_64, gr_0_4 gv1 pk_64, ?_⟩
    show K 18 [some (.inr (.inr 64)), some (.inl x1), some (.inl x2), some (.inl x3), some (.inl x4), some (.inl x5), some (.inl x6)] [.inl x5, .inr (.inr 303)] v1.2
    obtain ⟨v2, hv2, hm⟩ := ia_bnd hm
    have ev2 := t_Sc_stands (d + 6) gv1 (ka_0_4 pk_64) hv2
    refine ia_cV hK mk_Sc_stands lk_0_347 dc_I_shopping_18 303 [.inl x5] [] rfl rfl (Nat.le_of_ble_eq_true rfl) (by decide) rfl (gk_9 gv1 (ka_0_4 pk_64)) ev2 ⟨rfl, rfl⟩ ?_
    show K 21 [some (.inr (.inr 64)), some (.inl x1), some (.inl x2), some (.inl x3), some (.inl x4), some (.inl x5), some (.inl x6)] [.inl v2] v1.2
    refine ia_go hK ck_I_shopping_21 ⟨fun c => ?_, fun c => ?_⟩
    · replace hm := ia_ifn hm c
      show K 26 [some (.inr (.inr 64)), some (.inl x1), some (.inl x2), some (.inl x3), some (.inl x4), some (.inl x5), some (.inl x6)] [] v1.2
      refine ia_go hK ck_I_shopping_26 ?_
      show K (ia_tsw 28 70 0 2 #[28, 42, 56] x6) [some (.inr (.inr 64)), some (.inl x1), some (.inl x2), some (.inl x3), some (.inl x4), some (.inl x5), some (.inl x6)] [] v1.2
      by_cases c4 : x6 = 0
      · replace hm := ia_ifp hm c4
        rw [show ia_tsw 28 70 0 2 #[28, 42, 56] x6 = 56 from by rw [c4]; decide]
        refine ia_go hK ck_I_shopping_56 ⟨gk_0 gv1 pk_64, gr_0_7 gv1 pk_64, gk_0 gv1 pk_64, gr_0_4 gv1 pk_64, ?_⟩
        show K 66 [some (.inr (.inr 64)), some (.inl x1), some (.inl x2), some (.inl x3), some (.inl x4), some (.inl x5), some (.inl x6)] [.inl x5, .inr (.inr 303), .inr (.inr 326)] v1.2
        obtain ⟨v3, hv3, hm⟩ := ia_bnd hm
        have ev3 := t_Ou_bestSwept (d + 1) gv1 (ka_0_4 pk_64) hv3
        have gv3 := g_Ou_bestSwept gv1 (ka_0_4 pk_64) hv3
        refine ia_cV hK mk_Ou_bestSwept lk_0_423 dc_I_shopping_66 326 [.inr (.inr 303), .inl x5] [] rfl rfl (Nat.le_of_ble_eq_true rfl) (by decide) rfl (gk_5 gv1 (ka_0_7 pk_64)) ev3 (gd_nm gv1 gv3) ?_
        show K 69 [some (.inr (.inr 64)), some (.inl x1), some (.inl x2), some (.inl x3), some (.inl x4), some (.inl x5), some (.inl x6)] [.inl v3.1] v3.2
        obtain ⟨rfl, rfl⟩ := Prod.mk.inj (Option.some.inj hm)
        exact hret 69 _ dc_I_shopping_69
      · replace hm := ia_ifn hm c4
        by_cases c6 : x6 = 1
        · replace hm := ia_ifp hm c6
          rw [show ia_tsw 28 70 0 2 #[28, 42, 56] x6 = 70 from by rw [c6]; decide]
          refine ia_go hK ck_I_shopping_70 ⟨gk_0 gv1 pk_64, gr_0_7 gv1 pk_64, gk_0 gv1 pk_64, gr_0_4 gv1 pk_64, ?_⟩
          show K 80 [some (.inr (.inr 64)), some (.inl x1), some (.inl x2), some (.inl x3), some (.inl x4), some (.inl x5), some (.inl x6)] [.inl x5, .inr (.inr 303), .inr (.inr 326)] v1.2
          obtain ⟨v5, hv5, hm⟩ := ia_bnd hm
          have ev5 := t_Ou_heavier (d + 3) gv1 (ka_0_4 pk_64) hv5
          have gv5 := g_Ou_heavier gv1 (ka_0_4 pk_64) hv5
          refine ia_cV hK mk_Ou_heavier lk_0_426 dc_I_shopping_80 326 [.inr (.inr 303), .inl x5] [] rfl rfl (Nat.le_of_ble_eq_true rfl) (by decide) rfl (gk_5 gv1 (ka_0_7 pk_64)) ev5 (gd_nm gv1 gv5) ?_
          show K 83 [some (.inr (.inr 64)), some (.inl x1), some (.inl x2), some (.inl x3), some (.inl x4), some (.inl x5), some (.inl x6)] [.inl v5.1] v5.2
          obtain ⟨rfl, rfl⟩ := Prod.mk.inj (Option.some.inj hm)
          exact hret 83 _ dc_I_shopping_83
        · replace hm := ia_ifn hm c6
          by_cases c8 : x6 = 2
          · replace hm := ia_ifp hm c8
            rw [show ia_tsw 28 70 0 2 #[28, 42, 56] x6 = 84 from by rw [c8]; decide]
            refine ia_go hK ck_I_shopping_84 ⟨gk_0 gv1 pk_64, gr_0_7 gv1 pk_64, gk_0 gv1 pk_64, gr_0_4 gv1 pk_64, ?_⟩
            show K 94 [some (.inr (.inr 64)), some (.inl x1), some (.inl x2), some (.inl x3), some (.inl x4), some (.inl x5), some (.inl x6)] [.inl x5, .inr (.inr 303), .inr (.inr 326)] v1.2
            obtain ⟨v7, hv7, hm⟩ := ia_bnd hm
            have ev7 := t_Ou_latestLeave (d + 2) gv1 (ka_0_4 pk_64) hv7
            have gv7 := g_Ou_latestLeave gv1 (ka_0_4 pk_64) hv7
            refine ia_cV hK mk_Ou_latestLeave lk_0_429 dc_I_shopping_94 326 [.inr (.inr 303), .inl x5] [] rfl rfl (Nat.le_of_ble_eq_true rfl) (by decide) rfl (gk_5 gv1 (ka_0_7 pk_64)) ev7 (gd_nm gv1 gv7) ?_
            show K 97 [some (.inr (.inr 64)), some (.inl x1), some (.inl x2), some (.inl x3), some (.inl x4), some (.inl x5), some (.inl x6)] [.inl v7.1] v7.2
            obtain ⟨rfl, rfl⟩ := Prod.mk.inj (Option.some.inj hm)
            exact hret 97 _ dc_I_shopping_97
          · replace hm := ia_ifn hm c8
            rw [show ia_tsw 28 70 0 2 #[28, 42, 56] x6 = 98 from (ia_tsw_d (fun k h1 h2 => by
                rcases (show k = 0 ∨ k = 1 ∨ k = 2 by omega) with rfl | rfl | rfl
                · exact c4
                · exact c6
                · exact c8
                )).trans (by decide)]
            refine ia_go hK ck_I_shopping_98 ?_
            show K 99 [some (.inr (.inr 64)), some (.inl x1), some (.inl x2), some (.inl x3), some (.inl x4), some (.inl x5), some (.inl x6)] [.inl (-1)] v1.2
            obtain ⟨rfl, rfl⟩ := Prod.mk.inj (Option.some.inj hm)
            exact hret 99 _ dc_I_shopping_99
    · replace hm := ia_ifp hm c
      show K 24 [some (.inr (.inr 64)), some (.inl x1), some (.inl x2), some (.inl x3), some (.inl x4), some (.inl x5), some (.inl x6)] [] v1.2
      refine ia_go hK ck_I_shopping_24 ?_
      show K 25 [some (.inr (.inr 64)), some (.inl x1), some (.inl x2), some (.inl x3), some (.inl x4), some (.inl x5), some (.inl x6)] [.inl (-1)] v1.2
      obtain ⟨rfl, rfl⟩ := Prod.mk.inj (Option.some.inj hm)
      exact hret 25 _ dc_I_shopping_25
def mm_Ou_fallsByFrost : ia_M := (⟨"IceStreet$Outlook", "fallsByFrost", "(LIceStreet$Scene;III)Z"⟩, prog_6_method_13_code, 6, (some .boolean), 5, false)
theorem ok_Ou_fallsByFrost : ia_mok mm_Ou_fallsByFrost := ⟨by decide +kernel, by decide +kernel, by decide +kernel, by decide +kernel⟩
theorem mk_Ou_fallsByFrost : ia_mkn mm_Ou_fallsByFrost 1 4 := ⟨ia_tb_in (List.mem_of_getElem? (i := 1549) (by decide +kernel)) rfl, ia_tb_in (List.mem_of_getElem? (i := 143) (by decide +kernel)) rfl, by decide +kernel, by decide +kernel, ⟨ia_tb_in (List.mem_of_getElem? (i := 1548) (by decide +kernel)) rfl, ia_tb_in (List.mem_of_getElem? (i := 49) (by decide +kernel)) rfl⟩⟩
theorem ck_Ou_fallsByFrost_0 : ia_cks 5 6 false prog_6_method_13_code 0 [(.aload_n 0, 0, 0, 0, 0), (.getfield 27, 5, 1, 3, 3), (.aload_n 1, 0, 0, 0, 0)] = true := by decide +kernel
theorem ck_Ou_fallsByFrost_8 : ia_cks 5 6 false prog_6_method_13_code 8 [(.iconst 0, 0, 0, 0, 0), (.istore 5, 0, 0, 0, 0)] = true := by decide +kernel
theorem ck_Ou_fallsByFrost_11 : ia_cks 5 6 false prog_6_method_13_code 11 [(.iload 5, 0, 0, 0, 0), (.iload 4, 0, 0, 0, 0), (.if_icmp .ge 28, 0, 0, 0, 0)] = true := by decide +kernel
theorem ck_Ou_fallsByFrost_18 : ia_cks 5 6 false prog_6_method_13_code 18 [(.aload_n 0, 0, 0, 0, 0), (.getfield 27, 5, 1, 3, 3), (.iload_n 2, 0, 0, 0, 0)] = true := by decide +kernel
theorem ck_Ou_fallsByFrost_26 : ia_cks 5 6 false prog_6_method_13_code 26 [(.ifCond .eq 17, 0, 0, 0, 0)] = true := by decide +kernel
theorem ck_Ou_fallsByFrost_29 : ia_cks 5 6 false prog_6_method_13_code 29 [(.aload_n 0, 0, 0, 0, 0), (.getfield 27, 5, 1, 3, 3), (.iload_n 3, 0, 0, 0, 0)] = true := by decide +kernel
theorem ck_Ou_fallsByFrost_37 : ia_cks 5 6 false prog_6_method_13_code 37 [(.iinc 5 1, 0, 0, 0, 0), (.goto (-29), 0, 0, 0, 0)] = true := by decide +kernel
theorem ck_Ou_fallsByFrost_43 : ia_cks 5 6 false prog_6_method_13_code 43 [(.aload_n 0, 0, 0, 0, 0), (.getfield 27, 5, 1, 3, 3), (.iload_n 2, 0, 0, 0, 0)] = true := by decide +kernel
theorem ck_Ou_fallsByFrost_51 : ia_cks 5 6 false prog_6_method_13_code 51 [(.ifCond .ne 7, 0, 0, 0, 0)] = true := by decide +kernel
theorem ck_Ou_fallsByFrost_58 : ia_cks 5 6 false prog_6_method_13_code 58 [(.iconst 0, 0, 0, 0, 0)] = true := by decide +kernel
theorem ck_Ou_fallsByFrost_54 : ia_cks 5 6 false prog_6_method_13_code 54 [(.iconst 1, 0, 0, 0, 0), (.goto 4, 0, 0, 0, 0)] = true := by decide +kernel
theorem dc_Ou_fallsByFrost_5 : decode prog_6_method_13_code 5 = .ok (.invokevirtual 34, 3) := by decide +kernel
theorem dc_Ou_fallsByFrost_23 : decode prog_6_method_13_code 23 = .ok (.invokevirtual 38, 3) := by decide +kernel
theorem dc_Ou_fallsByFrost_34 : decode prog_6_method_13_code 34 = .ok (.invokevirtual 46, 3) := by decide +kernel
theorem dc_Ou_fallsByFrost_48 : decode prog_6_method_13_code 48 = .ok (.invokevirtual 38, 3) := by decide +kernel
theorem dc_Ou_fallsByFrost_59 : decode prog_6_method_13_code 59 = .ok (.ireturn, 1) := by decide +kernel
def l_Ou_fallsByFrost_11 (a1 : Nat) (x2 : Int32) (x3 : Int32) (x4 : Int32) (k43 : ia_H → Option (Int32 × ia_H)) (n : Nat) (x5 : Int32) (h : ia_H) : Option (Int32 × ia_H) := match n with
  | 0 => none
  | n + 1 => if x4 ≤ x5 then (k43 h) else ((f_Sc_stands 329 x2 h).bind fun v2 => (if v2 = 0 then (k43 h) else ((f_Sc_passDayUnderShops 329 x3 h).bind fun v3 => (l_Ou_fallsByFrost_11 a1 x2 x3 x4 k43 n (x5 + 1) v3))))
theorem tl_Ou_fallsByFrost_11 {w : ia_O0} {d N1 W1 : Nat} {K : ia_K} (hK : ia_isK (d + 4) mm_Ou_fallsByFrost N1 W1 K) {a1 : Nat} {x2 : Int32} {x3 : Int32} {x4 : Int32} (p1 : (kd_D a1).1 = 9) {r : Int32} {h1 : ia_H} (hret : ∀ (pc : Nat) (lv : ia_L), ia_ret mm_Ou_fallsByFrost pc (some (.inl r)) → K pc lv ((some (.inl r)) : Option ia_V).toList h1) {k43 : ia_H → Option (Int32 × ia_H)} (hk43 : ∀ (h : ia_H), gd_ w h → k43 h = some (r, h1) → K 43 [some (.inr (.inr 326)), none, some (.inl x2), none, none, none] [] h) : ∀ (n : Nat) (x5 : Int32) (h : ia_H), gd_ w h → l_Ou_fallsByFrost_11 a1 x2 x3 x4 k43 n x5 h = some (r, h1) → K 11 [some (.inr (.inr 326)), none, some (.inl x2), some (.inl x3), some (.inl x4), some (.inl x5)] [] h := by
  intro n
  induction n with
  | zero =>
    intro x5 h hg hm
    cases (show (none : Option (Int32 × ia_H)) = some _ from hm)
  | succ n ih =>
    intro x5 h hg hm
    rw [l_Ou_fallsByFrost_11] at hm
    refine ia_go hK ck_Ou_fallsByFrost_11 ⟨fun c => ?_, fun c => ?_⟩
    · replace hm := ia_ifp hm c
      show K 43 [some (.inr (.inr 326)), none, some (.inl x2), some (.inl x3), some (.inl x4), some (.inl x5)] [] h
      refine ia_fg hK (lv' := [some (.inr (.inr 326)), none, some (.inl x2), none, none, none]) ⟨rfl, rfl, trivial⟩ ?_
      exact hk43 h hg hm
    · replace hm := ia_ifn hm c
      show K 18 [some (.inr (.inr 326)), none, some (.inl x2), some (.inl x3), some (.inl x4), some (.inl x5)] [] h
      refine ia_go hK ck_Ou_fallsByFrost_18 ⟨gk_5 hg pk_326, gr_5_1 hg pk_326, ?_⟩
      show K 23 [some (.inr (.inr 326)), none, some (.inl x2), some (.inl x3), some (.inl x4), some (.inl x5)] [.inl x2, .inr (.inr 329)] h
      obtain ⟨v2, hv2, hm⟩ := ia_bnd hm
      have ev2 := t_Sc_stands (d + 3) hg (ka_5_1 pk_326) hv2
      refine ia_cV hK mk_Sc_stands lk_5_38 dc_Ou_fallsByFrost_23 329 [.inl x2] [] rfl rfl (Nat.le_of_ble_eq_true rfl) (by decide) rfl (gk_9 hg (ka_5_1 pk_326)) ev2 ⟨rfl, rfl⟩ ?_
      show K 26 [some (.inr (.inr 326)), none, some (.inl x2), some (.inl x3), some (.inl x4), some (.inl x5)] [.inl v2] h
      refine ia_go hK ck_Ou_fallsByFrost_26 ⟨fun c => ?_, fun c => ?_⟩
      · replace hm := ia_ifp hm c
        show K 43 [some (.inr (.inr 326)), none, some (.inl x2), some (.inl x3), some (.inl x4), some (.inl x5)] [] h
        refine ia_fg hK (lv' := [some (.inr (.inr 326)), none, some (.inl x2), none, none, none]) ⟨rfl, rfl, trivial⟩ ?_
        exact hk43 h hg hm
      · replace hm := ia_ifn hm c
        show K 29 [some (.inr (.inr 326)), none, some (.inl x2), some (.inl x3), some (.inl x4), some (.inl x5)] [] h
        refine ia_go hK ck_Ou_fallsByFrost_29 ⟨gk_5 hg pk_326, gr_5_1 hg pk_326, ?_⟩
        show K 34 [some (.inr (.inr 326)), none, some (.inl x2), some (.inl x3), some (.inl x4), some (.inl x5)] [.inl x3, .inr (.inr 329)] h
        obtain ⟨v3, hv3, hm⟩ := ia_bnd hm
        have ev3 := t_Sc_passDayUnderShops (d + 0) hg (ka_5_1 pk_326) hv3
        have gv3 := g_Sc_passDayUnderShops hg (ka_5_1 pk_326) hv3
        refine ia_cV hK mk_Sc_passDayUnderShops lk_5_46 dc_Ou_fallsByFrost_34 329 [.inl x3] [] rfl rfl (Nat.le_of_ble_eq_true rfl) (by decide) rfl (gk_9 hg (ka_5_1 pk_326)) ev3 (gd_nm hg gv3) ?_
        show K 37 [some (.inr (.inr 326)), none, some (.inl x2), some (.inl x3), some (.inl x4), some (.inl x5)] [] v3
        refine ia_go hK ck_Ou_fallsByFrost_37 ?_
        show K 11 [some (.inr (.inr 326)), none, some (.inl x2), some (.inl x3), some (.inl x4), some (.inl (x5 + 1))] [] v3
        exact ih (x5 + 1) v3 gv3 hm
theorem gl_Ou_fallsByFrost_11 {w : ia_O0} {a1 : Nat} {x2 : Int32} {x3 : Int32} {x4 : Int32} (p1 : (kd_D a1).1 = 9) {r : Int32} {h1 : ia_H} {k43 : ia_H → Option (Int32 × ia_H)} (hk43 : ∀ (h : ia_H), gd_ w h → k43 h = some (r, h1) → gd_ w h1) : ∀ (n : Nat) (x5 : Int32) (h : ia_H), gd_ w h → l_Ou_fallsByFrost_11 a1 x2 x3 x4 k43 n x5 h = some (r, h1) → gd_ w h1 := by
  intro n
  induction n with
  | zero =>
    intro x5 h hg hm
    cases (show (none : Option (Int32 × ia_H)) = some _ from hm)
  | succ n ih =>
    intro x5 h hg hm
    rw [l_Ou_fallsByFrost_11] at hm
    by_cases c : x4 ≤ x5
    · replace hm := ia_ifp hm c
      exact hk43 h hg hm
    · replace hm := ia_ifn hm c
      obtain ⟨v2, hv2, hm⟩ := ia_bnd hm
      by_cases c : v2 = 0
      · replace hm := ia_ifp hm c
        exact hk43 h hg hm
      · replace hm := ia_ifn hm c
        obtain ⟨v3, hv3, hm⟩ := ia_bnd hm
        have gv3 := g_Sc_passDayUnderShops hg (ka_5_1 pk_326) hv3
        exact ih (x5 + 1) v3 gv3 hm
def j_Ou_fallsByFrost_43 (a1 : Nat) (x2 : Int32) (x3 : Int32) (x4 : Int32) (h : ia_H) : Option (Int32 × ia_H) := (f_Sc_stands 329 x2 h).bind fun v4 => (if v4 = 0 then (some (1, h)) else (some (0, h)))
theorem tj_Ou_fallsByFrost_43 {w : ia_O0} {d N1 W1 : Nat} {K : ia_K} (hK : ia_isK (d + 4) mm_Ou_fallsByFrost N1 W1 K) {a1 : Nat} {x2 : Int32} {x3 : Int32} {x4 : Int32} (p1 : (kd_D a1).1 = 9) {r : Int32} {h1 : ia_H} (hret : ∀ (pc : Nat) (lv : ia_L), ia_ret mm_Ou_fallsByFrost pc (some (.inl r)) → K pc lv ((some (.inl r)) : Option ia_V).toList h1) : ∀ (h : ia_H), gd_ w h → j_Ou_fallsByFrost_43 a1 x2 x3 x4 h = some (r, h1) → K 43 [some (.inr (.inr 326)), none, some (.inl x2), none, none, none] [] h := by
  intro h hg hm
  unfold j_Ou_fallsByFrost_43 at hm
  refine ia_go hK ck_Ou_fallsByFrost_43 ⟨gk_5 hg pk_326, gr_5_1 hg pk_326, ?_⟩
  show K 48 [some (.inr (.inr 326)), none, some (.inl x2), none, none, none] [.inl x2, .inr (.inr 329)] h
  obtain ⟨v4, hv4, hm⟩ := ia_bnd hm
  have ev4 := t_Sc_stands (d + 3) hg (ka_5_1 pk_326) hv4
  refine ia_cV hK mk_Sc_stands lk_5_38 dc_Ou_fallsByFrost_48 329 [.inl x2] [] rfl rfl (Nat.le_of_ble_eq_true rfl) (by decide) rfl (gk_9 hg (ka_5_1 pk_326)) ev4 ⟨rfl, rfl⟩ ?_
  show K 51 [some (.inr (.inr 326)), none, some (.inl x2), none, none, none] [.inl v4] h
  refine ia_go hK ck_Ou_fallsByFrost_51 ⟨fun c => ?_, fun c => ?_⟩
  · replace hm := ia_ifn hm c
    show K 58 [some (.inr (.inr 326)), none, some (.inl x2), none, none, none] [] h
    refine ia_go hK ck_Ou_fallsByFrost_58 ?_
    show K 59 [some (.inr (.inr 326)), none, some (.inl x2), none, none, none] [.inl 0] h
    obtain ⟨rfl, rfl⟩ := Prod.mk.inj (Option.some.inj hm)
    exact hret 59 _ ⟨Or.inl rfl, dc_Ou_fallsByFrost_59⟩
  · replace hm := ia_ifp hm c
    show K 54 [some (.inr (.inr 326)), none, some (.inl x2), none, none, none] [] h
    refine ia_go hK ck_Ou_fallsByFrost_54 ?_
    show K 59 [some (.inr (.inr 326)), none, some (.inl x2), none, none, none] [.inl 1] h
    obtain ⟨rfl, rfl⟩ := Prod.mk.inj (Option.some.inj hm)
    exact hret 59 _ ⟨Or.inr rfl, dc_Ou_fallsByFrost_59⟩
theorem gj_Ou_fallsByFrost_43 {w : ia_O0} {a1 : Nat} {x2 : Int32} {x3 : Int32} {x4 : Int32} (p1 : (kd_D a1).1 = 9) {r : Int32} {h1 : ia_H} : ∀ (h : ia_H), gd_ w h → j_Ou_fallsByFrost_43 a1 x2 x3 x4 h = some (r, h1) → gd_ w h1 := by
  intro h hg hm
  unfold j_Ou_fallsByFrost_43 at hm
  obtain ⟨v4, hv4, hm⟩ := ia_bnd hm
  by_cases c : v4 = 0
  · replace hm := ia_ifp hm c
    obtain ⟨rfl, rfl⟩ := Prod.mk.inj (Option.some.inj hm)
    exact hg
  · replace hm := ia_ifn hm c
    obtain ⟨rfl, rfl⟩ := Prod.mk.inj (Option.some.inj hm)
    exact hg
def f_Ou_fallsByFrost (a1 : Nat) (x2 : Int32) (x3 : Int32) (x4 : Int32) (h : ia_H) : Option (Int32 × ia_H) := (f_Sc_become 329 a1 h).bind fun v1 => (l_Ou_fallsByFrost_11 a1 x2 x3 x4 (fun h => j_Ou_fallsByFrost_43 a1 x2 x3 x4 h) fu_ 0 v1)
theorem g_Ou_fallsByFrost {w : ia_O0} {a1 : Nat} {x2 : Int32} {x3 : Int32} {x4 : Int32} {h : ia_H} (hg : gd_ w h) (p1 : (kd_D a1).1 = 9) {q : (Int32 × ia_H)} (hm : f_Ou_fallsByFrost a1 x2 x3 x4 h = some q) : gd_ w q.2 := by
  obtain ⟨r, h1⟩ := q
  unfold f_Ou_fallsByFrost at hm
  obtain ⟨v1, hv1, hm⟩ := ia_bnd hm
  have gv1 := g_Sc_become hg (ka_5_1 pk_326) p1 hv1
  refine gl_Ou_fallsByFrost_11 p1 ?_ fu_ 0 v1 gv1 hm
  · intro h hg hm
    exact gj_Ou_fallsByFrost_43 p1 h hg hm
theorem t_Ou_fallsByFrost {w : ia_O0} (d : Nat) {a1 : Nat} {x2 : Int32} {x3 : Int32} {x4 : Int32} {h : ia_H} (hg : gd_ w h) (p1 : (kd_D a1).1 = 9) {q : (Int32 × ia_H)} (hm : f_Ou_fallsByFrost a1 x2 x3 x4 h = some q) : ia_Ev (d + 4) mm_Ou_fallsByFrost [.inr (.inr 326), .inr (.inr a1), .inl x2, .inl x3, .inl x4] h (some (.inl q.1)) q.2 := by
  have gq := g_Ou_fallsByFrost hg p1 hm
  refine ia_Ev_intro ok_Ou_fallsByFrost (gd_le hg gq).1 (gd_le hg gq).2 (Nat.le_of_ble_eq_true rfl) (fun K hK hret => ?_)
  obtain ⟨r, h1⟩ := q
  show K 0 [some (.inr (.inr 326)), some (.inr (.inr a1)), some (.inl x2), some (.inl x3), some (.inl x4), none] [] h
  unfold f_Ou_fallsByFrost at hm
  refine ia_go hK ck_Ou_fallsByFrost_0 ⟨gk_5 hg pk_326, gr_5_1 hg pk_326, ?_⟩
  show K 5 [some (.inr (.inr 326)), some (.inr (.inr a1)), some (.inl x2), some (.inl x3), some (.inl x4), none] [.inr (.inr a1), .inr (.inr 329)] h
  obtain ⟨v1, hv1, hm⟩ := ia_bnd hm
  have ev1 := t_Sc_become (d + 3) hg (ka_5_1 pk_326) p1 hv1
  have gv1 := g_Sc_become hg (ka_5_1 pk_326) p1 hv1
  refine ia_cV hK mk_Sc_become lk_5_34 dc_Ou_fallsByFrost_5 329 [.inr (.inr a1)] [] rfl rfl (Nat.le_of_ble_eq_true rfl) (by decide) rfl (gk_9 hg (ka_5_1 pk_326)) ev1 (gd_nm hg gv1) ?_
  show K 8 [some (.inr (.inr 326)), some (.inr (.inr a1)), some (.inl x2), some (.inl x3), some (.inl x4), none] [] v1
  refine ia_go hK ck_Ou_fallsByFrost_8 ?_
  show K 11 [some (.inr (.inr 326)), some (.inr (.inr a1)), some (.inl x2), some (.inl x3), some (.inl x4), some (.inl 0)] [] v1
  refine ia_fg hK (lv' := [some (.inr (.inr 326)), none, some (.inl x2), some (.inl x3), some (.inl x4), some (.inl 0)]) ⟨rfl, rfl, rfl, rfl, rfl, trivial⟩ ?_
  refine tl_Ou_fallsByFrost_11 hK p1 hret ?_ fu_ 0 v1 gv1 hm
  · intro h hg hm
    exact tj_Ou_fallsByFrost_43 hK p1 hret h hg hm
def mm_Ou_leastFrost : ia_M := (⟨"IceStreet$Outlook", "leastFrost", "(LIceStreet$Scene;II)I"⟩, prog_6_method_14_code, 5, (some .int), 5, false)
theorem ok_Ou_leastFrost : ia_mok mm_Ou_leastFrost := ⟨by decide +kernel, by decide +kernel, by decide +kernel, by decide +kernel⟩
theorem mk_Ou_leastFrost : ia_mkn mm_Ou_leastFrost 1 3 := ⟨ia_tb_in (List.mem_of_getElem? (i := 1545) (by decide +kernel)) rfl, ia_tb_in (List.mem_of_getElem? (i := 143) (by decide +kernel)) rfl, by decide +kernel, by decide +kernel, ⟨ia_tb_in (List.mem_of_getElem? (i := 1543) (by decide +kernel)) rfl, ia_tb_in (List.mem_of_getElem? (i := 1544) (by decide +kernel)) rfl⟩⟩
theorem ck_Ou_leastFrost_0 : ia_cks 5 5 false prog_6_method_14_code 0 [(.bipush (-20), 0, 0, 0, 0), (.istore 4, 0, 0, 0, 0)] = true := by decide +kernel
theorem ck_Ou_leastFrost_4 : ia_cks 5 5 false prog_6_method_14_code 4 [(.iload 4, 0, 0, 0, 0), (.bipush 20, 0, 0, 0, 0), (.if_icmp .gt 24, 0, 0, 0, 0)] = true := by decide +kernel
theorem ck_Ou_leastFrost_11 : ia_cks 5 5 false prog_6_method_14_code 11 [(.aload_n 0, 0, 0, 0, 0), (.aload_n 1, 0, 0, 0, 0), (.iload_n 2, 0, 0, 0, 0), (.iload 4, 0, 0, 0, 0), (.iload_n 3, 0, 0, 0, 0)] = true := by decide +kernel
theorem ck_Ou_leastFrost_20 : ia_cks 5 5 false prog_6_method_14_code 20 [(.ifCond .ne 6, 0, 0, 0, 0)] = true := by decide +kernel
theorem ck_Ou_leastFrost_26 : ia_cks 5 5 false prog_6_method_14_code 26 [(.iinc 4 1, 0, 0, 0, 0), (.goto (-25), 0, 0, 0, 0)] = true := by decide +kernel
theorem ck_Ou_leastFrost_23 : ia_cks 5 5 false prog_6_method_14_code 23 [(.iload 4, 0, 0, 0, 0)] = true := by decide +kernel
theorem ck_Ou_leastFrost_32 : ia_cks 5 5 false prog_6_method_14_code 32 [(.bipush (-100), 0, 0, 0, 0)] = true := by decide +kernel
theorem dc_Ou_leastFrost_17 : decode prog_6_method_14_code 17 = .ok (.invokevirtual 154, 3) := by decide +kernel
theorem dc_Ou_leastFrost_25 : decode prog_6_method_14_code 25 = .ok (.ireturn, 1) := by decide +kernel
theorem dc_Ou_leastFrost_34 : decode prog_6_method_14_code 34 = .ok (.ireturn, 1) := by decide +kernel
def l_Ou_leastFrost_4 (a1 : Nat) (x2 : Int32) (x3 : Int32) (k23 : Int32 → ia_H → Option (Int32 × ia_H)) (k32 : ia_H → Option (Int32 × ia_H)) (n : Nat) (x4 : Int32) (h : ia_H) : Option (Int32 × ia_H) := match n with
  | 0 => none
  | n + 1 => if 20 < x4 then (k32 h) else ((f_Ou_fallsByFrost a1 x2 x4 x3 h).bind fun v1 => (if v1.1 = 0 then (k23 x4 v1.2) else (l_Ou_leastFrost_4 a1 x2 x3 k23 k32 n (x4 + 1) v1.2)))
theorem tl_Ou_leastFrost_4 {w : ia_O0} {d N1 W1 : Nat} {K : ia_K} (hK : ia_isK (d + 5) mm_Ou_leastFrost N1 W1 K) {a1 : Nat} {x2 : Int32} {x3 : Int32} (p1 : (kd_D a1).1 = 9) {r : Int32} {h1 : ia_H} (hret : ∀ (pc : Nat) (lv : ia_L), ia_ret mm_Ou_leastFrost pc (some (.inl r)) → K pc lv ((some (.inl r)) : Option ia_V).toList h1) {k23 : Int32 → ia_H → Option (Int32 × ia_H)} {k32 : ia_H → Option (Int32 × ia_H)} (hk23 : ∀ (x4 : Int32) (h : ia_H), gd_ w h → k23 x4 h = some (r, h1) → K 23 [none, none, none, none, some (.inl x4)] [] h) (hk32 : ∀ (h : ia_H), gd_ w h → k32 h = some (r, h1) → K 32 [none, none, none, none, none] [] h) : ∀ (n : Nat) (x4 : Int32) (h : ia_H), gd_ w h → l_Ou_leastFrost_4 a1 x2 x3 k23 k32 n x4 h = some (r, h1) → K 4 [some (.inr (.inr 326)), some (.inr (.inr a1)), some (.inl x2), some (.inl x3), some (.inl x4)] [] h := by
  intro n
  induction n with
  | zero =>
    intro x4 h hg hm
    cases (show (none : Option (Int32 × ia_H)) = some _ from hm)
  | succ n ih =>
    intro x4 h hg hm
    rw [l_Ou_leastFrost_4] at hm
    refine ia_go hK ck_Ou_leastFrost_4 ⟨fun c => ?_, fun c => ?_⟩
    · replace hm := ia_ifp hm c
      show K 32 [some (.inr (.inr 326)), some (.inr (.inr a1)), some (.inl x2), some (.inl x3), some (.inl x4)] [] h
      refine ia_fg hK (lv' := [none, none, none, none, none]) trivial ?_
      exact hk32 h hg hm
    · replace hm := ia_ifn hm c
      show K 11 [some (.inr (.inr 326)), some (.inr (.inr a1)), some (.inl x2), some (.inl x3), some (.inl x4)] [] h
      refine ia_go hK ck_Ou_leastFrost_11 ?_
      show K 17 [some (.inr (.inr 326)), some (.inr (.inr a1)), some (.inl x2), some (.inl x3), some (.inl x4)] [.inl x3, .inl x4, .inl x2, .inr (.inr a1), .inr (.inr 326)] h
      obtain ⟨v1, hv1, hm⟩ := ia_bnd hm
      have ev1 := t_Ou_fallsByFrost (d + 0) hg p1 hv1
      have gv1 := g_Ou_fallsByFrost hg p1 hv1
      refine ia_cV hK mk_Ou_fallsByFrost lk_5_154 dc_Ou_leastFrost_17 326 [.inr (.inr a1), .inl x2, .inl x4, .inl x3] [] rfl rfl (Nat.le_of_ble_eq_true rfl) (by decide) rfl (gk_5 hg pk_326) ev1 (gd_nm hg gv1) ?_
      show K 20 [some (.inr (.inr 326)), some (.inr (.inr a1)), some (.inl x2), some (.inl x3), some (.inl x4)] [.inl v1.1] v1.2
      refine ia_go hK ck_Ou_leastFrost_20 ⟨fun c => ?_, fun c => ?_⟩
      · replace hm := ia_ifn hm c
        show K 26 [some (.inr (.inr 326)), some (.inr (.inr a1)), some (.inl x2), some (.inl x3), some (.inl x4)] [] v1.2
        refine ia_go hK ck_Ou_leastFrost_26 ?_
        show K 4 [some (.inr (.inr 326)), some (.inr (.inr a1)), some (.inl x2), some (.inl x3), some (.inl (x4 + 1))] [] v1.2
        exact ih (x4 + 1) v1.2 gv1 hm
      · replace hm := ia_ifp hm c
        show K 23 [some (.inr (.inr 326)), some (.inr (.inr a1)), some (.inl x2), some (.inl x3), some (.inl x4)] [] v1.2
        refine ia_fg hK (lv' := [none, none, none, none, some (.inl x4)]) ⟨rfl, trivial⟩ ?_
        exact hk23 x4 v1.2 gv1 hm
theorem gl_Ou_leastFrost_4 {w : ia_O0} {a1 : Nat} {x2 : Int32} {x3 : Int32} (p1 : (kd_D a1).1 = 9) {r : Int32} {h1 : ia_H} {k23 : Int32 → ia_H → Option (Int32 × ia_H)} {k32 : ia_H → Option (Int32 × ia_H)} (hk23 : ∀ (x4 : Int32) (h : ia_H), gd_ w h → k23 x4 h = some (r, h1) → gd_ w h1) (hk32 : ∀ (h : ia_H), gd_ w h → k32 h = some (r, h1) → gd_ w h1) : ∀ (n : Nat) (x4 : Int32) (h : ia_H), gd_ w h → l_Ou_leastFrost_4 a1 x2 x3 k23 k32 n x4 h = some (r, h1) → gd_ w h1 := by
  intro n
  induction n with
  | zero =>
    intro x4 h hg hm
    cases (show (none : Option (Int32 × ia_H)) = some _ from hm)
  | succ n ih =>
    intro x4 h hg hm
    rw [l_Ou_leastFrost_4] at hm
    by_cases c : 20 < x4
    · replace hm := ia_ifp hm c
      exact hk32 h hg hm
    · replace hm := ia_ifn hm c
      obtain ⟨v1, hv1, hm⟩ := ia_bnd hm
      have gv1 := g_Ou_fallsByFrost hg p1 hv1
      by_cases c : v1.1 = 0
      · replace hm := ia_ifp hm c
        exact hk23 x4 v1.2 gv1 hm
      · replace hm := ia_ifn hm c
        exact ih (x4 + 1) v1.2 gv1 hm
def f_Ou_leastFrost (a1 : Nat) (x2 : Int32) (x3 : Int32) (h : ia_H) : Option (Int32 × ia_H) := l_Ou_leastFrost_4 a1 x2 x3 (fun x4 h => some (x4, h)) (fun h => some ((-100), h)) fu_ (-20) h
theorem g_Ou_leastFrost {w : ia_O0} {a1 : Nat} {x2 : Int32} {x3 : Int32} {h : ia_H} (hg : gd_ w h) (p1 : (kd_D a1).1 = 9) {q : (Int32 × ia_H)} (hm : f_Ou_leastFrost a1 x2 x3 h = some q) : gd_ w q.2 := by
  obtain ⟨r, h1⟩ := q
  unfold f_Ou_leastFrost at hm
  refine gl_Ou_leastFrost_4 p1 ?_ ?_ fu_ (-20) h hg hm
  · intro x4 h hg hm
    obtain ⟨rfl, rfl⟩ := Prod.mk.inj (Option.some.inj hm)
    exact hg
  · intro h hg hm
    obtain ⟨rfl, rfl⟩ := Prod.mk.inj (Option.some.inj hm)
    exact hg
theorem t_Ou_leastFrost {w : ia_O0} (d : Nat) {a1 : Nat} {x2 : Int32} {x3 : Int32} {h : ia_H} (hg : gd_ w h) (p1 : (kd_D a1).1 = 9) {q : (Int32 × ia_H)} (hm : f_Ou_leastFrost a1 x2 x3 h = some q) : ia_Ev (d + 5) mm_Ou_leastFrost [.inr (.inr 326), .inr (.inr a1), .inl x2, .inl x3] h (some (.inl q.1)) q.2 := by
  have gq := g_Ou_leastFrost hg p1 hm
  refine ia_Ev_intro ok_Ou_leastFrost (gd_le hg gq).1 (gd_le hg gq).2 (Nat.le_of_ble_eq_true rfl) (fun K hK hret => ?_)
  obtain ⟨r, h1⟩ := q
  show K 0 [some (.inr (.inr 326)), some (.inr (.inr a1)), some (.inl x2), some (.inl x3), none] [] h
  unfold f_Ou_leastFrost at hm
  refine ia_go hK ck_Ou_leastFrost_0 ?_
  show K 4 [some (.inr (.inr 326)), some (.inr (.inr a1)), some (.inl x2), some (.inl x3), some (.inl (-20))] [] h
  refine tl_Ou_leastFrost_4 hK p1 hret ?_ ?_ fu_ (-20) h hg hm
  · intro x4 h hg hm
    refine ia_go hK ck_Ou_leastFrost_23 ?_
    show K 25 [none, none, none, none, some (.inl x4)] [.inl x4] h
    obtain ⟨rfl, rfl⟩ := Prod.mk.inj (Option.some.inj hm)
    exact hret 25 _ dc_Ou_leastFrost_25
  · intro h hg hm
    refine ia_go hK ck_Ou_leastFrost_32 ?_
    show K 34 [none, none, none, none, none] [.inl (-100)] h
    obtain ⟨rfl, rfl⟩ := Prod.mk.inj (Option.some.inj hm)
    exact hret 34 _ dc_Ou_leastFrost_34
def mm_I_cold : ia_M := (⟨"IceStreet", "cold", "(IIIIII)I"⟩, prog_1_method_35_code, 7, (some .int), 0, false)
theorem ok_I_cold : ia_mok mm_I_cold := ⟨by decide +kernel, by decide +kernel, by decide +kernel, by decide +kernel⟩
theorem mk_I_cold : ia_mkn mm_I_cold 1 6 := ⟨ia_tb_in (List.mem_of_getElem? (i := 1541) (by decide +kernel)) rfl, ia_tb_in (List.mem_of_getElem? (i := 133) (by decide +kernel)) rfl, by decide +kernel, by decide +kernel, ⟨ia_tb_in (List.mem_of_getElem? (i := 1539) (by decide +kernel)) rfl, ia_tb_in (List.mem_of_getElem? (i := 1540) (by decide +kernel)) rfl⟩⟩
theorem ck_I_cold_0 : ia_cks 0 7 false prog_1_method_35_code 0 [(.iload 6, 0, 0, 0, 0), (.iconst 1, 0, 0, 0, 0), (.if_icmp .lt 34, 0, 0, 0, 0)] = true := by decide +kernel
theorem ck_I_cold_37 : ia_cks 0 7 false prog_1_method_35_code 37 [(.bipush (-100), 0, 0, 0, 0)] = true := by decide +kernel
theorem ck_I_cold_6 : ia_cks 0 7 false prog_1_method_35_code 6 [(.iload 6, 0, 0, 0, 0), (.bipush 60, 0, 0, 0, 0), (.if_icmp .gt 27, 0, 0, 0, 0)] = true := by decide +kernel
theorem ck_I_cold_13 : ia_cks 0 7 false prog_1_method_35_code 13 [(.aload_n 0, 0, 0, 0, 0), (.iload_n 1, 0, 0, 0, 0), (.iload_n 2, 0, 0, 0, 0), (.iload_n 3, 0, 0, 0, 0), (.iload 4, 0, 0, 0, 0)] = true := by decide +kernel
theorem ck_I_cold_22 : ia_cks 0 7 false prog_1_method_35_code 22 [(.ifCond .eq 15, 0, 0, 0, 0)] = true := by decide +kernel
theorem ck_I_cold_25 : ia_cks 0 7 false prog_1_method_35_code 25 [(.aload_n 0, 0, 0, 0, 0), (.getfield 44, 0, 4, 3, 239), (.iload 5, 0, 0, 0, 0)] = true := by decide +kernel
theorem ck_I_cold_34 : ia_cks 0 7 false prog_1_method_35_code 34 [(.ifCond .ne 6, 0, 0, 0, 0)] = true := by decide +kernel
theorem ck_I_cold_40 : ia_cks 0 7 false prog_1_method_35_code 40 [(.aload_n 0, 0, 0, 0, 0), (.getfield 69, 0, 7, 3, 262), (.aload_n 0, 0, 0, 0, 0), (.getfield 44, 0, 4, 3, 239), (.iload 5, 0, 0, 0, 0), (.iload 6, 0, 0, 0, 0)] = true := by decide +kernel
theorem dc_I_cold_39 : decode prog_1_method_35_code 39 = .ok (.ireturn, 1) := by decide +kernel
theorem dc_I_cold_19 : decode prog_1_method_35_code 19 = .ok (.invokevirtual 266, 3) := by decide +kernel
theorem dc_I_cold_31 : decode prog_1_method_35_code 31 = .ok (.invokevirtual 347, 3) := by decide +kernel
theorem dc_I_cold_52 : decode prog_1_method_35_code 52 = .ok (.invokevirtual 432, 3) := by decide +kernel
theorem dc_I_cold_55 : decode prog_1_method_35_code 55 = .ok (.ireturn, 1) := by decide +kernel
def f_I_cold (x1 : Int32) (x2 : Int32) (x3 : Int32) (x4 : Int32) (x5 : Int32) (x6 : Int32) (h : ia_H) : Option (Int32 × ia_H) := if x6 < 1 then (some ((-100), h)) else (if 60 < x6 then (some ((-100), h)) else ((f_I_stage x1 x2 x3 x4 h).bind fun v1 => (if v1.1 = 0 then (some ((-100), v1.2)) else ((f_Sc_stands 303 x5 v1.2).bind fun v2 => (if v2 = 0 then (some ((-100), v1.2)) else ((f_Ou_leastFrost 303 x5 x6 v1.2).bind fun v3 => (some (v3.1, v3.2))))))))
theorem g_I_cold {w : ia_O0} {x1 : Int32} {x2 : Int32} {x3 : Int32} {x4 : Int32} {x5 : Int32} {x6 : Int32} {h : ia_H} (hg : gd_ w h) {q : (Int32 × ia_H)} (hm : f_I_cold x1 x2 x3 x4 x5 x6 h = some q) : gd_ w q.2 := by
  obtain ⟨r, h1⟩ := q
  unfold f_I_cold at hm
  by_cases c : x6 < 1
  · replace hm := ia_ifp hm c
    obtain ⟨rfl, rfl⟩ := Prod.mk.inj (Option.some.inj hm)
    exact hg
  · replace hm := ia_ifn hm c
    by_cases c : 60 < x6
    · replace hm := ia_ifp hm c
      obtain ⟨rfl, rfl⟩ := Prod.mk.inj (Option.some.inj hm)
      exact hg
    · replace hm := ia_ifn hm c
      obtain ⟨v1, hv1, hm⟩ := ia_bnd hm
      have gv1 := g_I_stage hg hv1
      by_cases c : v1.1 = 0
      · replace hm := ia_ifp hm c
        obtain ⟨rfl, rfl⟩ := Prod.mk.inj (Option.some.inj hm)
        exact gv1
      · replace hm := ia_ifn hm c
        obtain ⟨v2, hv2, hm⟩ := ia_bnd hm
        by_cases c : v2 = 0
        · replace hm := ia_ifp hm c
          obtain ⟨rfl, rfl⟩ := Prod.mk.inj (Option.some.inj hm)
          exact gv1
        · replace hm := ia_ifn hm c
          obtain ⟨v3, hv3, hm⟩ := ia_bnd hm
          have gv3 := g_Ou_leastFrost gv1 (ka_0_4 pk_64) hv3
          obtain ⟨rfl, rfl⟩ := Prod.mk.inj (Option.some.inj hm)
          exact gv3
theorem t_I_cold {w : ia_O0} (d : Nat) {x1 : Int32} {x2 : Int32} {x3 : Int32} {x4 : Int32} {x5 : Int32} {x6 : Int32} {h : ia_H} (hg : gd_ w h) {q : (Int32 × ia_H)} (hm : f_I_cold x1 x2 x3 x4 x5 x6 h = some q) : ia_Ev (d + 7) mm_I_cold [.inr (.inr 64), .inl x1, .inl x2, .inl x3, .inl x4, .inl x5, .inl x6] h (some (.inl q.1)) q.2 := by
  have gq := g_I_cold hg hm
  refine ia_Ev_intro ok_I_cold (gd_le hg gq).1 (gd_le hg gq).2 (Nat.le_of_ble_eq_true rfl) (fun K hK hret => ?_)
  obtain ⟨r, h1⟩ := q
  show K 0 [some (.inr (.inr 64)), some (.inl x1), some (.inl x2), some (.inl x3), some (.inl x4), some (.inl x5), some (.inl x6)] [] h
  unfold f_I_cold at hm
  refine ia_go hK ck_I_cold_0 ⟨fun c => ?_, fun c => ?_⟩
  · replace hm := ia_ifp hm c
    show K 37 [some (.inr (.inr 64)), some (.inl x1), some (.inl x2), some (.inl x3), some (.inl x4), some (.inl x5), some (.inl x6)] [] h
    refine ia_go hK ck_I_cold_37 ?_
    show K 39 [some (.inr (.inr 64)), some (.inl x1), some (.inl x2), some (.inl x3), some (.inl x4), some (.inl x5), some (.inl x6)] [.inl (-100)] h
    obtain ⟨rfl, rfl⟩ := Prod.mk.inj (Option.some.inj hm)
    exact hret 39 _ dc_I_cold_39
  · replace hm := ia_ifn hm c
    show K 6 [some (.inr (.inr 64)), some (.inl x1), some (.inl x2), some (.inl x3), some (.inl x4), some (.inl x5), some (.inl x6)] [] h
    refine ia_go hK ck_I_cold_6 ⟨fun c => ?_, fun c => ?_⟩
    · replace hm := ia_ifp hm c
      show K 37 [some (.inr (.inr 64)), some (.inl x1), some (.inl x2), some (.inl x3), some (.inl x4), some (.inl x5), some (.inl x6)] [] h
      refine ia_go hK ck_I_cold_37 ?_
      show K 39 [some (.inr (.inr 64)), some (.inl x1), some (.inl x2), some (.inl x3), some (.inl x4), some (.inl x5), some (.inl x6)] [.inl (-100)] h
      obtain ⟨rfl, rfl⟩ := Prod.mk.inj (Option.some.inj hm)
      exact hret 39 _ dc_I_cold_39
    · replace hm := ia_ifn hm c
      show K 13 [some (.inr (.inr 64)), some (.inl x1), some (.inl x2), some (.inl x3), some (.inl x4), some (.inl x5), some (.inl x6)] [] h
      refine ia_go hK ck_I_cold_13 ?_
      show K 19 [some (.inr (.inr 64)), some (.inl x1), some (.inl x2), some (.inl x3), some (.inl x4), some (.inl x5), some (.inl x6)] [.inl x4, .inl x3, .inl x2, .inl x1, .inr (.inr 64)] h
      obtain ⟨v1, hv1, hm⟩ := ia_bnd hm
      have ev1 := t_I_stage (d + 0) hg hv1
      have gv1 := g_I_stage hg hv1
      refine ia_cV hK mk_I_stage lk_0_266 dc_I_cold_19 64 [.inl x1, .inl x2, .inl x3, .inl x4] [] rfl rfl (Nat.le_of_ble_eq_true rfl) (by decide) rfl (gk_0 hg pk_64) ev1 (gd_nm hg gv1) ?_
      show K 22 [some (.inr (.inr 64)), some (.inl x1), some (.inl x2), some (.inl x3), some (.inl x4), some (.inl x5), some (.inl x6)] [.inl v1.1] v1.2
      refine ia_go hK ck_I_cold_22 ⟨fun c => ?_, fun c => ?_⟩
      · replace hm := ia_ifp hm c
        show K 37 [some (.inr (.inr 64)), some (.inl x1), some (.inl x2), some (.inl x3), some (.inl x4), some (.inl x5), some (.inl x6)] [] v1.2
        refine ia_go hK ck_I_cold_37 ?_
        show K 39 [some (.inr (.inr 64)), some (.inl x1), some (.inl x2), some (.inl x3), some (.inl x4), some (.inl x5), some (.inl x6)] [.inl (-100)] v1.2
        obtain ⟨rfl, rfl⟩ := Prod.mk.inj (Option.some.inj hm)
        exact hret 39 _ dc_I_cold_39
      · replace hm := ia_ifn hm c
        show K 25 [some (.inr (.inr 64)), some (.inl x1), some (.inl x2), some (.inl x3), some (.inl x4), some (.inl x5), some (.inl x6)] [] v1.2
        refine ia_go hK ck_I_cold_25 ⟨gk_0 gv1 pk_64, gr_0_4 gv1 pk_64, ?_⟩
        show K 31 [some (.inr (.inr 64)), some (.inl x1), some (.inl x2), some (.inl x3), some (.inl x4), some (.inl x5), some (.inl x6)] [.inl x5, .inr (.inr 303)] v1.2
        obtain ⟨v2, hv2, hm⟩ := ia_bnd hm
        have ev2 := t_Sc_stands (d + 6) gv1 (ka_0_4 pk_64) hv2
        refine ia_cV hK mk_Sc_stands lk_0_347 dc_I_cold_31 303 [.inl x5] [] rfl rfl (Nat.le_of_ble_eq_true rfl) (by decide) rfl (gk_9 gv1 (ka_0_4 pk_64)) ev2 ⟨rfl, rfl⟩ ?_
        show K 34 [some (.inr (.inr 64)), some (.inl x1), some (.inl x2), some (.inl x3), some (.inl x4), some (.inl x5), some (.inl x6)] [.inl v2] v1.2
        refine ia_go hK ck_I_cold_34 ⟨fun c => ?_, fun c => ?_⟩
        · replace hm := ia_ifn hm c
          show K 40 [some (.inr (.inr 64)), some (.inl x1), some (.inl x2), some (.inl x3), some (.inl x4), some (.inl x5), some (.inl x6)] [] v1.2
          refine ia_go hK ck_I_cold_40 ⟨gk_0 gv1 pk_64, gr_0_7 gv1 pk_64, gk_0 gv1 pk_64, gr_0_4 gv1 pk_64, ?_⟩
          show K 52 [some (.inr (.inr 64)), some (.inl x1), some (.inl x2), some (.inl x3), some (.inl x4), some (.inl x5), some (.inl x6)] [.inl x6, .inl x5, .inr (.inr 303), .inr (.inr 326)] v1.2
          obtain ⟨v3, hv3, hm⟩ := ia_bnd hm
          have ev3 := t_Ou_leastFrost (d + 1) gv1 (ka_0_4 pk_64) hv3
          have gv3 := g_Ou_leastFrost gv1 (ka_0_4 pk_64) hv3
          refine ia_cV hK mk_Ou_leastFrost lk_0_432 dc_I_cold_52 326 [.inr (.inr 303), .inl x5, .inl x6] [] rfl rfl (Nat.le_of_ble_eq_true rfl) (by decide) rfl (gk_5 gv1 (ka_0_7 pk_64)) ev3 (gd_nm gv1 gv3) ?_
          show K 55 [some (.inr (.inr 64)), some (.inl x1), some (.inl x2), some (.inl x3), some (.inl x4), some (.inl x5), some (.inl x6)] [.inl v3.1] v3.2
          obtain ⟨rfl, rfl⟩ := Prod.mk.inj (Option.some.inj hm)
          exact hret 55 _ dc_I_cold_55
        · replace hm := ia_ifp hm c
          show K 37 [some (.inr (.inr 64)), some (.inl x1), some (.inl x2), some (.inl x3), some (.inl x4), some (.inl x5), some (.inl x6)] [] v1.2
          refine ia_go hK ck_I_cold_37 ?_
          show K 39 [some (.inr (.inr 64)), some (.inl x1), some (.inl x2), some (.inl x3), some (.inl x4), some (.inl x5), some (.inl x6)] [.inl (-100)] v1.2
          obtain ⟨rfl, rfl⟩ := Prod.mk.inj (Option.some.inj hm)
          exact hret 39 _ dc_I_cold_39
def mm_Wa_betterBeside : ia_M := (⟨"IceStreet$Ways", "betterBeside", "(II)Z"⟩, prog_12_method_27_code, 7, (some .boolean), 11, false)
theorem ok_Wa_betterBeside : ia_mok mm_Wa_betterBeside := ⟨by decide +kernel, by decide +kernel, by decide +kernel, by decide +kernel⟩
theorem mk_Wa_betterBeside : ia_mkn mm_Wa_betterBeside 1 2 := ⟨ia_tb_in (List.mem_of_getElem? (i := 1561) (by decide +kernel)) rfl, ia_tb_in (List.mem_of_getElem? (i := 141) (by decide +kernel)) rfl, by decide +kernel, by decide +kernel, ⟨ia_tb_in (List.mem_of_getElem? (i := 1560) (by decide +kernel)) rfl, ia_tb_in (List.mem_of_getElem? (i := 50) (by decide +kernel)) rfl⟩⟩
theorem ck_Wa_betterBeside_0 : ia_cks 11 7 false prog_12_method_27_code 0 [(.iconst 0, 0, 0, 0, 0), (.istore_n 3, 0, 0, 0, 0), (.iconst 0, 0, 0, 0, 0), (.istore 4, 0, 0, 0, 0)] = true := by decide +kernel
theorem ck_Wa_betterBeside_5 : ia_cks 11 7 false prog_12_method_27_code 5 [(.iload 4, 0, 0, 0, 0), (.iconst 4, 0, 0, 0, 0), (.if_icmp .ge 100, 0, 0, 0, 0)] = true := by decide +kernel
theorem ck_Wa_betterBeside_11 : ia_cks 11 7 false prog_12_method_27_code 11 [(.aload_n 0, 0, 0, 0, 0), (.getfield 29, 11, 4, 2, 0), (.getfield 94, 3, 16, 3, 10), (.iload_n 1, 0, 0, 0, 0), (.iconst 4, 0, 0, 0, 0), (.imul, 0, 0, 0, 0), (.iload 4, 0, 0, 0, 0), (.iadd, 0, 0, 0, 0), (.iaload, 0, 0, 0, 0), (.istore 5, 0, 0, 0, 0), (.iload 5, 0, 0, 0, 0), (.iconst (-1), 0, 0, 0, 0), (.if_icmp .eq 72, 0, 0, 0, 0)] = true := by decide +kernel
theorem ck_Wa_betterBeside_102 : ia_cks 11 7 false prog_12_method_27_code 102 [(.iinc 4 1, 0, 0, 0, 0), (.goto (-100), 0, 0, 0, 0)] = true := by decide +kernel
theorem ck_Wa_betterBeside_33 : ia_cks 11 7 false prog_12_method_27_code 33 [(.aload_n 0, 0, 0, 0, 0), (.getfield 15, 11, 6, 3, 2), (.iload 5, 0, 0, 0, 0), (.iaload, 0, 0, 0, 0), (.iload_n 2, 0, 0, 0, 0), (.if_icmp .lt 61, 0, 0, 0, 0)] = true := by decide +kernel
theorem ck_Wa_betterBeside_44 : ia_cks 11 7 false prog_12_method_27_code 44 [(.aload_n 0, 0, 0, 0, 0), (.getfield 18, 11, 7, 3, 3), (.iload_n 1, 0, 0, 0, 0), (.iaload, 0, 0, 0, 0), (.aload_n 0, 0, 0, 0, 0), (.iload_n 1, 0, 0, 0, 0), (.iload 5, 0, 0, 0, 0)] = true := by decide +kernel
theorem ck_Wa_betterBeside_57 : ia_cks 11 7 false prog_12_method_27_code 57 [(.ifCond .eq 7, 0, 0, 0, 0)] = true := by decide +kernel
theorem ck_Wa_betterBeside_64 : ia_cks 11 7 false prog_12_method_27_code 64 [(.iconst 1, 0, 0, 0, 0)] = true := by decide +kernel
theorem ck_Wa_betterBeside_65 : ia_cks 11 7 false prog_12_method_27_code 65 [(.iadd, 0, 0, 0, 0), (.istore 6, 0, 0, 0, 0), (.aload_n 0, 0, 0, 0, 0), (.getfield 18, 11, 7, 3, 3), (.iload 5, 0, 0, 0, 0), (.iaload, 0, 0, 0, 0), (.iconst (-1), 0, 0, 0, 0), (.if_icmp .eq 15, 0, 0, 0, 0)] = true := by decide +kernel
theorem ck_Wa_betterBeside_91 : ia_cks 11 7 false prog_12_method_27_code 91 [(.aload_n 0, 0, 0, 0, 0), (.getfield 18, 11, 7, 3, 3), (.iload 5, 0, 0, 0, 0), (.iload 6, 0, 0, 0, 0), (.iastore, 0, 0, 0, 0), (.iconst 1, 0, 0, 0, 0), (.istore_n 3, 0, 0, 0, 0), (.iinc 4 1, 0, 0, 0, 0), (.goto (-100), 0, 0, 0, 0)] = true := by decide +kernel
theorem ck_Wa_betterBeside_79 : ia_cks 11 7 false prog_12_method_27_code 79 [(.iload 6, 0, 0, 0, 0), (.aload_n 0, 0, 0, 0, 0), (.getfield 18, 11, 7, 3, 3), (.iload 5, 0, 0, 0, 0), (.iaload, 0, 0, 0, 0), (.if_icmp .ge 14, 0, 0, 0, 0)] = true := by decide +kernel
theorem ck_Wa_betterBeside_60 : ia_cks 11 7 false prog_12_method_27_code 60 [(.iconst 0, 0, 0, 0, 0), (.goto 4, 0, 0, 0, 0)] = true := by decide +kernel
theorem ck_Wa_betterBeside_108 : ia_cks 11 7 false prog_12_method_27_code 108 [(.iload_n 3, 0, 0, 0, 0)] = true := by decide +kernel
theorem dc_Wa_betterBeside_54 : decode prog_12_method_27_code 54 = .ok (.invokevirtual 97, 3) := by decide +kernel
theorem dc_Wa_betterBeside_109 : decode prog_12_method_27_code 109 = .ok (.ireturn, 1) := by decide +kernel
def j_Wa_betterBeside_91 (x1 : Int32) (x2 : Int32) (kr : Int32 → Int32 → ia_H → Option (Int32 × ia_H)) (k108 : Int32 → ia_H → Option (Int32 × ia_H)) (x4 : Int32) (x5 : Int32) (x6 : Int32) (h : ia_H) : Option (Int32 × ia_H) := ia_gd (ia_ib x5 36) (kr 1 (x4 + 1) (ia_wI h 314 ((x5).toNatClampNeg) x6))
theorem tj_Wa_betterBeside_91 {w : ia_O0} {d N1 W1 : Nat} {K : ia_K} (hK : ia_isK (d + 1) mm_Wa_betterBeside N1 W1 K) {x1 : Int32} {x2 : Int32} {r : Int32} {h1 : ia_H} (hret : ∀ (pc : Nat) (lv : ia_L), ia_ret mm_Wa_betterBeside pc (some (.inl r)) → K pc lv ((some (.inl r)) : Option ia_V).toList h1) {kr : Int32 → Int32 → ia_H → Option (Int32 × ia_H)} {k108 : Int32 → ia_H → Option (Int32 × ia_H)} (hkr : ∀ (x3 : Int32) (x4 : Int32) (h : ia_H), gd_ w h → kr x3 x4 h = some (r, h1) → K 5 [some (.inr (.inr 311)), some (.inl x1), some (.inl x2), some (.inl x3), some (.inl x4), none, none] [] h) (hk108 : ∀ (x3 : Int32) (h : ia_H), gd_ w h → k108 x3 h = some (r, h1) → K 108 [none, none, none, some (.inl x3), none, none, none] [] h) : ∀ (x4 : Int32) (x5 : Int32) (x6 : Int32) (h : ia_H), gd_ w h → j_Wa_betterBeside_91 x1 x2 kr k108 x4 x5 x6 h = some (r, h1) → K 91 [some (.inr (.inr 311)), some (.inl x1), some (.inl x2), none, some (.inl x4), some (.inl x5), some (.inl x6)] [] h := by
  intro x4 x5 x6 h hg hm
  unfold j_Wa_betterBeside_91 at hm
  obtain ⟨c6, hm⟩ := ia_gd_some hm
  refine ia_go hK ck_Wa_betterBeside_91 ⟨gk_11 hg pk_311, gr_11_7 hg pk_311, ga_s100 hg (ka_11_7 pk_311) c6, ?_⟩
  show K 5 [some (.inr (.inr 311)), some (.inl x1), some (.inl x2), some (.inl 1), some (.inl (x4 + 1)), some (.inl x5), some (.inl x6)] [] (ia_wI h 314 ((x5).toNatClampNeg) x6)
  refine ia_fg hK (lv' := [some (.inr (.inr 311)), some (.inl x1), some (.inl x2), some (.inl 1), some (.inl (x4 + 1)), none, none]) ⟨rfl, rfl, rfl, rfl, rfl, trivial⟩ ?_
  exact hkr 1 (x4 + 1) (ia_wI h 314 ((x5).toNatClampNeg) x6) (gd_wI hg (kx_100 (ka_11_7 pk_311))) hm
theorem gj_Wa_betterBeside_91 {w : ia_O0} {x1 : Int32} {x2 : Int32} {r : Int32} {h1 : ia_H} {kr : Int32 → Int32 → ia_H → Option (Int32 × ia_H)} {k108 : Int32 → ia_H → Option (Int32 × ia_H)} (hkr : ∀ (x3 : Int32) (x4 : Int32) (h : ia_H), gd_ w h → kr x3 x4 h = some (r, h1) → gd_ w h1) (hk108 : ∀ (x3 : Int32) (h : ia_H), gd_ w h → k108 x3 h = some (r, h1) → gd_ w h1) : ∀ (x4 : Int32) (x5 : Int32) (x6 : Int32) (h : ia_H), gd_ w h → j_Wa_betterBeside_91 x1 x2 kr k108 x4 x5 x6 h = some (r, h1) → gd_ w h1 := by
  intro x4 x5 x6 h hg hm
  unfold j_Wa_betterBeside_91 at hm
  obtain ⟨c6, hm⟩ := ia_gd_some hm
  exact hkr 1 (x4 + 1) (ia_wI h 314 ((x5).toNatClampNeg) x6) (gd_wI hg (kx_100 (ka_11_7 pk_311))) hm
def j_Wa_betterBeside_65 (x1 : Int32) (x2 : Int32) (kr : Int32 → Int32 → ia_H → Option (Int32 × ia_H)) (k108 : Int32 → ia_H → Option (Int32 × ia_H)) (x3 : Int32) (x4 : Int32) (x5 : Int32) (s0 : Int32) (s1 : Int32) (h : ia_H) : Option (Int32 × ia_H) := ia_gd (ia_ib x5 36) (if (ia_i h 314 ((x5).toNatClampNeg)) = (-1) then (j_Wa_betterBeside_91 x1 x2 kr k108 x4 x5 (s0 + s1) h) else (ia_gd (ia_ib x5 36) (if (ia_i h 314 ((x5).toNatClampNeg)) ≤ (s0 + s1) then (kr x3 (x4 + 1) h) else (j_Wa_betterBeside_91 x1 x2 kr k108 x4 x5 (s0 + s1) h))))
theorem tj_Wa_betterBeside_65 {w : ia_O0} {d N1 W1 : Nat} {K : ia_K} (hK : ia_isK (d + 1) mm_Wa_betterBeside N1 W1 K) {x1 : Int32} {x2 : Int32} {r : Int32} {h1 : ia_H} (hret : ∀ (pc : Nat) (lv : ia_L), ia_ret mm_Wa_betterBeside pc (some (.inl r)) → K pc lv ((some (.inl r)) : Option ia_V).toList h1) {kr : Int32 → Int32 → ia_H → Option (Int32 × ia_H)} {k108 : Int32 → ia_H → Option (Int32 × ia_H)} (hkr : ∀ (x3 : Int32) (x4 : Int32) (h : ia_H), gd_ w h → kr x3 x4 h = some (r, h1) → K 5 [some (.inr (.inr 311)), some (.inl x1), some (.inl x2), some (.inl x3), some (.inl x4), none, none] [] h) (hk108 : ∀ (x3 : Int32) (h : ia_H), gd_ w h → k108 x3 h = some (r, h1) → K 108 [none, none, none, some (.inl x3), none, none, none] [] h) : ∀ (x3 : Int32) (x4 : Int32) (x5 : Int32) (s0 : Int32) (s1 : Int32) (h : ia_H), gd_ w h → j_Wa_betterBeside_65 x1 x2 kr k108 x3 x4 x5 s0 s1 h = some (r, h1) → K 65 [some (.inr (.inr 311)), some (.inl x1), some (.inl x2), some (.inl x3), some (.inl x4), some (.inl x5), none] [.inl s1, .inl s0] h := by
  intro x3 x4 x5 s0 s1 h hg hm
  unfold j_Wa_betterBeside_65 at hm
  obtain ⟨c5, hm⟩ := ia_gd_some hm
  refine ia_go hK ck_Wa_betterBeside_65 ⟨gk_11 hg pk_311, gr_11_7 hg pk_311, ga_i100 hg (ka_11_7 pk_311) c5, fun c => ?_, fun c => ?_⟩
  · replace hm := ia_ifp hm c
    show K 91 [some (.inr (.inr 311)), some (.inl x1), some (.inl x2), some (.inl x3), some (.inl x4), some (.inl x5), some (.inl (s0 + s1))] [] h
    refine ia_fg hK (lv' := [some (.inr (.inr 311)), some (.inl x1), some (.inl x2), none, some (.inl x4), some (.inl x5), some (.inl (s0 + s1))]) ⟨rfl, rfl, rfl, rfl, rfl, rfl, trivial⟩ ?_
    exact tj_Wa_betterBeside_91 hK hret hkr hk108 x4 x5 (s0 + s1) h hg hm
  · replace hm := ia_ifn hm c
    show K 79 [some (.inr (.inr 311)), some (.inl x1), some (.inl x2), some (.inl x3), some (.inl x4), some (.inl x5), some (.inl (s0 + s1))] [] h
    obtain ⟨c7, hm⟩ := ia_gd_some hm
    refine ia_go hK ck_Wa_betterBeside_79 ⟨gk_11 hg pk_311, gr_11_7 hg pk_311, ga_i100 hg (ka_11_7 pk_311) c7, fun c => ?_, fun c => ?_⟩
    · replace hm := ia_ifp hm c
      show K 102 [some (.inr (.inr 311)), some (.inl x1), some (.inl x2), some (.inl x3), some (.inl x4), some (.inl x5), some (.inl (s0 + s1))] [] h
      refine ia_go hK ck_Wa_betterBeside_102 ?_
      show K 5 [some (.inr (.inr 311)), some (.inl x1), some (.inl x2), some (.inl x3), some (.inl (x4 + 1)), some (.inl x5), some (.inl (s0 + s1))] [] h
      refine ia_fg hK (lv' := [some (.inr (.inr 311)), some (.inl x1), some (.inl x2), some (.inl x3), some (.inl (x4 + 1)), none, none]) ⟨rfl, rfl, rfl, rfl, rfl, trivial⟩ ?_
      exact hkr x3 (x4 + 1) h hg hm
    · replace hm := ia_ifn hm c
      show K 91 [some (.inr (.inr 311)), some (.inl x1), some (.inl x2), some (.inl x3), some (.inl x4), some (.inl x5), some (.inl (s0 + s1))] [] h
      refine ia_fg hK (lv' := [some (.inr (.inr 311)), some (.inl x1), some (.inl x2), none, some (.inl x4), some (.inl x5), some (.inl (s0 + s1))]) ⟨rfl, rfl, rfl, rfl, rfl, rfl, trivial⟩ ?_
      exact tj_Wa_betterBeside_91 hK hret hkr hk108 x4 x5 (s0 + s1) h hg hm
theorem gj_Wa_betterBeside_65 {w : ia_O0} {x1 : Int32} {x2 : Int32} {r : Int32} {h1 : ia_H} {kr : Int32 → Int32 → ia_H → Option (Int32 × ia_H)} {k108 : Int32 → ia_H → Option (Int32 × ia_H)} (hkr : ∀ (x3 : Int32) (x4 : Int32) (h : ia_H), gd_ w h → kr x3 x4 h = some (r, h1) → gd_ w h1) (hk108 : ∀ (x3 : Int32) (h : ia_H), gd_ w h → k108 x3 h = some (r, h1) → gd_ w h1) : ∀ (x3 : Int32) (x4 : Int32) (x5 : Int32) (s0 : Int32) (s1 : Int32) (h : ia_H), gd_ w h → j_Wa_betterBeside_65 x1 x2 kr k108 x3 x4 x5 s0 s1 h = some (r, h1) → gd_ w h1 := by
  intro x3 x4 x5 s0 s1 h hg hm
  unfold j_Wa_betterBeside_65 at hm
  obtain ⟨c5, hm⟩ := ia_gd_some hm
  by_cases c : (ia_i h 314 ((x5).toNatClampNeg)) = (-1)
  · replace hm := ia_ifp hm c
    exact gj_Wa_betterBeside_91 hkr hk108 x4 x5 (s0 + s1) h hg hm
  · replace hm := ia_ifn hm c
    obtain ⟨c7, hm⟩ := ia_gd_some hm
    by_cases c : (ia_i h 314 ((x5).toNatClampNeg)) ≤ (s0 + s1)
    · replace hm := ia_ifp hm c
      exact hkr x3 (x4 + 1) h hg hm
    · replace hm := ia_ifn hm c
      exact gj_Wa_betterBeside_91 hkr hk108 x4 x5 (s0 + s1) h hg hm
def l_Wa_betterBeside_5 (x1 : Int32) (x2 : Int32) (k108 : Int32 → ia_H → Option (Int32 × ia_H)) (n : Nat) (x3 : Int32) (x4 : Int32) (h : ia_H) : Option (Int32 × ia_H) := match n with
  | 0 => none
  | n + 1 => if 4 ≤ x4 then (k108 x3 h) else (ia_gd (ia_ib ((x1 * 4) + x4) 144) (if (ia_i h ((ia_r h 311 4) + 10) (((x1 * 4) + x4).toNatClampNeg)) = (-1) then (l_Wa_betterBeside_5 x1 x2 k108 n x3 (x4 + 1) h) else (ia_gd (ia_ib (ia_i h ((ia_r h 311 4) + 10) (((x1 * 4) + x4).toNatClampNeg)) 36) (if (ia_i h 313 ((ia_i h ((ia_r h 311 4) + 10) (((x1 * 4) + x4).toNatClampNeg)).toNatClampNeg)) < x2 then (l_Wa_betterBeside_5 x1 x2 k108 n x3 (x4 + 1) h) else (ia_gd (ia_ib x1 36) ((f_Wa_mayStep x1 (ia_i h ((ia_r h 311 4) + 10) (((x1 * 4) + x4).toNatClampNeg)) h).bind fun v4 => (if v4 = 0 then (j_Wa_betterBeside_65 x1 x2 (l_Wa_betterBeside_5 x1 x2 k108 n) k108 x3 x4 (ia_i h ((ia_r h 311 4) + 10) (((x1 * 4) + x4).toNatClampNeg)) (ia_i h 314 ((x1).toNatClampNeg)) 1 h) else (j_Wa_betterBeside_65 x1 x2 (l_Wa_betterBeside_5 x1 x2 k108 n) k108 x3 x4 (ia_i h ((ia_r h 311 4) + 10) (((x1 * 4) + x4).toNatClampNeg)) (ia_i h 314 ((x1).toNatClampNeg)) 0 h))))))))
theorem tl_Wa_betterBeside_5 {w : ia_O0} {d N1 W1 : Nat} {K : ia_K} (hK : ia_isK (d + 1) mm_Wa_betterBeside N1 W1 K) {x1 : Int32} {x2 : Int32} {r : Int32} {h1 : ia_H} (hret : ∀ (pc : Nat) (lv : ia_L), ia_ret mm_Wa_betterBeside pc (some (.inl r)) → K pc lv ((some (.inl r)) : Option ia_V).toList h1) {k108 : Int32 → ia_H → Option (Int32 × ia_H)} (hk108 : ∀ (x3 : Int32) (h : ia_H), gd_ w h → k108 x3 h = some (r, h1) → K 108 [none, none, none, some (.inl x3), none, none, none] [] h) : ∀ (n : Nat) (x3 : Int32) (x4 : Int32) (h : ia_H), gd_ w h → l_Wa_betterBeside_5 x1 x2 k108 n x3 x4 h = some (r, h1) → K 5 [some (.inr (.inr 311)), some (.inl x1), some (.inl x2), some (.inl x3), some (.inl x4), none, none] [] h := by
  intro n
  induction n with
  | zero =>
    intro x3 x4 h hg hm
    cases (show (none : Option (Int32 × ia_H)) = some _ from hm)
  | succ n ih =>
    intro x3 x4 h hg hm
    rw [l_Wa_betterBeside_5] at hm
    refine ia_go hK ck_Wa_betterBeside_5 ⟨fun c => ?_, fun c => ?_⟩
    · replace hm := ia_ifp hm c
      show K 108 [some (.inr (.inr 311)), some (.inl x1), some (.inl x2), some (.inl x3), some (.inl x4), none, none] [] h
      refine ia_fg hK (lv' := [none, none, none, some (.inl x3), none, none, none]) ⟨rfl, trivial⟩ ?_
      exact hk108 x3 h hg hm
    · replace hm := ia_ifn hm c
      show K 11 [some (.inr (.inr 311)), some (.inl x1), some (.inl x2), some (.inl x3), some (.inl x4), none, none] [] h
      obtain ⟨c1, hm⟩ := ia_gd_some hm
      refine ia_go hK ck_Wa_betterBeside_11 ⟨gk_11 hg pk_311, gk_3 hg (gm_11_4 hg pk_311), gr_3_16 hg (gm_11_4 hg pk_311), ga_i100 hg (ka_3_16 (gm_11_4 hg pk_311)) c1, fun c => ?_, fun c => ?_⟩
      · replace hm := ia_ifp hm c
        show K 102 [some (.inr (.inr 311)), some (.inl x1), some (.inl x2), some (.inl x3), some (.inl x4), some (.inl (ia_i h ((ia_r h 311 4) + 10) (((x1 * 4) + x4).toNatClampNeg))), none] [] h
        refine ia_go hK ck_Wa_betterBeside_102 ?_
        show K 5 [some (.inr (.inr 311)), some (.inl x1), some (.inl x2), some (.inl x3), some (.inl (x4 + 1)), some (.inl (ia_i h ((ia_r h 311 4) + 10) (((x1 * 4) + x4).toNatClampNeg))), none] [] h
        refine ia_fg hK (lv' := [some (.inr (.inr 311)), some (.inl x1), some (.inl x2), some (.inl x3), some (.inl (x4 + 1)), none, none]) ⟨rfl, rfl, rfl, rfl, rfl, trivial⟩ ?_
        exact ih x3 (x4 + 1) h hg hm
      · replace hm := ia_ifn hm c
        show K 33 [some (.inr (.inr 311)), some (.inl x1), some (.inl x2), some (.inl x3), some (.inl x4), some (.inl (ia_i h ((ia_r h 311 4) + 10) (((x1 * 4) + x4).toNatClampNeg))), none] [] h
        obtain ⟨c2, hm⟩ := ia_gd_some hm
        refine ia_go hK ck_Wa_betterBeside_33 ⟨gk_11 hg pk_311, gr_11_6 hg pk_311, ga_i100 hg (ka_11_6 pk_311) c2, fun c => ?_, fun c => ?_⟩
        · replace hm := ia_ifp hm c
          show K 102 [some (.inr (.inr 311)), some (.inl x1), some (.inl x2), some (.inl x3), some (.inl x4), some (.inl (ia_i h ((ia_r h 311 4) + 10) (((x1 * 4) + x4).toNatClampNeg))), none] [] h
          refine ia_go hK ck_Wa_betterBeside_102 ?_
          show K 5 [some (.inr (.inr 311)), some (.inl x1), some (.inl x2), some (.inl x3), some (.inl (x4 + 1)), some (.inl (ia_i h ((ia_r h 311 4) + 10) (((x1 * 4) + x4).toNatClampNeg))), none] [] h
          refine ia_fg hK (lv' := [some (.inr (.inr 311)), some (.inl x1), some (.inl x2), some (.inl x3), some (.inl (x4 + 1)), none, none]) ⟨rfl, rfl, rfl, rfl, rfl, trivial⟩ ?_
          exact ih x3 (x4 + 1) h hg hm
        · replace hm := ia_ifn hm c
          show K 44 [some (.inr (.inr 311)), some (.inl x1), some (.inl x2), some (.inl x3), some (.inl x4), some (.inl (ia_i h ((ia_r h 311 4) + 10) (((x1 * 4) + x4).toNatClampNeg))), none] [] h
          obtain ⟨c3, hm⟩ := ia_gd_some hm
          refine ia_go hK ck_Wa_betterBeside_44 ⟨gk_11 hg pk_311, gr_11_7 hg pk_311, ga_i100 hg (ka_11_7 pk_311) c3, ?_⟩
          show K 54 [some (.inr (.inr 311)), some (.inl x1), some (.inl x2), some (.inl x3), some (.inl x4), some (.inl (ia_i h ((ia_r h 311 4) + 10) (((x1 * 4) + x4).toNatClampNeg))), none] [.inl (ia_i h ((ia_r h 311 4) + 10) (((x1 * 4) + x4).toNatClampNeg)), .inl x1, .inr (.inr 311), .inl (ia_i h 314 ((x1).toNatClampNeg))] h
          obtain ⟨v4, hv4, hm⟩ := ia_bnd hm
          have ev4 := t_Wa_mayStep (d + 0) hg hv4
          refine ia_cV hK mk_Wa_mayStep lk_11_97 dc_Wa_betterBeside_54 311 [.inl x1, .inl (ia_i h ((ia_r h 311 4) + 10) (((x1 * 4) + x4).toNatClampNeg))] [.inl (ia_i h 314 ((x1).toNatClampNeg))] rfl rfl (Nat.le_of_ble_eq_true rfl) (by decide) rfl (gk_11 hg pk_311) ev4 ⟨rfl, rfl⟩ ?_
          show K 57 [some (.inr (.inr 311)), some (.inl x1), some (.inl x2), some (.inl x3), some (.inl x4), some (.inl (ia_i h ((ia_r h 311 4) + 10) (((x1 * 4) + x4).toNatClampNeg))), none] [.inl v4, .inl (ia_i h 314 ((x1).toNatClampNeg))] h
          refine ia_go hK ck_Wa_betterBeside_57 ⟨fun c => ?_, fun c => ?_⟩
          · replace hm := ia_ifp hm c
            show K 64 [some (.inr (.inr 311)), some (.inl x1), some (.inl x2), some (.inl x3), some (.inl x4), some (.inl (ia_i h ((ia_r h 311 4) + 10) (((x1 * 4) + x4).toNatClampNeg))), none] [.inl (ia_i h 314 ((x1).toNatClampNeg))] h
            refine ia_go hK ck_Wa_betterBeside_64 ?_
            show K 65 [some (.inr (.inr 311)), some (.inl x1), some (.inl x2), some (.inl x3), some (.inl x4), some (.inl (ia_i h ((ia_r h 311 4) + 10) (((x1 * 4) + x4).toNatClampNeg))), none] [.inl 1, .inl (ia_i h 314 ((x1).toNatClampNeg))] h
            exact tj_Wa_betterBeside_65 hK hret ih hk108 x3 x4 (ia_i h ((ia_r h 311 4) + 10) (((x1 * 4) + x4).toNatClampNeg)) (ia_i h 314 ((x1).toNatClampNeg)) 1 h hg hm
          · replace hm := ia_ifn hm c
            show K 60 [some (.inr (.inr 311)), some (.inl x1), some (.inl x2), some (.inl x3), some (.inl x4), some (.inl (ia_i h ((ia_r h 311 4) + 10) (((x1 * 4) + x4).toNatClampNeg))), none] [.inl (ia_i h 314 ((x1).toNatClampNeg))] h
            refine ia_go hK ck_Wa_betterBeside_60 ?_
            show K 65 [some (.inr (.inr 311)), some (.inl x1), some (.inl x2), some (.inl x3), some (.inl x4), some (.inl (ia_i h ((ia_r h 311 4) + 10) (((x1 * 4) + x4).toNatClampNeg))), none] [.inl 0, .inl (ia_i h 314 ((x1).toNatClampNeg))] h
            exact tj_Wa_betterBeside_65 hK hret ih hk108 x3 x4 (ia_i h ((ia_r h 311 4) + 10) (((x1 * 4) + x4).toNatClampNeg)) (ia_i h 314 ((x1).toNatClampNeg)) 0 h hg hm
theorem gl_Wa_betterBeside_5 {w : ia_O0} {x1 : Int32} {x2 : Int32} {r : Int32} {h1 : ia_H} {k108 : Int32 → ia_H → Option (Int32 × ia_H)} (hk108 : ∀ (x3 : Int32) (h : ia_H), gd_ w h → k108 x3 h = some (r, h1) → gd_ w h1) : ∀ (n : Nat) (x3 : Int32) (x4 : Int32) (h : ia_H), gd_ w h → l_Wa_betterBeside_5 x1 x2 k108 n x3 x4 h = some (r, h1) → gd_ w h1 := by
  intro n
  induction n with
  | zero =>
    intro x3 x4 h hg hm
    cases (show (none : Option (Int32 × ia_H)) = some _ from hm)
  | succ n ih =>
    intro x3 x4 h hg hm
    rw [l_Wa_betterBeside_5] at hm
    by_cases c : 4 ≤ x4
    · replace hm := ia_ifp hm c
      exact hk108 x3 h hg hm
    · replace hm := ia_ifn hm c
      obtain ⟨c1, hm⟩ := ia_gd_some hm
      by_cases c : (ia_i h ((ia_r h 311 4) + 10) (((x1 * 4) + x4).toNatClampNeg)) = (-1)
      · replace hm := ia_ifp hm c
        exact ih x3 (x4 + 1) h hg hm
      · replace hm := ia_ifn hm c
        obtain ⟨c2, hm⟩ := ia_gd_some hm
        by_cases c : (ia_i h 313 ((ia_i h ((ia_r h 311 4) + 10) (((x1 * 4) + x4).toNatClampNeg)).toNatClampNeg)) < x2
        · replace hm := ia_ifp hm c
          exact ih x3 (x4 + 1) h hg hm
        · replace hm := ia_ifn hm c
          obtain ⟨c3, hm⟩ := ia_gd_some hm
          obtain ⟨v4, hv4, hm⟩ := ia_bnd hm
          by_cases c : v4 = 0
          · replace hm := ia_ifp hm c
            exact gj_Wa_betterBeside_65 ih hk108 x3 x4 (ia_i h ((ia_r h 311 4) + 10) (((x1 * 4) + x4).toNatClampNeg)) (ia_i h 314 ((x1).toNatClampNeg)) 1 h hg hm
          · replace hm := ia_ifn hm c
            exact gj_Wa_betterBeside_65 ih hk108 x3 x4 (ia_i h ((ia_r h 311 4) + 10) (((x1 * 4) + x4).toNatClampNeg)) (ia_i h 314 ((x1).toNatClampNeg)) 0 h hg hm
def f_Wa_betterBeside (x1 : Int32) (x2 : Int32) (h : ia_H) : Option (Int32 × ia_H) := l_Wa_betterBeside_5 x1 x2 (fun x3 h => ia_gd (ia_z1 x3) (some (x3, h))) fu_ 0 0 h
theorem g_Wa_betterBeside {w : ia_O0} {x1 : Int32} {x2 : Int32} {h : ia_H} (hg : gd_ w h) {q : (Int32 × ia_H)} (hm : f_Wa_betterBeside x1 x2 h = some q) : gd_ w q.2 := by
  obtain ⟨r, h1⟩ := q
  unfold f_Wa_betterBeside at hm
  refine gl_Wa_betterBeside_5 ?_ fu_ 0 0 h hg hm
  · intro x3 h hg hm
    obtain ⟨c8, hm⟩ := ia_gd_some hm
    obtain ⟨rfl, rfl⟩ := Prod.mk.inj (Option.some.inj hm)
    exact hg
theorem t_Wa_betterBeside {w : ia_O0} (d : Nat) {x1 : Int32} {x2 : Int32} {h : ia_H} (hg : gd_ w h) {q : (Int32 × ia_H)} (hm : f_Wa_betterBeside x1 x2 h = some q) : ia_Ev (d + 1) mm_Wa_betterBeside [.inr (.inr 311), .inl x1, .inl x2] h (some (.inl q.1)) q.2 := by
  have gq := g_Wa_betterBeside hg hm
  refine ia_Ev_intro ok_Wa_betterBeside (gd_le hg gq).1 (gd_le hg gq).2 (Nat.le_of_ble_eq_true rfl) (fun K hK hret => ?_)
  obtain ⟨r, h1⟩ := q
  show K 0 [some (.inr (.inr 311)), some (.inl x1), some (.inl x2), none, none, none, none] [] h
  unfold f_Wa_betterBeside at hm
  refine ia_go hK ck_Wa_betterBeside_0 ?_
  show K 5 [some (.inr (.inr 311)), some (.inl x1), some (.inl x2), some (.inl 0), some (.inl 0), none, none] [] h
  refine tl_Wa_betterBeside_5 hK hret ?_ fu_ 0 0 h hg hm
  · intro x3 h hg hm
    refine ia_go hK ck_Wa_betterBeside_108 ?_
    show K 109 [none, none, none, some (.inl x3), none, none, none] [.inl x3] h
    obtain ⟨c8, hm⟩ := ia_gd_some hm
    obtain ⟨rfl, rfl⟩ := Prod.mk.inj (Option.some.inj hm)
    exact hret 109 _ ⟨ia_z1_spec c8, dc_Wa_betterBeside_109⟩
def mm_Wa_fewestAgainst : ia_M := (⟨"IceStreet$Ways", "fewestAgainst", "(III)I"⟩, prog_12_method_26_code, 7, (some .int), 11, false)
theorem ok_Wa_fewestAgainst : ia_mok mm_Wa_fewestAgainst := ⟨by decide +kernel, by decide +kernel, by decide +kernel, by decide +kernel⟩
theorem mk_Wa_fewestAgainst : ia_mkn mm_Wa_fewestAgainst 1 3 := ⟨ia_tb_in (List.mem_of_getElem? (i := 1557) (by decide +kernel)) rfl, ia_tb_in (List.mem_of_getElem? (i := 141) (by decide +kernel)) rfl, by decide +kernel, by decide +kernel, ⟨ia_tb_in (List.mem_of_getElem? (i := 1555) (by decide +kernel)) rfl, ia_tb_in (List.mem_of_getElem? (i := 1556) (by decide +kernel)) rfl⟩⟩
theorem ck_Wa_fewestAgainst_0 : ia_cks 11 7 false prog_12_method_26_code 0 [(.aload_n 0, 0, 0, 0, 0), (.getfield 18, 11, 7, 3, 3), (.iconst (-1), 0, 0, 0, 0)] = true := by decide +kernel
theorem ck_Wa_fewestAgainst_8 : ia_cks 11 7 false prog_12_method_26_code 8 [(.aload_n 0, 0, 0, 0, 0), (.getfield 18, 11, 7, 3, 3), (.iload_n 2, 0, 0, 0, 0), (.iconst 0, 0, 0, 0, 0), (.iastore, 0, 0, 0, 0), (.iconst 1, 0, 0, 0, 0), (.istore 4, 0, 0, 0, 0), (.iconst 0, 0, 0, 0, 0), (.istore 5, 0, 0, 0, 0)] = true := by decide +kernel
theorem ck_Wa_fewestAgainst_21 : ia_cks 11 7 false prog_12_method_26_code 21 [(.iload 5, 0, 0, 0, 0), (.bipush 36, 0, 0, 0, 0), (.if_icmp .ge 69, 0, 0, 0, 0)] = true := by decide +kernel
theorem ck_Wa_fewestAgainst_28 : ia_cks 11 7 false prog_12_method_26_code 28 [(.iload 4, 0, 0, 0, 0), (.ifCond .eq 64, 0, 0, 0, 0)] = true := by decide +kernel
theorem ck_Wa_fewestAgainst_33 : ia_cks 11 7 false prog_12_method_26_code 33 [(.iconst 0, 0, 0, 0, 0), (.istore 4, 0, 0, 0, 0), (.iconst 0, 0, 0, 0, 0), (.istore 6, 0, 0, 0, 0)] = true := by decide +kernel
theorem ck_Wa_fewestAgainst_39 : ia_cks 11 7 false prog_12_method_26_code 39 [(.iload 6, 0, 0, 0, 0), (.aload_n 0, 0, 0, 0, 0), (.getfield 29, 11, 4, 2, 0)] = true := by decide +kernel
theorem ck_Wa_fewestAgainst_48 : ia_cks 11 7 false prog_12_method_26_code 48 [(.if_icmp .ge 40, 0, 0, 0, 0)] = true := by decide +kernel
theorem ck_Wa_fewestAgainst_51 : ia_cks 11 7 false prog_12_method_26_code 51 [(.iload 4, 0, 0, 0, 0), (.aload_n 0, 0, 0, 0, 0), (.getfield 18, 11, 7, 3, 3), (.iload 6, 0, 0, 0, 0), (.iaload, 0, 0, 0, 0), (.iconst (-1), 0, 0, 0, 0), (.if_icmp .eq 17, 0, 0, 0, 0)] = true := by decide +kernel
theorem ck_Wa_fewestAgainst_78 : ia_cks 11 7 false prog_12_method_26_code 78 [(.iconst 0, 0, 0, 0, 0)] = true := by decide +kernel
theorem ck_Wa_fewestAgainst_79 : ia_cks 11 7 false prog_12_method_26_code 79 [(.ior, 0, 0, 0, 0), (.istore 4, 0, 0, 0, 0), (.iinc 6 1, 0, 0, 0, 0), (.goto (-46), 0, 0, 0, 0)] = true := by decide +kernel
theorem ck_Wa_fewestAgainst_64 : ia_cks 11 7 false prog_12_method_26_code 64 [(.aload_n 0, 0, 0, 0, 0), (.iload 6, 0, 0, 0, 0), (.iload_n 1, 0, 0, 0, 0)] = true := by decide +kernel
theorem ck_Wa_fewestAgainst_71 : ia_cks 11 7 false prog_12_method_26_code 71 [(.ifCond .eq 7, 0, 0, 0, 0)] = true := by decide +kernel
theorem ck_Wa_fewestAgainst_74 : ia_cks 11 7 false prog_12_method_26_code 74 [(.iconst 1, 0, 0, 0, 0), (.goto 4, 0, 0, 0, 0)] = true := by decide +kernel
theorem ck_Wa_fewestAgainst_88 : ia_cks 11 7 false prog_12_method_26_code 88 [(.iinc 5 1, 0, 0, 0, 0), (.goto (-70), 0, 0, 0, 0)] = true := by decide +kernel
theorem ck_Wa_fewestAgainst_94 : ia_cks 11 7 false prog_12_method_26_code 94 [(.aload_n 0, 0, 0, 0, 0), (.getfield 18, 11, 7, 3, 3), (.iload_n 3, 0, 0, 0, 0), (.iaload, 0, 0, 0, 0)] = true := by decide +kernel
theorem dc_Wa_fewestAgainst_5 : decode prog_12_method_26_code 5 = .ok (.invokestatic 101, 3) := by decide +kernel
theorem dc_Wa_fewestAgainst_45 : decode prog_12_method_26_code 45 = .ok (.invokevirtual 41, 3) := by decide +kernel
theorem dc_Wa_fewestAgainst_68 : decode prog_12_method_26_code 68 = .ok (.invokevirtual 199, 3) := by decide +kernel
theorem dc_Wa_fewestAgainst_100 : decode prog_12_method_26_code 100 = .ok (.ireturn, 1) := by decide +kernel
def j_Wa_fewestAgainst_79 (x1 : Int32) (x2 : Int32) (x3 : Int32) (kr : Int32 → Int32 → Int32 → ia_H → Option (Int32 × ia_H)) (k88 : Int32 → Int32 → ia_H → Option (Int32 × ia_H)) (x5 : Int32) (x6 : Int32) (s0 : Int32) (s1 : Int32) (h : ia_H) : Option (Int32 × ia_H) := kr (s0 ||| s1) x5 (x6 + 1) h
theorem tj_Wa_fewestAgainst_79 {w : ia_O0} {d N1 W1 : Nat} {K : ia_K} (hK : ia_isK (d + 2) mm_Wa_fewestAgainst N1 W1 K) {x1 : Int32} {x2 : Int32} {x3 : Int32} {r : Int32} {h1 : ia_H} (hret : ∀ (pc : Nat) (lv : ia_L), ia_ret mm_Wa_fewestAgainst pc (some (.inl r)) → K pc lv ((some (.inl r)) : Option ia_V).toList h1) {kr : Int32 → Int32 → Int32 → ia_H → Option (Int32 × ia_H)} {k88 : Int32 → Int32 → ia_H → Option (Int32 × ia_H)} (hkr : ∀ (x4 : Int32) (x5 : Int32) (x6 : Int32) (h : ia_H), gd_ w h → kr x4 x5 x6 h = some (r, h1) → K 39 [some (.inr (.inr 311)), some (.inl x1), none, some (.inl x3), some (.inl x4), some (.inl x5), some (.inl x6)] [] h) (hk88 : ∀ (x4 : Int32) (x5 : Int32) (h : ia_H), gd_ w h → k88 x4 x5 h = some (r, h1) → K 88 [some (.inr (.inr 311)), some (.inl x1), none, some (.inl x3), some (.inl x4), some (.inl x5), none] [] h) : ∀ (x5 : Int32) (x6 : Int32) (s0 : Int32) (s1 : Int32) (h : ia_H), gd_ w h → j_Wa_fewestAgainst_79 x1 x2 x3 kr k88 x5 x6 s0 s1 h = some (r, h1) → K 79 [some (.inr (.inr 311)), some (.inl x1), none, some (.inl x3), none, some (.inl x5), some (.inl x6)] [.inl s1, .inl s0] h := by
  intro x5 x6 s0 s1 h hg hm
  unfold j_Wa_fewestAgainst_79 at hm
  refine ia_go hK ck_Wa_fewestAgainst_79 ?_
  show K 39 [some (.inr (.inr 311)), some (.inl x1), none, some (.inl x3), some (.inl (s0 ||| s1)), some (.inl x5), some (.inl (x6 + 1))] [] h
  exact hkr (s0 ||| s1) x5 (x6 + 1) h hg hm
theorem gj_Wa_fewestAgainst_79 {w : ia_O0} {x1 : Int32} {x2 : Int32} {x3 : Int32} {r : Int32} {h1 : ia_H} {kr : Int32 → Int32 → Int32 → ia_H → Option (Int32 × ia_H)} {k88 : Int32 → Int32 → ia_H → Option (Int32 × ia_H)} (hkr : ∀ (x4 : Int32) (x5 : Int32) (x6 : Int32) (h : ia_H), gd_ w h → kr x4 x5 x6 h = some (r, h1) → gd_ w h1) (hk88 : ∀ (x4 : Int32) (x5 : Int32) (h : ia_H), gd_ w h → k88 x4 x5 h = some (r, h1) → gd_ w h1) : ∀ (x5 : Int32) (x6 : Int32) (s0 : Int32) (s1 : Int32) (h : ia_H), gd_ w h → j_Wa_fewestAgainst_79 x1 x2 x3 kr k88 x5 x6 s0 s1 h = some (r, h1) → gd_ w h1 := by
  intro x5 x6 s0 s1 h hg hm
  unfold j_Wa_fewestAgainst_79 at hm
  exact hkr (s0 ||| s1) x5 (x6 + 1) h hg hm
def l_Wa_fewestAgainst_39 (x1 : Int32) (x2 : Int32) (x3 : Int32) (k88 : Int32 → Int32 → ia_H → Option (Int32 × ia_H)) (n : Nat) (x4 : Int32) (x5 : Int32) (x6 : Int32) (h : ia_H) : Option (Int32 × ia_H) := match n with
  | 0 => none
  | n + 1 => (f_La_cells (ia_r h 311 4) h).bind fun v3 => (if v3 ≤ x6 then (k88 x4 x5 h) else (ia_gd (ia_ib x6 36) (if (ia_i h 314 ((x6).toNatClampNeg)) = (-1) then (j_Wa_fewestAgainst_79 x1 x2 x3 (l_Wa_fewestAgainst_39 x1 x2 x3 k88 n) k88 x5 x6 x4 0 h) else ((f_Wa_betterBeside x6 x1 h).bind fun v5 => (if v5.1 = 0 then (j_Wa_fewestAgainst_79 x1 x2 x3 (l_Wa_fewestAgainst_39 x1 x2 x3 k88 n) k88 x5 x6 x4 0 v5.2) else (j_Wa_fewestAgainst_79 x1 x2 x3 (l_Wa_fewestAgainst_39 x1 x2 x3 k88 n) k88 x5 x6 x4 1 v5.2))))))
theorem tl_Wa_fewestAgainst_39 {w : ia_O0} {d N1 W1 : Nat} {K : ia_K} (hK : ia_isK (d + 2) mm_Wa_fewestAgainst N1 W1 K) {x1 : Int32} {x2 : Int32} {x3 : Int32} {r : Int32} {h1 : ia_H} (hret : ∀ (pc : Nat) (lv : ia_L), ia_ret mm_Wa_fewestAgainst pc (some (.inl r)) → K pc lv ((some (.inl r)) : Option ia_V).toList h1) {k88 : Int32 → Int32 → ia_H → Option (Int32 × ia_H)} (hk88 : ∀ (x4 : Int32) (x5 : Int32) (h : ia_H), gd_ w h → k88 x4 x5 h = some (r, h1) → K 88 [some (.inr (.inr 311)), some (.inl x1), none, some (.inl x3), some (.inl x4), some (.inl x5), none] [] h) : ∀ (n : Nat) (x4 : Int32) (x5 : Int32) (x6 : Int32) (h : ia_H), gd_ w h → l_Wa_fewestAgainst_39 x1 x2 x3 k88 n x4 x5 x6 h = some (r, h1) → K 39 [some (.inr (.inr 311)), some (.inl x1), none, some (.inl x3), some (.inl x4), some (.inl x5), some (.inl x6)] [] h := by
  intro n
  induction n with
  | zero =>
    intro x4 x5 x6 h hg hm
    cases (show (none : Option (Int32 × ia_H)) = some _ from hm)
  | succ n ih =>
    intro x4 x5 x6 h hg hm
    rw [l_Wa_fewestAgainst_39] at hm
    refine ia_go hK ck_Wa_fewestAgainst_39 ⟨gk_11 hg pk_311, ?_⟩
    show K 45 [some (.inr (.inr 311)), some (.inl x1), none, some (.inl x3), some (.inl x4), some (.inl x5), some (.inl x6)] [.inr (.inr (ia_r h 311 4)), .inl x6] h
    obtain ⟨v3, hv3, hm⟩ := ia_bnd hm
    have ev3 := t_La_cells (d + 1) hg (gm_11_4 hg pk_311) hv3
    refine ia_cV hK mk_La_cells lk_11_41 dc_Wa_fewestAgainst_45 (ia_r h 311 4) [] [.inl x6] rfl rfl (Nat.le_of_ble_eq_true rfl) (by decide) rfl (gk_3 hg (gm_11_4 hg pk_311)) ev3 ⟨rfl, rfl⟩ ?_
    show K 48 [some (.inr (.inr 311)), some (.inl x1), none, some (.inl x3), some (.inl x4), some (.inl x5), some (.inl x6)] [.inl v3, .inl x6] h
    refine ia_go hK ck_Wa_fewestAgainst_48 ⟨fun c => ?_, fun c => ?_⟩
    · replace hm := ia_ifp hm c
      show K 88 [some (.inr (.inr 311)), some (.inl x1), none, some (.inl x3), some (.inl x4), some (.inl x5), some (.inl x6)] [] h
      refine ia_fg hK (lv' := [some (.inr (.inr 311)), some (.inl x1), none, some (.inl x3), some (.inl x4), some (.inl x5), none]) ⟨rfl, rfl, rfl, rfl, rfl, trivial⟩ ?_
      exact hk88 x4 x5 h hg hm
    · replace hm := ia_ifn hm c
      show K 51 [some (.inr (.inr 311)), some (.inl x1), none, some (.inl x3), some (.inl x4), some (.inl x5), some (.inl x6)] [] h
      obtain ⟨c4, hm⟩ := ia_gd_some hm
      refine ia_go hK ck_Wa_fewestAgainst_51 ⟨gk_11 hg pk_311, gr_11_7 hg pk_311, ga_i100 hg (ka_11_7 pk_311) c4, fun c => ?_, fun c => ?_⟩
      · replace hm := ia_ifp hm c
        show K 78 [some (.inr (.inr 311)), some (.inl x1), none, some (.inl x3), some (.inl x4), some (.inl x5), some (.inl x6)] [.inl x4] h
        refine ia_go hK ck_Wa_fewestAgainst_78 ?_
        show K 79 [some (.inr (.inr 311)), some (.inl x1), none, some (.inl x3), some (.inl x4), some (.inl x5), some (.inl x6)] [.inl 0, .inl x4] h
        refine ia_fg hK (lv' := [some (.inr (.inr 311)), some (.inl x1), none, some (.inl x3), none, some (.inl x5), some (.inl x6)]) ⟨rfl, rfl, rfl, rfl, rfl, trivial⟩ ?_
        exact tj_Wa_fewestAgainst_79 hK hret ih hk88 x5 x6 x4 0 h hg hm
      · replace hm := ia_ifn hm c
        show K 64 [some (.inr (.inr 311)), some (.inl x1), none, some (.inl x3), some (.inl x4), some (.inl x5), some (.inl x6)] [.inl x4] h
        refine ia_go hK ck_Wa_fewestAgainst_64 ?_
        show K 68 [some (.inr (.inr 311)), some (.inl x1), none, some (.inl x3), some (.inl x4), some (.inl x5), some (.inl x6)] [.inl x1, .inl x6, .inr (.inr 311), .inl x4] h
        obtain ⟨v5, hv5, hm⟩ := ia_bnd hm
        have ev5 := t_Wa_betterBeside (d + 0) hg hv5
        have gv5 := g_Wa_betterBeside hg hv5
        refine ia_cV hK mk_Wa_betterBeside lk_11_199 dc_Wa_fewestAgainst_68 311 [.inl x6, .inl x1] [.inl x4] rfl rfl (Nat.le_of_ble_eq_true rfl) (by decide) rfl (gk_11 hg pk_311) ev5 (gd_nm hg gv5) ?_
        show K 71 [some (.inr (.inr 311)), some (.inl x1), none, some (.inl x3), some (.inl x4), some (.inl x5), some (.inl x6)] [.inl v5.1, .inl x4] v5.2
        refine ia_go hK ck_Wa_fewestAgainst_71 ⟨fun c => ?_, fun c => ?_⟩
        · replace hm := ia_ifp hm c
          show K 78 [some (.inr (.inr 311)), some (.inl x1), none, some (.inl x3), some (.inl x4), some (.inl x5), some (.inl x6)] [.inl x4] v5.2
          refine ia_go hK ck_Wa_fewestAgainst_78 ?_
          show K 79 [some (.inr (.inr 311)), some (.inl x1), none, some (.inl x3), some (.inl x4), some (.inl x5), some (.inl x6)] [.inl 0, .inl x4] v5.2
          refine ia_fg hK (lv' := [some (.inr (.inr 311)), some (.inl x1), none, some (.inl x3), none, some (.inl x5), some (.inl x6)]) ⟨rfl, rfl, rfl, rfl, rfl, trivial⟩ ?_
          exact tj_Wa_fewestAgainst_79 hK hret ih hk88 x5 x6 x4 0 v5.2 gv5 hm
        · replace hm := ia_ifn hm c
          show K 74 [some (.inr (.inr 311)), some (.inl x1), none, some (.inl x3), some (.inl x4), some (.inl x5), some (.inl x6)] [.inl x4] v5.2
          refine ia_go hK ck_Wa_fewestAgainst_74 ?_
          show K 79 [some (.inr (.inr 311)), some (.inl x1), none, some (.inl x3), some (.inl x4), some (.inl x5), some (.inl x6)] [.inl 1, .inl x4] v5.2
          refine ia_fg hK (lv' := [some (.inr (.inr 311)), some (.inl x1), none, some (.inl x3), none, some (.inl x5), some (.inl x6)]) ⟨rfl, rfl, rfl, rfl, rfl, trivial⟩ ?_
          exact tj_Wa_fewestAgainst_79 hK hret ih hk88 x5 x6 x4 1 v5.2 gv5 hm
theorem gl_Wa_fewestAgainst_39 {w : ia_O0} {x1 : Int32} {x2 : Int32} {x3 : Int32} {r : Int32} {h1 : ia_H} {k88 : Int32 → Int32 → ia_H → Option (Int32 × ia_H)} (hk88 : ∀ (x4 : Int32) (x5 : Int32) (h : ia_H), gd_ w h → k88 x4 x5 h = some (r, h1) → gd_ w h1) : ∀ (n : Nat) (x4 : Int32) (x5 : Int32) (x6 : Int32) (h : ia_H), gd_ w h → l_Wa_fewestAgainst_39 x1 x2 x3 k88 n x4 x5 x6 h = some (r, h1) → gd_ w h1 := by
  intro n
  induction n with
  | zero =>
    intro x4 x5 x6 h hg hm
    cases (show (none : Option (Int32 × ia_H)) = some _ from hm)
  | succ n ih =>
    intro x4 x5 x6 h hg hm
    rw [l_Wa_fewestAgainst_39] at hm
    obtain ⟨v3, hv3, hm⟩ := ia_bnd hm
    by_cases c : v3 ≤ x6
    · replace hm := ia_ifp hm c
      exact hk88 x4 x5 h hg hm
    · replace hm := ia_ifn hm c
      obtain ⟨c4, hm⟩ := ia_gd_some hm
      by_cases c : (ia_i h 314 ((x6).toNatClampNeg)) = (-1)
      · replace hm := ia_ifp hm c
        exact gj_Wa_fewestAgainst_79 ih hk88 x5 x6 x4 0 h hg hm
      · replace hm := ia_ifn hm c
        obtain ⟨v5, hv5, hm⟩ := ia_bnd hm
        have gv5 := g_Wa_betterBeside hg hv5
        by_cases c : v5.1 = 0
        · replace hm := ia_ifp hm c
          exact gj_Wa_fewestAgainst_79 ih hk88 x5 x6 x4 0 v5.2 gv5 hm
        · replace hm := ia_ifn hm c
          exact gj_Wa_fewestAgainst_79 ih hk88 x5 x6 x4 1 v5.2 gv5 hm
def l_Wa_fewestAgainst_21 (x1 : Int32) (x2 : Int32) (x3 : Int32) (k94 : ia_H → Option (Int32 × ia_H)) (n : Nat) (x4 : Int32) (x5 : Int32) (h : ia_H) : Option (Int32 × ia_H) := match n with
  | 0 => none
  | n + 1 => if 36 ≤ x5 then (k94 h) else (if x4 = 0 then (k94 h) else (l_Wa_fewestAgainst_39 x1 x2 x3 (fun x4 x5 h => l_Wa_fewestAgainst_21 x1 x2 x3 k94 n x4 (x5 + 1) h) fu_ 0 x5 0 h))
theorem tl_Wa_fewestAgainst_21 {w : ia_O0} {d N1 W1 : Nat} {K : ia_K} (hK : ia_isK (d + 2) mm_Wa_fewestAgainst N1 W1 K) {x1 : Int32} {x2 : Int32} {x3 : Int32} {r : Int32} {h1 : ia_H} (hret : ∀ (pc : Nat) (lv : ia_L), ia_ret mm_Wa_fewestAgainst pc (some (.inl r)) → K pc lv ((some (.inl r)) : Option ia_V).toList h1) {k94 : ia_H → Option (Int32 × ia_H)} (hk94 : ∀ (h : ia_H), gd_ w h → k94 h = some (r, h1) → K 94 [some (.inr (.inr 311)), none, none, some (.inl x3), none, none, none] [] h) : ∀ (n : Nat) (x4 : Int32) (x5 : Int32) (h : ia_H), gd_ w h → l_Wa_fewestAgainst_21 x1 x2 x3 k94 n x4 x5 h = some (r, h1) → K 21 [some (.inr (.inr 311)), some (.inl x1), none, some (.inl x3), some (.inl x4), some (.inl x5), none] [] h := by
  intro n
  induction n with
  | zero =>
    intro x4 x5 h hg hm
    cases (show (none : Option (Int32 × ia_H)) = some _ from hm)
  | succ n ih =>
    intro x4 x5 h hg hm
    rw [l_Wa_fewestAgainst_21] at hm
    refine ia_go hK ck_Wa_fewestAgainst_21 ⟨fun c => ?_, fun c => ?_⟩
    · replace hm := ia_ifp hm c
      show K 94 [some (.inr (.inr 311)), some (.inl x1), none, some (.inl x3), some (.inl x4), some (.inl x5), none] [] h
      refine ia_fg hK (lv' := [some (.inr (.inr 311)), none, none, some (.inl x3), none, none, none]) ⟨rfl, rfl, trivial⟩ ?_
      exact hk94 h hg hm
    · replace hm := ia_ifn hm c
      show K 28 [some (.inr (.inr 311)), some (.inl x1), none, some (.inl x3), some (.inl x4), some (.inl x5), none] [] h
      refine ia_go hK ck_Wa_fewestAgainst_28 ⟨fun c => ?_, fun c => ?_⟩
      · replace hm := ia_ifp hm c
        show K 94 [some (.inr (.inr 311)), some (.inl x1), none, some (.inl x3), some (.inl x4), some (.inl x5), none] [] h
        refine ia_fg hK (lv' := [some (.inr (.inr 311)), none, none, some (.inl x3), none, none, none]) ⟨rfl, rfl, trivial⟩ ?_
        exact hk94 h hg hm
      · replace hm := ia_ifn hm c
        show K 33 [some (.inr (.inr 311)), some (.inl x1), none, some (.inl x3), some (.inl x4), some (.inl x5), none] [] h
        refine ia_go hK ck_Wa_fewestAgainst_33 ?_
        show K 39 [some (.inr (.inr 311)), some (.inl x1), none, some (.inl x3), some (.inl 0), some (.inl x5), some (.inl 0)] [] h
        refine tl_Wa_fewestAgainst_39 hK hret ?_ fu_ 0 x5 0 h hg hm
        · intro x4 x5 h hg hm
          refine ia_go hK ck_Wa_fewestAgainst_88 ?_
          show K 21 [some (.inr (.inr 311)), some (.inl x1), none, some (.inl x3), some (.inl x4), some (.inl (x5 + 1)), none] [] h
          exact ih x4 (x5 + 1) h hg hm
theorem gl_Wa_fewestAgainst_21 {w : ia_O0} {x1 : Int32} {x2 : Int32} {x3 : Int32} {r : Int32} {h1 : ia_H} {k94 : ia_H → Option (Int32 × ia_H)} (hk94 : ∀ (h : ia_H), gd_ w h → k94 h = some (r, h1) → gd_ w h1) : ∀ (n : Nat) (x4 : Int32) (x5 : Int32) (h : ia_H), gd_ w h → l_Wa_fewestAgainst_21 x1 x2 x3 k94 n x4 x5 h = some (r, h1) → gd_ w h1 := by
  intro n
  induction n with
  | zero =>
    intro x4 x5 h hg hm
    cases (show (none : Option (Int32 × ia_H)) = some _ from hm)
  | succ n ih =>
    intro x4 x5 h hg hm
    rw [l_Wa_fewestAgainst_21] at hm
    by_cases c : 36 ≤ x5
    · replace hm := ia_ifp hm c
      exact hk94 h hg hm
    · replace hm := ia_ifn hm c
      by_cases c : x4 = 0
      · replace hm := ia_ifp hm c
        exact hk94 h hg hm
      · replace hm := ia_ifn hm c
        refine gl_Wa_fewestAgainst_39 ?_ fu_ 0 x5 0 h hg hm
        · intro x4 x5 h hg hm
          exact ih x4 (x5 + 1) h hg hm
def j_Wa_fewestAgainst_94 (x1 : Int32) (x2 : Int32) (x3 : Int32) (h : ia_H) : Option (Int32 × ia_H) := ia_gd (ia_ib x3 36) (some (ia_i h 314 ((x3).toNatClampNeg), h))
theorem tj_Wa_fewestAgainst_94 {w : ia_O0} {d N1 W1 : Nat} {K : ia_K} (hK : ia_isK (d + 2) mm_Wa_fewestAgainst N1 W1 K) {x1 : Int32} {x2 : Int32} {x3 : Int32} {r : Int32} {h1 : ia_H} (hret : ∀ (pc : Nat) (lv : ia_L), ia_ret mm_Wa_fewestAgainst pc (some (.inl r)) → K pc lv ((some (.inl r)) : Option ia_V).toList h1) : ∀ (h : ia_H), gd_ w h → j_Wa_fewestAgainst_94 x1 x2 x3 h = some (r, h1) → K 94 [some (.inr (.inr 311)), none, none, some (.inl x3), none, none, none] [] h := by
  intro h hg hm
  unfold j_Wa_fewestAgainst_94 at hm
  obtain ⟨c6, hm⟩ := ia_gd_some hm
  refine ia_go hK ck_Wa_fewestAgainst_94 ⟨gk_11 hg pk_311, gr_11_7 hg pk_311, ga_i100 hg (ka_11_7 pk_311) c6, ?_⟩
  show K 100 [some (.inr (.inr 311)), none, none, some (.inl x3), none, none, none] [.inl (ia_i h 314 ((x3).toNatClampNeg))] h
  obtain ⟨rfl, rfl⟩ := Prod.mk.inj (Option.some.inj hm)
  exact hret 100 _ dc_Wa_fewestAgainst_100
theorem gj_Wa_fewestAgainst_94 {w : ia_O0} {x1 : Int32} {x2 : Int32} {x3 : Int32} {r : Int32} {h1 : ia_H} : ∀ (h : ia_H), gd_ w h → j_Wa_fewestAgainst_94 x1 x2 x3 h = some (r, h1) → gd_ w h1 := by
  intro h hg hm
  unfold j_Wa_fewestAgainst_94 at hm
  obtain ⟨c6, hm⟩ := ia_gd_some hm
  obtain ⟨rfl, rfl⟩ := Prod.mk.inj (Option.some.inj hm)
  exact hg
def f_Wa_fewestAgainst (x1 : Int32) (x2 : Int32) (x3 : Int32) (h : ia_H) : Option (Int32 × ia_H) := (f_Ar_fill 314 (-1) h).bind fun v1 => (ia_gd (ia_ib x2 36) (l_Wa_fewestAgainst_21 x1 x2 x3 (fun h => j_Wa_fewestAgainst_94 x1 x2 x3 h) fu_ 1 0 (ia_wI v1 314 ((x2).toNatClampNeg) 0)))
theorem g_Wa_fewestAgainst {w : ia_O0} {x1 : Int32} {x2 : Int32} {x3 : Int32} {h : ia_H} (hg : gd_ w h) {q : (Int32 × ia_H)} (hm : f_Wa_fewestAgainst x1 x2 x3 h = some q) : gd_ w q.2 := by
  obtain ⟨r, h1⟩ := q
  unfold f_Wa_fewestAgainst at hm
  obtain ⟨v1, hv1, hm⟩ := ia_bnd hm
  have gv1 := g_Ar_fill hg (congrArg Prod.fst (ka_11_7 pk_311)) hv1
  obtain ⟨c2, hm⟩ := ia_gd_some hm
  refine gl_Wa_fewestAgainst_21 ?_ fu_ 1 0 (ia_wI v1 314 ((x2).toNatClampNeg) 0) (gd_wI gv1 (kx_100 (ka_11_7 pk_311))) hm
  · intro h hg hm
    exact gj_Wa_fewestAgainst_94 h hg hm
theorem t_Wa_fewestAgainst {w : ia_O0} (d : Nat) {x1 : Int32} {x2 : Int32} {x3 : Int32} {h : ia_H} (hg : gd_ w h) {q : (Int32 × ia_H)} (hm : f_Wa_fewestAgainst x1 x2 x3 h = some q) : ia_Ev (d + 2) mm_Wa_fewestAgainst [.inr (.inr 311), .inl x1, .inl x2, .inl x3] h (some (.inl q.1)) q.2 := by
  have gq := g_Wa_fewestAgainst hg hm
  refine ia_Ev_intro ok_Wa_fewestAgainst (gd_le hg gq).1 (gd_le hg gq).2 (Nat.le_of_ble_eq_true rfl) (fun K hK hret => ?_)
  obtain ⟨r, h1⟩ := q
  show K 0 [some (.inr (.inr 311)), some (.inl x1), some (.inl x2), some (.inl x3), none, none, none] [] h
  unfold f_Wa_fewestAgainst at hm
  refine ia_go hK ck_Wa_fewestAgainst_0 ⟨gk_11 hg pk_311, gr_11_7 hg pk_311, ?_⟩
  show K 5 [some (.inr (.inr 311)), some (.inl x1), some (.inl x2), some (.inl x3), none, none, none] [.inl (-1), .inr (.inr 314)] h
  obtain ⟨v1, hv1, hm⟩ := ia_bnd hm
  have ev1 := t_Ar_fill (d + 1) hg (congrArg Prod.fst (ka_11_7 pk_311)) hv1
  have gv1 := g_Ar_fill hg (congrArg Prod.fst (ka_11_7 pk_311)) hv1
  refine ia_cS hK mk_Ar_fill lk_11_101 dc_Wa_fewestAgainst_5 [.inr (.inr 314), .inl (-1)] [] rfl rfl (Nat.le_of_ble_eq_true rfl) ev1 (gd_nm hg gv1) ?_
  show K 8 [some (.inr (.inr 311)), some (.inl x1), some (.inl x2), some (.inl x3), none, none, none] [] v1
  obtain ⟨c2, hm⟩ := ia_gd_some hm
  refine ia_go hK ck_Wa_fewestAgainst_8 ⟨gk_11 gv1 pk_311, gr_11_7 gv1 pk_311, ga_s100 gv1 (ka_11_7 pk_311) c2, ?_⟩
  show K 21 [some (.inr (.inr 311)), some (.inl x1), some (.inl x2), some (.inl x3), some (.inl 1), some (.inl 0), none] [] (ia_wI v1 314 ((x2).toNatClampNeg) 0)
  refine ia_fg hK (lv' := [some (.inr (.inr 311)), some (.inl x1), none, some (.inl x3), some (.inl 1), some (.inl 0), none]) ⟨rfl, rfl, rfl, rfl, rfl, trivial⟩ ?_
  refine tl_Wa_fewestAgainst_21 hK hret ?_ fu_ 1 0 (ia_wI v1 314 ((x2).toNatClampNeg) 0) (gd_wI gv1 (kx_100 (ka_11_7 pk_311))) hm
  · intro h hg hm
    exact tj_Wa_fewestAgainst_94 hK hret h hg hm
