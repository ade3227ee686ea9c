/-! the law, from its entry to its loop -/
theorem ck_law_3b : ia_cks 13 4 false code 3 [(.dup, 0, 0, 0, 0)] = true := by decide +kernel
theorem ck_law_7b : ia_cks 13 4 false code 7 [(.astore_n 1, 0, 0, 0, 0)] = true := by decide +kernel
theorem ck_law_11b : ia_cks 13 4 false code 11 [(.dup, 0, 0, 0, 0)] = true := by decide +kernel
theorem ck_law_15b : ia_cks 13 4 false code 15 [(.astore_n 2, 0, 0, 0, 0), (.iconst 0, 0, 0, 0, 0), (.istore_n 3, 0, 0, 0, 0)] = true := by decide +kernel
theorem dc_law_0b : decode code 0 = .ok (.new 7, 3) := by decide +kernel
theorem dc_law_8b : decode code 8 = .ok (.new 10, 3) := by decide +kernel
theorem dc_law_4b : decode code 4 = .ok (.invokespecial 9, 3) := by decide +kernel
theorem dc_law_12b : decode code 12 = .ok (.invokespecial 12, 3) := by decide +kernel
theorem dc_law_2766 : decode code 2766 = .ok (.ireturn, 1) := by decide +kernel
theorem lk_13_9 : ia_lnk 13 9 ⟨"IceStreet", "<init>", "()V"⟩ false := ia_tb_in (List.mem_of_getElem? (i := 156) (by decide +kernel)) rfl
theorem lk_13_12 : ia_lnk 13 12 ⟨"IceStreetModel", "<init>", "()V"⟩ false := ia_tb_in (List.mem_of_getElem? (i := 1604) (by decide +kernel)) rfl
theorem sw_hc {w : ia_O0} {h : ia_H} (e1 : ia_n h = 0) (e2 : ia_m h = 0) (e3 : ∀ a, 64 ≤ a → ia_k h a = (999, 0)) (e4 : ∀ a, a < 64 → ia_k h a = w.1 a ∧ ia_i h a = w.2 a) : hc_ 64 [] w h := by
  have kd : ∀ e, e < 64 → (kd_D e).1 = 999 := fun e q => by
    rcases Decidable.em ((kd_D e).1 = 999) with c | c
    · exact c
    · exact absurd (kd_lt c).1 (by omega)
  refine ⟨Nat.le_refl _, e1, e2.trans (by decide +kernel), fun a q1 q2 => by omega, e3, fun e k f q1 _ q => ?_, fun e k f q1 _ q => ?_, fun e j f q1 _ q _ => ?_, fun e q1 _ q => ?_, fun e q1 _ q => ?_, e4⟩
  · rw [kd e q1] at q; cases q
  · rw [kd e q1] at q; cases q
  · rw [kd e q1] at q; cases q
  · rw [kd e q1] at q; cases q
  · rw [kd e q1] at q; cases q
theorem sw_cap {c : Nat} {S : List Nat} {w : ia_O0} {h : ia_H} (H : hc_ c S w h) (q : c ≤ 435) : ia_n h ≤ 371 ∧ ia_m h ≤ hs_ 435 := by
  have a1 := H.2.1
  have a2 := H.2.2.1
  rw [a2]
  exact ⟨by omega, hs_mono q⟩
theorem sw_inv {h2 h3 h4 : ia_H} {w : ia_O0} (c2 : hc_ 417 [] w h2) (e3 : h3 = ia_nw h2 12 0 38) (f4 : hf_ 417 h3 h4) (z1 : (∀ k, k ≠ 3 → ia_i h2 65 k = 0) ∧ ia_i h2 65 3 = (-1)) (z2 : ∀ k, ia_i h2 67 k = 0) (z3 : ∀ k, ia_i h2 278 k = 0) (y0 : (∀ k, k ≠ 16 → k ≠ 17 → ia_i h4 417 k = 0) ∧ ia_i h4 417 16 = (-1) ∧ ia_i h4 417 17 = (-1)) (y1 : (∀ k, k ≠ 5 → ia_i h4 418 k = 0) ∧ ia_i h4 418 5 = (-1)) (y2 : ∀ k, ia_i h4 419 k = 0) (y3 : ∀ k, ia_i h4 424 k = 0) : INV (vw h4) := by
  have k : ∀ {b j : Nat} {v : Int32}, b < 417 → ia_i h2 b j = v → ia_i h4 b j = v := fun {b j v} q e => hf_i f4 q (by rw [e3]; exact nw_i (hc_ne c2 q) e)
  have t0 : (0 : Int32).toInt = 0 := rfl
  have t1 : (-1 : Int32).toInt = -1 := rfl
  have p0 : ∀ a j, ia_i h4 a j = 0 → pi (vw h4) a j = 0 := fun a j e => by
    show (ia_i h4 a j).toInt = 0
    rw [e]
    exact t0
  have p1 : ∀ a j, ia_i h4 a j = (-1) → pi (vw h4) a j = -1 := fun a j e => by
    show (ia_i h4 a j).toInt = -1
    rw [e]
    exact t1
  refine INV_0 (fun i hi => ⟨p0 _ _ (k (by decide) (z2 i)), p0 _ _ (y1.1 i (by omega))⟩) ⟨p0 _ _ (k (by decide) (z1.1 1 (by decide))), ?_, ?_⟩ (p0 _ _ (y1.1 3 (by decide))) ⟨⟨p1 _ _ y0.2.1, p1 _ _ y0.2.2, p0 _ _ (y0.1 18 (by decide) (by decide)), p0 _ _ (y0.1 19 (by decide) (by decide))⟩, fun c _ => p0 _ _ (y3 c)⟩ (fun j hj => ⟨p0 _ _ (k (by decide) (z3 j)), p0 _ _ (y2 j)⟩)
  · rw [p0 _ _ (k (by decide) (z1.1 2 (by decide))), p0 _ _ (y1.1 4 (by decide))]
  · rw [p1 _ _ (k (by decide) z1.2), p1 _ _ y1.2]
set_option maxHeartbeats 4000000 in
theorem law_start {w : ia_O0} {K : ia_K} {L : Nat} {h : ia_H} (hK : ia_isK 101 mm_law 371 (hs_ 435) K) (w1 : w.1 1 = (100, L)) (w2 : w.1 2 = (100, 3)) (w3 : w.1 3 = (100, 4)) (hL : L ≤ 5120) (oc : OCw w) (hh : hc_ 64 [] w h) (fin : ∀ (lv : ia_L) (h : ia_H), gd_ w h → K 2766 lv [.inl 1] h) : K 0 [some (.inr (.inr 1)), none, none, none] [] h := by
  obtain ⟨h1, e1⟩ : ∃ x, x = ia_nw h 0 0 11 := ⟨_, rfl⟩
  have c1 : hc_ 65 [64] w h1 := by rw [e1]; exact hc_new hh (k := 0) (n := 0) (by decide +kernel) rfl (by decide) (by decide)
  obtain ⟨h2, v2, c2, f2, z1, z2, z3⟩ := mc_I_init 94 c1
  obtain ⟨h3, e3⟩ : ∃ x, x = ia_nw h2 12 0 38 := ⟨_, rfl⟩
  have c3 : hc_ 418 [417] w h3 := by rw [e3]; exact hc_new c2 (k := 12) (n := 0) (by decide +kernel) rfl (by decide) (by decide)
  have z4 : ∀ k, ia_i h3 417 k = 0 := by rw [e3, ← hc_at c2]; exact fun _ => ia_nw_i0
  obtain ⟨h4, v4, c4, f4, y0, y1, y2, y3⟩ := mc_M_init 100 c3 z4
  have g4 : gd_ w h4 := hc_gd c4 w2 w3
  have I4 : INV (vw h4) := sw_inv c2 e3 f4 z1 z2 z3 y0 y1 y2 y3
  refine kw_new hK (ci := 0) (by decide) (ia_tb_in (List.mem_of_getElem? (i := 154) (by decide +kernel)) rfl) (ia_tb_in (List.mem_of_getElem? (i := 155) (by decide +kernel)) rfl) (ia_tb_in (List.mem_of_getElem? (i := 133) (by decide +kernel)) rfl) dc_law_0b rfl e1 (hc_at hh) (sw_cap c1 (by decide)) ?_
  show K 3 [some (.inr (.inr 1)), none, none, none] [.inr (.inr 64)] h1
  refine ia_go hK ck_law_3b ?_
  show K 4 [some (.inr (.inr 1)), none, none, none] [.inr (.inr 64), .inr (.inr 64)] h1
  refine ia_callI hK mk_I_init lk_13_9 dc_law_4b (by decide) [] [.inr (.inr 64)] rfl rfl (Nat.le_of_ble_eq_true rfl) v2 (sw_cap c2 (by decide)) ?_
  show K 7 [some (.inr (.inr 1)), none, none, none] [.inr (.inr 64)] h2
  refine ia_go hK ck_law_7b ?_
  show K 8 [some (.inr (.inr 1)), some (.inr (.inr 64)), none, none] [] h2
  refine kw_new hK (ci := 12) (by decide) (ia_tb_in (List.mem_of_getElem? (i := 1602) (by decide +kernel)) rfl) (ia_tb_in (List.mem_of_getElem? (i := 1603) (by decide +kernel)) rfl) (ia_tb_in (List.mem_of_getElem? (i := 146) (by decide +kernel)) rfl) dc_law_8b rfl e3 (hc_at c2) (sw_cap c3 (by decide)) ?_
  show K 11 [some (.inr (.inr 1)), some (.inr (.inr 64)), none, none] [.inr (.inr 417)] h3
  refine ia_go hK ck_law_11b ?_
  show K 12 [some (.inr (.inr 1)), some (.inr (.inr 64)), none, none] [.inr (.inr 417), .inr (.inr 417)] h3
  refine ia_callI hK mk_M_init lk_13_12 dc_law_12b (by decide) [] [.inr (.inr 417)] rfl rfl (Nat.le_of_ble_eq_true rfl) v4 (sw_cap c4 (by decide)) ?_
  show K 15 [some (.inr (.inr 1)), some (.inr (.inr 64)), none, none] [.inr (.inr 417)] h4
  refine ia_go hK ck_law_15b ?_
  show K 18 [some (.inr (.inr 1)), some (.inr (.inr 64)), some (.inr (.inr 417)), some (.inl 0)] [] h4
  exact law_loop hK w1 hL oc fin (L + 21) 0 0 h4 rfl (by omega) (by omega) g4 I4
