/-! the loop of the law -/
theorem ck_law_18_0 : ia_cks 13 4 false code 18 [(.iload_n 3, 0, 0, 0, 0), (.aload_n 0, 0, 0, 0, 0), (.arraylength, 0, 0, 0, 0)] = true := by decide +kernel
theorem ck_law_21_1 : ia_cks 13 4 false code 21 [(.bipush 10, 0, 0, 0, 0), (.isub, 0, 0, 0, 0), (.if_icmp .gt 2741, 0, 0, 0, 0)] = true := by decide +kernel
theorem ck_law_27_2 : ia_cks 13 4 false code 27 [(.aload_n 0, 0, 0, 0, 0), (.iload_n 3, 0, 0, 0, 0), (.iaload, 0, 0, 0, 0), (.bipush 63, 0, 0, 0, 0), (.iand, 0, 0, 0, 0), (.tableswitch 2726 0 37 #[167, 230, 253, 286, 309, 342, 385, 428, 461, 504, 547, 610, 685, 796, 884, 959, 1035, 1127, 1190, 1305, 1380, 1443, 1496, 1596, 1727, 1814, 1867, 1954, 2081, 2168, 2267, 2342, 2417, 2516, 2604, 2657, 2680, 2703], 0, 0, 0, 0)] = true := by decide +kernel
theorem ck_law_2759_3 : ia_cks 13 4 false code 2759 [(.iinc 3 10, 0, 0, 0, 0), (.goto (-2744), 0, 0, 0, 0)] = true := by decide +kernel
theorem ck_law_2765_4 : ia_cks 13 4 false code 2765 [(.iconst 1, 0, 0, 0, 0)] = true := by decide +kernel
set_option maxHeartbeats 4000000 in
theorem law_loop {w : ia_O0} {N1 W1 : Nat} {K : ia_K} {L : Nat} (hK : ia_isK 101 mm_law N1 W1 K) (w1 : w.1 1 = (100, L)) (hL : L ≤ 5120) (oc : OCw w) (fin : ∀ (lv : ia_L) (h : ia_H), gd_ w h → K 2766 lv [.inl 1] h) : ∀ (n i : Nat) (x3 : Int32) (h : ia_H), x3.toInt = i → i ≤ L + 10 → L + 20 < i + n → gd_ w h → INV (vw h) → K 18 [some (.inr (.inr 1)), some (.inr (.inr 64)), some (.inr (.inr 417)), some (.inl x3)] [] h := by
  intro n
  induction n with
  | zero =>
    intro i x3 h hx h1 h2
    omega
  | succ n ih =>
    intro i x3 h hx h1 h2 hg I
    refine ia_go hK ck_law_18_0 ⟨by rw [gd_k1 hg, w1]; exact ⟨Nat.le_refl 100, (by decide : 100 < 104)⟩, ?_⟩
    show K 21 [some (.inr (.inr 1)), some (.inr (.inr 64)), some (.inr (.inr 417)), some (.inl x3)] [.inl (Int32.ofNat (ia_k h 1).2), .inl x3] h
    rw [gd_k1 hg, w1]
    have eL : (Int32.ofNat L - 10).toInt = (L : Int) - 10 := by
      rw [sb (Int32.toInt_ofNat_of_lt (by omega)) (show (10 : Int32).toInt = 10 from rfl), wr_eq (by omega) (by omega)]
    refine ia_go hK ck_law_21_1 ⟨fun c => ?_, fun c => ?_⟩
    · show K 2765 [some (.inr (.inr 1)), some (.inr (.inr 64)), some (.inr (.inr 417)), some (.inl x3)] [] h
      refine ia_go hK ck_law_2765_4 ?_
      show K 2766 [some (.inr (.inr 1)), some (.inr (.inr 64)), some (.inr (.inr 417)), some (.inl x3)] [.inl 1] h
      exact fin _ h hg
    · have c : ¬ Int32.ofNat L - 10 < x3 := c
      have hi : i + 10 ≤ L := by
        rw [Int32.lt_iff_toInt_lt, eL, hx] at c
        omega
      have nxt : ∀ h', gd_ w h' → INV (vw h') → K 2759 [some (.inr (.inr 1)), some (.inr (.inr 64)), some (.inr (.inr 417)), some (.inl x3)] [] h' := fun h' g' I' => by
        refine ia_go hK ck_law_2759_3 ?_
        show K 18 [some (.inr (.inr 1)), some (.inr (.inr 64)), some (.inr (.inr 417)), some (.inl (x3 + 10))] [] h'
        exact ih (i + 10) (x3 + 10) h' (ad_law hx rfl (by omega)) (by omega) (by omega) g' I'
      show K 27 [some (.inr (.inr 1)), some (.inr (.inr 64)), some (.inr (.inr 417)), some (.inl x3)] [] h
      refine ia_go hK ck_law_27_2 ⟨by rw [gd_k1 hg, w1]; exact ⟨rfl, in_law hx (by omega)⟩, ?_⟩
      show K (ia_tsw 33 2726 0 37 #[167, 230, 253, 286, 309, 342, 385, 428, 461, 504, 547, 610, 685, 796, 884, 959, 1035, 1127, 1190, 1305, 1380, 1443, 1496, 1596, 1727, 1814, 1867, 1954, 2081, 2168, 2267, 2342, 2417, 2516, 2604, 2657, 2680, 2703] (ia_i h 1 x3.toNatClampNeg &&& 63)) [some (.inr (.inr 1)), some (.inr (.inr 64)), some (.inr (.inr 417)), some (.inl x3)] [] h
      generalize ia_i h 1 x3.toNatClampNeg &&& 63 = x
      rcases Decidable.em (x = 0) with q | q0
      · rw [q]
        exact arm_0 hK w1 hL oc hx hi hg I nxt
      rcases Decidable.em (x = 1) with q | q1
      · rw [q]
        exact arm_1 hK w1 hL oc hx hi hg I nxt
      rcases Decidable.em (x = 2) with q | q2
      · rw [q]
        exact arm_2 hK w1 hL oc hx hi hg I nxt
      rcases Decidable.em (x = 3) with q | q3
      · rw [q]
        exact arm_3 hK w1 hL oc hx hi hg I nxt
      rcases Decidable.em (x = 4) with q | q4
      · rw [q]
        exact arm_4 hK w1 hL oc hx hi hg I nxt
      rcases Decidable.em (x = 5) with q | q5
      · rw [q]
        exact arm_5 hK w1 hL oc hx hi hg I nxt
      rcases Decidable.em (x = 6) with q | q6
      · rw [q]
        exact arm_6 hK w1 hL oc hx hi hg I nxt
      rcases Decidable.em (x = 7) with q | q7
      · rw [q]
        exact arm_7 hK w1 hL oc hx hi hg I nxt
      rcases Decidable.em (x = 8) with q | q8
      · rw [q]
        exact arm_8 hK w1 hL oc hx hi hg I nxt
      rcases Decidable.em (x = 9) with q | q9
      · rw [q]
        exact arm_9 hK w1 hL oc hx hi hg I nxt
      rcases Decidable.em (x = 10) with q | q10
      · rw [q]
        exact arm_10 hK w1 hL oc hx hi hg I nxt
      rcases Decidable.em (x = 11) with q | q11
      · rw [q]
        exact arm_11 hK w1 hL oc hx hi hg I nxt
      rcases Decidable.em (x = 12) with q | q12
      · rw [q]
        exact arm_12 hK w1 hL oc hx hi hg I nxt
      rcases Decidable.em (x = 13) with q | q13
      · rw [q]
        exact arm_13 hK w1 hL oc hx hi hg I nxt
      rcases Decidable.em (x = 14) with q | q14
      · rw [q]
        exact arm_14 hK w1 hL oc hx hi hg I nxt
      rcases Decidable.em (x = 15) with q | q15
      · rw [q]
        exact arm_15 hK w1 hL oc hx hi hg I nxt
      rcases Decidable.em (x = 16) with q | q16
      · rw [q]
        exact arm_16 hK w1 hL oc hx hi hg I nxt
      rcases Decidable.em (x = 17) with q | q17
      · rw [q]
        exact arm_17 hK w1 hL oc hx hi hg I nxt
      rcases Decidable.em (x = 18) with q | q18
      · rw [q]
        exact arm_18 hK w1 hL oc hx hi hg I nxt
      rcases Decidable.em (x = 19) with q | q19
      · rw [q]
        exact arm_19 hK w1 hL oc hx hi hg I nxt
      rcases Decidable.em (x = 20) with q | q20
      · rw [q]
        exact arm_20 hK w1 hL oc hx hi hg I nxt
      rcases Decidable.em (x = 21) with q | q21
      · rw [q]
        exact arm_21 hK w1 hL oc hx hi hg I nxt
      rcases Decidable.em (x = 22) with q | q22
      · rw [q]
        exact arm_22 hK w1 hL oc hx hi hg I nxt
      rcases Decidable.em (x = 23) with q | q23
      · rw [q]
        exact arm_23 hK w1 hL oc hx hi hg I nxt
      rcases Decidable.em (x = 24) with q | q24
      · rw [q]
        exact arm_24 hK w1 hL oc hx hi hg I nxt
      rcases Decidable.em (x = 25) with q | q25
      · rw [q]
        exact arm_25 hK w1 hL oc hx hi hg I nxt
      rcases Decidable.em (x = 26) with q | q26
      · rw [q]
        exact arm_26 hK w1 hL oc hx hi hg I nxt
      rcases Decidable.em (x = 27) with q | q27
      · rw [q]
        exact arm_27 hK w1 hL oc hx hi hg I nxt
      rcases Decidable.em (x = 28) with q | q28
      · rw [q]
        exact arm_28 hK w1 hL oc hx hi hg I nxt
      rcases Decidable.em (x = 29) with q | q29
      · rw [q]
        exact arm_29 hK w1 hL oc hx hi hg I nxt
      rcases Decidable.em (x = 30) with q | q30
      · rw [q]
        exact arm_30 hK w1 hL oc hx hi hg I nxt
      rcases Decidable.em (x = 31) with q | q31
      · rw [q]
        exact arm_31 hK w1 hL oc hx hi hg I nxt
      rcases Decidable.em (x = 32) with q | q32
      · rw [q]
        exact arm_32 hK w1 hL oc hx hi hg I nxt
      rcases Decidable.em (x = 33) with q | q33
      · rw [q]
        exact arm_33 hK w1 hL oc hx hi hg I nxt
      rcases Decidable.em (x = 34) with q | q34
      · rw [q]
        exact arm_34 hK w1 hL oc hx hi hg I nxt
      rcases Decidable.em (x = 35) with q | q35
      · rw [q]
        exact arm_35 hK w1 hL oc hx hi hg I nxt
      rcases Decidable.em (x = 36) with q | q36
      · rw [q]
        exact arm_36 hK w1 hL oc hx hi hg I nxt
      rcases Decidable.em (x = 37) with q | q37
      · rw [q]
        exact arm_37 hK w1 hL oc hx hi hg I nxt
      rw [ia_tsw_d (fun k k1 k2 e => ?_)]
      · exact nxt h hg I
      · rcases (show k = 0 ∨ k = 1 ∨ k = 2 ∨ k = 3 ∨ k = 4 ∨ k = 5 ∨ k = 6 ∨ k = 7 ∨ k = 8 ∨ k = 9 ∨ k = 10 ∨ k = 11 ∨ k = 12 ∨ k = 13 ∨ k = 14 ∨ k = 15 ∨ k = 16 ∨ k = 17 ∨ k = 18 ∨ k = 19 ∨ k = 20 ∨ k = 21 ∨ k = 22 ∨ k = 23 ∨ k = 24 ∨ k = 25 ∨ k = 26 ∨ k = 27 ∨ k = 28 ∨ k = 29 ∨ k = 30 ∨ k = 31 ∨ k = 32 ∨ k = 33 ∨ k = 34 ∨ k = 35 ∨ k = 36 ∨ k = 37 by omega) with rfl | rfl | rfl | rfl | rfl | rfl | rfl | rfl | rfl | rfl | rfl | rfl | rfl | rfl | rfl | rfl | rfl | rfl | rfl | rfl | rfl | rfl | rfl | rfl | rfl | rfl | rfl | rfl | rfl | rfl | rfl | rfl | rfl | rfl | rfl | rfl | rfl | rfl
        · exact q0 e
        · exact q1 e
        · exact q2 e
        · exact q3 e
        · exact q4 e
        · exact q5 e
        · exact q6 e
        · exact q7 e
        · exact q8 e
        · exact q9 e
        · exact q10 e
        · exact q11 e
        · exact q12 e
        · exact q13 e
        · exact q14 e
        · exact q15 e
        · exact q16 e
        · exact q17 e
        · exact q18 e
        · exact q19 e
        · exact q20 e
        · exact q21 e
        · exact q22 e
        · exact q23 e
        · exact q24 e
        · exact q25 e
        · exact q26 e
        · exact q27 e
        · exact q28 e
        · exact q29 e
        · exact q30 e
        · exact q31 e
        · exact q32 e
        · exact q33 e
        · exact q34 e
        · exact q35 e
        · exact q36 e
        · exact q37 e
