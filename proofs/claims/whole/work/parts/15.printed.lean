/-! printed: what the texts below use -/
def fu_ : Nat := 1099511627776
def ia_sub (a b : ia_L) : Prop := match a, b with
  | [], [] => True
  | none :: a, _ :: b => ia_sub a b
  | some v :: a, some w :: b => v = w ∧ ia_sub a b
  | _, _ => False
theorem ia_sub_at : ∀ {a b : ia_L}, ia_sub a b → a.length = b.length ∧ ∀ (i : Nat) (v : ia_V), a[i]? = some (some v) → b[i]? = some (some v)
  | [], [], _ => ⟨rfl, fun i v q => q⟩
  | none :: a, x :: b, h => by
    obtain ⟨h1, h2⟩ := ia_sub_at (a := a) (b := b) h
    refine ⟨by simp [h1], fun i v q => ?_⟩
    cases i with
    | zero => simp at q
    | succ i => exact h2 i v q
  | some v :: a, some w :: b, h => by
    obtain ⟨rfl, h⟩ := h
    obtain ⟨h1, h2⟩ := ia_sub_at (a := a) (b := b) h
    refine ⟨by simp [h1], fun i u q => ?_⟩
    cases i with
    | zero => exact q
    | succ i => exact h2 i u q
theorem ia_fg {d : Nat} {M : ia_M} {N1 W1 : Nat} {K : ia_K} {pc : Nat} {lv lv' : ia_L} {st : List ia_V} {h : ia_H} (hK : ia_isK d M N1 W1 K) (hs : ia_sub lv' lv) (kk : K pc lv' st h) : K pc lv st h := by
  obtain ⟨p, l, e, R, s, m, args, below, meth, co, g, n0, w0, Q, rfl, -⟩ := hK
  intro H locs ls hl hn hP hk hS
  obtain ⟨h1, h2⟩ := ia_sub_at hs
  refine kk H locs ls (ia_has_sub hl ?_) ⟨h1.trans hn.1, hn.2⟩ hP hk hS
  intro q hq
  obtain ⟨i, v, h3, rfl⟩ := (ia_al_mem lv' 0).mp hq
  exact (ia_al_mem lv 0).mpr ⟨i, v, h2 i v h3, rfl⟩
theorem ia_tsw_d {pc : Nat} {d lo hi : Int} {offs : Array Int} {x : Int32} (h : ∀ k : Int, lo ≤ k → k ≤ hi → ¬ x = Int32.ofInt k) : ia_tsw pc d lo hi offs x = ia_tg pc d := by
  unfold ia_tsw
  rw [if_pos]
  by_cases h1 : x.toInt < lo
  · exact Or.inl h1
  · by_cases h2 : hi < x.toInt
    · exact Or.inr h2
    · exact absurd (Int32.ofInt_toInt x).symm (h x.toInt (by omega) (by omega))
theorem kd_pr {a k : Nat} (p : (kd_D a).1 = k) : kd_D a = (k, (kd_D a).2) := by rw [← p]
theorem gd_cI {w : ia_O0} {d : Nat} {M : ia_M} {N1 W1 : Nat} {K : ia_K} {pc idx : Nat} {lv : ia_L} {st : List ia_V} {h : ia_H} {sp dp n : Int32} {a b k na nb : Nat} (hK : ia_isK d M N1 W1 K) (hw : Cond.methodLink (ia_O M.2.2.2.2.1) idx arraycopyName ∈ ia_tb) (hd : decode M.2.1 pc = .ok (.invokestatic idx, 3)) (hs : ia_wd st ≤ 8) (hk3 : k = 100 ∨ k = 101 ∨ k = 102) (hg : gd_ w h) (pa : kd_D a = (k, na)) (pb : kd_D b = (k, nb)) (hc : ia_cb sp dp n na nb = true) (hf : ia_fb k (ia_i h a) sp.toNatClampNeg n.toNatClampNeg = true) (kk : K (pc + 3) lv st (ia_cpI h a b sp.toNatClampNeg dp.toNatClampNeg n.toNatClampNeg)) : K pc lv (.inl n :: .inl dp :: .inr (.inr b) :: .inl sp :: .inr (.inr a) :: st) h :=
  ia_copyI hK hw hd hs hk3 ⟨(gd_ka hg pa (by omega)).1, (gd_ka hg pb (by omega)).1⟩ (gd_ka hg pa (by omega)).2 (gd_ka hg pb (by omega)).2 hc hf kk
theorem gd_cL {w : ia_O0} {d : Nat} {M : ia_M} {N1 W1 : Nat} {K : ia_K} {pc idx : Nat} {lv : ia_L} {st : List ia_V} {h : ia_H} {sp dp n : Int32} {a b na nb : Nat} (hK : ia_isK d M N1 W1 K) (hw : Cond.methodLink (ia_O M.2.2.2.2.1) idx arraycopyName ∈ ia_tb) (hd : decode M.2.1 pc = .ok (.invokestatic idx, 3)) (hs : ia_wd st ≤ 8) (hg : gd_ w h) (pa : kd_D a = (103, na)) (pb : kd_D b = (103, nb)) (hc : ia_cb sp dp n na nb = true) (kk : K (pc + 3) lv st (ia_cpL h a b sp.toNatClampNeg dp.toNatClampNeg n.toNatClampNeg)) : K pc lv (.inl n :: .inl dp :: .inr (.inr b) :: .inl sp :: .inr (.inr a) :: st) h :=
  ia_copyL hK hw hd hs ⟨(gd_ka hg pa (by omega)).1, (gd_ka hg pb (by omega)).1⟩ (gd_ka hg pa (by omega)).2 (gd_ka hg pb (by omega)).2 hc kk
theorem gs_2 {w : ia_O0} {h : ia_H} {i : Int32} (g : gd_ w h) (c : ia_ib i 3 = true) : (ia_k h 2).1 = 100 ∧ vp_in i (ia_k h 2).2 := by
  rw [g.2.2.2.2.2.2.2.2.1]
  exact ⟨rfl, ia_ib_in c⟩
theorem gs_3 {w : ia_O0} {h : ia_H} {i : Int32} (g : gd_ w h) (c : ia_ib i 4 = true) : (ia_k h 3).1 = 100 ∧ vp_in i (ia_k h 3).2 := by
  rw [g.2.2.2.2.2.2.2.2.2.1]
  exact ⟨rfl, ia_ib_in c⟩
/-! links -/
theorem lk_0_94 : ia_lnk 0 94 ⟨"IceStreet$Told", "tapeNumber", "(I)V"⟩ false := ia_tb_in (List.mem_of_getElem? (i := 723) (by decide +kernel)) rfl
theorem lk_0_104 : ia_lnk 0 104 ⟨"IceStreet", "hasPlace", "(II)Z"⟩ false := ia_tb_in (List.mem_of_getElem? (i := 735) (by decide +kernel)) rfl
theorem lk_0_112 : ia_lnk 0 112 ⟨"IceStreet$Reader", "read", "([BII)Z"⟩ false := ia_tb_in (List.mem_of_getElem? (i := 745) (by decide +kernel)) rfl
theorem lk_0_122 : ia_lnk 0 122 ⟨"IceStreet", "keepDraft", "(II)V"⟩ false := ia_tb_in (List.mem_of_getElem? (i := 969) (by decide +kernel)) rfl
theorem lk_0_129 : ia_lnk 0 129 ⟨"IceStreet$Told", "has", "(II)Z"⟩ false := ia_tb_in (List.mem_of_getElem? (i := 741) (by decide +kernel)) rfl
theorem lk_0_136 : ia_lnk 0 136 ⟨"IceStreet$Lake", "become", "(LIceStreet$Lake;)V"⟩ false := ia_tb_in (List.mem_of_getElem? (i := 973) (by decide +kernel)) rfl
theorem lk_0_146 : ia_lnk 0 146 ⟨"IceStreet$Law", "become", "(LIceStreet$Law;)V"⟩ false := ia_tb_in (List.mem_of_getElem? (i := 980) (by decide +kernel)) rfl
theorem lk_0_159 : ia_lnk 0 159 ⟨"IceStreet$Plan", "become", "(LIceStreet$Plan;)V"⟩ false := ia_tb_in (List.mem_of_getElem? (i := 985) (by decide +kernel)) rfl
theorem lk_0_182 : ia_lnk 0 182 ⟨"IceStreet$Lake", "isCell", "(I)Z"⟩ false := ia_tb_in (List.mem_of_getElem? (i := 1002) (by decide +kernel)) rfl
theorem lk_0_199 : ia_lnk 0 199 ⟨"IceStreet", "hasBit", "(JI)Z"⟩ false := ia_tb_in (List.mem_of_getElem? (i := 1006) (by decide +kernel)) rfl
theorem lk_0_207 : ia_lnk 0 207 ⟨"java/lang/Long", "bitCount", "(J)I"⟩ false := ia_tb_in (List.mem_of_getElem? (i := 1007) (by decide +kernel)) rfl
theorem lk_0_240 : ia_lnk 0 240 ⟨"IceStreet$Law", "tellRow", "(I)I"⟩ false := ia_tb_in (List.mem_of_getElem? (i := 1021) (by decide +kernel)) rfl
theorem lk_0_259 : ia_lnk 0 259 ⟨"IceStreet$Scene", "begin", "(LIceStreet$Lake;LIceStreet$Law;)V"⟩ false := ia_tb_in (List.mem_of_getElem? (i := 1034) (by decide +kernel)) rfl
theorem lk_0_262 : ia_lnk 0 262 ⟨"IceStreet$Deeds", "perform", "(LIceStreet$Scene;LIceStreet$Plan;I)Z"⟩ false := ia_tb_in (List.mem_of_getElem? (i := 1068) (by decide +kernel)) rfl
theorem lk_0_266 : ia_lnk 0 266 ⟨"IceStreet", "stage", "(IIII)Z"⟩ false := ia_tb_in (List.mem_of_getElem? (i := 1185) (by decide +kernel)) rfl
theorem lk_0_276 : ia_lnk 0 276 ⟨"IceStreet$Scene", "lost", "()I"⟩ false := ia_tb_in (List.mem_of_getElem? (i := 1189) (by decide +kernel)) rfl
theorem lk_0_280 : ia_lnk 0 280 ⟨"IceStreet$Scene", "broken", "()I"⟩ false := ia_tb_in (List.mem_of_getElem? (i := 1193) (by decide +kernel)) rfl
theorem lk_0_284 : ia_lnk 0 284 ⟨"IceStreet$Ways", "partCount", "(LIceStreet$Lake;)I"⟩ false := ia_tb_in (List.mem_of_getElem? (i := 1199) (by decide +kernel)) rfl
theorem lk_0_293 : ia_lnk 0 293 ⟨"IceStreet$Scene", "bears", "(I)I"⟩ false := ia_tb_in (List.mem_of_getElem? (i := 1211) (by decide +kernel)) rfl
theorem lk_0_299 : ia_lnk 0 299 ⟨"IceStreet", "isTrip", "(III)Z"⟩ false := ia_tb_in (List.mem_of_getElem? (i := 1219) (by decide +kernel)) rfl
theorem lk_0_303 : ia_lnk 0 303 ⟨"IceStreet$Ways", "survey", "(LIceStreet$Scene;I)V"⟩ false := ia_tb_in (List.mem_of_getElem? (i := 1226) (by decide +kernel)) rfl
theorem lk_0_307 : ia_lnk 0 307 ⟨"IceStreet$Ways", "find", "(IIII)Z"⟩ false := ia_tb_in (List.mem_of_getElem? (i := 1227) (by decide +kernel)) rfl
theorem lk_0_324 : ia_lnk 0 324 ⟨"IceStreet$Ways", "greatestLoad", "(II)I"⟩ false := ia_tb_in (List.mem_of_getElem? (i := 1270) (by decide +kernel)) rfl
theorem lk_0_333 : ia_lnk 0 333 ⟨"IceStreet", "isLoad", "(I)Z"⟩ false := ia_tb_in (List.mem_of_getElem? (i := 1223) (by decide +kernel)) rfl
theorem lk_0_336 : ia_lnk 0 336 ⟨"IceStreet$Ways", "reach", "(II)J"⟩ false := ia_tb_in (List.mem_of_getElem? (i := 1276) (by decide +kernel)) rfl
theorem lk_0_340 : ia_lnk 0 340 ⟨"IceStreet$Ways", "joined", "(LIceStreet$Lake;I)J"⟩ false := ia_tb_in (List.mem_of_getElem? (i := 1281) (by decide +kernel)) rfl
theorem lk_0_344 : ia_lnk 0 344 ⟨"IceStreet$Scene", "duesIn", "(J)I"⟩ false := ia_tb_in (List.mem_of_getElem? (i := 1282) (by decide +kernel)) rfl
theorem lk_0_347 : ia_lnk 0 347 ⟨"IceStreet$Scene", "stands", "(I)Z"⟩ false := ia_tb_in (List.mem_of_getElem? (i := 1290) (by decide +kernel)) rfl
theorem lk_0_350 : ia_lnk 0 350 ⟨"IceStreet$Outlook", "daysHeld", "(LIceStreet$Scene;I)I"⟩ false := ia_tb_in (List.mem_of_getElem? (i := 1291) (by decide +kernel)) rfl
theorem lk_0_354 : ia_lnk 0 354 ⟨"IceStreet$Outlook", "longestFair", "(LIceStreet$Scene;IIIZ)I"⟩ false := ia_tb_in (List.mem_of_getElem? (i := 1309) (by decide +kernel)) rfl
theorem lk_0_358 : ia_lnk 0 358 ⟨"IceStreet$Drawing", "ready", "(LIceStreet$Scene;I)V"⟩ false := ia_tb_in (List.mem_of_getElem? (i := 1336) (by decide +kernel)) rfl
theorem lk_0_361 : ia_lnk 0 361 ⟨"IceStreet$Drawing", "tryDay", "(I)V"⟩ true := ⟨"IceStreet", List.mem_filter.mpr ⟨List.mem_of_getElem? (i := 1342) (by decide +kernel), rfl⟩⟩
theorem lk_0_370 : ia_lnk 0 370 ⟨"IceStreet$Outlook", "safestCell", "(LIceStreet$Scene;I)I"⟩ false := ia_tb_in (List.mem_of_getElem? (i := 1380) (by decide +kernel)) rfl
theorem lk_0_373 : ia_lnk 0 373 ⟨"IceStreet$Outlook", "worstStove", "(LIceStreet$Scene;)I"⟩ false := ia_tb_in (List.mem_of_getElem? (i := 1392) (by decide +kernel)) rfl
theorem lk_0_377 : ia_lnk 0 377 ⟨"IceStreet$Scene", "frost", "()I"⟩ false := ia_tb_in (List.mem_of_getElem? (i := 1413) (by decide +kernel)) rfl
theorem lk_0_380 : ia_lnk 0 380 ⟨"IceStreet$Scene", "passDay", "(I)V"⟩ false := ia_tb_in (List.mem_of_getElem? (i := 1414) (by decide +kernel)) rfl
theorem lk_0_383 : ia_lnk 0 383 ⟨"IceStreet$Ways", "shortCells", "(LIceStreet$Scene;III)J"⟩ false := ia_tb_in (List.mem_of_getElem? (i := 1415) (by decide +kernel)) rfl
theorem lk_0_387 : ia_lnk 0 387 ⟨"IceStreet$Outlook", "firstDayWith", "(LIceStreet$Scene;ZIII)I"⟩ false := ia_tb_in (List.mem_of_getElem? (i := 1431) (by decide +kernel)) rfl
theorem lk_0_391 : ia_lnk 0 391 ⟨"IceStreet$Outlook", "firstWater", "(LIceStreet$Scene;)I"⟩ false := ia_tb_in (List.mem_of_getElem? (i := 1441) (by decide +kernel)) rfl
theorem lk_0_394 : ia_lnk 0 394 ⟨"IceStreet$Ways", "fewestCuts", "(III)I"⟩ false := ia_tb_in (List.mem_of_getElem? (i := 1449) (by decide +kernel)) rfl
theorem lk_0_398 : ia_lnk 0 398 ⟨"IceStreet$Route", "take", "(LIceStreet$Ways;II)Z"⟩ false := ia_tb_in (List.mem_of_getElem? (i := 1465) (by decide +kernel)) rfl
theorem lk_0_402 : ia_lnk 0 402 ⟨"IceStreet$Route", "fewestLater", "(LIceStreet$Scene;LIceStreet$Route;)I"⟩ false := ia_tb_in (List.mem_of_getElem? (i := 1471) (by decide +kernel)) rfl
theorem lk_0_406 : ia_lnk 0 406 ⟨"IceStreet$Route", "minuteMet", "(LIceStreet$Scene;LIceStreet$Route;I)I"⟩ false := ia_tb_in (List.mem_of_getElem? (i := 1490) (by decide +kernel)) rfl
theorem lk_0_410 : ia_lnk 0 410 ⟨"IceStreet", "nextDraw", "(I)I"⟩ false := ia_tb_in (List.mem_of_getElem? (i := 1495) (by decide +kernel)) rfl
theorem lk_0_413 : ia_lnk 0 413 ⟨"IceStreet", "drawnFrost", "(I)I"⟩ false := ia_tb_in (List.mem_of_getElem? (i := 1499) (by decide +kernel)) rfl
theorem lk_0_416 : ia_lnk 0 416 ⟨"IceStreet$Scene", "standing", "()I"⟩ false := ia_tb_in (List.mem_of_getElem? (i := 1502) (by decide +kernel)) rfl
theorem lk_0_419 : ia_lnk 0 419 ⟨"IceStreet$Outlook", "fallsBySeed", "(LIceStreet$Scene;III)Z"⟩ false := ia_tb_in (List.mem_of_getElem? (i := 1510) (by decide +kernel)) rfl
theorem lk_0_423 : ia_lnk 0 423 ⟨"IceStreet$Outlook", "bestSwept", "(LIceStreet$Scene;I)I"⟩ false := ia_tb_in (List.mem_of_getElem? (i := 1520) (by decide +kernel)) rfl
theorem lk_0_426 : ia_lnk 0 426 ⟨"IceStreet$Outlook", "heavier", "(LIceStreet$Scene;I)I"⟩ false := ia_tb_in (List.mem_of_getElem? (i := 1524) (by decide +kernel)) rfl
theorem lk_0_429 : ia_lnk 0 429 ⟨"IceStreet$Outlook", "latestLeave", "(LIceStreet$Scene;I)I"⟩ false := ia_tb_in (List.mem_of_getElem? (i := 1533) (by decide +kernel)) rfl
theorem lk_0_432 : ia_lnk 0 432 ⟨"IceStreet$Outlook", "leastFrost", "(LIceStreet$Scene;II)I"⟩ false := ia_tb_in (List.mem_of_getElem? (i := 1542) (by decide +kernel)) rfl
theorem lk_0_436 : ia_lnk 0 436 ⟨"IceStreet$Ways", "fewestAgainst", "(III)I"⟩ false := ia_tb_in (List.mem_of_getElem? (i := 1554) (by decide +kernel)) rfl
theorem lk_0_439 : ia_lnk 0 439 ⟨"IceStreet$Ways", "thickerBy", "(LIceStreet$Scene;III)I"⟩ false := ia_tb_in (List.mem_of_getElem? (i := 1562) (by decide +kernel)) rfl
theorem lk_0_443 : ia_lnk 0 443 ⟨"IceStreet$Ways", "neededCells", "(III)J"⟩ false := ia_tb_in (List.mem_of_getElem? (i := 1570) (by decide +kernel)) rfl
theorem lk_0_447 : ia_lnk 0 447 ⟨"IceStreet$Scene", "nearestStoves", "()I"⟩ false := ia_tb_in (List.mem_of_getElem? (i := 1578) (by decide +kernel)) rfl
theorem lk_0_450 : ia_lnk 0 450 ⟨"IceStreet$Told", "become", "(LIceStreet$Told;)V"⟩ false := ia_tb_in (List.mem_of_getElem? (i := 1590) (by decide +kernel)) rfl
theorem lk_1_24 : ia_lnk 1 24 ⟨"IceStreet$Scene", "frost", "()I"⟩ false := ia_tb_in (List.mem_of_getElem? (i := 1072) (by decide +kernel)) rfl
theorem lk_1_30 : ia_lnk 1 30 ⟨"IceStreet$Scene", "passDay", "(I)V"⟩ false := ia_tb_in (List.mem_of_getElem? (i := 1076) (by decide +kernel)) rfl
theorem lk_1_37 : ia_lnk 1 37 ⟨"IceStreet$Deeds", "moveShop", "(LIceStreet$Scene;II)Z"⟩ false := ia_tb_in (List.mem_of_getElem? (i := 1097) (by decide +kernel)) rfl
theorem lk_1_41 : ia_lnk 1 41 ⟨"IceStreet$Deeds", "drawShop", "(LIceStreet$Scene;I)Z"⟩ false := ia_tb_in (List.mem_of_getElem? (i := 1143) (by decide +kernel)) rfl
theorem lk_1_48 : ia_lnk 1 48 ⟨"IceStreet$Deeds", "ride", "(LIceStreet$Scene;III)Z"⟩ false := ia_tb_in (List.mem_of_getElem? (i := 1159) (by decide +kernel)) rfl
theorem lk_1_52 : ia_lnk 1 52 ⟨"IceStreet$Deeds", "sweepCell", "(LIceStreet$Scene;I)Z"⟩ false := ia_tb_in (List.mem_of_getElem? (i := 1177) (by decide +kernel)) rfl
theorem lk_1_55 : ia_lnk 1 55 ⟨"IceStreet$Scene", "stands", "(I)Z"⟩ false := ia_tb_in (List.mem_of_getElem? (i := 1101) (by decide +kernel)) rfl
theorem lk_1_63 : ia_lnk 1 63 ⟨"IceStreet$Lake", "isCell", "(I)Z"⟩ false := ia_tb_in (List.mem_of_getElem? (i := 1105) (by decide +kernel)) rfl
theorem lk_1_68 : ia_lnk 1 68 ⟨"IceStreet$Ways", "movesOf", "(LIceStreet$Scene;I)J"⟩ false := ia_tb_in (List.mem_of_getElem? (i := 1106) (by decide +kernel)) rfl
theorem lk_1_74 : ia_lnk 1 74 ⟨"IceStreet", "hasBit", "(JI)Z"⟩ true := ⟨"IceStreet", List.mem_filter.mpr ⟨List.mem_of_getElem? (i := 1138) (by decide +kernel), rfl⟩⟩
theorem lk_1_78 : ia_lnk 1 78 ⟨"IceStreet$Scene", "shift", "(II)V"⟩ false := ia_tb_in (List.mem_of_getElem? (i := 1139) (by decide +kernel)) rfl
theorem lk_1_82 : ia_lnk 1 82 ⟨"IceStreet$Ways", "canLeave", "(LIceStreet$Scene;I)Z"⟩ false := ia_tb_in (List.mem_of_getElem? (i := 1147) (by decide +kernel)) rfl
theorem lk_1_85 : ia_lnk 1 85 ⟨"IceStreet$Scene", "drawOff", "(I)V"⟩ false := ia_tb_in (List.mem_of_getElem? (i := 1155) (by decide +kernel)) rfl
theorem lk_1_88 : ia_lnk 1 88 ⟨"IceStreet$Ways", "survey", "(LIceStreet$Scene;I)V"⟩ false := ia_tb_in (List.mem_of_getElem? (i := 1163) (by decide +kernel)) rfl
theorem lk_1_92 : ia_lnk 1 92 ⟨"IceStreet$Ways", "findShort", "(III)Z"⟩ false := ia_tb_in (List.mem_of_getElem? (i := 1164) (by decide +kernel)) rfl
theorem lk_2_45 : ia_lnk 2 45 ⟨"IceStreet$Scene", "become", "(LIceStreet$Scene;)V"⟩ false := ia_tb_in (List.mem_of_getElem? (i := 1341) (by decide +kernel)) rfl
theorem lk_2_52 : ia_lnk 2 52 ⟨"IceStreet$Scene", "worthNotOff", "()I"⟩ false := ia_tb_in (List.mem_of_getElem? (i := 1346) (by decide +kernel)) rfl
theorem lk_2_56 : ia_lnk 2 56 ⟨"IceStreet$Drawing", "keepBetter", "(I)V"⟩ false := ia_tb_in (List.mem_of_getElem? (i := 1350) (by decide +kernel)) rfl
theorem lk_2_60 : ia_lnk 2 60 ⟨"IceStreet$Drawing", "shopsWithHope", "(LIceStreet$Scene;I)I"⟩ false := ia_tb_in (List.mem_of_getElem? (i := 1355) (by decide +kernel)) rfl
theorem lk_2_64 : ia_lnk 2 64 ⟨"IceStreet$Drawing", "worthAtLeast", "(LIceStreet$Scene;II)I"⟩ false := ia_tb_in (List.mem_of_getElem? (i := 1365) (by decide +kernel)) rfl
theorem lk_2_77 : ia_lnk 2 77 ⟨"IceStreet$Scene", "stands", "(I)Z"⟩ false := ia_tb_in (List.mem_of_getElem? (i := 1368) (by decide +kernel)) rfl
theorem lk_2_81 : ia_lnk 2 81 ⟨"IceStreet$Ways", "canLeave", "(LIceStreet$Scene;I)Z"⟩ false := ia_tb_in (List.mem_of_getElem? (i := 1369) (by decide +kernel)) rfl
theorem lk_2_87 : ia_lnk 2 87 ⟨"IceStreet$Drawing", "tryShop", "(II)V"⟩ false := ia_tb_in (List.mem_of_getElem? (i := 1370) (by decide +kernel)) rfl
theorem lk_2_91 : ia_lnk 2 91 ⟨"IceStreet$Scene", "drawOff", "(I)V"⟩ false := ia_tb_in (List.mem_of_getElem? (i := 1374) (by decide +kernel)) rfl
theorem lk_2_94 : ia_lnk 2 94 ⟨"IceStreet$Scene", "frost", "()I"⟩ false := ia_tb_in (List.mem_of_getElem? (i := 1360) (by decide +kernel)) rfl
theorem lk_2_97 : ia_lnk 2 97 ⟨"IceStreet$Scene", "passDay", "(I)V"⟩ false := ia_tb_in (List.mem_of_getElem? (i := 1362) (by decide +kernel)) rfl
theorem lk_2_100 : ia_lnk 2 100 ⟨"IceStreet$Drawing", "tryDay", "(I)V"⟩ false := ia_tb_in (List.mem_of_getElem? (i := 1375) (by decide +kernel)) rfl
theorem lk_2_115 : ia_lnk 2 115 ⟨"IceStreet$Scene", "lift", "(II)V"⟩ false := ia_tb_in (List.mem_of_getElem? (i := 1359) (by decide +kernel)) rfl
theorem lk_2_121 : ia_lnk 2 121 ⟨"IceStreet$Ways", "survey", "(LIceStreet$Scene;I)V"⟩ false := ia_tb_in (List.mem_of_getElem? (i := 1363) (by decide +kernel)) rfl
theorem lk_2_128 : ia_lnk 2 128 ⟨"IceStreet$Ways", "reachesShore", "(II)Z"⟩ false := ia_tb_in (List.mem_of_getElem? (i := 1364) (by decide +kernel)) rfl
theorem lk_3_59 : ia_lnk 3 59 ⟨"java/util/Arrays", "fill", "([II)V"⟩ false := ia_tb_in (List.mem_of_getElem? (i := 179) (by decide +kernel)) rfl
theorem lk_3_65 : ia_lnk 3 65 ⟨"java/util/Arrays", "fill", "([JJ)V"⟩ false := ia_tb_in (List.mem_of_getElem? (i := 182) (by decide +kernel)) rfl
theorem lk_3_81 : ia_lnk 3 81 ⟨"IceStreet$Lake", "chart", "()V"⟩ false := ia_tb_in (List.mem_of_getElem? (i := 185) (by decide +kernel)) rfl
theorem lk_3_90 : ia_lnk 3 90 ⟨"IceStreet", "bit", "(I)J"⟩ true := ⟨"IceStreet", List.mem_filter.mpr ⟨List.mem_of_getElem? (i := 935) (by decide +kernel), rfl⟩⟩
theorem lk_3_100 : ia_lnk 3 100 ⟨"IceStreet$Lake", "cells", "()I"⟩ false := ia_tb_in (List.mem_of_getElem? (i := 957) (by decide +kernel)) rfl
theorem lk_3_104 : ia_lnk 3 104 ⟨"IceStreet", "hasBit", "(JI)Z"⟩ true := ⟨"IceStreet", List.mem_filter.mpr ⟨List.mem_of_getElem? (i := 193) (by decide +kernel), rfl⟩⟩
theorem lk_3_108 : ia_lnk 3 108 ⟨"IceStreet$Lake", "steps", "(II)I"⟩ false := ia_tb_in (List.mem_of_getElem? (i := 961) (by decide +kernel)) rfl
theorem lk_3_112 : ia_lnk 3 112 ⟨"IceStreet$Lake", "join", "(IIZI)V"⟩ false := ia_tb_in (List.mem_of_getElem? (i := 189) (by decide +kernel)) rfl
theorem lk_4_45 : ia_lnk 4 45 ⟨"java/util/Arrays", "fill", "([JJ)V"⟩ false := ia_tb_in (List.mem_of_getElem? (i := 310) (by decide +kernel)) rfl
theorem lk_4_57 : ia_lnk 4 57 ⟨"IceStreet", "bit", "(I)J"⟩ true := ⟨"IceStreet", List.mem_filter.mpr ⟨List.mem_of_getElem? (i := 948) (by decide +kernel), rfl⟩⟩
theorem lk_4_61 : ia_lnk 4 61 ⟨"IceStreet", "hasBit", "(JI)Z"⟩ true := ⟨"IceStreet", List.mem_filter.mpr ⟨List.mem_of_getElem? (i := 1025) (by decide +kernel), rfl⟩⟩
theorem lk_5_34 : ia_lnk 5 34 ⟨"IceStreet$Scene", "become", "(LIceStreet$Scene;)V"⟩ false := ia_tb_in (List.mem_of_getElem? (i := 1295) (by decide +kernel)) rfl
theorem lk_5_38 : ia_lnk 5 38 ⟨"IceStreet$Scene", "stands", "(I)Z"⟩ false := ia_tb_in (List.mem_of_getElem? (i := 1299) (by decide +kernel)) rfl
theorem lk_5_42 : ia_lnk 5 42 ⟨"IceStreet$Scene", "frost", "()I"⟩ false := ia_tb_in (List.mem_of_getElem? (i := 1300) (by decide +kernel)) rfl
theorem lk_5_46 : ia_lnk 5 46 ⟨"IceStreet$Scene", "passDayUnderShops", "(I)V"⟩ false := ia_tb_in (List.mem_of_getElem? (i := 1301) (by decide +kernel)) rfl
theorem lk_5_50 : ia_lnk 5 50 ⟨"java/util/Arrays", "fill", "([II)V"⟩ false := ia_tb_in (List.mem_of_getElem? (i := 1400) (by decide +kernel)) rfl
theorem lk_5_59 : ia_lnk 5 59 ⟨"IceStreet$Ways", "movesOf", "(LIceStreet$Scene;I)J"⟩ false := ia_tb_in (List.mem_of_getElem? (i := 1384) (by decide +kernel)) rfl
theorem lk_5_65 : ia_lnk 5 65 ⟨"IceStreet", "bit", "(I)J"⟩ true := ⟨"IceStreet", List.mem_filter.mpr ⟨List.mem_of_getElem? (i := 1318) (by decide +kernel), rfl⟩⟩
theorem lk_5_73 : ia_lnk 5 73 ⟨"IceStreet$Lake", "cells", "()I"⟩ false := ia_tb_in (List.mem_of_getElem? (i := 1316) (by decide +kernel)) rfl
theorem lk_5_78 : ia_lnk 5 78 ⟨"IceStreet", "hasBit", "(JI)Z"⟩ true := ⟨"IceStreet", List.mem_filter.mpr ⟨List.mem_of_getElem? (i := 1385) (by decide +kernel), rfl⟩⟩
theorem lk_5_82 : ia_lnk 5 82 ⟨"IceStreet$Scene", "shift", "(II)V"⟩ false := ia_tb_in (List.mem_of_getElem? (i := 1386) (by decide +kernel)) rfl
theorem lk_5_86 : ia_lnk 5 86 ⟨"IceStreet$Outlook", "daysHeld", "(LIceStreet$Scene;I)I"⟩ false := ia_tb_in (List.mem_of_getElem? (i := 1387) (by decide +kernel)) rfl
theorem lk_5_90 : ia_lnk 5 90 ⟨"IceStreet$Outlook", "recordHeld", "(LIceStreet$Scene;[I)V"⟩ false := ia_tb_in (List.mem_of_getElem? (i := 1396) (by decide +kernel)) rfl
theorem lk_5_98 : ia_lnk 5 98 ⟨"IceStreet$Outlook", "heldLongerWithout", "(LIceStreet$Scene;I)I"⟩ false := ia_tb_in (List.mem_of_getElem? (i := 1401) (by decide +kernel)) rfl
theorem lk_5_101 : ia_lnk 5 101 ⟨"IceStreet$Scene", "putOut", "(I)V"⟩ false := ia_tb_in (List.mem_of_getElem? (i := 1405) (by decide +kernel)) rfl
theorem lk_5_104 : ia_lnk 5 104 ⟨"IceStreet$Outlook", "firmCells", "(LIceStreet$Scene;I)J"⟩ false := ia_tb_in (List.mem_of_getElem? (i := 1313) (by decide +kernel)) rfl
theorem lk_5_107 : ia_lnk 5 107 ⟨"IceStreet$Outlook", "blocksOf", "(LIceStreet$Scene;JII)J"⟩ false := ia_tb_in (List.mem_of_getElem? (i := 1325) (by decide +kernel)) rfl
theorem lk_5_111 : ia_lnk 5 111 ⟨"IceStreet$Scene", "passDay", "(I)V"⟩ false := ia_tb_in (List.mem_of_getElem? (i := 1328) (by decide +kernel)) rfl
theorem lk_5_114 : ia_lnk 5 114 ⟨"IceStreet", "lowestBit", "(J)I"⟩ true := ⟨"IceStreet", List.mem_filter.mpr ⟨List.mem_of_getElem? (i := 1329) (by decide +kernel), rfl⟩⟩
theorem lk_5_118 : ia_lnk 5 118 ⟨"IceStreet$Scene", "bears", "(I)I"⟩ false := ia_tb_in (List.mem_of_getElem? (i := 1317) (by decide +kernel)) rfl
theorem lk_5_125 : ia_lnk 5 125 ⟨"IceStreet$Scene", "shopCells", "()J"⟩ false := ia_tb_in (List.mem_of_getElem? (i := 1319) (by decide +kernel)) rfl
theorem lk_5_137 : ia_lnk 5 137 ⟨"IceStreet$Ways", "survey", "(LIceStreet$Scene;I)V"⟩ false := ia_tb_in (List.mem_of_getElem? (i := 1435) (by decide +kernel)) rfl
theorem lk_5_141 : ia_lnk 5 141 ⟨"IceStreet$Ways", "measure", "(III)I"⟩ false := ia_tb_in (List.mem_of_getElem? (i := 1436) (by decide +kernel)) rfl
theorem lk_5_148 : ia_lnk 5 148 ⟨"IceStreet", "nextDraw", "(I)I"⟩ true := ⟨"IceStreet", List.mem_filter.mpr ⟨List.mem_of_getElem? (i := 1514) (by decide +kernel), rfl⟩⟩
theorem lk_5_151 : ia_lnk 5 151 ⟨"IceStreet", "drawnFrost", "(I)I"⟩ true := ⟨"IceStreet", List.mem_filter.mpr ⟨List.mem_of_getElem? (i := 1515) (by decide +kernel), rfl⟩⟩
theorem lk_5_154 : ia_lnk 5 154 ⟨"IceStreet$Outlook", "fallsByFrost", "(LIceStreet$Scene;III)Z"⟩ false := ia_tb_in (List.mem_of_getElem? (i := 1546) (by decide +kernel)) rfl
theorem lk_5_161 : ia_lnk 5 161 ⟨"IceStreet$Scene", "makeHeavier", "(I)V"⟩ false := ia_tb_in (List.mem_of_getElem? (i := 1528) (by decide +kernel)) rfl
theorem lk_5_164 : ia_lnk 5 164 ⟨"IceStreet$Scene", "nextToFall", "()I"⟩ false := ia_tb_in (List.mem_of_getElem? (i := 1532) (by decide +kernel)) rfl
theorem lk_5_167 : ia_lnk 5 167 ⟨"IceStreet$Ways", "canLeave", "(LIceStreet$Scene;I)Z"⟩ false := ia_tb_in (List.mem_of_getElem? (i := 1537) (by decide +kernel)) rfl
theorem lk_7_53 : ia_lnk 7 53 ⟨"IceStreet$Reader", "clear", "()V"⟩ false := ia_tb_in (List.mem_of_getElem? (i := 752) (by decide +kernel)) rfl
theorem lk_7_56 : ia_lnk 7 56 ⟨"IceStreet$Reader", "advance", "()V"⟩ false := ia_tb_in (List.mem_of_getElem? (i := 758) (by decide +kernel)) rfl
theorem lk_7_62 : ia_lnk 7 62 ⟨"IceStreet$Reader", "readLine", "()Z"⟩ false := ia_tb_in (List.mem_of_getElem? (i := 778) (by decide +kernel)) rfl
theorem lk_7_69 : ia_lnk 7 69 ⟨"IceStreet$Lake", "isAmiss", "()Z"⟩ false := ia_tb_in (List.mem_of_getElem? (i := 953) (by decide +kernel)) rfl
theorem lk_7_72 : ia_lnk 7 72 ⟨"IceStreet$Reader", "note", "(II)V"⟩ false := ia_tb_in (List.mem_of_getElem? (i := 873) (by decide +kernel)) rfl
theorem lk_7_76 : ia_lnk 7 76 ⟨"IceStreet$Lake", "chart", "()V"⟩ false := ia_tb_in (List.mem_of_getElem? (i := 968) (by decide +kernel)) rfl
theorem lk_7_79 : ia_lnk 7 79 ⟨"IceStreet$Lake", "clear", "()V"⟩ false := ia_tb_in (List.mem_of_getElem? (i := 756) (by decide +kernel)) rfl
theorem lk_7_80 : ia_lnk 7 80 ⟨"IceStreet$Law", "clear", "()V"⟩ false := ia_tb_in (List.mem_of_getElem? (i := 757) (by decide +kernel)) rfl
theorem lk_7_102 : ia_lnk 7 102 ⟨"IceStreet$Reader", "isLetter", "(I)Z"⟩ false := ia_tb_in (List.mem_of_getElem? (i := 762) (by decide +kernel)) rfl
theorem lk_7_106 : ia_lnk 7 106 ⟨"IceStreet$Reader", "takeLetters", "()V"⟩ false := ia_tb_in (List.mem_of_getElem? (i := 766) (by decide +kernel)) rfl
theorem lk_7_109 : ia_lnk 7 109 ⟨"IceStreet$Reader", "isDigit", "(I)Z"⟩ false := ia_tb_in (List.mem_of_getElem? (i := 770) (by decide +kernel)) rfl
theorem lk_7_112 : ia_lnk 7 112 ⟨"IceStreet$Reader", "takeDigits", "()V"⟩ false := ia_tb_in (List.mem_of_getElem? (i := 774) (by decide +kernel)) rfl
theorem lk_7_118 : ia_lnk 7 118 ⟨"IceStreet$Reader", "lineOfWord", "()I"⟩ false := ia_tb_in (List.mem_of_getElem? (i := 782) (by decide +kernel)) rfl
theorem lk_7_122 : ia_lnk 7 122 ⟨"IceStreet$Reader", "refuse", "()Z"⟩ false := ia_tb_in (List.mem_of_getElem? (i := 865) (by decide +kernel)) rfl
theorem lk_7_125 : ia_lnk 7 125 ⟨"IceStreet$Reader", "openLine", "(I)V"⟩ false := ia_tb_in (List.mem_of_getElem? (i := 869) (by decide +kernel)) rfl
theorem lk_7_129 : ia_lnk 7 129 ⟨"IceStreet$Reader", "readNumbers", "(I)Z"⟩ false := ia_tb_in (List.mem_of_getElem? (i := 877) (by decide +kernel)) rfl
theorem lk_7_132 : ia_lnk 7 132 ⟨"IceStreet$Reader", "tellLine", "(I)V"⟩ false := ia_tb_in (List.mem_of_getElem? (i := 922) (by decide +kernel)) rfl
theorem lk_7_138 : ia_lnk 7 138 ⟨"IceStreet$Reader", "wordOf", "(I)Ljava/lang/String;"⟩ false := ia_tb_in (List.mem_of_getElem? (i := 788) (by decide +kernel)) rfl
theorem lk_7_142 : ia_lnk 7 142 ⟨"IceStreet$Reader", "isWord", "(Ljava/lang/String;)Z"⟩ false := ia_tb_in (List.mem_of_getElem? (i := 813) (by decide +kernel)) rfl
theorem lk_7_229 : ia_lnk 7 229 ⟨"IceStreet$Reader", "numbersOf", "(I)Ljava/lang/String;"⟩ false := ia_tb_in (List.mem_of_getElem? (i := 881) (by decide +kernel)) rfl
theorem lk_7_232 : ia_lnk 7 232 ⟨"IceStreet$Reader", "readNumber", "(ICI)Z"⟩ false := ia_tb_in (List.mem_of_getElem? (i := 898) (by decide +kernel)) rfl
theorem lk_7_236 : ia_lnk 7 236 ⟨"IceStreet$Reader", "hasMore", "(I)Z"⟩ false := ia_tb_in (List.mem_of_getElem? (i := 919) (by decide +kernel)) rfl
theorem lk_7_239 : ia_lnk 7 239 ⟨"IceStreet$Reader", "least", "(C)I"⟩ false := ia_tb_in (List.mem_of_getElem? (i := 902) (by decide +kernel)) rfl
theorem lk_7_242 : ia_lnk 7 242 ⟨"IceStreet$Reader", "greatest", "(C)I"⟩ false := ia_tb_in (List.mem_of_getElem? (i := 905) (by decide +kernel)) rfl
theorem lk_7_245 : ia_lnk 7 245 ⟨"IceStreet$Reader", "tellNumber", "(ICI)V"⟩ false := ia_tb_in (List.mem_of_getElem? (i := 908) (by decide +kernel)) rfl
theorem lk_7_253 : ia_lnk 7 253 ⟨"IceStreet", "bit", "(I)J"⟩ true := ⟨"IceStreet", List.mem_filter.mpr ⟨List.mem_of_getElem? (i := 912) (by decide +kernel), rfl⟩⟩
theorem lk_7_257 : ia_lnk 7 257 ⟨"IceStreet$Lake", "addFrost", "(I)V"⟩ false := ia_tb_in (List.mem_of_getElem? (i := 915) (by decide +kernel)) rfl
theorem lk_7_265 : ia_lnk 7 265 ⟨"IceStreet$Reader", "tellLake", "(I)V"⟩ false := ia_tb_in (List.mem_of_getElem? (i := 926) (by decide +kernel)) rfl
theorem lk_7_268 : ia_lnk 7 268 ⟨"IceStreet$Reader", "tellLaw", "(I)V"⟩ false := ia_tb_in (List.mem_of_getElem? (i := 940) (by decide +kernel)) rfl
theorem lk_7_271 : ia_lnk 7 271 ⟨"IceStreet$Plan", "addAct", "(IIII)V"⟩ false := ia_tb_in (List.mem_of_getElem? (i := 949) (by decide +kernel)) rfl
theorem lk_7_284 : ia_lnk 7 284 ⟨"java/util/Arrays", "fill", "([II)V"⟩ false := ia_tb_in (List.mem_of_getElem? (i := 930) (by decide +kernel)) rfl
theorem lk_7_294 : ia_lnk 7 294 ⟨"IceStreet$Lake", "crackBetween", "(II)V"⟩ false := ia_tb_in (List.mem_of_getElem? (i := 931) (by decide +kernel)) rfl
theorem lk_7_299 : ia_lnk 7 299 ⟨"IceStreet$Lake", "addShop", "(IIII)V"⟩ false := ia_tb_in (List.mem_of_getElem? (i := 936) (by decide +kernel)) rfl
theorem lk_7_310 : ia_lnk 7 310 ⟨"IceStreet$Law", "addLane", "(II)V"⟩ false := ia_tb_in (List.mem_of_getElem? (i := 944) (by decide +kernel)) rfl
theorem lk_8_19 : ia_lnk 8 19 ⟨"IceStreet$Ways", "findShort", "(III)Z"⟩ false := ia_tb_in (List.mem_of_getElem? (i := 1469) (by decide +kernel)) rfl
theorem lk_8_38 : ia_lnk 8 38 ⟨"IceStreet$Route", "clashes", "(LIceStreet$Scene;ILIceStreet$Route;I)Z"⟩ false := ia_tb_in (List.mem_of_getElem? (i := 1479) (by decide +kernel)) rfl
theorem lk_8_42 : ia_lnk 8 42 ⟨"IceStreet$Route", "minuteMet", "(LIceStreet$Scene;LIceStreet$Route;I)I"⟩ false := ia_tb_in (List.mem_of_getElem? (i := 1475) (by decide +kernel)) rfl
theorem lk_8_52 : ia_lnk 8 52 ⟨"IceStreet$Lake", "steps", "(II)I"⟩ false := ia_tb_in (List.mem_of_getElem? (i := 1483) (by decide +kernel)) rfl
theorem lk_8_62 : ia_lnk 8 62 ⟨"IceStreet", "hasBit", "(JI)Z"⟩ true := ⟨"IceStreet", List.mem_filter.mpr ⟨List.mem_of_getElem? (i := 1484) (by decide +kernel), rfl⟩⟩
theorem lk_8_66 : ia_lnk 8 66 ⟨"IceStreet$Route", "breaks", "(LIceStreet$Scene;III)Z"⟩ false := ia_tb_in (List.mem_of_getElem? (i := 1485) (by decide +kernel)) rfl
theorem lk_8_70 : ia_lnk 8 70 ⟨"IceStreet$Scene", "bears", "(I)I"⟩ false := ia_tb_in (List.mem_of_getElem? (i := 1488) (by decide +kernel)) rfl
theorem lk_8_80 : ia_lnk 8 80 ⟨"IceStreet$Law", "shareOf", "(I)I"⟩ false := ia_tb_in (List.mem_of_getElem? (i := 1489) (by decide +kernel)) rfl
theorem lk_9_53 : ia_lnk 9 53 ⟨"java/util/Arrays", "fill", "([II)V"⟩ false := ia_tb_in (List.mem_of_getElem? (i := 1039) (by decide +kernel)) rfl
theorem lk_9_72 : ia_lnk 9 72 ⟨"IceStreet$Scene", "lower", "(II)V"⟩ false := ia_tb_in (List.mem_of_getElem? (i := 1040) (by decide +kernel)) rfl
theorem lk_9_76 : ia_lnk 9 76 ⟨"IceStreet$Scene", "settle", "()V"⟩ false := ia_tb_in (List.mem_of_getElem? (i := 1052) (by decide +kernel)) rfl
theorem lk_9_79 : ia_lnk 9 79 ⟨"IceStreet$Lake", "bearing", "(I)I"⟩ false := ia_tb_in (List.mem_of_getElem? (i := 1060) (by decide +kernel)) rfl
theorem lk_9_83 : ia_lnk 9 83 ⟨"IceStreet$Law", "shareOf", "(I)I"⟩ false := ia_tb_in (List.mem_of_getElem? (i := 1044) (by decide +kernel)) rfl
theorem lk_9_88 : ia_lnk 9 88 ⟨"IceStreet$Scene", "burden", "(IIIII)V"⟩ false := ia_tb_in (List.mem_of_getElem? (i := 1048) (by decide +kernel)) rfl
theorem lk_9_95 : ia_lnk 9 95 ⟨"IceStreet$Scene", "lift", "(II)V"⟩ false := ia_tb_in (List.mem_of_getElem? (i := 1064) (by decide +kernel)) rfl
theorem lk_9_98 : ia_lnk 9 98 ⟨"IceStreet$Scene", "nextToFall", "()I"⟩ false := ia_tb_in (List.mem_of_getElem? (i := 1056) (by decide +kernel)) rfl
theorem lk_9_108 : ia_lnk 9 108 ⟨"IceStreet$Lake", "cells", "()I"⟩ false := ia_tb_in (List.mem_of_getElem? (i := 1080) (by decide +kernel)) rfl
theorem lk_9_111 : ia_lnk 9 111 ⟨"IceStreet$Scene", "freeze", "(II)V"⟩ false := ia_tb_in (List.mem_of_getElem? (i := 1081) (by decide +kernel)) rfl
theorem lk_9_114 : ia_lnk 9 114 ⟨"IceStreet$Scene", "pay", "()V"⟩ false := ia_tb_in (List.mem_of_getElem? (i := 1089) (by decide +kernel)) rfl
theorem lk_9_126 : ia_lnk 9 126 ⟨"IceStreet$Law", "dueFor", "(I)I"⟩ false := ia_tb_in (List.mem_of_getElem? (i := 1093) (by decide +kernel)) rfl
theorem lk_9_132 : ia_lnk 9 132 ⟨"IceStreet", "bit", "(I)J"⟩ true := ⟨"IceStreet", List.mem_filter.mpr ⟨List.mem_of_getElem? (i := 1323) (by decide +kernel), rfl⟩⟩
theorem lk_9_136 : ia_lnk 9 136 ⟨"IceStreet", "hasBit", "(JI)Z"⟩ true := ⟨"IceStreet", List.mem_filter.mpr ⟨List.mem_of_getElem? (i := 1197) (by decide +kernel), rfl⟩⟩
theorem lk_9_140 : ia_lnk 9 140 ⟨"IceStreet$Lake", "steps", "(II)I"⟩ false := ia_tb_in (List.mem_of_getElem? (i := 1137) (by decide +kernel)) rfl
theorem lk_9_150 : ia_lnk 9 150 ⟨"IceStreet$Scene", "isTooHot", "(II)Z"⟩ false := ia_tb_in (List.mem_of_getElem? (i := 1198) (by decide +kernel)) rfl
theorem lk_10_56 : ia_lnk 10 56 ⟨"IceStreet$Lake", "become", "(LIceStreet$Lake;)V"⟩ false := ia_tb_in (List.mem_of_getElem? (i := 1595) (by decide +kernel)) rfl
theorem lk_10_60 : ia_lnk 10 60 ⟨"IceStreet$Law", "become", "(LIceStreet$Law;)V"⟩ false := ia_tb_in (List.mem_of_getElem? (i := 1596) (by decide +kernel)) rfl
theorem lk_10_63 : ia_lnk 10 63 ⟨"IceStreet$Plan", "become", "(LIceStreet$Plan;)V"⟩ false := ia_tb_in (List.mem_of_getElem? (i := 1597) (by decide +kernel)) rfl
theorem lk_11_41 : ia_lnk 11 41 ⟨"IceStreet$Lake", "cells", "()I"⟩ false := ia_tb_in (List.mem_of_getElem? (i := 1119) (by decide +kernel)) rfl
theorem lk_11_56 : ia_lnk 11 56 ⟨"IceStreet$Lake", "bearing", "(I)I"⟩ false := ia_tb_in (List.mem_of_getElem? (i := 1120) (by decide +kernel)) rfl
theorem lk_11_73 : ia_lnk 11 73 ⟨"IceStreet$Ways", "findShort", "(III)Z"⟩ false := ia_tb_in (List.mem_of_getElem? (i := 1231) (by decide +kernel)) rfl
theorem lk_11_77 : ia_lnk 11 77 ⟨"IceStreet$Ways", "findSpare", "(III)Z"⟩ false := ia_tb_in (List.mem_of_getElem? (i := 1232) (by decide +kernel)) rfl
theorem lk_11_80 : ia_lnk 11 80 ⟨"IceStreet$Ways", "findLucky", "(III)Z"⟩ false := ia_tb_in (List.mem_of_getElem? (i := 1240) (by decide +kernel)) rfl
theorem lk_11_83 : ia_lnk 11 83 ⟨"IceStreet$Ways", "measure", "(III)I"⟩ false := ia_tb_in (List.mem_of_getElem? (i := 1168) (by decide +kernel)) rfl
theorem lk_11_90 : ia_lnk 11 90 ⟨"IceStreet$Ways", "nextNearer", "(II)I"⟩ false := ia_tb_in (List.mem_of_getElem? (i := 1173) (by decide +kernel)) rfl
theorem lk_11_97 : ia_lnk 11 97 ⟨"IceStreet$Ways", "mayStep", "(II)Z"⟩ false := ia_tb_in (List.mem_of_getElem? (i := 1128) (by decide +kernel)) rfl
theorem lk_11_101 : ia_lnk 11 101 ⟨"java/util/Arrays", "fill", "([II)V"⟩ false := ia_tb_in (List.mem_of_getElem? (i := 1172) (by decide +kernel)) rfl
theorem lk_11_107 : ia_lnk 11 107 ⟨"IceStreet$Ways", "greatestLoad", "(II)I"⟩ false := ia_tb_in (List.mem_of_getElem? (i := 1236) (by decide +kernel)) rfl
theorem lk_11_117 : ia_lnk 11 117 ⟨"IceStreet$Ways", "bestLuck", "(III)I"⟩ false := ia_tb_in (List.mem_of_getElem? (i := 1244) (by decide +kernel)) rfl
theorem lk_11_120 : ia_lnk 11 120 ⟨"IceStreet$Ways", "inParts", "(II)J"⟩ false := ia_tb_in (List.mem_of_getElem? (i := 1253) (by decide +kernel)) rfl
theorem lk_11_124 : ia_lnk 11 124 ⟨"IceStreet$Ways", "followLuck", "(III)V"⟩ false := ia_tb_in (List.mem_of_getElem? (i := 1257) (by decide +kernel)) rfl
theorem lk_11_128 : ia_lnk 11 128 ⟨"IceStreet$Ways", "luckBy", "(IIII)I"⟩ false := ia_tb_in (List.mem_of_getElem? (i := 1248) (by decide +kernel)) rfl
theorem lk_11_142 : ia_lnk 11 142 ⟨"IceStreet", "bit", "(I)J"⟩ true := ⟨"IceStreet", List.mem_filter.mpr ⟨List.mem_of_getElem? (i := 1126) (by decide +kernel), rfl⟩⟩
theorem lk_11_146 : ia_lnk 11 146 ⟨"IceStreet", "hasBit", "(JI)Z"⟩ true := ⟨"IceStreet", List.mem_filter.mpr ⟨List.mem_of_getElem? (i := 1127) (by decide +kernel), rfl⟩⟩
theorem lk_11_155 : ia_lnk 11 155 ⟨"IceStreet$Ways", "reach", "(II)J"⟩ false := ia_tb_in (List.mem_of_getElem? (i := 1122) (by decide +kernel)) rfl
theorem lk_11_158 : ia_lnk 11 158 ⟨"IceStreet$Scene", "lift", "(II)V"⟩ false := ia_tb_in (List.mem_of_getElem? (i := 1114) (by decide +kernel)) rfl
theorem lk_11_162 : ia_lnk 11 162 ⟨"IceStreet$Ways", "survey", "(LIceStreet$Scene;I)V"⟩ false := ia_tb_in (List.mem_of_getElem? (i := 1115) (by decide +kernel)) rfl
theorem lk_11_166 : ia_lnk 11 166 ⟨"IceStreet$Scene", "lower", "(II)V"⟩ false := ia_tb_in (List.mem_of_getElem? (i := 1121) (by decide +kernel)) rfl
theorem lk_11_169 : ia_lnk 11 169 ⟨"IceStreet$Ways", "surveyWithout", "(LIceStreet$Scene;I)V"⟩ false := ia_tb_in (List.mem_of_getElem? (i := 1110) (by decide +kernel)) rfl
theorem lk_11_181 : ia_lnk 11 181 ⟨"IceStreet$Scene", "isTooHot", "(II)Z"⟩ false := ia_tb_in (List.mem_of_getElem? (i := 1133) (by decide +kernel)) rfl
theorem lk_11_184 : ia_lnk 11 184 ⟨"IceStreet$Ways", "reachesShore", "(II)Z"⟩ false := ia_tb_in (List.mem_of_getElem? (i := 1151) (by decide +kernel)) rfl
theorem lk_11_187 : ia_lnk 11 187 ⟨"IceStreet$Ways", "pathCells", "()J"⟩ false := ia_tb_in (List.mem_of_getElem? (i := 1419) (by decide +kernel)) rfl
theorem lk_11_191 : ia_lnk 11 191 ⟨"IceStreet$Ways", "isCutBy", "(IIII)Z"⟩ false := ia_tb_in (List.mem_of_getElem? (i := 1453) (by decide +kernel)) rfl
theorem lk_11_195 : ia_lnk 11 195 ⟨"IceStreet$Ways", "isCutWithout", "(IIIII)Z"⟩ false := ia_tb_in (List.mem_of_getElem? (i := 1457) (by decide +kernel)) rfl
theorem lk_11_199 : ia_lnk 11 199 ⟨"IceStreet$Ways", "betterBeside", "(II)Z"⟩ false := ia_tb_in (List.mem_of_getElem? (i := 1558) (by decide +kernel)) rfl
theorem lk_11_205 : ia_lnk 11 205 ⟨"IceStreet$Ways", "joined", "(LIceStreet$Lake;I)J"⟩ false := ia_tb_in (List.mem_of_getElem? (i := 1203) (by decide +kernel)) rfl
theorem lk_12_72 : ia_lnk 12 72 ⟨"IceStreetModel", "three", "(III)I"⟩ false := ia_tb_in (List.mem_of_getElem? (i := 1763) (by decide +kernel)) rfl
theorem lk_12_76 : ia_lnk 12 76 ⟨"IceStreetModel", "five", "(IIIII)I"⟩ false := ia_tb_in (List.mem_of_getElem? (i := 1760) (by decide +kernel)) rfl
theorem lk_12_83 : ia_lnk 12 83 ⟨"IceStreetModel", "byteAt", "(I)I"⟩ false := ia_tb_in (List.mem_of_getElem? (i := 1750) (by decide +kernel)) rfl
theorem lk_12_93 : ia_lnk 12 93 ⟨"IceStreetModel", "isLetter", "(I)Z"⟩ false := ia_tb_in (List.mem_of_getElem? (i := 1754) (by decide +kernel)) rfl
theorem lk_12_97 : ia_lnk 12 97 ⟨"IceStreetModel", "wordOf", "(I)I"⟩ false := ia_tb_in (List.mem_of_getElem? (i := 1757) (by decide +kernel)) rfl
theorem lk_12_103 : ia_lnk 12 103 ⟨"IceStreetModel", "isDigit", "(I)Z"⟩ false := ia_tb_in (List.mem_of_getElem? (i := 1766) (by decide +kernel)) rfl
theorem lk_12_113 : ia_lnk 12 113 ⟨"IceStreetModel", "ends", "()V"⟩ false := ia_tb_in (List.mem_of_getElem? (i := 1777) (by decide +kernel)) rfl
theorem lk_12_116 : ia_lnk 12 116 ⟨"IceStreetModel", "isIn", "(III)Z"⟩ false := ia_tb_in (List.mem_of_getElem? (i := 1735) (by decide +kernel)) rfl
theorem lk_12_120 : ia_lnk 12 120 ⟨"IceStreetModel", "also", "(II)V"⟩ false := ia_tb_in (List.mem_of_getElem? (i := 1785) (by decide +kernel)) rfl
theorem lk_12_124 : ia_lnk 12 124 ⟨"IceStreetModel", "advance", "()V"⟩ false := ia_tb_in (List.mem_of_getElem? (i := 1746) (by decide +kernel)) rfl
theorem lk_12_127 : ia_lnk 12 127 ⟨"IceStreetModel", "numbered", "(II)I"⟩ false := ia_tb_in (List.mem_of_getElem? (i := 1781) (by decide +kernel)) rfl
theorem lk_12_134 : ia_lnk 12 134 ⟨"IceStreetModel", "cellOf", "()I"⟩ false := ia_tb_in (List.mem_of_getElem? (i := 1789) (by decide +kernel)) rfl
theorem lk_12_138 : ia_lnk 12 138 ⟨"IceStreetModel", "otherCell", "(I)I"⟩ false := ia_tb_in (List.mem_of_getElem? (i := 1797) (by decide +kernel)) rfl
theorem lk_12_144 : ia_lnk 12 144 ⟨"IceStreetModel", "takes", "(II)I"⟩ false := ia_tb_in (List.mem_of_getElem? (i := 1773) (by decide +kernel)) rfl
theorem lk_12_147 : ia_lnk 12 147 ⟨"IceStreetModel", "crackLine", "()V"⟩ false := ia_tb_in (List.mem_of_getElem? (i := 1793) (by decide +kernel)) rfl
theorem lk_12_150 : ia_lnk 12 150 ⟨"IceStreetModel", "frostLine", "()V"⟩ false := ia_tb_in (List.mem_of_getElem? (i := 1801) (by decide +kernel)) rfl
theorem lk_12_153 : ia_lnk 12 153 ⟨"IceStreetModel", "cellsLine", "(I)V"⟩ false := ia_tb_in (List.mem_of_getElem? (i := 1805) (by decide +kernel)) rfl
theorem lk_12_157 : ia_lnk 12 157 ⟨"IceStreetModel", "shopLine", "(I)V"⟩ false := ia_tb_in (List.mem_of_getElem? (i := 1809) (by decide +kernel)) rfl
theorem lk_12_160 : ia_lnk 12 160 ⟨"IceStreetModel", "endsLine", "()V"⟩ false := ia_tb_in (List.mem_of_getElem? (i := 1813) (by decide +kernel)) rfl
theorem lk_12_163 : ia_lnk 12 163 ⟨"IceStreetModel", "isOf", "(II)Z"⟩ false := ia_tb_in (List.mem_of_getElem? (i := 1738) (by decide +kernel)) rfl
theorem lk_12_167 : ia_lnk 12 167 ⟨"IceStreetModel", "begins", "(I)V"⟩ false := ia_tb_in (List.mem_of_getElem? (i := 1742) (by decide +kernel)) rfl
theorem lk_12_170 : ia_lnk 12 170 ⟨"IceStreetModel", "lakeLine", "()V"⟩ false := ia_tb_in (List.mem_of_getElem? (i := 1769) (by decide +kernel)) rfl
theorem lk_12_173 : ia_lnk 12 173 ⟨"IceStreetModel", "lawLine", "()V"⟩ false := ia_tb_in (List.mem_of_getElem? (i := 1817) (by decide +kernel)) rfl
theorem lk_12_176 : ia_lnk 12 176 ⟨"IceStreetModel", "planLine", "()V"⟩ false := ia_tb_in (List.mem_of_getElem? (i := 1821) (by decide +kernel)) rfl
theorem lk_12_179 : ia_lnk 12 179 ⟨"IceStreetModel", "isWhole", "()Z"⟩ false := ia_tb_in (List.mem_of_getElem? (i := 1825) (by decide +kernel)) rfl
theorem lk_12_183 : ia_lnk 12 183 ⟨"IceStreetModel", "placeOf", "(II)I"⟩ false := ia_tb_in (List.mem_of_getElem? (i := 1829) (by decide +kernel)) rfl
theorem lk_12_186 : ia_lnk 12 186 ⟨"IceStreetModel", "beside", "(III)I"⟩ false := ia_tb_in (List.mem_of_getElem? (i := 1848) (by decide +kernel)) rfl
theorem lk_12_189 : ia_lnk 12 189 ⟨"IceStreetModel", "isCracked", "(III)Z"⟩ false := ia_tb_in (List.mem_of_getElem? (i := 1852) (by decide +kernel)) rfl
theorem lk_12_192 : ia_lnk 12 192 ⟨"IceStreetModel", "isCell", "(II)Z"⟩ false := ia_tb_in (List.mem_of_getElem? (i := 1844) (by decide +kernel)) rfl
theorem lk_12_195 : ia_lnk 12 195 ⟨"IceStreetModel", "isShop", "(II)Z"⟩ false := ia_tb_in (List.mem_of_getElem? (i := 1860) (by decide +kernel)) rfl
theorem lk_12_198 : ia_lnk 12 198 ⟨"IceStreetModel", "shopOf", "(III)I"⟩ false := ia_tb_in (List.mem_of_getElem? (i := 1864) (by decide +kernel)) rfl
theorem lk_12_210 : ia_lnk 12 210 ⟨"IceStreetModel", "shopIn", "(I)I"⟩ false := ia_tb_in (List.mem_of_getElem? (i := 1912) (by decide +kernel)) rfl
theorem lk_12_213 : ia_lnk 12 213 ⟨"IceStreetModel", "weightOf", "(I)I"⟩ false := ia_tb_in (List.mem_of_getElem? (i := 1916) (by decide +kernel)) rfl
theorem lk_12_216 : ia_lnk 12 216 ⟨"IceStreetModel", "near", "(III)I"⟩ false := ia_tb_in (List.mem_of_getElem? (i := 1920) (by decide +kernel)) rfl
theorem lk_12_222 : ia_lnk 12 222 ⟨"IceStreetModel", "stands", "(I)Z"⟩ false := ia_tb_in (List.mem_of_getElem? (i := 1904) (by decide +kernel)) rfl
theorem lk_12_225 : ia_lnk 12 225 ⟨"IceStreetModel", "loadOf", "(II)I"⟩ false := ia_tb_in (List.mem_of_getElem? (i := 1908) (by decide +kernel)) rfl
theorem lk_12_228 : ia_lnk 12 228 ⟨"IceStreetModel", "bears", "(I)I"⟩ false := ia_tb_in (List.mem_of_getElem? (i := 1924) (by decide +kernel)) rfl
theorem lk_12_231 : ia_lnk 12 231 ⟨"IceStreetModel", "firstFalling", "()I"⟩ false := ia_tb_in (List.mem_of_getElem? (i := 1900) (by decide +kernel)) rfl
theorem lk_12_234 : ia_lnk 12 234 ⟨"IceStreetModel", "cells", "()I"⟩ false := ia_tb_in (List.mem_of_getElem? (i := 1892) (by decide +kernel)) rfl
theorem lk_12_237 : ia_lnk 12 237 ⟨"IceStreetModel", "stoveOf", "(I)I"⟩ false := ia_tb_in (List.mem_of_getElem? (i := 1940) (by decide +kernel)) rfl
theorem lk_12_240 : ia_lnk 12 240 ⟨"IceStreetModel", "falls", "()V"⟩ false := ia_tb_in (List.mem_of_getElem? (i := 1896) (by decide +kernel)) rfl
theorem lk_12_243 : ia_lnk 12 243 ⟨"IceStreetModel", "frostNow", "()I"⟩ false := ia_tb_in (List.mem_of_getElem? (i := 1980) (by decide +kernel)) rfl
theorem lk_12_246 : ia_lnk 12 246 ⟨"IceStreetModel", "passDay", "(I)V"⟩ false := ia_tb_in (List.mem_of_getElem? (i := 1984) (by decide +kernel)) rfl
theorem lk_12_256 : ia_lnk 12 256 ⟨"IceStreetModel", "enters", "(I)Z"⟩ false := ia_tb_in (List.mem_of_getElem? (i := 1960) (by decide +kernel)) rfl
theorem lk_12_259 : ia_lnk 12 259 ⟨"IceStreetModel", "against", "(II)I"⟩ false := ia_tb_in (List.mem_of_getElem? (i := 1964) (by decide +kernel)) rfl
theorem lk_12_262 : ia_lnk 12 262 ⟨"IceStreetModel", "measures", "(IIII)V"⟩ false := ia_tb_in (List.mem_of_getElem? (i := 1955) (by decide +kernel)) rfl
theorem lk_12_269 : ia_lnk 12 269 ⟨"IceStreetModel", "isWay", "(IIII)Z"⟩ false := ia_tb_in (List.mem_of_getElem? (i := 1951) (by decide +kernel)) rfl
theorem lk_12_273 : ia_lnk 12 273 ⟨"IceStreetModel", "size", "(I)I"⟩ false := ia_tb_in (List.mem_of_getElem? (i := 1948) (by decide +kernel)) rfl
theorem lk_12_275 : ia_lnk 12 275 ⟨"IceStreetModel", "steps", "(II)I"⟩ false := ia_tb_in (List.mem_of_getElem? (i := 1944) (by decide +kernel)) rfl
theorem lk_12_278 : ia_lnk 12 278 ⟨"IceStreetModel", "isApart", "(II)Z"⟩ false := ia_tb_in (List.mem_of_getElem? (i := 1936) (by decide +kernel)) rfl
theorem lk_12_281 : ia_lnk 12 281 ⟨"IceStreetModel", "canMove", "(II)Z"⟩ false := ia_tb_in (List.mem_of_getElem? (i := 1932) (by decide +kernel)) rfl
theorem lk_12_284 : ia_lnk 12 284 ⟨"IceStreetModel", "canGoOff", "(I)Z"⟩ false := ia_tb_in (List.mem_of_getElem? (i := 1968) (by decide +kernel)) rfl
theorem lk_12_287 : ia_lnk 12 287 ⟨"IceStreetModel", "shortWay", "(III)Z"⟩ false := ia_tb_in (List.mem_of_getElem? (i := 1972) (by decide +kernel)) rfl
theorem lk_12_290 : ia_lnk 12 290 ⟨"IceStreetModel", "aDay", "()V"⟩ false := ia_tb_in (List.mem_of_getElem? (i := 1976) (by decide +kernel)) rfl
theorem lk_12_293 : ia_lnk 12 293 ⟨"IceStreetModel", "anew", "()V"⟩ false := ia_tb_in (List.mem_of_getElem? (i := 1888) (by decide +kernel)) rfl
theorem lk_12_296 : ia_lnk 12 296 ⟨"IceStreetModel", "does", "(I)Z"⟩ false := ia_tb_in (List.mem_of_getElem? (i := 1928) (by decide +kernel)) rfl
theorem lk_12_299 : ia_lnk 12 299 ⟨"IceStreetModel", "areBoth", "(II)Z"⟩ false := ia_tb_in (List.mem_of_getElem? (i := 1880) (by decide +kernel)) rfl
theorem lk_12_302 : ia_lnk 12 302 ⟨"IceStreetModel", "runs", "(II)I"⟩ false := ia_tb_in (List.mem_of_getElem? (i := 1884) (by decide +kernel)) rfl
theorem lk_12_305 : ia_lnk 12 305 ⟨"IceStreetModel", "partOf", "(I)J"⟩ false := ia_tb_in (List.mem_of_getElem? (i := 2008) (by decide +kernel)) rfl
theorem lk_12_309 : ia_lnk 12 309 ⟨"IceStreetModel", "isState", "(IIII)Z"⟩ false := ia_tb_in (List.mem_of_getElem? (i := 1992) (by decide +kernel)) rfl
theorem lk_12_312 : ia_lnk 12 312 ⟨"IceStreetModel", "lost", "()I"⟩ false := ia_tb_in (List.mem_of_getElem? (i := 1996) (by decide +kernel)) rfl
theorem lk_12_315 : ia_lnk 12 315 ⟨"IceStreetModel", "broken", "()I"⟩ false := ia_tb_in (List.mem_of_getElem? (i := 2000) (by decide +kernel)) rfl
theorem lk_12_318 : ia_lnk 12 318 ⟨"IceStreetModel", "parts", "()I"⟩ false := ia_tb_in (List.mem_of_getElem? (i := 2004) (by decide +kernel)) rfl
theorem lk_12_321 : ia_lnk 12 321 ⟨"IceStreetModel", "isIce", "(IIIII)Z"⟩ false := ia_tb_in (List.mem_of_getElem? (i := 2016) (by decide +kernel)) rfl
theorem lk_12_325 : ia_lnk 12 325 ⟨"IceStreetModel", "areWays", "(IIIIII)Z"⟩ false := ia_tb_in (List.mem_of_getElem? (i := 2024) (by decide +kernel)) rfl
theorem lk_12_329 : ia_lnk 12 329 ⟨"IceStreetModel", "greatestLoad", "(III)I"⟩ false := ia_tb_in (List.mem_of_getElem? (i := 2028) (by decide +kernel)) rfl
theorem lk_12_340 : ia_lnk 12 340 ⟨"IceStreetModel", "isOn", "(II)Z"⟩ false := ia_tb_in (List.mem_of_getElem? (i := 2044) (by decide +kernel)) rfl
theorem lk_12_343 : ia_lnk 12 343 ⟨"IceStreetModel", "keepsLuck", "(I)V"⟩ false := ia_tb_in (List.mem_of_getElem? (i := 2048) (by decide +kernel)) rfl
theorem lk_12_346 : ia_lnk 12 346 ⟨"IceStreetModel", "luckOf", "(I)J"⟩ false := ia_tb_in (List.mem_of_getElem? (i := 2052) (by decide +kernel)) rfl
theorem lk_12_349 : ia_lnk 12 349 ⟨"IceStreetModel", "isLoad", "(I)Z"⟩ false := ia_tb_in (List.mem_of_getElem? (i := 2036) (by decide +kernel)) rfl
theorem lk_12_352 : ia_lnk 12 352 ⟨"IceStreetModel", "luckyWay", "(III)V"⟩ false := ia_tb_in (List.mem_of_getElem? (i := 2039) (by decide +kernel)) rfl
theorem lk_12_356 : ia_lnk 12 356 ⟨"IceStreetModel", "isStanding", "(IIIII)Z"⟩ false := ia_tb_in (List.mem_of_getElem? (i := 2073) (by decide +kernel)) rfl
theorem lk_12_359 : ia_lnk 12 359 ⟨"IceStreetModel", "holdsFor", "(I)I"⟩ false := ia_tb_in (List.mem_of_getElem? (i := 2077) (by decide +kernel)) rfl
theorem lk_12_362 : ia_lnk 12 362 ⟨"IceStreetModel", "isFair", "(IIII)Z"⟩ false := ia_tb_in (List.mem_of_getElem? (i := 2085) (by decide +kernel)) rfl
theorem lk_12_365 : ia_lnk 12 365 ⟨"IceStreetModel", "copies", "(II)V"⟩ false := ia_tb_in (List.mem_of_getElem? (i := 2097) (by decide +kernel)) rfl
theorem lk_12_368 : ia_lnk 12 368 ⟨"IceStreetModel", "draws", "(I)Z"⟩ false := ia_tb_in (List.mem_of_getElem? (i := 2101) (by decide +kernel)) rfl
theorem lk_12_371 : ia_lnk 12 371 ⟨"IceStreetModel", "leftWorth", "()I"⟩ false := ia_tb_in (List.mem_of_getElem? (i := 2105) (by decide +kernel)) rfl
theorem lk_12_374 : ia_lnk 12 374 ⟨"IceStreetModel", "drawsBest", "(I)I"⟩ false := ia_tb_in (List.mem_of_getElem? (i := 2093) (by decide +kernel)) rfl
theorem lk_12_377 : ia_lnk 12 377 ⟨"IceStreetModel", "longer", "(Z)I"⟩ false := ia_tb_in (List.mem_of_getElem? (i := 2117) (by decide +kernel)) rfl
theorem lk_12_381 : ia_lnk 12 381 ⟨"IceStreetModel", "bitsOfPath", "()J"⟩ false := ia_tb_in (List.mem_of_getElem? (i := 2125) (by decide +kernel)) rfl
theorem lk_12_385 : ia_lnk 12 385 ⟨"IceStreetModel", "firstDay", "(IIIZ)I"⟩ false := ia_tb_in (List.mem_of_getElem? (i := 2137) (by decide +kernel)) rfl
theorem lk_12_389 : ia_lnk 12 389 ⟨"IceStreetModel", "isCut", "(IIIIII)Z"⟩ false := ia_tb_in (List.mem_of_getElem? (i := 2149) (by decide +kernel)) rfl
theorem lk_12_395 : ia_lnk 12 395 ⟨"IceStreetModel", "atMinute", "(II)I"⟩ false := ia_tb_in (List.mem_of_getElem? (i := 2165) (by decide +kernel)) rfl
theorem lk_12_398 : ia_lnk 12 398 ⟨"IceStreetModel", "meetsIn", "(IIII)Z"⟩ false := ia_tb_in (List.mem_of_getElem? (i := 2168) (by decide +kernel)) rfl
theorem lk_12_401 : ia_lnk 12 401 ⟨"IceStreetModel", "meetAt", "(III)I"⟩ false := ia_tb_in (List.mem_of_getElem? (i := 2161) (by decide +kernel)) rfl
theorem lk_12_408 : ia_lnk 12 408 ⟨"IceStreetModel", "drawnBelow", "(I)I"⟩ false := ia_tb_in (List.mem_of_getElem? (i := 2180) (by decide +kernel)) rfl
theorem lk_12_411 : ia_lnk 12 411 ⟨"IceStreetModel", "drawnDay", "()V"⟩ false := ia_tb_in (List.mem_of_getElem? (i := 2176) (by decide +kernel)) rfl
theorem lk_12_414 : ia_lnk 12 414 ⟨"IceStreetModel", "swept", "(I)I"⟩ false := ia_tb_in (List.mem_of_getElem? (i := 2193) (by decide +kernel)) rfl
theorem lk_12_417 : ia_lnk 12 417 ⟨"IceStreetModel", "heavier", "(I)I"⟩ false := ia_tb_in (List.mem_of_getElem? (i := 2197) (by decide +kernel)) rfl
theorem lk_12_420 : ia_lnk 12 420 ⟨"IceStreetModel", "latest", "(I)I"⟩ false := ia_tb_in (List.mem_of_getElem? (i := 2201) (by decide +kernel)) rfl
theorem lk_12_423 : ia_lnk 12 423 ⟨"IceStreetModel", "thickerBy", "(III)I"⟩ false := ia_tb_in (List.mem_of_getElem? (i := 2213) (by decide +kernel)) rfl
