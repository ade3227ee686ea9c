/-! bytes of a number -/
theorem by_and {V : Int32} : (V &&& 255).toInt = V.toInt % 256 := by
  have h1 : (V &&& 255).toBitVec.toNat = V.toBitVec.toNat % 256 := by
    rw [Int32.toBitVec_and, BitVec.toNat_and]
    exact Nat.and_two_pow_sub_one_eq_mod _ 8
  have h2 : (V &&& 255).toInt = ((V &&& 255).toBitVec.toNat : Int) := by
    rw [← Int32.toInt_toBitVec, BitVec.toInt_eq_toNat_cond, if_pos (by omega)]
  have h3 : V.toInt % 256 = (V.toBitVec.toNat : Int) % 256 := by
    rw [← Int32.toInt_toBitVec, BitVec.toInt_eq_toNat_cond]
    split <;> omega
  omega
theorem by_u {X : Int32} {U : UInt32} : (U.toInt32).toInt % 256 = (U.toNat : Int) % 256 := by
  have : (U.toInt32).toBitVec.toNat = U.toNat := rfl
  rw [← Int32.toInt_toBitVec, BitVec.toInt_eq_toNat_cond, this]
  split <;> omega
theorem by_8 {Y : Int32} : pvb (p8 Y.toInt) % 256 = Y.toInt % 256 ∧ -128 ≤ pvb (p8 Y.toInt) ∧ pvb (p8 Y.toInt) ≤ 127 := by
  have e : pvb (p8 Y.toInt) = Y.toInt.bmod 256 := by
    unfold pvb p8
    rw [vp_nar_byte, Int32.ofInt_toInt, Int32.ofInt_toInt, Int8.toInt_toInt32, Int32.toInt_toInt8, Int8.toInt_toInt32, Int32.toInt_toInt8]
    simp
  rw [e, Int.bmod_def]
  split <;> omega
theorem by_v {X B : Int32} {n : Nat} (hB : (B.toBitVec.smod 32).toNat = n) : (X >>> B).toInt = X.toInt / ((2 ^ n : Nat) : Int) := by
  rw [← Int32.toInt_toBitVec, Int32.toBitVec_shiftRight, BitVec.sshiftRight', hB, BitVec.toInt_sshiftRight, Int.shiftRight_eq_div_pow, Int32.toInt_toBitVec]
theorem by_un {X : Int32} : X.toInt = (X.toUInt32.toNat : Int) ∨ X.toInt = (X.toUInt32.toNat : Int) - 4294967296 := by
  have : X.toUInt32.toNat = X.toBitVec.toNat := rfl
  rw [this, ← Int32.toInt_toBitVec, BitVec.toInt_eq_toNat_cond]
  split
  · exact Or.inl rfl
  · exact Or.inr rfl
theorem by_s {x s : Int} (hs : s = 24 ∨ s = 16 ∨ s = 8 ∨ s = 0) : pvb (p8 (push x s)) % 256 = pand (pshr x s) 255 ∧ -128 ≤ pvb (p8 (push x s)) ∧ pvb (p8 (push x s)) ≤ 127 := by
  have u := by_un (X := Int32.ofInt x)
  unfold push pshr pand
  rw [Int32.ofInt_toInt, show Int32.ofInt 255 = 255 from rfl, by_and]
  refine ⟨?_, by_8.2⟩
  rw [by_8.1, by_u (X := 0), UInt32.toNat_shiftRight]
  rcases hs with rfl | rfl | rfl | rfl
  · rw [by_v (n := 24) (by decide), show (((Int32.ofInt 24).toUInt32 &&& Int32.toUInt32 31).toNat % 32) = 24 by decide, Nat.shiftRight_eq_div_pow]
    rcases u with u | u <;> rw [u] <;> omega
  · rw [by_v (n := 16) (by decide), show (((Int32.ofInt 16).toUInt32 &&& Int32.toUInt32 31).toNat % 32) = 16 by decide, Nat.shiftRight_eq_div_pow]
    rcases u with u | u <;> rw [u] <;> omega
  · rw [by_v (n := 8) (by decide), show (((Int32.ofInt 8).toUInt32 &&& Int32.toUInt32 31).toNat % 32) = 8 by decide, Nat.shiftRight_eq_div_pow]
    rcases u with u | u <;> rw [u] <;> omega
  · rw [by_v (n := 0) (by decide), show (((Int32.ofInt 0).toUInt32 &&& Int32.toUInt32 31).toNat % 32) = 0 by decide, Nat.shiftRight_eq_div_pow]
    rcases u with u | u <;> rw [u] <;> omega
