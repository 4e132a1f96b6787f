/-! what is drawn -/
theorem jsh_eq (y : Int32) : ((y.toUInt32 >>> ((16 : Int32).toUInt32 &&& Int32.toUInt32 31)).toInt32 &&& 32767 : Int32) = (y >>> ((16 : Int32) &&& 31)) &&& 32767 := by
  have e1 : ((16 : Int32).toUInt32 &&& Int32.toUInt32 31) = (16 : UInt32) := by decide
  have e2 : ((16 : Int32) &&& 31) = (16 : Int32) := by decide
  rw [e1, e2]
  apply Int32.toBitVec_inj.mp
  show (y.toBitVec >>> (16 : Nat)) &&& 32767#32 = (y.toBitVec.sshiftRight 16) &&& 32767#32
  apply BitVec.eq_of_getLsbD_eq
  intro i hi
  rw [BitVec.getLsbD_and, BitVec.getLsbD_and, BitVec.getLsbD_ushiftRight, BitVec.getLsbD_sshiftRight]
  by_cases c : 16 + i < 32
  · have n : ¬ 32 ≤ i := by omega
    simp [c, hi, n]
  · have : (32767#32).getLsbD i = false := by
      have hi2 : i = 16 ∨ i = 17 ∨ i = 18 ∨ i = 19 ∨ i = 20 ∨ i = 21 ∨ i = 22 ∨ i = 23 ∨ i = 24 ∨ i = 25 ∨ i = 26 ∨ i = 27 ∨ i = 28 ∨ i = 29 ∨ i = 30 ∨ i = 31 := by omega
      rcases hi2 with e | e | e | e | e | e | e | e | e | e | e | e | e | e | e | e <;> subst e <;> decide
    rw [this]
    simp
theorem j32767 (y : Int32) : ∃ v : Nat, v < 32768 ∧ y &&& 32767 = jI (v : Int) := by
  refine ⟨(y &&& 32767).toBitVec.toNat, ?_, ?_⟩
  · show (y.toBitVec &&& 32767#32).toNat < 32768
    rw [BitVec.toNat_and]
    have : (32767#32).toNat = 32767 := by decide
    rw [this]
    have := Nat.and_le_right (n := y.toBitVec.toNat) (m := 32767)
    omega
  · have hlt : (y &&& 32767).toBitVec.toNat < 32768 := by
      show (y.toBitVec &&& 32767#32).toNat < 32768
      rw [BitVec.toNat_and]
      have : (32767#32).toNat = 32767 := by decide
      rw [this]
      have := Nat.and_le_right (n := y.toBitVec.toNat) (m := 32767)
      omega
    apply Int32.toInt_inj.mp
    rw [jI_toInt (by omega) (by omega), jI_cond]
    split <;> omega
