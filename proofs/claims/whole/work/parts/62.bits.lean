/-! bytes -/
theorem byte_and (y : Int32) : (vp_nar .byte y.toInt8.toInt32) &&& 255 = y &&& 255 := by
  rw [vp_nar_byte, ← Int32.toBitVec_inj]
  apply BitVec.eq_of_getLsbD_eq
  intro i hi
  have h : ∀ i, i < 32 → (255#32).getLsbD i = decide (i < 8) := by decide
  simp only [Int32.toBitVec_and, Int8.toBitVec_toInt32, Int32.toBitVec_toInt8, BitVec.getLsbD_and, BitVec.getLsbD_signExtend, BitVec.getLsbD_setWidth, show (255 : Int32).toBitVec = 255#32 from rfl, h i hi]
  by_cases q : i < 8
  · simp [q, hi]
  · simp [q]
theorem and255 (y : Int32) : ∃ b, b ≤ 255 ∧ y &&& 255 = nI b := by
  refine ⟨y.toBitVec.toNat % 256, by omega, ?_⟩
  rw [← Int32.toBitVec_inj]
  apply BitVec.eq_of_toNat_eq
  rw [Int32.toBitVec_and, BitVec.toNat_and, show (255 : Int32).toBitVec.toNat = 2 ^ 8 - 1 from rfl, Nat.and_two_pow_sub_one_eq_mod]
  have hb : y.toBitVec.toNat % 256 < 2 ^ 32 := by omega
  show _ = (BitVec.ofNat 32 (y.toBitVec.toNat % 256)).toNat
  rw [BitVec.toNat_ofNat, Nat.mod_eq_of_lt hb]
