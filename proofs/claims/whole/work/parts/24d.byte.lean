theorem byte255 (y : Int32) : y.toInt8.toInt32 &&& 255 = y &&& 255 := by
  apply Int32.toBitVec_inj.mp
  rw [Int32.toBitVec_and, Int32.toBitVec_and]
  apply BitVec.eq_of_getLsbD_eq
  intro i hi
  rw [BitVec.getLsbD_and, BitVec.getLsbD_and]
  by_cases h : i < 8
  · have : (y.toInt8.toInt32).toBitVec.getLsbD i = y.toBitVec.getLsbD i := by
      show (BitVec.signExtend 32 (BitVec.signExtend 8 y.toBitVec)).getLsbD i = _
      rw [BitVec.getLsbD_signExtend, if_pos h, BitVec.getLsbD_signExtend, if_pos hi]
      simp [h, hi]
    rw [this]
  · have : (255 : Int32).toBitVec.getLsbD i = false := by
      have h8 : 8 ≤ i := by omega
      show (255#32).getLsbD i = false
      have : ∀ j : Fin 32, 8 ≤ j.1 → (255#32).getLsbD j.1 = false := by decide
      exact this ⟨i, hi⟩ h8
    rw [this, Bool.and_false, Bool.and_false]
theorem nar_byte (y : Int32) : vp_nar .byte y = y.toInt8.toInt32 := rfl
