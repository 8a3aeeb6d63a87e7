/-! pure: rows of bytes as lists of numbers 0 to 255 -/
/-- a byte as it lies in a byte array -/
def byteOk (x : Int32) : Prop := x.toInt8.toInt32 = x
theorem byteOk_nar (x : Int32) : byteOk (vp_nar .byte x) := by
  unfold byteOk; rw [vp_nar_byte]; simp
theorem nar_byte (x : Int32) : vp_nar .byte x = x.toInt8.toInt32 := vp_nar_byte x
theorem nar_and (x : Int32) : vp_nar .byte x &&& 255 = x &&& 255 := by
  rw [vp_nar_byte]
  apply Int32.toBitVec_inj.mp
  simp only [Int32.toBitVec_and, Int8.toBitVec_toInt32, Int32.toBitVec_toInt8]
  have h : (255 : Int32).toBitVec = 255#32 := rfl
  rw [h]
  ext i hi
  simp only [BitVec.getElem_and, BitVec.getElem_signExtend, BitVec.getElem_setWidth]
  by_cases h8 : i < 8
  · simp [h8]
  · have : (255#32).getLsbD i = false := by
      have hlt : i < 32 := hi
      have : ∀ k, k < 32 → ¬ k < 8 → (255#32).getLsbD k = false := by decide
      exact this i hlt h8
    simp [h8, BitVec.getElem_eq_testBit_toNat] at *
    sorry
