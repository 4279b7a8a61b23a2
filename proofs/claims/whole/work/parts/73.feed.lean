/-! ===== feed, chances ===== -/
/-- the byte at place i of a long -/
def byteOf (v : Int64) (i : Nat) : Nat := (v.toBitVec.toNat / 2 ^ (8 * i)) % 256
theorem byteOf_le (v : Int64) (i : Nat) : byteOf v i ≤ 255 := by unfold byteOf; omega
theorem sh8 (i : Nat) (h : i < 8) : ((8 : Int32) * nI i).toInt64 = lN (8 * i) := by rw [show (8 : Int32) = nI 8 from rfl, pk_mul]; exact nI_l (by omega)
theorem by_c (v : Int64) (i : Nat) (h : i < 8) : (((v.toUInt64 >>> (((8 : Int32) * nI i).toInt64.toUInt64 &&& Int64.toUInt64 63)).toInt64).toInt32) &&& 255 = nI (byteOf v i) := by
  rw [sh8 i h]
  sorry
theorem by_m (v : Int64) (i : Nat) (h : i < 8) : ((v >>> (((8 : Int32) * nI i).toInt64 &&& 63)) &&& 255).toInt32 = nI (byteOf v i) := by
  rw [sh8 i h]
  sorry
