/-! ===== bytes and digits of a long; feed, chances ===== -/
theorem low_bits {m k : Nat} (hm : m = 2 ^ k - 1) (hk : k ≤ 32) {j : Nat} (hj : j < 32) (h : k ≤ j) : (BitVec.ofNat 32 m)[j] = false := by
  rw [← BitVec.getLsbD_eq_getElem, BitVec.getLsbD_ofNat]
  subst hm
  rw [Nat.testBit_two_pow_sub_one]
  simp; omega
theorem sh_same (v : BitVec 64) (s k m : Nat) (hm : m = 2 ^ k - 1) (hk : k ≤ 32) (h : s + k ≤ 64) : (BitVec.signExtend 32 (v >>> s)) &&& BitVec.ofNat 32 m = (BitVec.signExtend 32 (v.sshiftRight s)) &&& BitVec.ofNat 32 m := by
  ext j hj
  simp only [BitVec.getElem_and]
  by_cases q : j < k
  · congr 1
    rw [BitVec.getElem_signExtend, BitVec.getElem_signExtend]
    simp only [BitVec.getLsbD_sshiftRight, BitVec.getLsbD_ushiftRight, show j < 64 by omega, if_true]
    simp only [BitVec.getElem_sshiftRight, BitVec.getElem_ushiftRight, show s + j < 64 by omega, dif_pos]
    rfl
  · rw [low_bits hm hk hj (by omega)]
    simp
theorem by_eq (v : Int64) (i : Nat) (h : i < 8) : (((v.toUInt64 >>> (((8 : Int32) * nI i).toInt64.toUInt64 &&& Int64.toUInt64 63)).toInt64).toInt32) &&& 255 = ((v >>> (((8 : Int32) * nI i).toInt64 &&& 63)) &&& 255).toInt32 := by
  match i, h with
  | 0, _ =>
    rw [show (((8 : Int32) * nI 0).toInt64.toUInt64 &&& Int64.toUInt64 63) = 0 from by decide, show (((8 : Int32) * nI 0).toInt64 &&& 63) = 0 from by decide]
    apply Int32.toBitVec_inj.mp
    have e := sh_same v.toBitVec 0 8 255 rfl (by decide) (by decide)
    ext j hj
    have ej : (BitVec.signExtend 32 (v.toBitVec >>> 0) &&& BitVec.ofNat 32 255)[j] = (BitVec.signExtend 32 (v.toBitVec.sshiftRight 0) &&& BitVec.ofNat 32 255)[j] := by rw [e]
    simpa using ej
  | 1, _ =>
    rw [show (((8 : Int32) * nI 1).toInt64.toUInt64 &&& Int64.toUInt64 63) = 8 from by decide, show (((8 : Int32) * nI 1).toInt64 &&& 63) = 8 from by decide]
    apply Int32.toBitVec_inj.mp
    have e := sh_same v.toBitVec 8 8 255 rfl (by decide) (by decide)
    ext j hj
    have ej : (BitVec.signExtend 32 (v.toBitVec >>> 8) &&& BitVec.ofNat 32 255)[j] = (BitVec.signExtend 32 (v.toBitVec.sshiftRight 8) &&& BitVec.ofNat 32 255)[j] := by rw [e]
    simpa using ej
  | 2, _ =>
    rw [show (((8 : Int32) * nI 2).toInt64.toUInt64 &&& Int64.toUInt64 63) = 16 from by decide, show (((8 : Int32) * nI 2).toInt64 &&& 63) = 16 from by decide]
    apply Int32.toBitVec_inj.mp
    have e := sh_same v.toBitVec 16 8 255 rfl (by decide) (by decide)
    ext j hj
    have ej : (BitVec.signExtend 32 (v.toBitVec >>> 16) &&& BitVec.ofNat 32 255)[j] = (BitVec.signExtend 32 (v.toBitVec.sshiftRight 16) &&& BitVec.ofNat 32 255)[j] := by rw [e]
    simpa using ej
  | 3, _ =>
    rw [show (((8 : Int32) * nI 3).toInt64.toUInt64 &&& Int64.toUInt64 63) = 24 from by decide, show (((8 : Int32) * nI 3).toInt64 &&& 63) = 24 from by decide]
    apply Int32.toBitVec_inj.mp
    have e := sh_same v.toBitVec 24 8 255 rfl (by decide) (by decide)
    ext j hj
    have ej : (BitVec.signExtend 32 (v.toBitVec >>> 24) &&& BitVec.ofNat 32 255)[j] = (BitVec.signExtend 32 (v.toBitVec.sshiftRight 24) &&& BitVec.ofNat 32 255)[j] := by rw [e]
    simpa using ej
  | 4, _ =>
    rw [show (((8 : Int32) * nI 4).toInt64.toUInt64 &&& Int64.toUInt64 63) = 32 from by decide, show (((8 : Int32) * nI 4).toInt64 &&& 63) = 32 from by decide]
    apply Int32.toBitVec_inj.mp
    have e := sh_same v.toBitVec 32 8 255 rfl (by decide) (by decide)
    ext j hj
    have ej : (BitVec.signExtend 32 (v.toBitVec >>> 32) &&& BitVec.ofNat 32 255)[j] = (BitVec.signExtend 32 (v.toBitVec.sshiftRight 32) &&& BitVec.ofNat 32 255)[j] := by rw [e]
    simpa using ej
  | 5, _ =>
    rw [show (((8 : Int32) * nI 5).toInt64.toUInt64 &&& Int64.toUInt64 63) = 40 from by decide, show (((8 : Int32) * nI 5).toInt64 &&& 63) = 40 from by decide]
    apply Int32.toBitVec_inj.mp
    have e := sh_same v.toBitVec 40 8 255 rfl (by decide) (by decide)
    ext j hj
    have ej : (BitVec.signExtend 32 (v.toBitVec >>> 40) &&& BitVec.ofNat 32 255)[j] = (BitVec.signExtend 32 (v.toBitVec.sshiftRight 40) &&& BitVec.ofNat 32 255)[j] := by rw [e]
    simpa using ej
  | 6, _ =>
    rw [show (((8 : Int32) * nI 6).toInt64.toUInt64 &&& Int64.toUInt64 63) = 48 from by decide, show (((8 : Int32) * nI 6).toInt64 &&& 63) = 48 from by decide]
    apply Int32.toBitVec_inj.mp
    have e := sh_same v.toBitVec 48 8 255 rfl (by decide) (by decide)
    ext j hj
    have ej : (BitVec.signExtend 32 (v.toBitVec >>> 48) &&& BitVec.ofNat 32 255)[j] = (BitVec.signExtend 32 (v.toBitVec.sshiftRight 48) &&& BitVec.ofNat 32 255)[j] := by rw [e]
    simpa using ej
  | 7, _ =>
    rw [show (((8 : Int32) * nI 7).toInt64.toUInt64 &&& Int64.toUInt64 63) = 56 from by decide, show (((8 : Int32) * nI 7).toInt64 &&& 63) = 56 from by decide]
    apply Int32.toBitVec_inj.mp
    have e := sh_same v.toBitVec 56 8 255 rfl (by decide) (by decide)
    ext j hj
    have ej : (BitVec.signExtend 32 (v.toBitVec >>> 56) &&& BitVec.ofNat 32 255)[j] = (BitVec.signExtend 32 (v.toBitVec.sshiftRight 56) &&& BitVec.ofNat 32 255)[j] := by rw [e]
    simpa using ej
/-- a byte of a long, in both -/
theorem by_both (v : Int64) (i : Nat) (h : i < 8) : ∃ b, b ≤ 255 ∧ (((v.toUInt64 >>> (((8 : Int32) * nI i).toInt64.toUInt64 &&& Int64.toUInt64 63)).toInt64).toInt32) &&& 255 = nI b ∧ ((v >>> (((8 : Int32) * nI i).toInt64 &&& 63)) &&& 255).toInt32 = nI b := by
  obtain ⟨b, hb, e⟩ := pk_andE (((v.toUInt64 >>> (((8 : Int32) * nI i).toInt64.toUInt64 &&& Int64.toUInt64 63)).toInt64).toInt32) (m := 255) 8 (by decide)
  exact ⟨b, by omega, e, (by_eq v i h).symm.trans e⟩
