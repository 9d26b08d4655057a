/-! A bit of a long, by either shift. Ours. -/
theorem bit1 (X : Int64) : (X &&& 1 = 1) ↔ X.toBitVec.getLsbD 0 = true := by
  have h : (X &&& 1 = 1) ↔ (X.toBitVec &&& 1#64 = 1#64) := by
    constructor
    · intro q
      have := congrArg Int64.toBitVec q
      exact this
    · intro q
      exact Int64.toBitVec_inj.mp q
  rw [h, BitVec.and_one_eq_setWidth_ofBool_getLsbD]
  cases X.toBitVec.getLsbD 0 <;> decide
theorem and63 (K : Int64) : (K &&& 63).toBitVec.toNat < 64 := by
  show (K.toBitVec &&& 63#64).toNat < 64
  rw [BitVec.toNat_and]
  exact Nat.lt_of_le_of_lt Nat.and_le_right (by decide)
theorem smod64 (x : BitVec 64) (h : x.toNat < 64) : x.smod 64#64 = x := by
  have hm : x.msb = false := by
    rw [BitVec.msb_eq_decide]
    exact decide_eq_false (by omega)
  rw [BitVec.smod_eq, hm, show (64#64 : BitVec 64).msb = false from by decide]
  show x.umod 64#64 = x
  apply BitVec.eq_of_toNat_eq
  rw [BitVec.umod_eq, BitVec.toNat_umod]
  exact Nat.mod_eq_of_lt h
theorem ush (b : Int64) (w : Int32) : ((b.toUInt64 >>> (w.toInt64.toUInt64 &&& Int64.toUInt64 63)).toInt64 &&& 1 = 1) = ((b >>> (w.toInt64 &&& 63)) &&& 1 = 1) := by
  apply propext
  rw [bit1, bit1]
  have hk := and63 w.toInt64
  have e1 : (b >>> (w.toInt64 &&& 63)).toBitVec = b.toBitVec.sshiftRight' ((w.toInt64 &&& 63).toBitVec.smod 64#64) := rfl
  have e2 : (b.toUInt64 >>> (w.toInt64.toUInt64 &&& Int64.toUInt64 63)).toInt64.toBitVec = b.toBitVec >>> ((w.toInt64 &&& 63).toBitVec % 64#64) := rfl
  rw [e1, e2, smod64 _ hk, BitVec.ushiftRight_eq']
  show _ ↔ (b.toBitVec.sshiftRight (w.toInt64 &&& 63).toBitVec.toNat).getLsbD 0 = true
  rw [BitVec.getLsbD_sshiftRight, BitVec.getLsbD_ushiftRight, BitVec.toNat_umod]
  rw [show (64#64 : BitVec 64).toNat = 64 from rfl, Nat.mod_eq_of_lt hk]
  generalize (w.toInt64 &&& 63).toBitVec.toNat = k at hk ⊢
  simp [hk]
