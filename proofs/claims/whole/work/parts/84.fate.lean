/-! one fate out of a long: both sides take the same two bits -/
theorem zfate_bits : ∀ i, i < 32 → (((2 : Int32) * Int32.ofNat i).toInt64.toUInt64 &&& Int64.toUInt64 63).toBitVec = BitVec.ofNat 64 (2 * i) ∧ (((2 : Int32) * Int32.ofNat i).toInt64 &&& 63).toBitVec = BitVec.ofNat 64 (2 * i) := by decide +kernel
theorem zfate_b2 : ∀ i, i < 32 → ((BitVec.ofNat 64 (2 * i)).smod 64#64) = BitVec.ofNat 64 (2 * i) ∧ (BitVec.ofNat 64 (2 * i) % 64#64) = BitVec.ofNat 64 (2 * i) ∧ (BitVec.ofNat 64 (2 * i)).toNat = 2 * i := by decide +kernel
theorem zfate_3 : ∀ j, j < 32 → ((3#32 : BitVec 32).getLsbD j = decide (j < 2)) ∧ ((3#64 : BitVec 64).getLsbD j = decide (j < 2)) := by decide +kernel
theorem zfate_eq (x : Int64) {i : Nat} (hi : i < 32) : (Int64.toInt32 ((x.toUInt64 >>> (((2 : Int32) * Int32.ofNat i).toInt64.toUInt64 &&& Int64.toUInt64 63)).toInt64)) &&& (3 : Int32) = Int64.toInt32 ((x >>> (((2 : Int32) * Int32.ofNat i).toInt64 &&& 63)) &&& (3 : Int64)) := by
  obtain ⟨h1, h2⟩ := zfate_bits i hi
  obtain ⟨g1, g2, g3⟩ := zfate_b2 i hi
  apply Int32.toBitVec_inj.mp
  generalize ea : (((2 : Int32) * Int32.ofNat i).toInt64.toUInt64 &&& Int64.toUInt64 63) = a at h1
  generalize eb : (((2 : Int32) * Int32.ofNat i).toInt64 &&& 63) = b at h2
  have k1 : (x.toUInt64 >>> a).toInt64.toBitVec = x.toBitVec >>> (2 * i) := by
    show x.toBitVec >>> (a.toBitVec % 64#64) = _
    rw [h1, g2]
    show x.toBitVec >>> (BitVec.ofNat 64 (2 * i)).toNat = _
    rw [g3]
  have k2 : (x >>> b).toBitVec = x.toBitVec.sshiftRight (2 * i) := by
    show x.toBitVec.sshiftRight' (b.toBitVec.smod 64#64) = _
    rw [h2, g1]
    show x.toBitVec.sshiftRight (BitVec.ofNat 64 (2 * i)).toNat = _
    rw [g3]
  show ((x.toUInt64 >>> a).toInt64.toBitVec.signExtend 32) &&& 3#32 = (((x >>> b).toBitVec &&& 3#64).signExtend 32)
  rw [k1, k2]
  apply BitVec.eq_of_getLsbD_eq
  intro j hj
  have hj' : j < 32 := hj
  obtain ⟨t1, t2⟩ := zfate_3 j hj'
  rw [BitVec.getLsbD_and, t1, BitVec.getLsbD_signExtend, BitVec.getLsbD_signExtend]
  simp only [show j < 32 from hj', show j < 64 by omega, decide_true, Bool.true_and, if_true]
  rw [BitVec.getLsbD_and, t2, BitVec.getLsbD_ushiftRight, BitVec.getLsbD_sshiftRight]
  by_cases c : j < 2
  · have c1 : 2 * i + j < 64 := by omega
    have c2 : ¬ 64 ≤ j := by omega
    simp [c, c1, c2]
  · simp [c]
theorem zand3 (y : Int32) : y &&& (3 : Int32) = 0 ∨ y &&& (3 : Int32) = 1 ∨ y &&& (3 : Int32) = 2 ∨ y &&& (3 : Int32) = 3 := by
  have h : (y &&& (3 : Int32)).toBitVec.toNat = y.toBitVec.toNat % 4 := by
    show (y.toBitVec &&& 3#32).toNat = _
    rw [BitVec.toNat_and]
    exact Nat.and_two_pow_sub_one_eq_mod _ 2
  have h4 : y.toBitVec.toNat % 4 < 4 := Nat.mod_lt _ (by decide)
  have hc : y.toBitVec.toNat % 4 = 0 ∨ y.toBitVec.toNat % 4 = 1 ∨ y.toBitVec.toNat % 4 = 2 ∨ y.toBitVec.toNat % 4 = 3 := by omega
  rcases hc with c | c | c | c <;> rw [c] at h
  · exact Or.inl (Int32.toBitVec_inj.mp (BitVec.eq_of_toNat_eq (h.trans rfl)))
  · exact Or.inr (Or.inl (Int32.toBitVec_inj.mp (BitVec.eq_of_toNat_eq (h.trans rfl))))
  · exact Or.inr (Or.inr (Or.inl (Int32.toBitVec_inj.mp (BitVec.eq_of_toNat_eq (h.trans rfl)))))
  · exact Or.inr (Or.inr (Or.inr (Int32.toBitVec_inj.mp (BitVec.eq_of_toNat_eq (h.trans rfl)))))
theorem zfate_nar (y : Int32) : vp_nar .byte ((Int32.toInt8 (y &&& (3 : Int32))).toInt32) = y &&& (3 : Int32) := by
  rcases zand3 y with h | h | h | h <;> rw [h] <;> decide
theorem zmod64 : ∀ a, a < 64 → ∀ f, f < 64 → ((Int32.ofNat a + Int32.ofNat f) &&& (63 : Int32)) = Int32.ofNat ((a + f) % 64) := by decide +kernel
