/-! names of a greeting as bits; the model stirred -/
theorem zun_sh : ∀ n, n < 16 → zun ((1 : Int32) <<< (Int32.ofNat n &&& 31)) = 2 ^ n := by decide +kernel
theorem zun_md : ∀ n, n < 16 → (Int32.ofNat n &&& 31).toBitVec.smod 32#32 = BitVec.ofNat 32 n := by decide +kernel
theorem gnm_bits {p : Nat → Int32} : ∀ k, (∀ i, i < k → ∃ n, n < 16 ∧ g2 p (8 + 2 * i) = Int32.ofNat n) → zun (gnm p k) < 2 ^ 16 ∧ ∀ b, b < 16 → (zun (gnm p k)).testBit b = (List.range k).any (fun i => decide (g2 p (8 + 2 * i) = Int32.ofNat b)) := by
  intro k
  induction k with
  | zero =>
    intro _
    have e : zun (gnm p 0) = 0 := rfl
    rw [e]
    exact ⟨by decide, fun b _ => by rw [Nat.zero_testBit]; rfl⟩
  | succ k ih =>
    intro h
    obtain ⟨i1, i2⟩ := ih (fun i hi => h i (by omega))
    obtain ⟨n, n1, n2⟩ := h k (by omega)
    have e : zun (gnm p (k + 1)) = zun (gnm p k) ||| 2 ^ n := by
      show zun (gnm p k ||| ((1 : Int32) <<< (g2 p (8 + 2 * k) &&& 31))) = _
      rw [zor_n, n2, zun_sh n n1]
    rw [e]
    refine ⟨Nat.or_lt_two_pow i1 (Nat.pow_lt_pow_right (by decide) n1), fun b hb => ?_⟩
    rw [Nat.testBit_or, i2 b hb, List.range_succ, List.any_append, Nat.testBit_two_pow]
    congr 1
    have : [k].any (fun i => decide (g2 p (8 + 2 * i) = Int32.ofNat b)) = decide (g2 p (8 + 2 * k) = Int32.ofNat b) := by simp
    rw [this, n2]
    by_cases c : n = b
    · rw [c]; simp
    · have : ¬ Int32.ofNat n = Int32.ofNat b := by rw [zo_eq (by omega) (by omega)]; exact c
      simp [c, this]
theorem gnm_bit {D : Dg} {b k : Nat} (hb : b < 16) (h : ∀ i, i < k → ∃ n, n < 16 ∧ g2 D.2 (8 + 2 * i) = Int32.ofNat n) : (gnm D.2 k >>> ((Int32.ofNat b) &&& 31)) &&& (1 : Int32) = 1 ↔ gNm D b k = true := by
  obtain ⟨h1, h2⟩ := gnm_bits k h
  have hv : gnm D.2 k = Int32.ofNat (zun (gnm D.2 k)) := by
    apply zun_inj
    rw [zun_of (by omega)]
  have e := h2 b hb
  unfold gNm
  rw [← e, hv, zsar (k := b) (by omega) (by omega) _ (zun_md b hb)]
  generalize zun (gnm D.2 k) = v at *
  rw [zun_of (by omega)]
  have e2 : zun (Int32.ofNat (v / 2 ^ b) &&& (1 : Int32)) = v / 2 ^ b % 2 := by
    show ((Int32.ofNat (v / 2 ^ b)).toBitVec &&& 1#32).toNat = _
    rw [BitVec.toNat_and, show (1#32 : BitVec 32).toNat = 2 ^ 1 - 1 from rfl, Nat.and_two_pow_sub_one_eq_mod]
    show zun (Int32.ofNat _) % _ = _
    have : v / 2 ^ b ≤ v := Nat.div_le_self _ _
    rw [zun_of (by omega)]
  rw [Nat.testBit_eq_decide_div_mod_eq]
  constructor
  · intro y
    rw [y] at e2
    have : zun (1 : Int32) = 1 := rfl
    rw [this] at e2
    simp [← e2]
  · intro y
    apply zun_inj
    rw [e2]
    have : v / 2 ^ b % 2 = 1 := by simpa using y
    rw [this]; rfl
def mMVs : Nat := mTM ||| (0x100000000000000000000000000000000000000000000000000000e0000000000000000000000000000000000000000000000000000000000000000000000000000000000000000000000000000000000000000000000000000000000000000000000000000000000000000000000000000000000000000000000000000000000000000000000000000000000000000000000000000000000000000 ||| (0x2000000000000000000000000000000000000000000000000000000000000000000000000000000800000000000000000000000000000000000000000000000000000000000000000000000000000000000000000000000000000000000000000000000000000000000000000000000000000000000000000000000000000000000000000000000000000000000000000000000000000000000000000000000000000000000000000 ||| (0x1000000000000000000000000000000000000000000000000000000000000000080000000000000000000000000000000000000000000000000000000000000000000000000000000000000000000000000000000000000000000000000000000000000000000000000000000000000000000000000000000000000000000000000 ||| ((mMp ||| 0x10048c0000000000000000000000000008000000000000000001000000000000000000000000000000000000000000000000000000000000000000000000000000000000000000000000000000000000000000000000000000000000000000000000000000000000000000000000000000000000000000000000000000000000000000000000000000000000000000000000000000000000000000000000000000000000000000000000000) ||| (0x30000000000000000000000000000000000000000000000200000000000000000000000000000000000000000000000000000000000000000000000000000000000000000000000000000000000000000000000000000000000000000000000000000000000000000000000000000000000000000000000000000000000000000000000000000000000000000000000000000000000000000000000000000000000000000000000000 ||| 0x8000000000000000000000000000000000000000000000000000000000000000000000000000000000000000000000000000000000000000000000000000000000000000000000000000000000000000000000000000000000000000000000000000000000000000000000000000000000000000000000000000000000000000000000000000000000000000000000000000000000000000000000000000000000000000000000000)))))
/-- all but the stirring is framed -/
theorem zMV_st {M : Nat} {w w' : St} {T : Tp} {E : Ev} {K : Int32 → Int32 → Int32 → Prop} {g : Sg} {X TS TA TB : List Nat} {t : Nat} (f : zFr M w w') (hm : mMVs &&& M = 0) (hL : ∀ k o i, zgL w' k o i = zgL w k o i) (hS : zgI w' 19 27 0 = Int32.ofNat t) (h : zMV w T E g K X TS TA TB) : zMV w' T E (sS g t) K X TS TA TB := by
  obtain ⟨h1, h2, h3, h4, ⟨h5, h6, h7⟩, h8, h9⟩ := h
  obtain ⟨k1, r1⟩ := zmsk2 hm
  obtain ⟨k2, r2⟩ := zmsk2 r1
  obtain ⟨k3, r3⟩ := zmsk2 r2
  obtain ⟨k4, r4⟩ := zmsk2 r3
  obtain ⟨k5, r5⟩ := zmsk2 r4
  obtain ⟨k6, k7⟩ := zmsk2 r5
  refine ⟨zTM_fr f k1 h1, h2, zEm_fr f k2 h3, h4, ⟨zTm_fr f k3 h5, ⟨fun n hn => ?_, fun b hb => ?_, hS⟩, zNm_fr f k5 h2 hL h7⟩, zAm_fr f k6 h8, zHm_fr f k7 h9⟩
  · exact (zFr_gI f (by decide) (ztf k4 (by decide)) n).trans (h6.1 n hn)
  · exact (zFr_gI f (by decide) (ztf k4 (by decide)) b).trans (h6.2.1 b hb)
