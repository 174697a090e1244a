/-! how many bits a long has -/
def zcnt (U : Nat → Bool) : Nat → Nat
  | 0 => 0
  | n + 1 => zcnt U n + (if U n = true then 1 else 0)
theorem zcnt_cg {U V : Nat → Bool} : ∀ {n : Nat}, (∀ j, j < n → U j = V j) → zcnt U n = zcnt V n := by
  intro n
  induction n with
  | zero => intro _; rfl
  | succ n ih =>
    intro h
    unfold zcnt
    rw [ih (fun j hj => h j (by omega)), h n (by omega)]
theorem zcnt_le (U : Nat → Bool) : ∀ n, zcnt U n ≤ n := by
  intro n
  induction n with
  | zero => exact Nat.le_refl _
  | succ n ih =>
    unfold zcnt
    split <;> omega
theorem zcnt_add (U : Nat → Bool) (a : Nat) : ∀ n, zcnt U (a + n) = zcnt U a + zcnt (fun j => U (a + j)) n := by
  intro n
  induction n with
  | zero => rfl
  | succ n ih =>
    show zcnt U (a + n) + (if U (a + n) = true then 1 else 0) = zcnt U a + (zcnt (fun j => U (a + j)) n + (if U (a + n) = true then 1 else 0))
    rw [ih, Nat.add_assoc]
theorem zcnt_full {U : Nat → Bool} : ∀ {n : Nat}, n ≤ zcnt U n → ∀ j, j < n → U j = true := by
  intro n
  induction n with
  | zero => intro _ j hj; omega
  | succ n ih =>
    intro h j hj
    unfold zcnt at h
    have := zcnt_le U n
    by_cases c : U n = true
    · rw [if_pos c] at h
      by_cases e : j = n
      · rw [e]; exact c
      · exact ih (by omega) j (by omega)
    · rw [if_neg c] at h; omega
theorem zcnt_all {U : Nat → Bool} : ∀ {n : Nat}, (∀ j, j < n → U j = true) → zcnt U n = n := by
  intro n
  induction n with
  | zero => intro _; rfl
  | succ n ih =>
    intro h
    unfold zcnt
    rw [ih (fun j hj => h j (by omega)), if_pos (h n (by omega))]
theorem zcnt_tail {U : Nat → Bool} {a : Nat} : ∀ {n : Nat}, (∀ j, a ≤ j → U j = false) → zcnt U (a + n) = zcnt U a := by
  intro n
  induction n with
  | zero => intro _; rfl
  | succ n ih =>
    intro h
    show zcnt U (a + n) + (if U (a + n) = true then 1 else 0) = _
    rw [ih h, if_neg (by rw [h (a + n) (by omega)]; decide)]; rfl
/-- as many bits as there are eights: all of them -/
theorem zcnt_whole {U : Nat → Bool} {d : Nat} (h : ∀ j, U j = true → 8 * j < d) (hd : d ≤ 1480) : (zcnt U 192 * 8 < d) ↔ ¬ ∀ j, 8 * j < d → U j = true := by
  have e : zcnt U ((d + 7) / 8 + (192 - (d + 7) / 8)) = zcnt U ((d + 7) / 8) := zcnt_tail (fun j hj => by
    cases c : U j with
    | false => rfl
    | true => have := h j c; omega)
  rw [show (d + 7) / 8 + (192 - (d + 7) / 8) = 192 by omega] at e
  rw [e]
  have hl := zcnt_le U ((d + 7) / 8)
  constructor
  · intro c a
    rw [zcnt_all (fun j hj => a j (by omega))] at c
    omega
  · intro c
    apply Classical.byContradiction
    intro c2
    exact c (fun j hj => zcnt_full (n := (d + 7) / 8) (by omega) j (by omega))
/-! a long as a number -/
def zul (x : Int64) : Nat := x.toBitVec.toNat
theorem zul_lt (x : Int64) : zul x < 18446744073709551616 := x.toBitVec.isLt
theorem zul_and (a b : Int64) : zul (a &&& b) = zul a &&& zul b := BitVec.toNat_and ..
theorem zul_or (a b : Int64) : zul (a ||| b) = zul a ||| zul b := BitVec.toNat_or ..
theorem zul_add {a b : Int64} (h : zul a + zul b < 18446744073709551616) : zul (a + b) = zul a + zul b := by
  show (a.toBitVec + b.toBitVec).toNat = _
  rw [BitVec.toNat_add]
  exact Nat.mod_eq_of_lt h
theorem zul_sub {a b : Int64} (h : zul b ≤ zul a) : zul (a - b) = zul a - zul b := by
  show (a.toBitVec - b.toBitVec).toNat = _
  rw [BitVec.toNat_sub]
  have := zul_lt a
  unfold zul at *
  rw [show 2 ^ 64 - b.toBitVec.toNat + a.toBitVec.toNat = (a.toBitVec.toNat - b.toBitVec.toNat) + 18446744073709551616 by omega]
  omega
theorem zul_shr {x : Int64} {s : UInt64} {k : Nat} (hk : k < 64) (h : s.toBitVec % 64#64 = BitVec.ofNat 64 k) : zul ((x.toUInt64 >>> s).toInt64) = zul x / 2 ^ k := by
  show (x.toBitVec >>> (s.toBitVec % 64#64)).toNat = _
  rw [h]
  show (x.toBitVec >>> (BitVec.ofNat 64 k).toNat).toNat = _
  rw [BitVec.toNat_ushiftRight, Nat.shiftRight_eq_div_pow, BitVec.toNat_ofNat, Nat.mod_eq_of_lt (by omega)]
  rfl
/-! the sum of bits, eight by eight -/
theorem land256 {a c m d : Nat} (hc : c < 256) (hd : d < 256) : (256 * a + c) &&& (256 * m + d) = 256 * (a &&& m) + (c &&& d) := by
  have hcd : c &&& d < 256 := Nat.lt_of_le_of_lt Nat.and_le_left hc
  apply Nat.eq_of_testBit_eq
  intro i
  rw [Nat.testBit_and, Nat.testBit_two_pow_mul_add a (i := 8) hc, Nat.testBit_two_pow_mul_add m (i := 8) hd, Nat.testBit_two_pow_mul_add (a &&& m) (i := 8) hcd]
  by_cases e : i < 8
  · rw [if_pos e, if_pos e, if_pos e, Nat.testBit_and]
  · rw [if_neg e, if_neg e, if_neg e, Nat.testBit_and]
def pS1 (m x : Nat) : Nat := x - (x / 2 &&& m)
def pS2 (m x : Nat) : Nat := (x &&& m) + (x / 4 &&& m)
def pS3 (m x : Nat) : Nat := (x + x / 16) &&& m
theorem pb1 : ∀ r, r < 256 → ∀ t, t < 2 → (128 * t + r / 2) &&& 85 = (r / 2) &&& 85 := by decide +kernel
theorem pb2 : ∀ r, r < 256 → ∀ t, t < 4 → (64 * t + r / 4) &&& 51 = (r / 4) &&& 51 := by decide +kernel
theorem pb3 : ∀ r, r < 69 → ∀ t, t < 5 → (16 * t + (r + r / 16)) &&& 15 = (r + r / 16) &&& 15 := by decide +kernel
theorem pb4 : ∀ r, r < 256 → pS2 51 (pS1 85 r) % 16 < 5 ∧ pS2 51 (pS1 85 r) < 69 ∧ pS1 85 r < 256 ∧ pS3 15 (pS2 51 (pS1 85 r)) = zcnt (fun j => r.testBit j) 8 := by decide +kernel
theorem pS1_step {m q r : Nat} (hr : r < 256) : pS1 (256 * m + 85) (256 * q + r) = 256 * pS1 m q + pS1 85 r := by
  unfold pS1
  have e : (256 * q + r) / 2 = 256 * (q / 2) + (128 * (q % 2) + r / 2) := by omega
  rw [e, land256 (by omega) (by omega), pb1 r hr (q % 2) (by omega)]
  have h1 : q / 2 &&& m ≤ q / 2 := Nat.and_le_left
  have h2 : r / 2 &&& 85 ≤ r / 2 := Nat.and_le_left
  omega
theorem pS2_step {m q r : Nat} (hr : r < 256) : pS2 (256 * m + 51) (256 * q + r) = 256 * pS2 m q + pS2 51 r := by
  unfold pS2
  have e : (256 * q + r) / 4 = 256 * (q / 4) + (64 * (q % 4) + r / 4) := by omega
  rw [e, land256 hr (by omega), land256 (by omega) (by omega), pb2 r hr (q % 4) (by omega)]
  omega
theorem pS3_step {m q r : Nat} (hr : r < 69) (hq : q % 16 < 5) : pS3 (256 * m + 15) (256 * q + r) = 256 * pS3 m q + pS3 15 r := by
  unfold pS3
  have e : 256 * q + r + (256 * q + r) / 16 = 256 * (q + q / 16) + (16 * (q % 16) + (r + r / 16)) := by omega
  rw [e, land256 (by omega) (by omega), pb3 r hr (q % 16) hq]
def pM (d : Nat) : Nat → Nat
  | 0 => 0
  | n + 1 => 256 * pM d n + d
/-- the bits of n bytes, byte by byte -/
def pB : Nat → Nat → Nat
  | 0, _ => 0
  | n + 1, x => 256 * pB n (x / 256) + zcnt (fun j => (x % 256).testBit j) 8
theorem pF : ∀ (n x : Nat), x < 256 ^ n → pS3 (pM 15 n) (pS2 (pM 51 n) (pS1 (pM 85 n) x)) = pB n x ∧ pS2 (pM 51 n) (pS1 (pM 85 n) x) % 16 < 5 := by
  intro n
  induction n with
  | zero =>
    intro x hx
    have : x = 0 := by simpa using hx
    subst this
    decide
  | succ n ih =>
    intro x hx
    have hq : x / 256 < 256 ^ n := by
      rw [Nat.pow_succ] at hx
      exact Nat.div_lt_of_lt_mul (by rw [Nat.mul_comm]; exact hx)
    obtain ⟨i1, i2⟩ := ih (x / 256) hq
    obtain ⟨b1, b2, b3, b4⟩ := pb4 (x % 256) (by omega)
    have ex : x = 256 * (x / 256) + x % 256 := by omega
    have e1 : pS1 (pM 85 (n + 1)) x = 256 * pS1 (pM 85 n) (x / 256) + pS1 85 (x % 256) := by
      show pS1 (256 * pM 85 n + 85) x = _
      rw (occs := .pos [1]) [ex]
      exact pS1_step (by omega)
    have e2 : pS2 (pM 51 (n + 1)) (pS1 (pM 85 (n + 1)) x) = 256 * pS2 (pM 51 n) (pS1 (pM 85 n) (x / 256)) + pS2 51 (pS1 85 (x % 256)) := by
      rw [e1]
      show pS2 (256 * pM 51 n + 51) _ = _
      exact pS2_step b3
    refine ⟨?_, by rw [e2]; omega⟩
    rw [e2]
    show pS3 (256 * pM 15 n + 15) _ = 256 * pB n (x / 256) + _
    rw [pS3_step b2 i2, i1, b4]
theorem zcnt_byte {x : Nat} : zcnt (fun j => (x % 256).testBit j) 8 = zcnt (fun j => x.testBit j) 8 := zcnt_cg (fun j hj => by
  rw [show (256 : Nat) = 2 ^ 8 from rfl, Nat.testBit_mod_two_pow]
  simp [hj])
/-- the bits of eight bytes -/
theorem pB_sum (x : Nat) : ∃ p : Nat → Nat, (∀ k, k < 8 → p k ≤ 8) ∧ pB 8 x = p 0 + 256 * p 1 + 65536 * p 2 + 16777216 * p 3 + 4294967296 * p 4 + 1099511627776 * p 5 + 281474976710656 * p 6 + 72057594037927936 * p 7 ∧ zcnt (fun j => x.testBit j) 64 = p 0 + p 1 + p 2 + p 3 + p 4 + p 5 + p 6 + p 7 := by
  refine ⟨fun k => zcnt (fun j => (x / 256 ^ k).testBit j) 8, fun k _ => zcnt_le _ 8, ?_, ?_⟩
  · have e0 : x / 256 ^ 0 = x := by simp
    have e1 : x / 256 ^ 1 = x / 256 := by simp
    have d : ∀ k, x / 256 ^ (k + 1) = x / 256 ^ k / 256 := fun k => by rw [Nat.div_div_eq_div_mul, Nat.pow_succ]
    have e2 : x / 256 ^ 2 = x / 256 / 256 := by rw [d 1, e1]
    have e3 : x / 256 ^ 3 = x / 256 / 256 / 256 := by rw [d 2, e2]
    have e4 : x / 256 ^ 4 = x / 256 / 256 / 256 / 256 := by rw [d 3, e3]
    have e5 : x / 256 ^ 5 = x / 256 / 256 / 256 / 256 / 256 := by rw [d 4, e4]
    have e6 : x / 256 ^ 6 = x / 256 / 256 / 256 / 256 / 256 / 256 := by rw [d 5, e5]
    have e7 : x / 256 ^ 7 = x / 256 / 256 / 256 / 256 / 256 / 256 / 256 := by rw [d 6, e6]
    simp only [pB, zcnt_byte, e0, e1, e2, e3, e4, e5, e6, e7]
    omega
  · have h : ∀ k, zcnt (fun j => x.testBit (8 * k + j)) 8 = zcnt (fun j => (x / 256 ^ k).testBit j) 8 := fun k => zcnt_cg (fun j _ => by
      rw [show (256 : Nat) = 2 ^ 8 from rfl, ← Nat.pow_mul, Nat.testBit_div_two_pow, Nat.add_comm])
    have a : ∀ k, zcnt (fun j => x.testBit j) (8 * k + 8) = zcnt (fun j => x.testBit j) (8 * k) + zcnt (fun j => (x / 256 ^ k).testBit j) 8 := fun k => by rw [zcnt_add, h]
    have a0 : zcnt (fun j => x.testBit j) 8 = 0 + zcnt (fun j => (x / 256 ^ 0).testBit j) 8 := a 0
    have a1 : zcnt (fun j => x.testBit j) 16 = zcnt (fun j => x.testBit j) 8 + zcnt (fun j => (x / 256 ^ 1).testBit j) 8 := a 1
    have a2 : zcnt (fun j => x.testBit j) 24 = zcnt (fun j => x.testBit j) 16 + zcnt (fun j => (x / 256 ^ 2).testBit j) 8 := a 2
    have a3 : zcnt (fun j => x.testBit j) 32 = zcnt (fun j => x.testBit j) 24 + zcnt (fun j => (x / 256 ^ 3).testBit j) 8 := a 3
    have a4 : zcnt (fun j => x.testBit j) 40 = zcnt (fun j => x.testBit j) 32 + zcnt (fun j => (x / 256 ^ 4).testBit j) 8 := a 4
    have a5 : zcnt (fun j => x.testBit j) 48 = zcnt (fun j => x.testBit j) 40 + zcnt (fun j => (x / 256 ^ 5).testBit j) 8 := a 5
    have a6 : zcnt (fun j => x.testBit j) 56 = zcnt (fun j => x.testBit j) 48 + zcnt (fun j => (x / 256 ^ 6).testBit j) 8 := a 6
    have a7 : zcnt (fun j => x.testBit j) 64 = zcnt (fun j => x.testBit j) 56 + zcnt (fun j => (x / 256 ^ 7).testBit j) 8 := a 7
    dsimp only
    omega
/-- the last three steps: the sum of eight bytes -/
theorem pSum {y0 y1 y2 y3 y4 y5 y6 y7 n3 n4 n5 n6 : Nat} (h0 : y0 ≤ 8) (h1 : y1 ≤ 8) (h2 : y2 ≤ 8) (h3 : y3 ≤ 8) (h4 : y4 ≤ 8) (h5 : y5 ≤ 8) (h6 : y6 ≤ 8) (h7 : y7 ≤ 8) (f1 : n3 = y0 + 256 * y1 + 65536 * y2 + 16777216 * y3 + 4294967296 * y4 + 1099511627776 * y5 + 281474976710656 * y6 + 72057594037927936 * y7) (s4 : n4 = n3 + n3 / 256) (s5 : n5 = n4 + n4 / 65536) (s6 : n6 = n5 + n5 / 4294967296) : n6 % 128 = y0 + y1 + y2 + y3 + y4 + y5 + y6 + y7 := by
  have a3 : n3 = y0 + 256 * (y1 + 256 * (y2 + 256 * (y3 + 256 * (y4 + 256 * (y5 + 256 * (y6 + 256 * y7)))))) := by rw [f1]; clear f1 s4 s5 s6; omega
  clear f1
  have b3 : n3 / 256 = y1 + 256 * (y2 + 256 * (y3 + 256 * (y4 + 256 * (y5 + 256 * (y6 + 256 * y7))))) := by
    rw [a3, Nat.add_mul_div_left _ _ (by decide), Nat.div_eq_of_lt (by omega), Nat.zero_add]
  have a4 : n4 = (y0 + y1) + 256 * (y1 + y2) + 65536 * ((y2 + 256 * (y3 + 256 * (y4 + 256 * (y5 + 256 * (y6 + 256 * y7))))) + (y3 + 256 * (y4 + 256 * (y5 + 256 * (y6 + 256 * y7))))) := by
    rw [s4, b3, a3]; clear s4 s5 s6 a3 b3; omega
  have b4 : n4 / 65536 = (y2 + 256 * (y3 + 256 * (y4 + 256 * (y5 + 256 * (y6 + 256 * y7))))) + (y3 + 256 * (y4 + 256 * (y5 + 256 * (y6 + 256 * y7)))) := by
    rw [a4, Nat.add_mul_div_left _ _ (by decide), Nat.div_eq_of_lt (by omega), Nat.zero_add]
  have a5 : n5 = ((y0 + y1 + y2 + y3) + 256 * (y1 + y2 + y3 + y4) + 65536 * ((y2 + y3 + y4 + y5) + 256 * (y3 + y4 + y5 + y6))) + 4294967296 * ((y4 + y5 + y6 + y7) + 256 * (y5 + y6 + y7) + 65536 * (y6 + y7) + 16777216 * y7) := by
    rw [s5, b4, a4]; clear s4 s5 s6 a3 b3 a4 b4; omega
  have b5 : n5 / 4294967296 = (y4 + y5 + y6 + y7) + 256 * (y5 + y6 + y7) + 65536 * (y6 + y7) + 16777216 * y7 := by
    rw [a5, Nat.add_mul_div_left _ _ (Nat.zero_lt_succ _), Nat.div_eq_of_lt (by omega), Nat.zero_add]
  have a6 : n6 = (y0 + y1 + y2 + y3 + y4 + y5 + y6 + y7) + 128 * (2 * (y1 + y2 + y3 + y4) + 512 * ((y2 + y3 + y4 + y5) + 256 * (y3 + y4 + y5 + y6)) + 33554432 * ((y4 + y5 + y6 + y7) + 256 * (y5 + y6 + y7) + 65536 * (y6 + y7) + 16777216 * y7) + 2 * (y5 + y6 + y7) + 512 * (y6 + y7) + 131072 * y7) := by
    rw [s6, b5, a5]; clear s4 s5 s6 a3 b3 a4 b4 a5 b5; omega
  have lt : y0 + y1 + y2 + y3 + y4 + y5 + y6 + y7 < 128 := by clear a6 b5 a5 b4 a4 b3 a3 s4 s5 s6; omega
  rw [a6, Nat.add_mul_mod_self_left]
  exact Nat.mod_eq_of_lt lt
theorem zc_bitCount (N : Nat) (x : Int64) (z : St) : fJ13_bitCount_95d88 N x z = some (Int32.ofNat (zcnt (fun j => x.toBitVec.getLsbD j) 64), z) := by
  have sh1 : ((((1 : Int32)).toInt64.toUInt64 &&& Int64.toUInt64 63)).toBitVec % 64#64 = BitVec.ofNat 64 1 := by decide +kernel
  have sh2 : ((((2 : Int32)).toInt64.toUInt64 &&& Int64.toUInt64 63)).toBitVec % 64#64 = BitVec.ofNat 64 2 := by decide +kernel
  have sh4 : ((((4 : Int32)).toInt64.toUInt64 &&& Int64.toUInt64 63)).toBitVec % 64#64 = BitVec.ofNat 64 4 := by decide +kernel
  have sh8 : ((((8 : Int32)).toInt64.toUInt64 &&& Int64.toUInt64 63)).toBitVec % 64#64 = BitVec.ofNat 64 8 := by decide +kernel
  have sh16 : ((((16 : Int32)).toInt64.toUInt64 &&& Int64.toUInt64 63)).toBitVec % 64#64 = BitVec.ofNat 64 16 := by decide +kernel
  have sh32 : ((((32 : Int32)).toInt64.toUInt64 &&& Int64.toUInt64 63)).toBitVec % 64#64 = BitVec.ofNat 64 32 := by decide +kernel
  obtain ⟨f1, -⟩ := pF 8 (zul x) (zul_lt x)
  obtain ⟨p, p8, pe, ps⟩ := pB_sum (zul x)
  rw [pe] at f1
  have q0 := p8 0 (by omega)
  have q1 := p8 1 (by omega)
  have q2 := p8 2 (by omega)
  have q3 := p8 3 (by omega)
  have q4 := p8 4 (by omega)
  have q5 := p8 5 (by omega)
  have q6 := p8 6 (by omega)
  have q7 := p8 7 (by omega)
  have m1 : pM 85 8 = 6148914691236517205 := by decide +kernel
  have m2 : pM 51 8 = 3689348814741910323 := by decide +kernel
  have m3 : pM 15 8 = 1085102592571150095 := by decide +kernel
  have c1 : zul (6148914691236517205 : Int64) = 6148914691236517205 := by decide +kernel
  have c2 : zul (3689348814741910323 : Int64) = 3689348814741910323 := by decide +kernel
  have c3 : zul (1085102592571150095 : Int64) = 1085102592571150095 := by decide +kernel
  unfold fJ13_bitCount_95d88
  have s1 : zul (x - ((((x).toUInt64 >>> (((1 : Int32)).toInt64.toUInt64 &&& Int64.toUInt64 63)).toInt64) &&& (6148914691236517205 : Int64))) = pS1 (pM 85 8) (zul x) := by
    have h : zul ((((x).toUInt64 >>> (((1 : Int32)).toInt64.toUInt64 &&& Int64.toUInt64 63)).toInt64) &&& (6148914691236517205 : Int64)) = (zul x / 2) &&& pM 85 8 := by
      rw [zul_and, zul_shr (k := 1) (by omega) sh1, c1, m1]
    rw [zul_sub, h]
    · rfl
    · rw [h]
      exact Nat.le_trans Nat.and_le_left (Nat.div_le_self _ _)
  rw [zl_e]
  generalize (x - ((((x).toUInt64 >>> (((1 : Int32)).toInt64.toUInt64 &&& Int64.toUInt64 63)).toInt64) &&& (6148914691236517205 : Int64))) = v1 at s1 ⊢
  rw [← s1] at f1
  have s2 : zul ((v1 &&& (3689348814741910323 : Int64)) + ((((v1).toUInt64 >>> (((2 : Int32)).toInt64.toUInt64 &&& Int64.toUInt64 63)).toInt64) &&& (3689348814741910323 : Int64))) = pS2 (pM 51 8) (zul v1) := by
    have h : zul ((((v1).toUInt64 >>> (((2 : Int32)).toInt64.toUInt64 &&& Int64.toUInt64 63)).toInt64) &&& (3689348814741910323 : Int64)) = (zul v1 / 4) &&& pM 51 8 := by
      rw [zul_and, zul_shr (k := 2) (by omega) sh2, c2, m2]
    have h' : zul (v1 &&& (3689348814741910323 : Int64)) = zul v1 &&& pM 51 8 := by rw [zul_and, c2, m2]
    have b1 : zul v1 &&& pM 51 8 ≤ pM 51 8 := Nat.and_le_right
    have b2 : (zul v1 / 4) &&& pM 51 8 ≤ pM 51 8 := Nat.and_le_right
    rw [zul_add, h, h']
    · rfl
    · rw [h, h']; omega
  rw [zl_e]
  generalize ((v1 &&& (3689348814741910323 : Int64)) + ((((v1).toUInt64 >>> (((2 : Int32)).toInt64.toUInt64 &&& Int64.toUInt64 63)).toInt64) &&& (3689348814741910323 : Int64))) = v2 at s2 ⊢
  have l2 : zul v2 ≤ 7378697629483820646 := by
    rw [s2]
    unfold pS2
    have b1 : zul v1 &&& pM 51 8 ≤ pM 51 8 := Nat.and_le_right
    have b2 : (zul v1 / 4) &&& pM 51 8 ≤ pM 51 8 := Nat.and_le_right
    omega
  rw [← s2] at f1
  have s3 : zul ((v2 + (((v2).toUInt64 >>> (((4 : Int32)).toInt64.toUInt64 &&& Int64.toUInt64 63)).toInt64)) &&& (1085102592571150095 : Int64)) = pS3 (pM 15 8) (zul v2) := by
    have h : zul (((v2).toUInt64 >>> (((4 : Int32)).toInt64.toUInt64 &&& Int64.toUInt64 63)).toInt64) = zul v2 / 16 := zul_shr (k := 4) (by omega) sh4
    rw [zul_and, zul_add (by rw [h]; omega), h, c3, m3]
    rfl
  rw [zl_e]
  generalize ((v2 + (((v2).toUInt64 >>> (((4 : Int32)).toInt64.toUInt64 &&& Int64.toUInt64 63)).toInt64)) &&& (1085102592571150095 : Int64)) = v3 at s3 ⊢
  rw [← s3] at f1
  have s4 : zul (v3 + (((v3).toUInt64 >>> (((8 : Int32)).toInt64.toUInt64 &&& Int64.toUInt64 63)).toInt64)) = zul v3 + zul v3 / 256 := by
    have h : zul (((v3).toUInt64 >>> (((8 : Int32)).toInt64.toUInt64 &&& Int64.toUInt64 63)).toInt64) = zul v3 / 256 := zul_shr (k := 8) (by omega) sh8
    rw [zul_add (by rw [h]; omega), h]
  rw [zl_e]
  generalize (v3 + (((v3).toUInt64 >>> (((8 : Int32)).toInt64.toUInt64 &&& Int64.toUInt64 63)).toInt64)) = v4 at s4 ⊢
  have s5 : zul (v4 + (((v4).toUInt64 >>> (((16 : Int32)).toInt64.toUInt64 &&& Int64.toUInt64 63)).toInt64)) = zul v4 + zul v4 / 65536 := by
    have h : zul (((v4).toUInt64 >>> (((16 : Int32)).toInt64.toUInt64 &&& Int64.toUInt64 63)).toInt64) = zul v4 / 65536 := zul_shr (k := 16) (by omega) sh16
    rw [zul_add (by rw [h]; omega), h]
  rw [zl_e]
  generalize (v4 + (((v4).toUInt64 >>> (((16 : Int32)).toInt64.toUInt64 &&& Int64.toUInt64 63)).toInt64)) = v5 at s5 ⊢
  have s6 : zul (v5 + (((v5).toUInt64 >>> (((32 : Int32)).toInt64.toUInt64 &&& Int64.toUInt64 63)).toInt64)) = zul v5 + zul v5 / 4294967296 := by
    have h : zul (((v5).toUInt64 >>> (((32 : Int32)).toInt64.toUInt64 &&& Int64.toUInt64 63)).toInt64) = zul v5 / 4294967296 := zul_shr (k := 32) (by omega) sh32
    rw [zul_add (by rw [h]; omega), h]
  rw [zl_e]
  generalize (v5 + (((v5).toUInt64 >>> (((32 : Int32)).toInt64.toUInt64 &&& Int64.toUInt64 63)).toInt64)) = v6 at s6 ⊢
  have e6 : zul v6 % 128 = p 0 + p 1 + p 2 + p 3 + p 4 + p 5 + p 6 + p 7 := by
    exact pSum q0 q1 q2 q3 q4 q5 q6 q7 f1 s4 s5 s6
  congr 1
  have g : Int64.toInt32 v6 &&& (127 : Int32) = Int32.ofNat (zul v6 % 128) := by
    apply zun_inj
    rw [zun_of (by omega)]
    show (v6.toBitVec.signExtend 32 &&& 127#32).toNat = _
    rw [BitVec.toNat_and]
    rw [show (127#32 : BitVec 32).toNat = 2 ^ 7 - 1 from rfl, Nat.and_two_pow_sub_one_eq_mod]
    rw [BitVec.signExtend_eq_setWidth_of_le _ (by decide), BitVec.toNat_setWidth]
    show zul v6 % 2 ^ 32 % 2 ^ 7 = _
    omega
  rw [g, e6, ← ps]
  rfl
