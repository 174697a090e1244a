/-! bytes in longs -/
theorem zby_ext {x y : Int64} (h : ∀ j, j < 8 → x.toBitVec.getLsbD j = y.toBitVec.getLsbD j) : Int32.toInt8 (Int64.toInt32 x) = Int32.toInt8 (Int64.toInt32 y) := by
  rw [← Int8.toBitVec_inj, Int32.toBitVec_toInt8, Int32.toBitVec_toInt8, Int64.toBitVec_toInt32, Int64.toBitVec_toInt32]
  refine BitVec.eq_of_getLsbD_eq (fun j hj => ?_)
  rw [BitVec.getLsbD_signExtend, BitVec.getLsbD_signExtend, BitVec.getLsbD_signExtend, BitVec.getLsbD_signExtend]
  have e8 : decide (j < 8) = true := decide_eq_true hj
  have e32 : decide (j < 32) = true := decide_eq_true (by omega)
  rw [e8, e32, if_pos (show j < 32 by omega), if_pos (show j < 64 by omega), if_pos (show j < 32 by omega), if_pos (show j < 64 by omega), h j hj]
theorem zby_sh : ∀ r, r < 8 → ((((8 : Int32) * Int32.ofNat r)).toInt64 &&& 63) = Int64.ofNat (8 * r) := by decide +kernel
theorem zby_sm : ∀ r, r < 8 → ((Int64.ofNat (8 * r)).toBitVec.smod 64#64).toNat = 8 * r := by decide +kernel
theorem zand7 (k : Nat) (h : k < 2147483648) : (Int32.ofNat k &&& (7 : Int32)) = Int32.ofNat (k % 8) := by
  apply zun_inj
  show ((Int32.ofNat k).toBitVec &&& (7 : Int32).toBitVec).toNat = _
  rw [BitVec.toNat_and, zun_of (by omega)]
  have : (Int32.ofNat k).toBitVec.toNat = k := zun_of (by omega)
  rw [this]
  exact Nat.and_two_pow_sub_one_eq_mod k 3
theorem zby_shr (x : Int64) {r : Nat} (hr : r < 8) {j : Nat} (hj : j < 8) : (x >>> Int64.ofNat (8 * r)).toBitVec.getLsbD j = x.toBitVec.getLsbD (8 * r + j) := by
  show (x.toBitVec.sshiftRight' ((Int64.ofNat (8 * r)).toBitVec.smod 64#64)).getLsbD j = _
  rw [BitVec.sshiftRight', zby_sm r hr, BitVec.getLsbD_sshiftRight]
  rw [decide_eq_false (show ¬ 64 ≤ j by omega), if_pos (show 8 * r + j < 64 by omega)]
  simp
theorem zby_shl (x : Int64) {r : Nat} (hr : r < 8) {t : Nat} (ht : t < 64) : (x <<< Int64.ofNat (8 * r)).toBitVec.getLsbD t = (decide (8 * r ≤ t) && x.toBitVec.getLsbD (t - 8 * r)) := by
  show (x.toBitVec <<< ((Int64.ofNat (8 * r)).toBitVec.smod 64#64)).getLsbD t = _
  rw [BitVec.shiftLeft_eq', zby_sm r hr, BitVec.getLsbD_shiftLeft, decide_eq_true ht]
  by_cases c : 8 * r ≤ t
  · rw [decide_eq_true c, decide_eq_false (show ¬ t < 8 * r by omega)]; simp
  · rw [decide_eq_false c, decide_eq_true (show t < 8 * r by omega)]; simp
theorem zb255 : ∀ t, t < 64 → ((255#64 : BitVec 64).getLsbD t = decide (t < 8)) := by decide +kernel
theorem zbm1 : ∀ t, t < 64 → ((-1 : Int64).toBitVec.getLsbD t = true) := by decide +kernel
/-- a byte's bits in the word that it is laid into -/
theorem zby_put (W : Int64) (v : Int32) {r : Nat} (hr : r < 8) {t : Nat} (ht : t < 64) : ((W &&& (((255 : Int64) <<< Int64.ofNat (8 * r)) ^^^ (-1 : Int64))) ||| ((Int32.toInt64 (v &&& (255 : Int32))) <<< Int64.ofNat (8 * r))).toBitVec.getLsbD t = if 8 * r ≤ t ∧ t < 8 * r + 8 then v.toBitVec.getLsbD (t - 8 * r) else W.toBitVec.getLsbD t := by
  have vb : ∀ j, j < 64 → (Int32.toInt64 (v &&& (255 : Int32))).toBitVec.getLsbD j = (decide (j < 8) && v.toBitVec.getLsbD j) := fun j hj => by
    rw [Int32.toBitVec_toInt64, BitVec.getLsbD_signExtend, decide_eq_true hj]
    have ms : (v &&& (255 : Int32)).toBitVec.msb = false := by
      show (v.toBitVec &&& 255#32).msb = false
      rw [BitVec.msb_eq_getLsbD_last, BitVec.getLsbD_and]
      simp
    have an : ∀ i, i < 32 → (v &&& (255 : Int32)).toBitVec.getLsbD i = (v.toBitVec.getLsbD i && decide (i < 8)) := fun i hi => by
      show (v.toBitVec &&& 255#32).getLsbD i = _
      rw [BitVec.getLsbD_and, bit255 i hi]
    by_cases c : j < 32
    · rw [if_pos c, an j c]; cases decide (j < 8) <;> cases v.toBitVec.getLsbD j <;> rfl
    · rw [if_neg c, ms, decide_eq_false (show ¬ j < 8 by omega)]; rfl
  show ((W.toBitVec &&& (((255 : Int64) <<< Int64.ofNat (8 * r)).toBitVec ^^^ (-1 : Int64).toBitVec)) ||| ((Int32.toInt64 (v &&& (255 : Int32))) <<< Int64.ofNat (8 * r)).toBitVec).getLsbD t = _
  rw [BitVec.getLsbD_or, BitVec.getLsbD_and, BitVec.getLsbD_xor, zby_shl _ hr ht, zby_shl _ hr ht, zbm1 t ht]
  by_cases c : 8 * r ≤ t
  · rw [decide_eq_true c, vb (t - 8 * r) (by omega), show (255 : Int64).toBitVec.getLsbD (t - 8 * r) = decide (t - 8 * r < 8) from zb255 _ (by omega)]
    by_cases d : t < 8 * r + 8
    · rw [if_pos ⟨c, d⟩, decide_eq_true (show t - 8 * r < 8 by omega)]
      cases W.toBitVec.getLsbD t <;> simp
    · rw [if_neg (fun y => d y.2), decide_eq_false (show ¬ t - 8 * r < 8 by omega)]
      cases W.toBitVec.getLsbD t <;> simp
  · rw [if_neg (fun y => c y.1), decide_eq_false c]
    cases W.toBitVec.getLsbD t <;> simp
theorem zby_be {W : Int64} {v : Int32} {r : Nat} (hr : r < 8) (h : ∀ j, j < 8 → W.toBitVec.getLsbD (8 * r + j) = v.toBitVec.getLsbD j) : (Int32.toInt8 (Int64.toInt32 (W >>> Int64.ofNat (8 * r)))).toInt32 = be v := by
  unfold be
  congr 1
  rw [← Int8.toBitVec_inj, Int32.toBitVec_toInt8, Int32.toBitVec_toInt8, Int64.toBitVec_toInt32]
  refine BitVec.eq_of_getLsbD_eq (fun j hj => ?_)
  rw [BitVec.getLsbD_signExtend, BitVec.getLsbD_signExtend, BitVec.getLsbD_signExtend]
  rw [decide_eq_true hj, if_pos (show j < 32 by omega), decide_eq_true (show j < 32 by omega), if_pos (show j < 64 by omega), if_pos (show j < 32 by omega), zby_shr _ hr hj, h j hj]
  simp
theorem zm_setByte {w : St} {s i N : Nat} {v : Int32} (hs : s < 2400) (hi : i < 1464) : ∃ w', fX19_setByte N 0 (Int32.ofNat s) (Int32.ofNat i) v w = some (0, w') ∧ sby w' s i = be v ∧ (∀ j, ¬ j = i → sby w' s j = sby w s j) ∧ (∀ k o u, ¬ (k = 175 ∧ o = 0 ∧ u = 183 * s + i / 8) → zgL w' k o u = zgL w k o u) ∧ (∀ k j o, zgI w' k j o = zgI w k j o) ∧ (∀ k o u, zgA w' k o u = zgA w k o u) ∧ (∀ k o u, zgQ w' k o u = zgQ w k o u) ∧ ∀ k o u, zgR w' k o u = zgR w k o u := by
  have r8 : i % 8 < 8 := Nat.mod_lt _ (by decide)
  obtain ⟨W', hW'⟩ : ∃ u, u = ((zgL w 175 0 (183 * s + i / 8)) &&& (((255 : Int64) <<< Int64.ofNat (8 * (i % 8))) ^^^ (-1 : Int64))) ||| ((Int32.toInt64 (v &&& (255 : Int32))) <<< Int64.ofNat (8 * (i % 8))) := ⟨_, rfl⟩
  have bits : ∀ t, t < 64 → W'.toBitVec.getLsbD t = if 8 * (i % 8) ≤ t ∧ t < 8 * (i % 8) + 8 then v.toBitVec.getLsbD (t - 8 * (i % 8)) else (zgL w 175 0 (183 * s + i / 8)).toBitVec.getLsbD t := fun t ht => by rw [hW']; exact zby_put _ _ r8 ht
  refine ⟨zsL w 175 0 (183 * s + i / 8) W', ?_, ?_, fun j hj => ?_, fun k o u q => ?_, fun _ _ _ => rfl, fun _ _ _ => rfl, fun _ _ _ => rfl, fun _ _ _ => rfl⟩
  · unfold fX19_setByte
    rw [zshr3 i hi, zand7 i (by omega), show (183 : Int32) * Int32.ofNat s = Int32.ofNat (183 * s) from (Int32.ofNat_mul 183 s).symm, zo_add, zl_e, zl_e, zkk (by omega) (by omega), zkk (by omega) (by omega), zoC (by omega), zby_sh _ r8, zl_e, ← hW']
  · unfold sby
    rw [zand7 i (by omega), zby_sh _ r8, zgL_sL, if_pos ⟨rfl, rfl, rfl⟩]
    exact zby_be r8 (fun j hj => by rw [bits _ (by omega), if_pos ⟨by omega, by omega⟩, Nat.add_sub_cancel_left])
  · by_cases c : j < 2147483648
    · have j8 : j % 8 < 8 := Nat.mod_lt _ (by decide)
      unfold sby
      rw [zand7 j c, zby_sh _ j8, zgL_sL]
      by_cases d : 183 * s + j / 8 = 183 * s + i / 8
      · rw [if_pos ⟨rfl, rfl, d⟩]
        congr 1
        refine zby_ext (fun b hb => ?_)
        rw [zby_shr _ j8 hb, zby_shr _ j8 hb, bits _ (by omega), if_neg (by omega), d]
      · rw [if_neg (fun y => d y.2.2)]
    · unfold sby
      rw [zgL_sL, if_neg (by omega)]
  · rw [zgL_sL, if_neg q]
