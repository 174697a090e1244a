/-! the model's books of what was written: bytes -/
theorem zshr3c : ∀ a, a < 64 → ∀ b, b < 64 → (Int32.ofNat (64 * a + b) >>> ((3 : Int32) &&& 31)) = Int32.ofNat ((64 * a + b) / 8) := by decide +kernel
theorem zshr3b (i : Nat) (h : i < 4096) : (Int32.ofNat i >>> ((3 : Int32) &&& 31)) = Int32.ofNat (i / 8) := by
  have := zshr3c (i / 64) (by omega) (i % 64) (by omega)
  rw [show 64 * (i / 64) + i % 64 = i from by omega] at this
  exact this
theorem zand4095 {k : Nat} (h : k < 2147483648) : (Int32.ofNat k &&& (4095 : Int32)) = Int32.ofNat (k % 4096) := by
  apply zun_inj
  show ((Int32.ofNat k).toBitVec &&& (4095 : Int32).toBitVec).toNat = _
  rw [BitVec.toNat_and, zun_of (by omega)]
  have : (Int32.ofNat k).toBitVec.toNat = k := zun_of (by omega)
  rw [this]
  exact Nat.and_two_pow_sub_one_eq_mod k 12
theorem zby_ext2 {x y : Int64} (h : ∀ j, j < 8 → x.toBitVec.getLsbD j = y.toBitVec.getLsbD j) : (Int64.toInt32 x) &&& (255 : Int32) = (Int64.toInt32 y) &&& (255 : Int32) := by
  apply Int32.toBitVec_inj.mp
  show (Int64.toInt32 x).toBitVec &&& 255#32 = (Int64.toInt32 y).toBitVec &&& 255#32
  rw [Int64.toBitVec_toInt32, Int64.toBitVec_toInt32]
  refine BitVec.eq_of_getLsbD_eq (fun j hj => ?_)
  rw [BitVec.getLsbD_and, BitVec.getLsbD_and, BitVec.getLsbD_signExtend, BitVec.getLsbD_signExtend, bit255 j hj, decide_eq_true hj, if_pos (show j < 64 by omega), if_pos (show j < 64 by omega)]
  by_cases c : j < 8
  · rw [h j c]
  · rw [decide_eq_false c, Bool.and_false, Bool.and_false]
theorem zby_be2 {W : Int64} {v : Int32} {r : Nat} (hr : r < 8) (h : ∀ j, j < 8 → W.toBitVec.getLsbD (8 * r + j) = v.toBitVec.getLsbD j) : (Int64.toInt32 (W >>> Int64.ofNat (8 * r))) &&& (255 : Int32) = v &&& (255 : Int32) := by
  apply Int32.toBitVec_inj.mp
  show (Int64.toInt32 (W >>> Int64.ofNat (8 * r))).toBitVec &&& 255#32 = v.toBitVec &&& 255#32
  rw [Int64.toBitVec_toInt32]
  refine BitVec.eq_of_getLsbD_eq (fun j hj => ?_)
  rw [BitVec.getLsbD_and, BitVec.getLsbD_and, BitVec.getLsbD_signExtend, bit255 j hj, decide_eq_true hj, if_pos (show j < 64 by omega)]
  by_cases c : j < 8
  · rw [zby_shr _ hr c, h j c]; simp
  · rw [decide_eq_false c, Bool.and_false, Bool.and_false]
/-- byte p of a book's ring -/
def bkB (w : St) (bk p : Nat) : Int32 := (Int64.toInt32 (zgL w 181 0 (512 * bk + p % 4096 / 8) >>> Int64.ofNat (8 * (p % 8)))) &&& (255 : Int32)
theorem zm_written {w : St} {bk p N : Nat} (hb : bk < 2592) (hp : p < 2147483648) : fX19_written N 0 (Int32.ofNat bk) (Int32.ofNat p) w = some (bkB w bk p, w) := by
  have h8 : p % 4096 % 8 < 8 := Nat.mod_lt _ (by decide)
  have e8 : p % 4096 % 8 = p % 8 := by omega
  unfold fX19_written bkB
  rw [zand4095 hp, zl_e, zshr3b _ (by omega), zand7 _ (by omega), show (512 : Int32) * Int32.ofNat bk = Int32.ofNat (512 * bk) from (Int32.ofNat_mul 512 bk).symm, zo_add, zkk (by omega) (by omega), zoC (by omega), zby_sh _ h8, e8]
theorem zm_writeDown {w : St} {bk L N : Nat} {v : Int32} (hb : bk < 2592) (hL : L < 2147483647) (h182 : zgA w 182 0 bk = Int32.ofNat L) : ∃ w', fX19_writeDown N 0 (Int32.ofNat bk) v w = some (0, w') ∧ zgA w' 182 0 bk = Int32.ofNat (L + 1) ∧ bkB w' bk L = v &&& (255 : Int32) ∧ (∀ c p, ¬ (c = bk ∧ p % 4096 = L % 4096) → bkB w' c p = bkB w c p) ∧ (∀ k o u, ¬ (k = 182 ∧ o = 0 ∧ u = bk) → zgA w' k o u = zgA w k o u) ∧ (∀ k o u, ¬ k = 181 → zgL w' k o u = zgL w k o u) ∧ (∀ k j o, zgI w' k j o = zgI w k j o) ∧ (∀ k o u, zgQ w' k o u = zgQ w k o u) ∧ ∀ k o u, zgR w' k o u = zgR w k o u := by
  have r8 : L % 8 < 8 := Nat.mod_lt _ (by decide)
  have h8 : L % 4096 % 8 < 8 := Nat.mod_lt _ (by decide)
  have e8 : L % 4096 % 8 = L % 8 := by omega
  obtain ⟨q, hq⟩ : ∃ q, q = 512 * bk + L % 4096 / 8 := ⟨_, rfl⟩
  obtain ⟨W', hW'⟩ : ∃ u, u = ((zgL w 181 0 q) &&& (((255 : Int64) <<< Int64.ofNat (8 * (L % 8))) ^^^ (-1 : Int64))) ||| ((Int32.toInt64 (v &&& (255 : Int32))) <<< Int64.ofNat (8 * (L % 8))) := ⟨_, rfl⟩
  have bits : ∀ t, t < 64 → W'.toBitVec.getLsbD t = if 8 * (L % 8) ≤ t ∧ t < 8 * (L % 8) + 8 then v.toBitVec.getLsbD (t - 8 * (L % 8)) else (zgL w 181 0 q).toBitVec.getLsbD t := fun t ht => by rw [hW']; exact zby_put _ _ r8 ht
  obtain ⟨w', hw'⟩ : ∃ u, u = zsA (zsL w 181 0 q W') 182 0 bk (Int32.ofNat (L + 1)) := ⟨_, rfl⟩
  have GL : ∀ k o u, zgL w' k o u = if k = 181 ∧ o = 0 ∧ u = q then W' else zgL w k o u := fun k o u => by
    rw [hw']
    show zgL (zsL w 181 0 q W') k o u = _
    rw [zgL_sL]
  refine ⟨w', ?_, ?_, ?_, fun c p n => ?_, fun k o u n => ?_, fun k o u n => ?_, fun k j o => by rw [hw']; rfl, fun _ _ _ => by rw [hw']; rfl, fun _ _ _ => by rw [hw']; rfl⟩
  · unfold fX19_writeDown
    have e182 : zgA (zsL w 181 0 q W') 182 0 bk = Int32.ofNat L := h182
    rw [zkk hb (by omega), zoC (show bk < 2147483648 by omega), h182, zand4095 (by omega), zl_e, zshr3b _ (by omega), show (512 : Int32) * Int32.ofNat bk = Int32.ofNat (512 * bk) from (Int32.ofNat_mul 512 bk).symm, zo_add, ← hq, zl_e, zand7 _ (by omega), zl_e, zkk (show q < 1327104 by omega) (by omega), zkk (show q < 1327104 by omega) (by omega), zoC (show q < 2147483648 by omega), zby_sh _ h8, e8, ← hW', zl_e, zkk hb (by omega), zkk hb (by omega), e182, show Int32.ofNat L + (1 : Int32) = Int32.ofNat (L + 1) from zo_add L 1, zl_e, ← hw']
  · rw [hw', zgA_sA, if_pos ⟨rfl, rfl, rfl⟩]
  · unfold bkB
    rw [GL, if_pos ⟨rfl, rfl, hq.symm⟩]
    exact zby_be2 r8 (fun j hj => by rw [bits _ (by omega), if_pos ⟨by omega, by omega⟩, Nat.add_sub_cancel_left])
  · have p8 : p % 8 < 8 := Nat.mod_lt _ (by decide)
    unfold bkB
    rw [GL]
    by_cases d : 512 * c + p % 4096 / 8 = q
    · rw [if_pos ⟨rfl, rfl, d⟩]
      refine zby_ext2 (fun b hb1 => ?_)
      have ec : c = bk := by omega
      have n8 : ¬ p % 8 = L % 8 := by omega
      rw [zby_shr _ p8 hb1, zby_shr _ p8 hb1, bits _ (by omega), if_neg (by omega), d]
    · rw [if_neg (fun y => d y.2.2)]
  · rw [hw', zgA_sA, if_neg n]; rfl
  · rw [GL, if_neg (fun y => n y.1)]
