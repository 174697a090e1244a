/-! ends, both sides: whether a segment fits; the measured time -/
theorem zp_fits {z w : St} {e s N : Nat} (num : Int32) (hs : s ≤ 2000) (h : zRi z w e) : ∃ v : Int32, fX4_fits N e num (Int32.ofNat s) z = some (v, z) ∧ fX14_fits N e num (Int32.ofNat s) w = some (v, w) := by
  obtain ⟨R, r1, -, r3, -, r5⟩ := zp_room (N := N) h
  have ex : zgI w 14 16 e = zgI z 4 4 e := h.1.1.symm
  unfold fX4_fits fX14_fits fX4_fits_27 fX14_fits_27
  rw [ex]
  simp only [zl_e, r3, r5, zc_e]
  generalize num - zgI z 4 4 e = a
  by_cases k0 : s = 0
  · subst k0
    rw [if_neg (show ¬ ¬ Int32.ofNat 0 = 0 from fun y => y rfl), if_neg (show ¬ ¬ Int32.ofNat 0 = 0 from fun y => y rfl)]
    by_cases c1 : a = 0
    · rw [if_pos c1, if_pos c1]; exact ⟨1, rfl, rfl⟩
    · rw [if_neg c1, if_neg c1]
      by_cases c2 : a ≤ 0
      · rw [if_pos c2, if_pos c2]; exact ⟨0, rfl, rfl⟩
      · rw [if_neg c2, if_neg c2]
        by_cases c3 : Int32.ofNat (2048 - R) ≤ a
        · rw [if_pos c3, if_pos c3]; exact ⟨0, rfl, rfl⟩
        · rw [if_neg c3, if_neg c3]; exact ⟨1, rfl, rfl⟩
  · have k0' : ¬ Int32.ofNat s = 0 := fun y => k0 ((zo_0e (by omega)).mp y)
    rw [if_pos k0', if_pos k0']
    by_cases c1 : a < 0
    · rw [if_pos c1]
      have c2 : ¬ Int32.ofNat (2048 - R) ≤ a := fun y => by
        have := Int32.lt_of_le_of_lt y c1
        exact zo_nn (by omega) this
      rw [if_neg c2]
      by_cases c3 : Int32.ofNat (2048 - R) ≤ 0
      · rw [if_pos c3]
        by_cases c4 : a + Int32.ofNat s ≤ 0
        · rw [if_pos c4]; exact ⟨0, rfl, rfl⟩
        · rw [if_neg c4, if_pos c3]; exact ⟨0, rfl, rfl⟩
      · rw [if_neg c3]
        by_cases c4 : a + Int32.ofNat s ≤ 0
        · rw [if_pos c4, if_pos c4]; exact ⟨0, rfl, rfl⟩
        · rw [if_neg c4, if_neg c4, if_neg c3]; exact ⟨1, rfl, rfl⟩
    · rw [if_neg c1]
      by_cases c2 : Int32.ofNat (2048 - R) ≤ a
      · rw [if_pos c2, if_pos c2]; exact ⟨0, rfl, rfl⟩
      · rw [if_neg c2, if_neg c2]
        rcases zo_cs a with y | ⟨i, i1, i2⟩
        · exact absurd y c1
        · rw [i2, zo_le (by omega) i1] at c2
          have c3 : ¬ a + Int32.ofNat s ≤ 0 := by
            rw [i2, zo_add, show (0 : Int32) = Int32.ofNat 0 from rfl, zo_le (by omega) (by omega)]; omega
          have c4 : ¬ Int32.ofNat (2048 - R) ≤ 0 := by
            rw [show (0 : Int32) = Int32.ofNat 0 from rfl, zo_le (by omega) (by omega)]; omega
          rw [if_neg c3, if_neg c4]; exact ⟨1, rfl, rfl⟩
/-- the wait that follows from smooth and spread, both the same, within bounds -/
def zWt (s p : Int32) : Int32 := (if (20 : Int32) < (if (s / 8 + (if p < 1 then (1 : Int32) else p)) < (1200 : Int32) then (s / 8 + (if p < 1 then (1 : Int32) else p)) else (1200 : Int32)) then (if (s / 8 + (if p < 1 then (1 : Int32) else p)) < (1200 : Int32) then (s / 8 + (if p < 1 then (1 : Int32) else p)) else (1200 : Int32)) else (20 : Int32))
theorem zWt_b (s p : Int32) : ∃ t : Nat, 20 ≤ t ∧ t ≤ 1200 ∧ zWt s p = Int32.ofNat t := by
  unfold zWt
  generalize s / 8 + (if p < 1 then (1 : Int32) else p) = x
  by_cases c : x < 1200
  · rw [if_pos c]
    by_cases d : 20 < x
    · rw [if_pos d]
      rcases zo_cs x with y | ⟨i, i1, i2⟩
      · exact absurd (Int32.lt_trans d y) (by decide)
      · rw [i2, show (20 : Int32) = Int32.ofNat 20 from rfl, zo_lt (by omega) i1] at d
        rw [i2, show (1200 : Int32) = Int32.ofNat 1200 from rfl, zo_lt i1 (by omega)] at c
        exact ⟨i, by omega, by omega, i2⟩
    · rw [if_neg d]; exact ⟨20, by omega, by omega, rfl⟩
  · rw [if_neg c, if_pos (by decide)]; exact ⟨1200, by omega, by omega, rfl⟩
theorem zWt_m (s p : Int32) (w : St) (e N : Nat) : fX14_time_99 N e (s / 8) (if p ≤ 1 then (1 : Int32) else p) w = some (0, zsI w 14 35 e (zWt s p)) := by
  have ep : (if p ≤ 1 then (1 : Int32) else p) = (if p < 1 then (1 : Int32) else p) := by
    by_cases c : p < 1
    · rw [if_pos c, if_pos (Int32.le_of_lt c)]
    · rw [if_neg c]
      by_cases d : p ≤ 1
      · rw [if_pos d]; exact Int32.le_antisymm (Int32.not_lt.mp c) d
      · rw [if_neg d]
  unfold fX14_time_99 zWt
  rw [ep, zl_e]
  generalize s / 8 + (if p < 1 then (1 : Int32) else p) = x
  by_cases c : 20 ≤ x
  · rw [if_pos c]
    by_cases d : x ≤ 1200
    · rw [if_pos d, zl_e]
      by_cases d2 : x < 1200
      · rw [if_pos d2]
        by_cases c2 : 20 < x
        · rw [if_pos c2]
        · rw [if_neg c2, Int32.le_antisymm (Int32.not_lt.mp c2) c]
      · have : x = 1200 := Int32.le_antisymm d (Int32.not_lt.mp d2)
        subst this; rfl
    · rw [if_neg d, zl_e]
      have d2 : ¬ x < 1200 := fun y => d (Int32.le_of_lt y)
      rw [if_neg d2, if_pos (by decide)]
  · rw [if_neg c, zl_e]
    have c2 : x < 20 := Int32.not_le.mp c
    have d2 : x < 1200 := Int32.lt_trans c2 (by decide)
    rw [if_pos d2, if_neg (Int32.not_lt.mpr (Int32.le_of_lt c2))]
