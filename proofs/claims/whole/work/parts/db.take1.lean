/-! ends, both sides: the bytes of a segment are taken -/
theorem zshr3 : ∀ k, k < 1464 → (Int32.ofNat k >>> ((3 : Int32) &&& 31)) = Int32.ofNat (k / 8) := by decide +kernel
theorem zm_byteOf {w : St} {s i N : Nat} (hs : s < 2400) (hi : i < 1464) : fX19_byteOf N 0 (Int32.ofNat s) (Int32.ofNat i) w = some (sby w s i, w) := by
  unfold fX19_byteOf
  rw [zshr3 i hi, show (183 : Int32) * Int32.ofNat s = Int32.ofNat (183 * s) from (Int32.ofNat_mul 183 s).symm, zo_add, zkk (by omega) (by omega), zoC (by omega), be_e]
  unfold zq sby
  rw [if_pos rfl]
theorem zun_add (a : Int32) (k : Nat) : zun (a + Int32.ofNat k) % 2048 = (zun a + k) % 2048 := by
  show (a.toBitVec + BitVec.ofNat 32 k).toNat % 2048 = (a.toBitVec.toNat + k) % 2048
  rw [BitVec.toNat_add, BitVec.toNat_ofNat]
  omega
theorem zand_o (y : Int32) : y &&& (2047 : Int32) = Int32.ofNat (zun y % 2048) := by
  apply zun_inj
  rw [zand2047, zun_of (by have := Nat.mod_lt (zun y) (show 0 < 2048 by decide); omega)]
/-- rows and what came: R read for, at st in the class's rows, behind y0 in the model's -/
def zIa (z w : St) (e st y0 R : Nat) : Prop := ∀ i, i < 2048 → zgA z 121 e ((st + i) % 2048) = zgA w 161 e ((y0 + i) % 2048) ∧ (zgA z 121 e ((st + i) % 2048) = 0 ∨ (zgA z 121 e ((st + i) % 2048) = 1 ∧ R ≤ i)) ∧ (i < R ∨ zgA z 121 e ((st + i) % 2048) = 1 → zgA z 120 e ((st + i) % 2048) = zgA w 160 e ((y0 + i) % 2048))
theorem zmod_inj {a i k : Nat} (hi : i < 2048) (hk : k < 2048) (h : (a + i) % 2048 = (a + k) % 2048) : i = k := by omega
theorem zIa_set {z w : St} {e st y0 R k : Nat} (hk : k < 2048) (hR : R ≤ k) (v : Int32) (h : zIa z w e st y0 R) : zIa (zsA (zsA z 121 e ((st + k) % 2048) 1) 120 e ((st + k) % 2048) v) (zsA (zsA w 161 e ((y0 + k) % 2048) 1) 160 e ((y0 + k) % 2048) v) e st y0 R := by
  intro i hi
  obtain ⟨h1, h2, h3⟩ := h i hi
  simp only [zgA_sA]
  by_cases c : i = k
  · subst c
    simp [hR]
  · have n1 : ¬ (st + i) % 2048 = (st + k) % 2048 := fun y => c (zmod_inj hi hk y)
    have n2 : ¬ (y0 + i) % 2048 = (y0 + k) % 2048 := fun y => c (zmod_inj hi hk y)
    simp only [n1, n2, and_false, false_and, if_false]
    exact ⟨h1, h2, h3⟩
theorem zIa_go {z w : St} {e st y0 R : Nat} (hR : R < 2048) (hc : ¬ zgA z 121 e ((st + R) % 2048) = 0) (h : zIa z w e st y0 R) : zIa (zsA z 121 e ((st + R) % 2048) 0) (zsA w 161 e ((y0 + R) % 2048) 0) e st y0 (R + 1) := by
  have c1 : zgA z 121 e ((st + R) % 2048) = 1 := by
    rcases (h R hR).2.1 with y | y
    · exact absurd y hc
    · exact y.1
  intro i hi
  obtain ⟨h1, h2, h3⟩ := h i hi
  simp only [zgA_sA]
  by_cases c : i = R
  · subst c
    refine ⟨?_, ?_, fun _ => ?_⟩
    · simp
    · left; simp
    · have := h3 (Or.inr c1)
      simpa using this
  · have n1 : ¬ (st + i) % 2048 = (st + R) % 2048 := fun y => c (zmod_inj hi hR y)
    have n2 : ¬ (y0 + i) % 2048 = (y0 + R) % 2048 := fun y => c (zmod_inj hi hR y)
    simp only [n1, n2, and_false, false_and, if_false]
    refine ⟨h1, ?_, fun y => h3 ?_⟩
    · rcases h2 with y | y
      · exact Or.inl y
      · exact Or.inr ⟨y.1, by omega⟩
    · rcases y with y | y
      · exact Or.inl (by omega)
      · exact Or.inr y
theorem zRi_a {z w : St} {e : Nat} (h : zRi z w e) (h17 : zgI w 14 17 e = 1) (h7 : zgI z 4 7 e = 0) : ∃ st R : Nat, st < 2048 ∧ R ≤ 2048 ∧ zgI z 4 2 e = Int32.ofNat st ∧ zgI z 4 3 e = Int32.ofNat R ∧ zgI z 4 4 e = zgI w 14 18 e + Int32.ofNat R ∧ zIa z w e st (zun (zgI w 14 18 e)) R := by
  obtain ⟨⟨a4, a5, a6, a7, a8, a9, a10⟩, st, R, ⟨r1, r2, r3, r4⟩, q0, q1, q2, q3⟩ := h
  have e1 := q1 h17
  rw [h7, zi_sub0] at e1
  refine ⟨st, R, r1, r2, r3, r4, e1, fun i hi => ?_⟩
  have ym : ∀ k, zun (zgI z 4 4 e + Int32.ofNat k) % 2048 = (zun (zgI w 14 18 e) + (R + k)) % 2048 := fun k => by
    rw [e1, zun_add]
    have := zun_add (zgI w 14 18 e) R
    omega
  by_cases c : R ≤ i
  · obtain ⟨k, rfl⟩ : ∃ k, i = R + k := ⟨i - R, by omega⟩
    obtain ⟨b1, b2⟩ := q3 h7 k (by omega)
    rw [ym, show st + R + k = st + (R + k) from by omega] at b1 b2
    refine ⟨b1, ?_, fun y => ?_⟩
    · rcases b2 with y | y
      · exact Or.inl y
      · exact Or.inr ⟨y.1, by omega⟩
    · rcases y with y | y
      · omega
      · rcases b2 with y2 | y2
        · rw [y2] at y; exact absurd y (by decide)
        · exact y2.2.2.2
  · obtain ⟨k, hk⟩ : ∃ k, k = 2048 - R + i := ⟨_, rfl⟩
    obtain ⟨b1, b2⟩ := q3 h7 k (by omega)
    rw [ym, show (st + R + k) % 2048 = (st + i) % 2048 from by omega, show (zun (zgI w 14 18 e) + (R + k)) % 2048 = (zun (zgI w 14 18 e) + i) % 2048 from by omega] at b1 b2
    refine ⟨b1, ?_, fun _ => ?_⟩
    · rcases b2 with y | y
      · exact Or.inl y
      · omega
    · have := q2 i (by omega)
      rw [zun_add] at this
      exact this
theorem zRi_b {z w : St} {e st R : Nat} (a4 : zgI z 4 4 e = zgI w 14 16 e) (a5 : zgI z 4 5 e = zgI w 14 21 e) (a6 : zgI z 4 5 e = 1 → zgI z 4 6 e = zgI w 14 22 e) (a7 : zgI z 4 7 e = zgI w 14 23 e) (a8 : zgI z 4 5 e = 0 ∨ zgI z 4 5 e = 1) (h7 : zgI z 4 7 e = 0) (h17 : zgI w 14 17 e = 1) (r1 : st < 2048) (r2 : R ≤ 2048) (r3 : zgI z 4 2 e = Int32.ofNat st) (r4 : zgI z 4 3 e = Int32.ofNat R) (e1 : zgI z 4 4 e = zgI w 14 18 e + Int32.ofNat R) (h : zIa z w e st (zun (zgI w 14 18 e)) R) : zRi z w e := by
  have ym : ∀ k, zun (zgI z 4 4 e + Int32.ofNat k) % 2048 = (zun (zgI w 14 18 e) + (R + k)) % 2048 := fun k => by
    rw [e1, zun_add]
    have := zun_add (zgI w 14 18 e) R
    omega
  refine ⟨⟨a4, a5, a6, a7, a8, Or.inl h7, Or.inr h17⟩, st, R, ⟨r1, r2, r3, r4⟩, fun y => ?_, fun _ => by rw [h7, zi_sub0]; exact e1, fun i hi => ?_, fun _ k hk => ?_⟩
  · rw [h17] at y; exact absurd y (by decide)
  · rw [zun_add]; exact (h i (by omega)).2.2 (Or.inl hi)
  · rw [ym]
    by_cases c : R + k < 2048
    · obtain ⟨b1, b2, b3⟩ := h (R + k) c
      rw [show st + R + k = st + (R + k) from by omega]
      refine ⟨b1, ?_⟩
      rcases b2 with y | y
      · exact Or.inl y
      · exact Or.inr ⟨y.1, by omega, h17, b3 (Or.inr y.1)⟩
    · obtain ⟨i, hi⟩ : ∃ i, i = R + k - 2048 := ⟨_, rfl⟩
      obtain ⟨b1, b2, -⟩ := h i (by omega)
      rw [show (st + R + k) % 2048 = (st + i) % 2048 from by omega, show (zun (zgI w 14 18 e) + (R + k)) % 2048 = (zun (zgI w 14 18 e) + i) % 2048 from by omega]
      refine ⟨b1, ?_⟩
      rcases b2 with y | y
      · exact Or.inl y
      · omega
