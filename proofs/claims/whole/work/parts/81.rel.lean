/-! the relation between the class's part of a state and the model's: the clock, the nets -/
def zRclk (z : St) : Prop := zgI z 11 4 0 = zgI z 19 24 0 ∧ zgI z 11 5 0 = zgI z 19 27 0 ∧ zgI z 11 8 0 = zgI z 19 26 0 ∧ zgI z 11 12 0 = zgI z 19 23 0
def zRcnt (z : St) (nb nn : Nat) : Prop := nb ≤ 16 ∧ nn ≤ 24 ∧ zgI z 11 3 0 = Int32.ofNat nb ∧ zgI z 19 19 0 = Int32.ofNat nb ∧ zgI z 11 1 0 = Int32.ofNat nn ∧ zgI z 19 21 0 = Int32.ofNat nn ∧ (∀ i, i < 24 → zgQ z 139 0 i = some i) ∧ (∀ i, i < nb → zgQ z 140 0 i = some i ∧ zgQ z 186 0 i = some i) ∧ (∀ i, i < nn → zgQ z 187 0 i = some i)
/-- a net on both sides, with st stations and some fates -/
def zRnet (z : St) (n st f : Nat) : Prop := st ≤ 8 ∧ f ≤ 64 ∧ zgI z 5 0 n = Int32.ofNat n ∧ zgI z 16 0 n = Int32.ofNat n ∧ zgI z 5 1 n = zgI z 16 1 n ∧ zgI z 5 2 n = zgI z 16 2 n ∧ zgI z 5 3 n = zgI z 16 3 n ∧ zgI z 5 8 n = Int32.ofNat st ∧ zgI z 16 5 n = Int32.ofNat st ∧ zgI z 5 9 n = zgI z 16 8 n ∧ zgI z 5 10 n = zgI z 16 9 n ∧ zgI z 5 6 n = Int32.ofNat f ∧ zgI z 16 7 n = Int32.ofNat f ∧ (∀ s, s < st → zgQ z 123 n s = some (8 * n + s) ∧ zgQ z 164 n s = some (8 * n + s)) ∧ ∃ a, a < 64 ∧ zgI z 5 5 n = Int32.ofNat a ∧ ∀ i, i < f → zgA z 122 n ((a + i) % 64) = zgA z 165 n i
def zT0 (z : St) : St := zsI z 19 25 0 0
theorem zRclk_T {z : St} {v : Int32} (h : zRclk z) : zRclk (zsI z 19 25 0 v) := by
  unfold zRclk
  simp only [zgI_sI]
  exact h
theorem zRcnt_T {z : St} {v : Int32} {nb nn : Nat} (h : zRcnt z nb nn) : zRcnt (zsI z 19 25 0 v) nb nn := by
  unfold zRcnt
  simp only [zgI_sI, zgQ_sI]
  exact h
theorem zw_21 {z : St} (h : zRclk z) (N : Nat) (sc : Nat → Int32) (I : List (Nat × Nat)) (cc ss : Nat) : fLaw_21 N sc I cc ss z = some (zT0 z, I, cc, ss) := by
  simp [fLaw_21, fX11_underWay, fX19_underWay, zc, zl, zgI_sI, h.2.2.2, zT0]
theorem zw_22 {z : St} (h : zRclk z) (N : Nat) (sc : Nat → Int32) (I : List (Nat × Nat)) (cc ss : Nat) : fLaw_22 N sc I cc ss z = some (zT0 z, I, cc, ss) := by
  simp [fLaw_22, fX11_time, fX19_time, zc, zl, zgI_sI, h.1, zT0]
theorem zw_27 {z : St} (h : zRclk z) (N : Nat) (sc : Nat → Int32) (I : List (Nat × Nat)) (cc ss : Nat) : fLaw_27 N sc I cc ss z = some (zT0 z, I, cc, ss) := by
  simp [fLaw_27, fX11_strays, fX19_strays, zc, zl, zgI_sI, h.2.2.1, zT0]
theorem zlt_of {a : Nat} {x : Int32} (h : a ≤ 24) (h0 : ¬ x < 0) (h1 : ¬ Int32.ofNat a ≤ x) : ∃ i, i < a ∧ x = Int32.ofNat i := by
  have g0 := Int32.le_iff_toInt_le.mp (Int32.not_lt.mp h0)
  have g1 := Int32.lt_iff_toInt_lt.mp (Int32.not_le.mp h1)
  rw [Int32.toInt_ofNat_of_lt (by omega)] at g1
  have a0 : (0 : Int32).toInt = 0 := rfl
  refine ⟨x.toInt.toNat, by omega, ?_⟩
  apply Int32.toInt_inj.mp
  rw [Int32.toInt_ofNat_of_lt (by omega)]
  omega
theorem zck {i n : Nat} (h : i < n) (hn : n ≤ 4000) {β : Type} (k : Option β) : zk (Int32.ofNat i) n k = k := by
  have e : (Int32.ofNat i).toNatClampNeg = i := Int32.toNatClampNeg_ofNat_of_lt (by omega)
  unfold zk
  rw [if_neg]
  rw [e]
  intro c
  rcases c with c | c
  · have c := Int32.lt_iff_toInt_lt.mp c
    rw [Int32.toInt_ofNat_of_lt (by omega)] at c
    have a0 : (0 : Int32).toInt = 0 := rfl
    omega
  · omega
/-- the net or box of a number: the same on both sides, or none -/
theorem zw_netOf {z : St} {nb nn : Nat} (h : zRcnt z nb nn) (N : Nat) (x : Int32) : (fX11_netOf N 0 x z = some (none, z) ∧ fX19_isNet N 0 x z = some ((0 : Int32), z)) ∨ ∃ i, i < nn ∧ x = Int32.ofNat i ∧ fX11_netOf N 0 x z = some (some i, z) ∧ fX19_isNet N 0 x z = some ((1 : Int32), z) := by
  obtain ⟨hb, hn, b1, b2, n1, n2, q1, q2, q3⟩ := h
  unfold fX11_netOf fX19_isNet
  by_cases c : x < 0
  · rw [if_pos c, if_pos c]; exact Or.inl ⟨rfl, rfl⟩
  rw [if_neg c, if_neg c, n1, n2]
  by_cases c2 : Int32.ofNat nn ≤ x
  · rw [if_pos c2, if_pos c2]; exact Or.inl ⟨rfl, rfl⟩
  obtain ⟨i, hi, rfl⟩ := zlt_of hn c c2
  rw [if_neg c2, if_neg c2, zck (show i < 24 by omega) (by omega)]
  refine Or.inr ⟨i, hi, rfl, ?_, rfl⟩
  unfold zl
  rw [Int32.toNatClampNeg_ofNat_of_lt (by omega), q1 i (by omega)]
theorem zw_boxOf {z : St} {nb nn : Nat} (h : zRcnt z nb nn) (N : Nat) (x : Int32) : (fX11_boxOf N 0 x z = some (none, z) ∧ fX19_isBox N 0 x z = some ((0 : Int32), z)) ∨ ∃ i, i < nb ∧ x = Int32.ofNat i ∧ fX11_boxOf N 0 x z = some (some i, z) ∧ fX19_isBox N 0 x z = some ((1 : Int32), z) := by
  obtain ⟨hb, hn, b1, b2, n1, n2, q1, q2, q3⟩ := h
  unfold fX11_boxOf fX19_isBox
  by_cases c : x < 0
  · rw [if_pos c, if_pos c]; exact Or.inl ⟨rfl, rfl⟩
  rw [if_neg c, if_neg c, b1, b2]
  by_cases c2 : Int32.ofNat nb ≤ x
  · rw [if_pos c2, if_pos c2]; exact Or.inl ⟨rfl, rfl⟩
  obtain ⟨i, hi, rfl⟩ := zlt_of (by omega) c c2
  rw [if_neg c2, if_neg c2, zck (show i < 16 by omega) (by omega)]
  refine Or.inr ⟨i, hi, rfl, ?_, rfl⟩
  unfold zl
  rw [Int32.toNatClampNeg_ofNat_of_lt (by omega), (q2 i hi).1]
