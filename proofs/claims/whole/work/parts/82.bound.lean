/-! bound(): both sides take the longest delay of the nets -/
theorem zof1 {i : Nat} (h : i < 4000) : Int32.ofNat i + (1 : Int32) = Int32.ofNat (i + 1) := (zof_lt (k := i) (N := i + 1) (by omega) (by omega)).2.2.2
def zcb (nb : Nat) (x1 : Int32) : Int32 := ((((100 : Int32) + ((4 : Int32) * x1)) + ((2 : Int32) * ((11 : Int32) + ((Int32.ofNat nb) * ((17 : Int32) + ((3 : Int32) * x1)))))) + ((40 : Int32) * ((1200 : Int32) + (((6 : Int32) * ((Int32.ofNat nb) + (2 : Int32))) * x1))))
theorem zw_cb {z w : St} {nb nn : Nat} (hz : zRcnt z nb nn) (hw : zRcnt w nb nn) (hd : ∀ i, i < nn → zgI z 5 2 i = zgI w 16 2 i) (N : Nat) : ∀ (k i n : Nat) (x : Int32), i + k = nn → k < n → ∃ v, fX11_calmBound_4 N n 0 x (Int32.ofNat i) z = some (v, z) ∧ fX19_boundNow_4 N n 0 x (Int32.ofNat i) w = some (v, w) := by
  intro k
  induction k with
  | zero =>
    intro i n x hi hn
    obtain ⟨n, rfl⟩ : ∃ n', n = n' + 1 := ⟨n - 1, by omega⟩
    obtain rfl : i = nn := by omega
    obtain ⟨hb, hn', b1, b2, n1, n2, q1, q2, q3⟩ := hz
    obtain ⟨-, -, c1, c2, m1, m2, p1, p2, p3⟩ := hw
    refine ⟨zcb nb x, ?_, ?_⟩
    · show fX11_calmBound_4b N (fX11_calmBound_4 N n) 0 x (Int32.ofNat i) z = _
      unfold fX11_calmBound_4b zcb
      rw [n1, if_pos (Int32.le_refl _), b1]
    · show fX19_boundNow_4b N (fX19_boundNow_4 N n) 0 x (Int32.ofNat i) w = _
      unfold fX19_boundNow_4b zcb
      rw [m2, if_pos (Int32.le_refl _), c2]
  | succ k ih =>
    intro i n x hi hn
    obtain ⟨n, rfl⟩ : ∃ n', n = n' + 1 := ⟨n - 1, by omega⟩
    have hz0 := hz
    have hw0 := hw
    obtain ⟨hb, hn', b1, b2, n1, n2, q1, q2, q3⟩ := hz
    obtain ⟨-, -, c1, c2, m1, m2, p1, p2, p3⟩ := hw
    have hlt := (zof_lt (k := i) (N := nn) (by omega) (by omega)).2.2.1
    obtain ⟨v, e1, e2⟩ := ih (i + 1) n (if x < zgI z 5 2 i then zgI z 5 2 i else x) (by omega) (by omega)
    have ec : (Int32.ofNat i).toNatClampNeg = i := Int32.toNatClampNeg_ofNat_of_lt (by omega)
    refine ⟨v, ?_, ?_⟩
    · show fX11_calmBound_4b N (fX11_calmBound_4 N n) 0 x (Int32.ofNat i) z = _
      unfold fX11_calmBound_4b
      rw [n1, if_neg hlt, zck (show i < 24 by omega) (by omega)]
      simp only [zl, ec, q1 i (by omega), zd, zof1 (show i < 4000 by omega)]
      exact e1
    · show fX19_boundNow_4b N (fX19_boundNow_4 N n) 0 x (Int32.ofNat i) w = _
      unfold fX19_boundNow_4b
      rw [m2, if_neg hlt, zck (show i < 24 by omega) (by omega)]
      simp only [zl, ec, p3 i (by omega), zd]
      rw [hd i (by omega)] at e2
      by_cases c : zgI w 16 2 i ≤ x
      · rw [if_pos c]
        rw [if_neg (Int32.not_lt.mpr c)] at e2
        simp only [fX19_boundNow_38, zl, zof1 (show i < 4000 by omega)]
        exact e2
      · rw [if_neg c, zck (show i < 24 by omega) (by omega)]
        rw [if_pos (Int32.not_le.mp c)] at e2
        simp only [fX19_boundNow_38, zl, zof1 (show i < 4000 by omega)]
        exact e2
theorem zw_24 {z : St} {nb nn : Nat} (hz : zRcnt z nb nn) (hd : ∀ i, i < nn → zgI z 5 2 i = zgI z 16 2 i) (N : Nat) (hN : nn < N) (sc : Nat → Int32) (I : List (Nat × Nat)) (cc ss : Nat) : fLaw_24 N sc I cc ss z = some (zT0 z, I, cc, ss) := by
  obtain ⟨v, e1, e2⟩ := zw_cb hz (zRcnt_T (v := 0) hz) (w := zsI z 19 25 0 0) (fun i hi => by rw [hd i hi]; simp [zgI_sI]) N nn 0 N (1 : Int32) (by omega) hN
  have e1 : fX11_calmBound N 0 z = some (v, z) := e1
  have e2 : fX19_boundNow N 0 (zsI z 19 25 0 0) = some (v, zsI z 19 25 0 0) := e2
  simp [fLaw_24, fX11_bound, fX19_bound, e1, e2, zc, zl, zT0]
