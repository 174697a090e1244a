/-! fates(): the law's call 5 -/
theorem zw_5t {z : St} {N : Nat} {sc : Nat → Int32} {I : List (Nat × Nat)} {cc ss : Nat} (hr : (cc + rmL_fates.cells) ≤ room_1.cells ∧ (ss + rmL_fates.slots) ≤ room_1.slots) {c : Nat} {r : Int32} (hc : c = 1 ∨ c = 2) (e1 : ∀ x, fX11_fates N 0 (sc 1) x (sc 4) z = some (.inr c, z)) (e2 : ∀ x, fX19_fates N 0 (sc 1) x (sc 4) z = some (r, zsI z 19 25 0 (Int32.ofNat c))) : fLaw_5 N sc I cc ss z = some (zsI z 19 25 0 (Int32.ofNat c), I, cc + rmL_fates.cells, ss + rmL_fates.slots) := by
  unfold fLaw_5
  rw [zqc_t hr]
  generalize ((Int32.toInt64 (sc 2)) <<< (((32 : Int32)).toInt64 &&& 63)) ||| ((Int32.toInt64 (sc 3)) &&& (4294967295 : Int64)) = x
  have h1 := e1 x
  have h2 := e2 x
  rcases hc with rfl | rfl
  · simp [fL_fates, h1, h2, zc_e, fX19_thrown, zgI_sI]
  · simp [fL_fates, h1, h2, zc_e, fX19_thrown, zgI_sI]
theorem zw_5s {z : St} {N : Nat} {sc : Nat → Int32} {I : List (Nat × Nat)} {cc ss : Nat} (hr : (cc + rmL_fates.cells) ≤ room_1.cells ∧ (ss + rmL_fates.slots) ≤ room_1.slots) (Z1 Z2 : Int64 → St) {v : Int32} (e1 : ∀ x, fX11_fates N 0 (sc 1) x (sc 4) z = some (.inl v, Z1 x)) (e2 : ∀ x, fX19_fates N 0 (sc 1) x (sc 4) (zsL (Z1 x) 193 0 0 v.toInt64) = some (v, Z2 x)) (e3 : ∀ x, zgI (Z2 x) 19 25 0 = 0 ∧ zgL (Z2 x) 193 0 0 = v.toInt64) : ∃ x, fLaw_5 N sc I cc ss z = some (Z2 x, I, cc + rmL_fates.cells, ss + rmL_fates.slots) := by
  unfold fLaw_5
  rw [zqc_t hr]
  generalize ((Int32.toInt64 (sc 2)) <<< (((32 : Int32)).toInt64 &&& 63)) ||| ((Int32.toInt64 (sc 3)) &&& (4294967295 : Int64)) = x
  refine ⟨x, ?_⟩
  have f1 : fL_fates N 0 (sc 1) x (sc 4) 0 z = some ((0 : Int32), zsL (Z1 x) 193 0 0 v.toInt64) := by simp [fL_fates, e1 x]
  rw [f1, zc_e, e2 x, zc_e]
  simp [fX19_thrown, zc_e, (e3 x).1, (e3 x).2, lg_cmp_self]
