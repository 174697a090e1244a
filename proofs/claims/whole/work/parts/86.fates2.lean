/-! fates(): the ring and the row tell the same -/
theorem zfg_eq (x : Int64) (a : Nat) : ∀ (k i f : Nat) (g g' : Nat → Int32), f + k ≤ 64 → (∀ j, j < f → g ((a + j) % 64) = g' j) → ∀ j, j < f + k → zfgc x a k i f g ((a + j) % 64) = zfgm x k i f g' j := by
  intro k
  induction k with
  | zero => intro i f g g' hf h j hj; exact h j hj
  | succ k ih =>
    intro i f g g' hf h j hj
    refine ih (i + 1) (f + 1) _ _ (by omega) (fun j hj => ?_) j (by omega)
    by_cases c : j = f
    · subst c
      rw [if_pos rfl, if_pos rfl]
    · rw [if_neg c, if_neg (by omega)]
      exact h j (by omega)
def zRfat (z : St) (n a f : Nat) : Prop := a < 64 ∧ f ≤ 64 ∧ zgI z 5 5 n = Int32.ofNat a ∧ zgI z 5 6 n = Int32.ofNat f ∧ zgI z 16 7 n = Int32.ofNat f ∧ ∀ j, j < f → zgA z 122 n ((a + j) % 64) = zgA z 165 n j
theorem zfc_start {z : St} {n f : Nat} (h : zgI z 5 6 n = Int32.ofNat f) : zfc z n (zgA z 122 n) f = z := by
  have e1 : zsC z 122 n (zgA z 122 n) = z := by
    have e : (fun k' o' i' => if k' = 122 ∧ o' = n then zgA z 122 n i' else z.2.2.1 k' o' i') = z.2.2.1 := by
      funext k' o' i'
      by_cases c : k' = 122 ∧ o' = n
      · rw [if_pos c, c.1, c.2]; rfl
      · rw [if_neg c]
    exact congrArg (fun f => (z.1, z.2.1, f, z.2.2.2)) e
  unfold zfc
  rw [e1]
  have e : zup z.1 5 6 n (Int32.ofNat f) = z.1 := by
    funext k' j' o'
    unfold zup
    by_cases c : k' = 5 ∧ j' = 6 ∧ o' = n
    · rw [if_pos c, c.1, c.2.1, c.2.2]; exact h.symm
    · rw [if_neg c]
  exact congrArg (fun f => (f, z.2)) e
theorem zfm_start {z : St} {n f : Nat} (h : zgI z 16 7 n = Int32.ofNat f) : zfm z n (zgA z 165 n) f = z := by
  have e1 : zsC z 165 n (zgA z 165 n) = z := by
    have e : (fun k' o' i' => if k' = 165 ∧ o' = n then zgA z 165 n i' else z.2.2.1 k' o' i') = z.2.2.1 := by
      funext k' o' i'
      by_cases c : k' = 165 ∧ o' = n
      · rw [if_pos c, c.1, c.2]; rfl
      · rw [if_neg c]
    exact congrArg (fun f => (z.1, z.2.1, f, z.2.2.2)) e
  unfold zfm
  rw [e1]
  have e : zup z.1 16 7 n (Int32.ofNat f) = z.1 := by
    funext k' j' o'
    unfold zup
    by_cases c : k' = 16 ∧ j' = 7 ∧ o' = n
    · rw [if_pos c, c.1, c.2.1, c.2.2]; exact h.symm
    · rw [if_neg c]
  exact congrArg (fun f => (f, z.2)) e
/-- behind both loops the fates of the net are related again -/
theorem zRfat_fates {z : St} {n a f k : Nat} (x : Int64) (h : zRfat z n a f) (hk : f + k ≤ 64) : zRfat (zfm (zfc z n (zfgc x a k 0 f (zgA z 122 n)) (f + k)) n (zfgm x k 0 f (zgA z 165 n)) (f + k)) n a (f + k) := by
  obtain ⟨ha, hf, h5, h6, h7, hr⟩ := h
  refine ⟨ha, hk, ?_, ?_, ?_, fun j hj => ?_⟩
  · simp [zfm, zfc, zgI_sI, zgI_sC, h5]
  · simp [zfm, zfc, zgI_sI, zgI_sC]
  · simp [zfm, zgI_sI]
  · have e := zfg_eq x a k 0 f (zgA z 122 n) (zgA z 165 n) hk hr j hj
    simp [zfm, zfc, zgA_sI, zgA_sC, e]
