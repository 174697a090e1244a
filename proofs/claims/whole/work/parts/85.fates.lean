/-! fates(): the loops of both sides -/
theorem zsI_I (z : St) (k j o : Nat) (v w : Int32) : zsI (zsI z k j o v) k j o w = zsI z k j o w := by
  have e : zup (zup z.1 k j o v) k j o w = zup z.1 k j o w := by
    funext k' j' o'
    unfold zup
    split
    · rfl
    · rfl
  exact congrArg (fun f => (f, z.2)) e
theorem zsA_C (z : St) (k o : Nat) (g : Nat → Int32) (i : Nat) (v : Int32) : zsA (zsC z k o g) k o i v = zsC z k o (fun j => if j = i then v else g j) := by
  have e : zup (fun k' o' i' => if k' = k ∧ o' = o then g i' else z.2.2.1 k' o' i') k o i v = (fun k' o' i' => if k' = k ∧ o' = o then (if i' = i then v else g i') else z.2.2.1 k' o' i') := by
    funext k' o' i'
    unfold zup
    by_cases c : k' = k ∧ o' = o
    · by_cases c2 : i' = i
      · rw [if_pos ⟨c.1, c.2, c2⟩, if_pos c, if_pos c2]
      · rw [if_neg (fun h => c2 h.2.2), if_pos c, if_neg c2]
        exact if_pos c
    · rw [if_neg (fun h => c ⟨h.1, h.2.1⟩), if_neg c]
      exact if_neg c
  exact congrArg (fun f => (z.1, z.2.1, f, z.2.2.2)) e
def zfc (z : St) (n : Nat) (g : Nat → Int32) (f : Nat) : St := zsI (zsC z 122 n g) 5 6 n (Int32.ofNat f)
def zfm (z : St) (n : Nat) (g : Nat → Int32) (f : Nat) : St := zsI (zsC z 165 n g) 16 7 n (Int32.ofNat f)
def zfb (x : Int64) (i : Nat) : Int32 := Int64.toInt32 ((x >>> (((2 : Int32) * Int32.ofNat i).toInt64 &&& 63)) &&& (3 : Int64))
def zfgc (x : Int64) (a : Nat) : Nat → Nat → Nat → (Nat → Int32) → Nat → Int32
  | 0, _, _, g => g
  | k + 1, i, f, g => zfgc x a k (i + 1) (f + 1) (fun j => if j = (a + f) % 64 then zfb x i else g j)
def zfgm (x : Int64) : Nat → Nat → Nat → (Nat → Int32) → Nat → Int32
  | 0, _, _, g => g
  | k + 1, i, f, g => zfgm x k (i + 1) (f + 1) (fun j => if j = f then zfb x i else g j)
theorem zlt64 {f : Nat} (h : f < 64) : Int32.ofNat f < (64 : Int32) := Int32.not_le.mp ((zof_lt (k := f) (N := 64) h (by omega)).2.2.1)
theorem zfc_add (z : St) (n a f : Nat) (g : Nat → Int32) (N : Nat) (y : Int32) (ha : a < 64) (hf : f < 64) (h5 : zgI z 5 5 n = Int32.ofNat a) : fX5_addFate N n (y &&& (3 : Int32)) (zfc z n g f) = some ((0 : Int32), zfc z n (fun j => if j = (a + f) % 64 then y &&& (3 : Int32) else g j) (f + 1)) := by
  have e6 : zgI (zfc z n g f) 5 6 n = Int32.ofNat f := by simp [zfc, zgI_sI]
  have e5 : zgI (zfc z n g f) 5 5 n = Int32.ofNat a := by simp [zfc, zgI_sI, zgI_sC, h5]
  have hm : (a + f) % 64 < 64 := Nat.mod_lt _ (by decide)
  unfold fX5_addFate
  rw [e6, if_pos (zlt64 hf), e5, zmod64 a ha f hf, zck hm (by decide), Int32.toNatClampNeg_ofNat_of_lt (by omega), zfate_nar]
  have e7 : zsA (zfc z n g f) 122 n ((a + f) % 64) (y &&& 3) = zfc z n (fun j => if j = (a + f) % 64 then y &&& (3 : Int32) else g j) f := congrArg (fun w => zsI w 5 6 n (Int32.ofNat f)) (zsA_C z 122 n g ((a + f) % 64) (y &&& 3))
  simp only [zl]
  rw [e7]
  have e8 : zgI (zfc z n (fun j => if j = (a + f) % 64 then y &&& (3 : Int32) else g j) f) 5 6 n + (1 : Int32) = Int32.ofNat (f + 1) := by
    have e9 : zgI (zfc z n (fun j => if j = (a + f) % 64 then y &&& (3 : Int32) else g j) f) 5 6 n = Int32.ofNat f := by simp [zfc, zgI_sI]
    rw [e9, zof1 (by omega)]
  rw [e8]
  unfold zfc
  rw [zsI_I]
theorem zfc_loop (z : St) (n a : Nat) (x : Int64) (N : Nat) (ha : a < 64) (h5 : zgI z 5 5 n = Int32.ofNat a) : ∀ (k i f m : Nat) (g : Nat → Int32), k < m → i + k ≤ 32 → f + k ≤ 64 → fX11_fates_71 N m x (Int32.ofNat (i + k)) n (Int32.ofNat i) (zfc z n g f) = some (.inl (Int32.ofNat (f + k)), zfc z n (zfgc x a k i f g) (f + k)) := by
  intro k
  induction k with
  | zero =>
    intro i f m g hm hi hf
    obtain ⟨m, rfl⟩ : ∃ m', m = m' + 1 := ⟨m - 1, by omega⟩
    have e6 : zgI (zfc z n g f) 5 6 n = Int32.ofNat f := by simp [zfc, zgI_sI]
    show fX11_fates_71b N (fX11_fates_71 N m) x (Int32.ofNat i) n (Int32.ofNat i) (zfc z n g f) = _
    unfold fX11_fates_71b
    rw [if_pos (Int32.le_refl _), e6]
    rfl
  | succ k ih =>
    intro i f m g hm hi hf
    obtain ⟨m, rfl⟩ : ∃ m', m = m' + 1 := ⟨m - 1, by omega⟩
    have hlt := (zof_lt (k := i) (N := i + (k + 1)) (by omega) (by omega)).2.2.1
    show fX11_fates_71b N (fX11_fates_71 N m) x (Int32.ofNat (i + (k + 1))) n (Int32.ofNat i) (zfc z n g f) = _
    unfold fX11_fates_71b
    rw [if_neg hlt, zfc_add z n a f g N _ ha (by omega) h5, zfate_eq x (by omega)]
    simp only [zc, zl, zof1 (show i < 4000 by omega)]
    have h := ih (i + 1) (f + 1) m (fun j => if j = (a + f) % 64 then zfb x i else g j) (by omega) (by omega) (by omega)
    rw [show i + 1 + k = i + (k + 1) by omega, show f + 1 + k = f + (k + 1) by omega] at h
    exact h
theorem zfm_loop (z : St) (n : Nat) (x : Int64) (N : Nat) : ∀ (k i f m : Nat) (g : Nat → Int32), k < m → i + k ≤ 32 → f + k ≤ 64 → fX19_fates_76 N m x (Int32.ofNat (i + k)) (some n) (Int32.ofNat i) (zfm z n g f) = some (Int32.ofNat (f + k), zfm z n (zfgm x k i f g) (f + k)) := by
  intro k
  induction k with
  | zero =>
    intro i f m g hm hi hf
    obtain ⟨m, rfl⟩ : ∃ m', m = m' + 1 := ⟨m - 1, by omega⟩
    have e6 : zgI (zfm z n g f) 16 7 n = Int32.ofNat f := by simp [zfm, zgI_sI]
    show fX19_fates_76b N (fX19_fates_76 N m) x (Int32.ofNat i) (some n) (Int32.ofNat i) (zfm z n g f) = _
    unfold fX19_fates_76b
    rw [if_pos (Int32.le_refl _)]
    simp only [zd]
    rw [e6]
    rfl
  | succ k ih =>
    intro i f m g hm hi hf
    obtain ⟨m, rfl⟩ : ∃ m', m = m' + 1 := ⟨m - 1, by omega⟩
    have hlt := (zof_lt (k := i) (N := i + (k + 1)) (by omega) (by omega)).2.2.1
    have e6 : ∀ g, zgI (zfm z n g f) 16 7 n = Int32.ofNat f := fun g => by simp [zfm, zgI_sI]
    show fX19_fates_76b N (fX19_fates_76 N m) x (Int32.ofNat (i + (k + 1))) (some n) (Int32.ofNat i) (zfm z n g f) = _
    unfold fX19_fates_76b
    rw [if_neg hlt]
    simp only [zd]
    rw [e6, zck (show f < 64 by omega) (by decide), Int32.toNatClampNeg_ofNat_of_lt (by omega)]
    have e7 : zsA (zfm z n g f) 165 n f (Int64.toInt32 ((x >>> (((2 : Int32) * Int32.ofNat i).toInt64 &&& 63)) &&& (3 : Int64))) = zfm z n (fun j => if j = f then zfb x i else g j) f := congrArg (fun w => zsI w 16 7 n (Int32.ofNat f)) (zsA_C z 165 n g f _)
    simp only [zl]
    rw [e7, e6, zof1 (by omega), zof1 (by omega)]
    have h := ih (i + 1) (f + 1) m (fun j => if j = f then zfb x i else g j) (by omega) (by omega) (by omega)
    rw [show i + 1 + k = i + (k + 1) by omega, show f + 1 + k = f + (k + 1) by omega] at h
    have e8 : zsI (zfm z n (fun j => if j = f then zfb x i else g j) f) 16 7 n (Int32.ofNat (f + 1)) = zfm z n (fun j => if j = f then zfb x i else g j) (f + 1) := by
      unfold zfm; rw [zsI_I]
    rw [e8]
    exact h
