/-! a segment's door: found alike -/
def lvB (z : St) (b : Nat) (own src oth : Int32) (d : Nat) : Bool := decide (zgI z 2 0 (6 * b + d) = 2) && (decide (zgI z 2 1 (6 * b + d) = own) && (decide (zgI z 2 2 (6 * b + d) = src) && (decide (zgI z 2 3 (6 * b + d) = oth) && ! stD (zgI z 3 0 (6 * b + d)))))
theorem lvB_iff {z : St} {b : Nat} {own src oth : Int32} {d : Nat} : lvB z b own src oth d = true ↔ zgI z 2 0 (6 * b + d) = 2 ∧ zgI z 2 1 (6 * b + d) = own ∧ zgI z 2 2 (6 * b + d) = src ∧ zgI z 2 3 (6 * b + d) = oth ∧ stD (zgI z 3 0 (6 * b + d)) = false := by
  unfold lvB
  simp only [Bool.and_eq_true, decide_eq_true_eq, Bool.not_eq_true']
theorem zc_liveDoor {z : St} {T : Tp} {b N : Nat} {own src oth : Int32} (hT : zTC z T) (hb : b < tb T) (hr : tr T b = false) (hN : 6 < N) : fX1_liveDoor N b own src oth z = some ((zfst (lvB z b own src oth) 6 0).map (fun d => 6 * b + d), z) := by
  have hl : zlen z 119 b = 6 := by rw [zlen_h hT hb, hr]; rfl
  unfold fX1_liveDoor
  refine (zlf0 (G := fun n i => fX1_liveDoor_3 N n b own src oth (Int32.ofNat i) z) (p := lvB z b own src oth) (f := fun d => some (some (6 * b + d), z)) (r := some (none, z)) (k := 6) (by omega) ?_ ?_ ?_).trans ?_
  · intro n i hi hp
    obtain ⟨t1, t2, -, -, -⟩ := hT.2.2.1.2 b hb hr i hi
    show fX1_liveDoor_3b N (fX1_liveDoor_3 N n) b own src oth (Int32.ofNat i) z = _
    unfold fX1_liveDoor_3b
    rw [hl, if_neg (show ¬ Int32.ofNat 6 ≤ Int32.ofNat i by rw [zo_le (by omega) (by omega)]; omega), zkk (by omega) (by omega), zl_e, zoC (by omega), t1, zd_e]
    unfold fX2_isFor fX1_liveDoor_53
    by_cases c0 : zgI z 2 0 (6 * b + i) = 2
    · rw [if_neg (fun y => y c0)]
      by_cases c1 : zgI z 2 1 (6 * b + i) = own
      · rw [if_neg (fun y => y c1)]
        by_cases c2 : zgI z 2 2 (6 * b + i) = src
        · rw [if_neg (fun y => y c2)]
          by_cases c3 : zgI z 2 3 (6 * b + i) = oth
          · rw [if_neg (fun y => y c3), zc_e, if_neg (by decide), zkk (by omega) (by omega), zl_e, t1, zd_e, zl_e, t2, zd_e, zc_isDead, zc_e]
            have c4 : stD (zgI z 3 0 (6 * b + i)) = true := by
              cases q : stD (zgI z 3 0 (6 * b + i)) with
              | true => rfl
              | false =>
                have := lvB_iff.mpr ⟨c0, c1, c2, c3, q⟩
                rw [this] at hp; cases hp
            rw [c4, if_pos (show ¬ zbi true = 0 by decide), zl_e, zo_i1]
          · rw [if_pos c3, zc_e, if_pos rfl, zl_e, zo_i1]
        · rw [if_pos c2, zc_e, if_pos rfl, zl_e, zo_i1]
      · rw [if_pos c1, zc_e, if_pos rfl, zl_e, zo_i1]
    · rw [if_pos c0, zc_e, if_pos rfl, zl_e, zo_i1]
  · intro n i hi hp
    obtain ⟨t1, t2, -, -, -⟩ := hT.2.2.1.2 b hb hr i hi
    obtain ⟨c0, c1, c2, c3, c4⟩ := lvB_iff.mp hp
    show fX1_liveDoor_3b N (fX1_liveDoor_3 N n) b own src oth (Int32.ofNat i) z = _
    unfold fX1_liveDoor_3b
    rw [hl, if_neg (show ¬ Int32.ofNat 6 ≤ Int32.ofNat i by rw [zo_le (by omega) (by omega)]; omega), zkk (by omega) (by omega), zl_e, zoC (by omega), t1, zd_e]
    unfold fX2_isFor
    rw [if_neg (fun y => y c0), if_neg (fun y => y c1), if_neg (fun y => y c2), if_neg (fun y => y c3), zc_e, if_neg (by decide), zkk (by omega) (by omega), zl_e, t1, zd_e, zl_e, t2, zd_e, zc_isDead, zc_e, c4, if_neg (show ¬ ¬ zbi false = 0 by decide), zkk (by omega) (by omega), zl_e, t1]
  · intro n
    show fX1_liveDoor_3b N (fX1_liveDoor_3 N n) b own src oth (Int32.ofNat 6) z = _
    unfold fX1_liveDoor_3b
    rw [hl, if_pos (show Int32.ofNat 6 ≤ Int32.ofNat 6 by decide)]
  · cases zfst (lvB z b own src oth) 6 0 <;> rfl
/-- what listens at a port number -/
def lsB (z : St) (b : Nat) (own : Int32) (d : Nat) : Bool := decide (zgI z 2 0 (6 * b + d) = 1) && decide (zgI z 2 1 (6 * b + d) = own)
theorem zc_listenerAt {z : St} {T : Tp} {b N : Nat} {own : Int32} (hT : zTC z T) (hb : b < tb T) (hr : tr T b = false) (hN : 6 < N) : fX1_listenerAt N b own z = some ((match zfst (lsB z b own) 6 0 with | some d => Int32.ofNat d | none => (-1 : Int32)), z) := by
  have hl : zlen z 119 b = 6 := by rw [zlen_h hT hb, hr]; rfl
  unfold fX1_listenerAt
  refine (zlf0 (G := fun n i => fX1_listenerAt_2 N n b own (Int32.ofNat i) z) (p := lsB z b own) (f := fun d => some (Int32.ofNat d, z)) (r := some ((-1 : Int32), z)) (k := 6) (by omega) ?_ ?_ ?_).trans ?_
  · intro n i hi hp
    obtain ⟨t1, t2, -, -, -⟩ := hT.2.2.1.2 b hb hr i hi
    show fX1_listenerAt_2b N (fX1_listenerAt_2 N n) b own (Int32.ofNat i) z = _
    unfold fX1_listenerAt_2b
    rw [hl, if_neg (show ¬ Int32.ofNat 6 ≤ Int32.ofNat i by rw [zo_le (by omega) (by omega)]; omega), zkk (by omega) (by omega), zl_e, zoC (by omega), t1, zd_e]
    unfold fX1_listenerAt_39
    by_cases c0 : zgI z 2 0 (6 * b + i) = 1
    · rw [if_neg (fun y => y c0), zkk (by omega) (by omega), zl_e, zd_e]
      by_cases c1 : zgI z 2 1 (6 * b + i) = own
      · unfold lsB at hp
        rw [decide_eq_true c0, decide_eq_true c1] at hp; cases hp
      · rw [if_pos c1, zl_e, zo_i1]
    · rw [if_pos c0, zl_e, zo_i1]
  · intro n i hi hp
    obtain ⟨t1, t2, -, -, -⟩ := hT.2.2.1.2 b hb hr i hi
    unfold lsB at hp
    simp only [Bool.and_eq_true, decide_eq_true_eq] at hp
    show fX1_listenerAt_2b N (fX1_listenerAt_2 N n) b own (Int32.ofNat i) z = _
    unfold fX1_listenerAt_2b
    rw [hl, if_neg (show ¬ Int32.ofNat 6 ≤ Int32.ofNat i by rw [zo_le (by omega) (by omega)]; omega), zkk (by omega) (by omega), zl_e, zoC (by omega), t1, zd_e, if_neg (fun y => y hp.1), zkk (by omega) (by omega), zl_e, zd_e, if_neg (fun y => y hp.2)]
  · intro n
    show fX1_listenerAt_2b N (fX1_listenerAt_2 N n) b own (Int32.ofNat 6) z = _
    unfold fX1_listenerAt_2b
    rw [hl, if_pos (show Int32.ofNat 6 ≤ Int32.ofNat 6 by decide)]
  · cases zfst (lsB z b own) 6 0 <;> rfl
/-- a door that is free -/
def unB (z : St) (b : Nat) (d : Nat) : Bool := decide (zgI z 2 0 (6 * b + d) = 0)
theorem zc_unusedDoor {z : St} {T : Tp} {b N : Nat} (hT : zTC z T) (hb : b < tb T) (hr : tr T b = false) (hN : 6 < N) : fX1_unusedDoor N b z = some ((match zfst (unB z b) 6 0 with | some d => Int32.ofNat d | none => (-1 : Int32)), z) := by
  have hl : zlen z 119 b = 6 := by rw [zlen_h hT hb, hr]; rfl
  unfold fX1_unusedDoor
  refine (zlf0 (G := fun n i => fX1_unusedDoor_2 N n b (Int32.ofNat i) z) (p := unB z b) (f := fun d => some (Int32.ofNat d, z)) (r := some ((-1 : Int32), z)) (k := 6) (by omega) ?_ ?_ ?_).trans ?_
  · intro n i hi hp
    obtain ⟨t1, t2, -, -, -⟩ := hT.2.2.1.2 b hb hr i hi
    show fX1_unusedDoor_2b N (fX1_unusedDoor_2 N n) b (Int32.ofNat i) z = _
    unfold fX1_unusedDoor_2b
    rw [hl, if_neg (show ¬ Int32.ofNat 6 ≤ Int32.ofNat i by rw [zo_le (by omega) (by omega)]; omega), zkk (by omega) (by omega), zl_e, zoC (by omega), t1, zd_e, if_pos (show ¬ zgI z 2 0 (6 * b + i) = 0 from of_decide_eq_false hp), zl_e, zo_i1]
  · intro n i hi hp
    obtain ⟨t1, t2, -, -, -⟩ := hT.2.2.1.2 b hb hr i hi
    show fX1_unusedDoor_2b N (fX1_unusedDoor_2 N n) b (Int32.ofNat i) z = _
    unfold fX1_unusedDoor_2b
    rw [hl, if_neg (show ¬ Int32.ofNat 6 ≤ Int32.ofNat i by rw [zo_le (by omega) (by omega)]; omega), zkk (by omega) (by omega), zl_e, zoC (by omega), t1, zd_e, if_neg (fun y => y (of_decide_eq_true hp))]
  · intro n
    show fX1_unusedDoor_2b N (fX1_unusedDoor_2 N n) b (Int32.ofNat 6) z = _
    unfold fX1_unusedDoor_2b
    rw [hl, if_pos (show Int32.ofNat 6 ≤ Int32.ofNat 6 by decide)]
  · cases zfst (unB z b) 6 0 <;> rfl
/-- how many answer through a door that listens -/
def anB (z : St) (b l d : Nat) : Bool := decide (zgI z 2 0 (6 * b + d) = 2) && (decide (zgI z 2 5 (6 * b + d) = Int32.ofNat l) && decide (zgI z 3 0 (6 * b + d) = 3))
/-- the door that a new end gets -/
def thB (z : St) (b l : Nat) : Option Nat := if zcnt (anB z b l) 6 < (zgI z 2 4 (6 * b + l)).toNatClampNeg then zfst (unB z b) 6 0 else none
theorem zc_doorThrough {z : St} {T : Tp} {b l N m : Nat} (hT : zTC z T) (hb : b < tb T) (hr : tr T b = false) (hl6 : l < 6) (h4 : zgI z 2 4 (6 * b + l) = Int32.ofNat m) (hm : m ≤ 5) (hN : 6 < N) : fX1_doorThrough N b (Int32.ofNat l) z = some ((thB z b l).map (fun d => 6 * b + d), z) := by
  have hl : zlen z 119 b = 6 := by rw [zlen_h hT hb, hr]; rfl
  have key : ∀ (m i n : Nat), i + m = 6 → m < n → fX1_doorThrough_4 N n b (Int32.ofNat l) (Int32.ofNat (zcnt (anB z b l) i)) (Int32.ofNat i) z = some ((thB z b l).map (fun d => 6 * b + d), z) := by
    intro m'
    induction m' with
    | zero =>
      intro i n hi hn
      obtain ⟨n, rfl⟩ : ∃ k, n = k + 1 := ⟨n - 1, by omega⟩
      obtain rfl : i = 6 := by omega
      obtain ⟨t1, t2, -, -, -⟩ := hT.2.2.1.2 b hb hr l hl6
      have c6 := zcnt_le (anB z b l) 6
      show fX1_doorThrough_4b N (fX1_doorThrough_4 N n) b (Int32.ofNat l) (Int32.ofNat (zcnt (anB z b l) 6)) (Int32.ofNat 6) z = _
      unfold fX1_doorThrough_4b fX1_doorThrough_82
      rw [hl, if_pos (show Int32.ofNat 6 ≤ Int32.ofNat 6 by decide), zc_unusedDoor hT hb hr hN, zc_e]
      have hm4 : (zgI z 2 4 (6 * b + l)).toNatClampNeg = m := by rw [h4, zoC (by omega)]
      unfold thB
      rw [hm4]
      cases hu : zfst (unB z b) 6 0 with
      | none =>
        dsimp only
        rw [if_pos (show (-1 : Int32) < 0 by decide)]
        split <;> rfl
      | some d =>
        obtain ⟨-, hd, -, -⟩ := zfst_some hu
        obtain ⟨u1, u2, -, -, -⟩ := hT.2.2.1.2 b hb hr d (by omega)
        dsimp only
        rw [if_neg (zo_nn (by omega)), zkk (by omega) (by omega), zl_e, zoC (by omega), t1, zd_e, h4]
        by_cases c : zcnt (anB z b l) 6 < m
        · rw [if_pos (by rw [zo_lt (by omega) (by omega)]; exact c), if_pos c, zkk (by omega) (by omega), zl_e, zoC (by omega), u1]
          rfl
        · rw [if_neg (by rw [zo_lt (by omega) (by omega)]; exact c), if_neg c]
          rfl
    | succ m' ih =>
      intro i n hi hn
      obtain ⟨n, rfl⟩ : ∃ k, n = k + 1 := ⟨n - 1, by omega⟩
      obtain ⟨t1, t2, -, -, -⟩ := hT.2.2.1.2 b hb hr i (by omega)
      have next := ih (i + 1) n (by omega) (by omega)
      show fX1_doorThrough_4b N (fX1_doorThrough_4 N n) b (Int32.ofNat l) (Int32.ofNat (zcnt (anB z b l) i)) (Int32.ofNat i) z = _
      unfold fX1_doorThrough_4b fX1_doorThrough_54
      rw [hl, if_neg (show ¬ Int32.ofNat 6 ≤ Int32.ofNat i by rw [zo_le (by omega) (by omega)]; omega), zkk (by omega) (by omega), zl_e, zoC (by omega), t1, zd_e]
      have stay : anB z b l i = false → zcnt (anB z b l) (i + 1) = zcnt (anB z b l) i := fun q => by
        show zcnt (anB z b l) i + (if anB z b l i = true then 1 else 0) = _
        rw [q]; rfl
      by_cases c0 : zgI z 2 0 (6 * b + i) = 2
      · rw [if_neg (fun y => y c0)]
        by_cases c1 : zgI z 2 5 (6 * b + i) = Int32.ofNat l
        · rw [if_neg (fun y => y c1), zl_e, t2, zd_e]
          by_cases c2 : zgI z 3 0 (6 * b + i) = 3
          · have q : zcnt (anB z b l) (i + 1) = zcnt (anB z b l) i + 1 := by
              show zcnt (anB z b l) i + (if anB z b l i = true then 1 else 0) = _
              rw [if_pos (by unfold anB; simp [c0, c1, c2])]
            rw [if_neg (fun y => y c2), zl_e, zl_e, zo_i1, zo_i1, ← q]
            exact next
          · rw [stay (by unfold anB; simp [c2])] at next
            rw [if_pos c2, zl_e, zo_i1]
            exact next
        · rw [stay (by unfold anB; simp [c1])] at next
          rw [if_pos c1, zl_e, zo_i1]
          exact next
      · rw [stay (by unfold anB; simp [c0])] at next
        rw [if_pos c0, zl_e, zo_i1]
        exact next
  unfold fX1_doorThrough
  exact key 6 0 N (by omega) (by omega)
