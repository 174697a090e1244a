/-! a segment's door: the model's loops -/
/-- what a door's use says of the model's door -/
theorem zRd_0 {z w : St} {e : Nat} (h : zRd z w e) : (zgI z 2 0 e = 0 ∧ zgI w 13 0 e = 0 ∧ zgI w 13 3 e = 0) ∨ (zgI z 2 0 e = 1 ∧ zgI w 13 0 e = 1 ∧ zgI w 13 3 e = 0 ∧ zgI z 2 1 e = zgI w 13 1 e ∧ zgI z 2 4 e = zgI w 13 2 e) ∨ (zgI z 2 0 e = 2 ∧ zgI w 13 0 e = 0 ∧ zgI w 13 3 e = 1 ∧ zgI z 2 1 e = zgI w 14 2 e ∧ zgI z 2 2 e = zgI w 14 3 e ∧ zgI z 2 3 e = zgI w 14 4 e ∧ zgI z 2 5 e = zgI w 13 5 e ∧ zgI z 3 0 e = zgI w 14 0 e) := by
  rcases h.2 with y | y | y
  · exact Or.inl ⟨y.1, y.2.1, y.2.2.1⟩
  · exact Or.inr (Or.inl ⟨y.1, y.2.1, y.2.2.1, y.2.2.2.1, y.2.2.2.2.2.2⟩)
  · obtain ⟨a1, a2, a3, a4, a5, a6, a7, a8, a9, a10, a11, -⟩ := y
    exact Or.inr (Or.inr ⟨a1, a2, a3, a4, a5, a6, a7, a11.1.1⟩)
/-- the segment arrives at its door's end -/
def zsgA (N e : Nat) (s : Int32) (w : St) : Option (Int32 × St) := zc (fX19_arrives N 0 e s w) fun r34 z35 => if r34 = 0 then (some (0, z35)) else (zc (fX14_begin N e (zgI z35 14 5 e) (zgI z35 14 14 e) z35) fun _ z40 => zk (zgI z40 14 44 e) 2592 <| zl (zsA z40 182 0 (Int32.toNatClampNeg (zgI z40 14 44 e)) (0 : Int32)) fun z43 => zc (fX19_dropBook N 0 (zgI z43 14 45 e) z43) fun _ z45 => zl (zsI z45 14 45 e (-1 : Int32)) fun z48 => zl (zsI z48 14 0 e (1 : Int32)) fun z49 => zl (zsI z49 14 1 e (1 : Int32)) fun z50 => some (0, z50))
/-- no door has it -/
def zsgB (N b : Nat) (s peer own pp : Int32) (w : St) : Option (Int32 × St) := zc (fX19_has N 0 s (1 : Int32) w) fun r2 z3 => if r2 = 0 then (fX19_segment_244 N 0 b s peer own pp z3) else (zc (fX19_has N 0 s (4 : Int32) z3) fun r7 z8 => if ¬ r7 = 0 then (fX19_segment_244 N 0 b s peer own pp z8) else (zc (fX19_has N 0 s (8 : Int32) z8) fun r12 z13 => if ¬ r12 = 0 then (fX19_segment_244 N 0 b s peer own pp z13) else (fX19_segment_189 N N 0 b s peer own pp (0 : Int32) z13)))
theorem zm_segLoop {z w : St} {T : Tp} {b N : Nat} {s own src oth : Int32} (hM : zTM w T) (hb : b < tb T) (hr : tr T b = false) (hR : zRE z w T) (hN : 6 < N) : fX19_segment_19 N N 0 b s src own oth 0 w = (match zfst (lvB z b own src oth) 6 0 with | some d => zsgA N (6 * b + d) s w | none => zsgB N b s src own oth w) := by
  refine zlf0 (G := fun n i => fX19_segment_19 N n 0 b s src own oth (Int32.ofNat i) w) (p := lvB z b own src oth) (f := fun d => zsgA N (6 * b + d) s w) (r := zsgB N b s src own oth w) (k := 6) (by omega) ?_ ?_ ?_
  · intro n i hi hp
    obtain ⟨t1, t2⟩ := hM.2.2.1 b hb hr i hi
    show fX19_segment_19b N (fX19_segment_19 N n) 0 b s src own oth (Int32.ofNat i) w = _
    unfold fX19_segment_19b fX19_segment_152
    rw [show (6 : Int32) = Int32.ofNat 6 from rfl, if_neg (show ¬ Int32.ofNat 6 ≤ Int32.ofNat i by rw [zo_le (by omega) (by omega)]; omega), zkk (by omega) (by omega), zl_e, zoC (by omega), t1, zd_e, zl_e, zkk (by omega) (by omega), zl_e, zd_e, t2, zd_e]
    rcases zRd_0 (hR b i hb hr hi) with y | y | y
    · rw [if_pos y.2.2, zl_e, zo_i1]
    · rw [if_pos y.2.2.1, zl_e, zo_i1]
    · obtain ⟨a1, a2, a3, a4, a5, a6, a7, a8⟩ := y
      rw [if_neg (show ¬ zgI w 13 3 (6 * b + i) = 0 by rw [a3]; decide), zm_isDead, zc_e, ← a8]
      by_cases c4 : stD (zgI z 3 0 (6 * b + i)) = true
      · rw [c4, if_pos (show ¬ zbi true = 0 by decide), zl_e, zo_i1]
      · have c4 : stD (zgI z 3 0 (6 * b + i)) = false := by simpa using c4
        rw [c4, if_neg (show ¬ ¬ zbi false = 0 by decide), ← a4, ← a5, ← a6]
        by_cases c1 : zgI z 2 1 (6 * b + i) = own
        · rw [if_neg (fun y => y c1)]
          by_cases c2 : zgI z 2 2 (6 * b + i) = src
          · rw [if_neg (fun y => y c2)]
            by_cases c3 : zgI z 2 3 (6 * b + i) = oth
            · have := lvB_iff.mpr ⟨a1, c1, c2, c3, c4⟩
              rw [this] at hp; cases hp
            · rw [if_pos c3, zl_e, zo_i1]
          · rw [if_pos c2, zl_e, zo_i1]
        · rw [if_pos c1, zl_e, zo_i1]
  · intro n i hi hp
    obtain ⟨t1, t2⟩ := hM.2.2.1 b hb hr i hi
    obtain ⟨c0, c1, c2, c3, c4⟩ := lvB_iff.mp hp
    show fX19_segment_19b N (fX19_segment_19 N n) 0 b s src own oth (Int32.ofNat i) w = _
    unfold fX19_segment_19b fX19_segment_152
    rw [show (6 : Int32) = Int32.ofNat 6 from rfl, if_neg (show ¬ Int32.ofNat 6 ≤ Int32.ofNat i by rw [zo_le (by omega) (by omega)]; omega), zkk (by omega) (by omega), zl_e, zoC (by omega), t1, zd_e, zl_e, zkk (by omega) (by omega), zl_e, zd_e, t2, zd_e]
    rcases zRd_0 (hR b i hb hr hi) with y | y | y
    · rw [y.1] at c0; exact absurd c0 (by decide)
    · rw [y.1] at c0; exact absurd c0 (by decide)
    · obtain ⟨a1, a2, a3, a4, a5, a6, a7, a8⟩ := y
      rw [if_neg (show ¬ zgI w 13 3 (6 * b + i) = 0 by rw [a3]; decide), zm_isDead, zc_e, ← a8, c4, if_neg (show ¬ ¬ zbi false = 0 by decide), ← a4, ← a5, ← a6, if_neg (fun y => y c1), if_neg (fun y => y c2), if_neg (fun y => y c3)]
      rfl
  · intro n
    show fX19_segment_19b N (fX19_segment_19 N n) 0 b s src own oth (Int32.ofNat 6) w = _
    unfold fX19_segment_19b
    rw [if_pos (show (6 : Int32) ≤ Int32.ofNat 6 by decide)]
    rfl
theorem zm_segLis {z w : St} {T : Tp} {b N : Nat} {s own src oth : Int32} (hM : zTM w T) (hb : b < tb T) (hr : tr T b = false) (hR : zRE z w T) (hN : 6 < N) : fX19_segment_189 N N 0 b s src own oth 0 w = (match zfst (lsB z b own) 6 0 with | some d => (zc (fX19_knock N 0 b (Int32.ofNat d) s own src oth w) fun _ z11 => some (0, z11)) | none => fX19_segment_244 N 0 b s src own oth w) := by
  refine zlf0 (G := fun n i => fX19_segment_189 N n 0 b s src own oth (Int32.ofNat i) w) (p := lsB z b own) (f := fun d => (zc (fX19_knock N 0 b (Int32.ofNat d) s own src oth w) fun _ z11 => some (0, z11))) (r := fX19_segment_244 N 0 b s src own oth w) (k := 6) (by omega) ?_ ?_ ?_
  · intro n i hi hp
    obtain ⟨t1, t2⟩ := hM.2.2.1 b hb hr i hi
    show fX19_segment_189b N (fX19_segment_189 N n) 0 b s src own oth (Int32.ofNat i) w = _
    unfold fX19_segment_189b fX19_segment_238
    rw [show (6 : Int32) = Int32.ofNat 6 from rfl, if_neg (show ¬ Int32.ofNat 6 ≤ Int32.ofNat i by rw [zo_le (by omega) (by omega)]; omega), zkk (by omega) (by omega), zl_e, zoC (by omega), t1, zd_e]
    rcases zRd_0 (hR b i hb hr hi) with y | y | y
    · rw [if_pos y.2.1, zl_e, zo_i1]
    · rw [if_neg (show ¬ zgI w 13 0 (6 * b + i) = 0 by rw [y.2.1]; decide), zkk (by omega) (by omega), zl_e, zd_e, ← y.2.2.2.1]
      by_cases c1 : zgI z 2 1 (6 * b + i) = own
      · unfold lsB at hp
        rw [decide_eq_true y.1, decide_eq_true c1] at hp; cases hp
      · rw [if_pos c1, zl_e, zo_i1]
    · rw [if_pos y.2.1, zl_e, zo_i1]
  · intro n i hi hp
    obtain ⟨t1, t2⟩ := hM.2.2.1 b hb hr i hi
    unfold lsB at hp
    simp only [Bool.and_eq_true, decide_eq_true_eq] at hp
    show fX19_segment_189b N (fX19_segment_189 N n) 0 b s src own oth (Int32.ofNat i) w = _
    unfold fX19_segment_189b
    rw [show (6 : Int32) = Int32.ofNat 6 from rfl, if_neg (show ¬ Int32.ofNat 6 ≤ Int32.ofNat i by rw [zo_le (by omega) (by omega)]; omega), zkk (by omega) (by omega), zl_e, zoC (by omega), t1, zd_e]
    rcases zRd_0 (hR b i hb hr hi) with y | y | y
    · rw [y.1] at hp; exact absurd hp.1 (by decide)
    · rw [if_neg (show ¬ zgI w 13 0 (6 * b + i) = 0 by rw [y.2.1]; decide), zkk (by omega) (by omega), zl_e, zd_e, ← y.2.2.2.1, if_neg (fun y => y hp.2)]
    · rw [y.1] at hp; exact absurd hp.1 (by decide)
  · intro n
    show fX19_segment_189b N (fX19_segment_189 N n) 0 b s src own oth (Int32.ofNat 6) w = _
    unfold fX19_segment_189b
    rw [if_pos (show (6 : Int32) ≤ Int32.ofNat 6 by decide)]
theorem zm_leastFree {z w : St} {T : Tp} {b N : Nat} (hM : zTM w T) (hb : b < tb T) (hr : tr T b = false) (hR : zRE z w T) (hN : 6 < N) : fX19_leastFree N b w = some ((match zfst (unB z b) 6 0 with | some d => Int32.ofNat d | none => (-1 : Int32)), w) := by
  unfold fX19_leastFree
  refine (zlf0 (G := fun n i => fX19_leastFree_2 N n b (Int32.ofNat i) w) (p := unB z b) (f := fun d => some (Int32.ofNat d, w)) (r := some ((-1 : Int32), w)) (k := 6) (by omega) ?_ ?_ ?_).trans ?_
  · intro n i hi hp
    obtain ⟨t1, t2⟩ := hM.2.2.1 b hb hr i hi
    show fX19_leastFree_2b N (fX19_leastFree_2 N n) b (Int32.ofNat i) w = _
    unfold fX19_leastFree_2b fX19_leastFree_34
    rw [show (6 : Int32) = Int32.ofNat 6 from rfl, if_neg (show ¬ Int32.ofNat 6 ≤ Int32.ofNat i by rw [zo_le (by omega) (by omega)]; omega), zkk (by omega) (by omega), zl_e, zoC (by omega), t1, zd_e]
    have hp : ¬ zgI z 2 0 (6 * b + i) = 0 := of_decide_eq_false hp
    rcases zRd_0 (hR b i hb hr hi) with y | y | y
    · exact absurd y.1 hp
    · rw [if_neg (show ¬ ¬ zgI w 13 3 (6 * b + i) = 0 from fun q => q y.2.2.1), zkk (by omega) (by omega), zl_e, zd_e, if_pos (show ¬ zgI w 13 0 (6 * b + i) = 0 by rw [y.2.1]; decide), zl_e, zo_i1]
    · rw [if_pos (show ¬ zgI w 13 3 (6 * b + i) = 0 by rw [y.2.2.1]; decide), zl_e, zo_i1]
  · intro n i hi hp
    obtain ⟨t1, t2⟩ := hM.2.2.1 b hb hr i hi
    show fX19_leastFree_2b N (fX19_leastFree_2 N n) b (Int32.ofNat i) w = _
    unfold fX19_leastFree_2b
    rw [show (6 : Int32) = Int32.ofNat 6 from rfl, if_neg (show ¬ Int32.ofNat 6 ≤ Int32.ofNat i by rw [zo_le (by omega) (by omega)]; omega), zkk (by omega) (by omega), zl_e, zoC (by omega), t1, zd_e]
    have hp : zgI z 2 0 (6 * b + i) = 0 := of_decide_eq_true hp
    rcases zRd_0 (hR b i hb hr hi) with y | y | y
    · rw [if_neg (show ¬ ¬ zgI w 13 3 (6 * b + i) = 0 from fun q => q y.2.2), zkk (by omega) (by omega), zl_e, zd_e, if_neg (show ¬ ¬ zgI w 13 0 (6 * b + i) = 0 from fun q => q y.2.1)]
    · rw [y.1] at hp; exact absurd hp (by decide)
    · rw [y.1] at hp; exact absurd hp (by decide)
  · intro n
    show fX19_leastFree_2b N (fX19_leastFree_2 N n) b (Int32.ofNat 6) w = _
    unfold fX19_leastFree_2b
    rw [if_pos (show (6 : Int32) ≤ Int32.ofNat 6 by decide)]
  · cases zfst (unB z b) 6 0 <;> rfl
/-- the new end of a door that was knocked at -/
def zknK (N b d : Nat) (l : Int32) (s own src oth : Int32) (w : St) : Option (Int32 × St) := zc (fX19_giveEnd N 0 b (6 * b + d) own src oth w) fun _ z15 => zl (zsI z15 13 5 (6 * b + d) l) fun z18 => zl (zsI z18 13 6 (6 * b + d) (1 : Int32)) fun z19 => zl (zgR z19 13 4 (6 * b + d)) fun y20 => zd y20 fun a21 => zl (zsI z19 14 0 a21 (1 : Int32)) fun z22 => zl (zgR z22 13 4 (6 * b + d)) fun y23 => zd y23 fun a24 => zl (zsI z22 14 1 a24 (1 : Int32)) fun z25 => zl (zgR z25 13 4 (6 * b + d)) fun y26 => zd y26 fun a27 => zc (fX19_arrives N 0 a27 s z25) fun r28 z29 => some (0, z29)
theorem zm_knock {z w : St} {T : Tp} {b l m N : Nat} {s own src oth : Int32} (hM : zTM w T) (hb : b < tb T) (hr : tr T b = false) (hR : zRE z w T) (hl6 : l < 6) (h0 : zgI z 2 0 (6 * b + l) = 1) (h4 : zgI z 2 4 (6 * b + l) = Int32.ofNat m) (hm : m ≤ 5) (hN : 6 < N) : fX19_knock N 0 b (Int32.ofNat l) s own src oth w = (match thB z b l with | some d => zknK N b d (Int32.ofNat l) s own src oth w | none => some (0, w)) := by
  have key : ∀ (k i n : Nat), i + k = 6 → k < n → fX19_knock_6 N n 0 b (Int32.ofNat l) s own src oth (Int32.ofNat (zcnt (anB z b l) i)) (Int32.ofNat i) w = (match thB z b l with | some d => zknK N b d (Int32.ofNat l) s own src oth w | none => some (0, w)) := by
    intro k
    induction k with
    | zero =>
      intro i n hi hn
      obtain ⟨n, rfl⟩ : ∃ k, n = k + 1 := ⟨n - 1, by omega⟩
      obtain rfl : i = 6 := by omega
      obtain ⟨t1, t2⟩ := hM.2.2.1 b hb hr l hl6
      have c6 := zcnt_le (anB z b l) 6
      have h42 : zgI w 13 2 (6 * b + l) = Int32.ofNat m := by
        rcases zRd_0 (hR b l hb hr hl6) with y | y | y
        · rw [y.1] at h0; exact absurd h0 (by decide)
        · rw [← y.2.2.2.2]; exact h4
        · rw [y.1] at h0; exact absurd h0 (by decide)
      show fX19_knock_6b N (fX19_knock_6 N n) 0 b (Int32.ofNat l) s own src oth (Int32.ofNat (zcnt (anB z b l) 6)) (Int32.ofNat 6) w = _
      unfold fX19_knock_6b
      rw [if_pos (show (6 : Int32) ≤ Int32.ofNat 6 by decide), zm_leastFree hM hb hr hR hN, zc_e, zkk (by omega) (by omega), zl_e, zoC (by omega), t1, zd_e, h42]
      have hm4 : (zgI z 2 4 (6 * b + l)).toNatClampNeg = m := by rw [h4, zoC (by omega)]
      unfold thB
      rw [hm4]
      by_cases c : zcnt (anB z b l) 6 < m
      · rw [if_neg (by rw [zo_le (by omega) (by omega)]; omega), if_pos c]
        cases hu : zfst (unB z b) 6 0 with
        | none =>
          dsimp only
          rw [if_neg (fun y => y rfl)]
        | some d =>
          obtain ⟨-, hd, -, -⟩ := zfst_some hu
          obtain ⟨u1, u2⟩ := hM.2.2.1 b hb hr d (by omega)
          dsimp only
          rw [if_pos (zo_ne1 (by omega)), zkk (by omega) (by omega), zl_e, zoC (by omega), u1, zd_e]
          rfl
      · rw [if_pos (by rw [zo_le (by omega) (by omega)]; omega), if_neg c]
    | succ k ih =>
      intro i n hi hn
      obtain ⟨n, rfl⟩ : ∃ k, n = k + 1 := ⟨n - 1, by omega⟩
      obtain ⟨t1, t2⟩ := hM.2.2.1 b hb hr i (by omega)
      have next := ih (i + 1) n (by omega) (by omega)
      show fX19_knock_6b N (fX19_knock_6 N n) 0 b (Int32.ofNat l) s own src oth (Int32.ofNat (zcnt (anB z b l) i)) (Int32.ofNat i) w = _
      unfold fX19_knock_6b fX19_knock_57 fX19_knock_58
      rw [show (6 : Int32) = Int32.ofNat 6 from rfl, if_neg (show ¬ Int32.ofNat 6 ≤ Int32.ofNat i by rw [zo_le (by omega) (by omega)]; omega), zkk (by omega) (by omega), zl_e, zoC (by omega), t1, zd_e]
      have stay : anB z b l i = false → zcnt (anB z b l) (i + 1) = zcnt (anB z b l) i := fun q => by
        show zcnt (anB z b l) i + (if anB z b l i = true then 1 else 0) = _
        rw [q]; rfl
      have z0 : ∀ a : Int32, a + 0 = a := fun a => Int32.add_zero a
      rcases zRd_0 (hR b i hb hr (by omega)) with y | y | y
      · rw [stay (by unfold anB; simp [y.1])] at next
        rw [if_pos y.2.2, zl_e, zl_e, z0, zo_i1]; exact next
      · rw [stay (by unfold anB; simp [y.1])] at next
        rw [if_pos y.2.2.1, zl_e, zl_e, z0, zo_i1]; exact next
      · obtain ⟨a1, a2, a3, a4, a5, a6, a7, a8⟩ := y
        rw [if_neg (show ¬ zgI w 13 3 (6 * b + i) = 0 by rw [a3]; decide), ← a7]
        by_cases c1 : zgI z 2 5 (6 * b + i) = Int32.ofNat l
        · rw [if_neg (fun y => y c1), zl_e, t2, zd_e, ← a8]
          by_cases c2 : zgI z 3 0 (6 * b + i) = 3
          · have q : zcnt (anB z b l) (i + 1) = zcnt (anB z b l) i + 1 := by
              show zcnt (anB z b l) i + (if anB z b l i = true then 1 else 0) = _
              rw [if_pos (by unfold anB; simp [a1, c1, c2])]
            rw [if_neg (fun y => y c2), zl_e, zl_e, zo_i1, zo_i1, ← q]
            exact next
          · rw [stay (by unfold anB; simp [c2])] at next
            rw [if_pos c2, zl_e, zl_e, z0, zo_i1]
            exact next
        · rw [stay (by unfold anB; simp [c1])] at next
          rw [if_pos c1, zl_e, zl_e, z0, zo_i1]
          exact next
  unfold fX19_knock
  exact key 6 0 N (by omega) (by omega)
