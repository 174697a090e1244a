/-! ends, both sides: what they are -/
/-- an end, both sides -/
def zEe (z w : St) (e : Nat) : Prop := zRs z w e ∧ zRo z w e ∧ zRi z w e ∧ zRt z w e ∧ zRn z w e
/-- only end e changes, the class; the model -/
def zEc1 (e : Nat) (z z' : St) : Prop := (∀ k j o, ¬ ((k = 3 ∨ k = 4 ∨ k = 6 ∨ k = 10) ∧ o = e) → zgI z' k j o = zgI z k j o) ∧ (∀ k o i, ¬ ((k = 120 ∨ k = 121 ∨ k = 124) ∧ o = e) → zgA z' k o i = zgA z k o i) ∧ (∀ k o i, zgL z' k o i = zgL z k o i) ∧ (∀ k o i, zgQ z' k o i = zgQ z k o i) ∧ ∀ k o i, zgR z' k o i = zgR z k o i
/-- which books the end holds and reads stays as it is -/
def zEm1 (e : Nat) (w w' : St) : Prop := (∀ k j o, ¬ (k = 14 ∧ o = e ∧ ¬ (j = 2 ∨ j = 3 ∨ j = 4 ∨ j = 44 ∨ j = 45 ∨ j = 46)) → zgI w' k j o = zgI w k j o) ∧ (∀ k o i, ¬ ((k = 159 ∨ k = 160 ∨ k = 161) ∧ o = e) → zgA w' k o i = zgA w k o i) ∧ (∀ k o i, zgL w' k o i = zgL w k o i) ∧ (∀ k o i, zgQ w' k o i = zgQ w k o i) ∧ ∀ k o i, zgR w' k o i = zgR w k o i
theorem zEc1_rf (e : Nat) (z : St) : zEc1 e z z := ⟨fun _ _ _ _ => rfl, fun _ _ _ _ => rfl, fun _ _ _ => rfl, fun _ _ _ => rfl, fun _ _ _ => rfl⟩
theorem zEm1_rf (e : Nat) (z : St) : zEm1 e z z := ⟨fun _ _ _ _ => rfl, fun _ _ _ _ => rfl, fun _ _ _ => rfl, fun _ _ _ => rfl, fun _ _ _ => rfl⟩
theorem zEc1_tr {e : Nat} {x y z : St} (h1 : zEc1 e x y) (h2 : zEc1 e y z) : zEc1 e x z := ⟨fun k j o n => (h2.1 k j o n).trans (h1.1 k j o n), fun k o i n => (h2.2.1 k o i n).trans (h1.2.1 k o i n), fun k o i => (h2.2.2.1 k o i).trans (h1.2.2.1 k o i), fun k o i => (h2.2.2.2.1 k o i).trans (h1.2.2.2.1 k o i), fun k o i => (h2.2.2.2.2 k o i).trans (h1.2.2.2.2 k o i)⟩
theorem zEm1_tr {e : Nat} {x y z : St} (h1 : zEm1 e x y) (h2 : zEm1 e y z) : zEm1 e x z := ⟨fun k j o n => (h2.1 k j o n).trans (h1.1 k j o n), fun k o i n => (h2.2.1 k o i n).trans (h1.2.1 k o i n), fun k o i => (h2.2.2.1 k o i).trans (h1.2.2.1 k o i), fun k o i => (h2.2.2.2.1 k o i).trans (h1.2.2.2.1 k o i), fun k o i => (h2.2.2.2.2 k o i).trans (h1.2.2.2.2 k o i)⟩
theorem zEc1_I {e k j : Nat} {z : St} {v : Int32} (hk : k = 3 ∨ k = 4 ∨ k = 6 ∨ k = 10) : zEc1 e z (zsI z k j e v) := ⟨fun k' j' o n => by rw [zgI_sI, if_neg (fun y => n ⟨by rw [y.1]; exact hk, y.2.2⟩)], fun _ _ _ _ => rfl, fun _ _ _ => rfl, fun _ _ _ => rfl, fun _ _ _ => rfl⟩
theorem zEm1_I {e j : Nat} {z : St} {v : Int32} (hj : ¬ (j = 2 ∨ j = 3 ∨ j = 4 ∨ j = 44 ∨ j = 45 ∨ j = 46) := by omega) : zEm1 e z (zsI z 14 j e v) := ⟨fun k' j' o n => by rw [zgI_sI, if_neg (fun y => n ⟨y.1, y.2.2, by rw [y.2.1]; exact hj⟩)], fun _ _ _ _ => rfl, fun _ _ _ => rfl, fun _ _ _ => rfl, fun _ _ _ => rfl⟩
theorem zEc1_A {e k i : Nat} {z : St} {v : Int32} (hk : k = 120 ∨ k = 121 ∨ k = 124) : zEc1 e z (zsA z k e i v) := ⟨fun _ _ _ _ => rfl, fun k' o i' n => by rw [zgA_sA, if_neg (fun y => n ⟨by rw [y.1]; exact hk, y.2.1⟩)], fun _ _ _ => rfl, fun _ _ _ => rfl, fun _ _ _ => rfl⟩
theorem zEm1_A {e k i : Nat} {z : St} {v : Int32} (hk : k = 159 ∨ k = 160 ∨ k = 161) : zEm1 e z (zsA z k e i v) := ⟨fun _ _ _ _ => rfl, fun k' o i' n => by rw [zgA_sA, if_neg (fun y => n ⟨by rw [y.1]; exact hk, y.2.1⟩)], fun _ _ _ => rfl, fun _ _ _ => rfl, fun _ _ _ => rfl⟩
def stD (s : Int32) : Bool := decide (s = 0 ∨ s = 11)
def stN (s : Int32) : Bool := decide (s = 4 ∨ s = 5 ∨ s = 7 ∨ s = 8 ∨ s = 9)
def stI (s : Int32) : Bool := decide (s = 4 ∨ s = 5 ∨ s = 6)
theorem zc_isDead (z : St) (e N : Nat) : fX3_isDead N e z = some (zbi (stD (zgI z 3 0 e)), z) := by
  unfold fX3_isDead fX3_isDead_16 stD
  by_cases c : zgI z 3 0 e = 0
  · rw [if_pos c, decide_eq_true (Or.inl c)]; rfl
  · rw [if_neg c]
    by_cases d : zgI z 3 0 e = 11
    · rw [if_neg (fun y => y d), decide_eq_true (Or.inr d)]; rfl
    · rw [if_pos d, decide_eq_false (fun y => y.elim c d)]; rfl
theorem zm_isDead (w : St) (e N : Nat) : fX14_isDead N e w = some (zbi (stD (zgI w 14 0 e)), w) := by
  unfold fX14_isDead fX14_isDead_16 stD
  by_cases c : zgI w 14 0 e = 0
  · rw [if_pos c, decide_eq_true (Or.inl c)]; rfl
  · rw [if_neg c]
    by_cases d : zgI w 14 0 e = 11
    · rw [if_neg (fun y => y d), decide_eq_true (Or.inr d)]; rfl
    · rw [if_pos d, decide_eq_false (fun y => y.elim c d)]; rfl
theorem zi79 (s : Int32) : (¬ s < 7 ∧ ¬ 9 < s) ↔ (s = 7 ∨ s = 8 ∨ s = 9) := by
  rw [Int32.lt_iff_toInt_lt, Int32.lt_iff_toInt_lt, ← Int32.toInt_inj, ← Int32.toInt_inj, ← Int32.toInt_inj]
  show (¬ s.toInt < 7 ∧ ¬ 9 < s.toInt) ↔ (s.toInt = 7 ∨ s.toInt = 8 ∨ s.toInt = 9)
  omega
theorem zc_sendsNew (z : St) (e N : Nat) : fX3_sendsNew N e z = some (zbi (stN (zgI z 3 0 e)), z) := by
  unfold fX3_sendsNew fX3_sendsNew_34 stN
  generalize zgI z 3 0 e = s
  have h := zi79 s
  by_cases c4 : s = 4
  · rw [if_pos c4, decide_eq_true (Or.inl c4)]; rfl
  · rw [if_neg c4]
    by_cases c5 : s = 5
    · rw [if_pos c5, decide_eq_true (Or.inr (Or.inl c5))]; rfl
    · rw [if_neg c5]
      by_cases c7 : s < 7
      · rw [if_pos c7, decide_eq_false]; · rfl
        rintro (y | y | y)
        · exact c4 y
        · exact c5 y
        · exact (h.mpr y).1 c7
      · rw [if_neg c7]
        by_cases c9 : 9 < s
        · rw [if_pos c9, decide_eq_false]; · rfl
          rintro (y | y | y)
          · exact c4 y
          · exact c5 y
          · exact (h.mpr y).2 c9
        · rw [if_neg c9, decide_eq_true (Or.inr (Or.inr (h.mp ⟨c7, c9⟩)))]; rfl
theorem zm_sendsNew (w : St) (e N : Nat) : fX14_sendsNew N e w = some (zbi (stN (zgI w 14 0 e)), w) := by
  unfold fX14_sendsNew fX14_sendsNew_43 stN
  generalize zgI w 14 0 e = s
  by_cases c4 : s = 4
  · rw [if_pos c4, decide_eq_true (Or.inl c4)]; rfl
  · rw [if_neg c4]
    by_cases c5 : s = 5
    · rw [if_pos c5, decide_eq_true (Or.inr (Or.inl c5))]; rfl
    · rw [if_neg c5]
      by_cases c7 : s = 7
      · rw [if_pos c7, decide_eq_true (Or.inr (Or.inr (Or.inl c7)))]; rfl
      · rw [if_neg c7]
        by_cases c8 : s = 8
        · rw [if_pos c8, decide_eq_true (Or.inr (Or.inr (Or.inr (Or.inl c8))))]; rfl
        · rw [if_neg c8]
          by_cases c9 : s = 9
          · rw [if_neg (fun y => y c9), decide_eq_true (Or.inr (Or.inr (Or.inr (Or.inr c9))))]; rfl
          · rw [if_pos c9, decide_eq_false]; · rfl
            rintro (y | y | y | y | y)
            · exact c4 y
            · exact c5 y
            · exact c7 y
            · exact c8 y
            · exact c9 y
/-- the room that an end has -/
theorem zi_sub0 (a : Int32) : a - 0 = a := by
  rw [← Int32.toBitVec_inj]; simp
theorem zi_cancel {a b c : Int32} (h : a = b + c) : a - b = c := by
  rw [h, ← Int32.toBitVec_inj]
  rw [Int32.toBitVec_sub, Int32.toBitVec_add]
  rw [BitVec.add_comm]; exact BitVec.add_sub_cancel _ _
theorem zp_room {z w : St} {e N : Nat} (h : zRi z w e) : ∃ R, R ≤ 2048 ∧ zgI z 4 3 e = Int32.ofNat R ∧ fX4_room N e z = some (Int32.ofNat (2048 - R), z) ∧ fX14_readable N e w = some (Int32.ofNat R, w) ∧ fX14_room N e w = some (Int32.ofNat (2048 - R), w) := by
  obtain ⟨⟨i1, -, -, i4, -, i6, i7⟩, st, R, ⟨-, r2, -, r4⟩, h0, h1, -⟩ := h
  have e20 : (2048 : Int32) - Int32.ofNat R = Int32.ofNat (2048 - R) := zo_sub (a := 2048) r2
  have rd : fX14_readable N e w = some (Int32.ofNat R, w) := by
    unfold fX14_readable fX14_readable_27
    rcases i7 with c | c
    · rw [if_pos c, (h0 c).1]; rfl
    · rw [if_neg (by rw [c]; decide)]
      have := h1 c
      rcases i6 with d | d
      · rw [i4] at d
        rw [if_pos d]
        rw [i4, d, zi_sub0, i1] at this
        rw [zi_cancel this]
      · rw [i4] at d
        rw [if_neg (by rw [d]; decide)]
        rw [i4, d, i1] at this
        rw [zi_cancel this]
  refine ⟨R, r2, r4, ?_, rd, ?_⟩
  · unfold fX4_room; rw [r4, e20]
  · unfold fX14_room; rw [rd, zc_e, e20]
