/-! doors and ends: what the class's and the model's have to do with each other -/
/-- what an end is and owes -/
def zRs (z w : St) (e : Nat) : Prop :=
  (zgI z 3 0 e = zgI w 14 0 e ∧ zgI z 3 1 e = zgI w 14 14 e ∧ zgI z 3 2 e = zgI w 14 15 e ∧ (zgI z 3 3 e = 0 ↔ zgI w 14 1 e = 0) ∧ (zgI z 3 0 e = 10 → zgI z 3 4 e = zgI w 14 43 e)) ∧
  (zgI z 3 5 e = zgI w 14 24 e ∧ (¬ zgI z 3 5 e = 0 → zgI z 3 6 e = zgI w 14 25 e ∧ zgI z 3 7 e = zgI w 14 26 e ∧ zgI z 3 8 e = zgI w 14 27 e ∧ (zgI z 3 6 e = 4 ∨ zgI z 3 6 e = 12))) ∧
  (zgI z 3 9 e = zgI w 14 28 e ∧ zgI z 3 10 e = zgI w 14 29 e ∧ zgI z 3 11 e = zgI w 14 30 e ∧ zgI z 3 12 e = zgI w 14 31 e ∧ zgI z 3 13 e = zgI w 14 32 e ∧ (zgI z 3 13 e = 0 ∨ zgI z 3 13 e = 1))
/-- what an end has to send: o thanked for, n sent, W written (numbers behind the first one) -/
def zRo (z w : St) (e : Nat) : Prop :=
  (zgI z 6 4 e = zgI w 14 5 e ∧ zgI z 6 5 e = zgI w 14 6 e ∧ zgI z 6 6 e = zgI w 14 7 e ∧ zgI z 6 8 e = zgI w 14 9 e ∧ (zgI z 6 8 e = 0 ∨ zgI z 6 8 e = 1) ∧ zgI z 6 11 e = zgI w 14 11 e ∧ zgI z 6 12 e = zgI w 14 12 e ∧ zgI z 6 13 e = zgI w 14 13 e) ∧
  ∃ o n W st : Nat, (zgI z 6 5 e = zgI z 6 4 e + Int32.ofNat o ∧ zgI z 6 6 e = zgI z 6 4 e + Int32.ofNat n ∧ zgI w 14 8 e = zgI z 6 4 e + Int32.ofNat W ∧ 1 ≤ W ∧ W ≤ 1100000 ∧ o ≤ n ∧ n ≤ W + 1 ∧ (n = W + 1 → zgI z 6 8 e = 1) ∧ W - max 1 (min o W) ≤ 2048) ∧
    (st < 2048 ∧ zgI z 6 1 e = Int32.ofNat st ∧ zgI z 6 2 e = Int32.ofNat (W - max 1 (min o W)) ∧ zgI z 6 3 e = Int32.ofNat (min n W - max 1 (min o W)) ∧ zgI z 6 7 e = zbi (decide (1 ≤ o)) ∧ zgI z 6 9 e = zbi (decide (n = W + 1)) ∧ zgI z 6 10 e = zbi (decide (o = W + 1))) ∧
    ∀ i, i < W - max 1 (min o W) → zgA z 124 e ((st + i) % 2048) = zgA w 159 e ((max 1 (min o W) - 1 + i) % 2048)
/-- what came to an end -/
def zRi (z w : St) (e : Nat) : Prop :=
  (zgI z 4 4 e = zgI w 14 16 e ∧ zgI z 4 5 e = zgI w 14 21 e ∧ (zgI z 4 5 e = 1 → zgI z 4 6 e = zgI w 14 22 e) ∧ zgI z 4 7 e = zgI w 14 23 e ∧ (zgI z 4 5 e = 0 ∨ zgI z 4 5 e = 1) ∧ (zgI z 4 7 e = 0 ∨ zgI z 4 7 e = 1) ∧ (zgI w 14 17 e = 0 ∨ zgI w 14 17 e = 1)) ∧
  ∃ st R : Nat, (st < 2048 ∧ R ≤ 2048 ∧ zgI z 4 2 e = Int32.ofNat st ∧ zgI z 4 3 e = Int32.ofNat R) ∧
    (zgI w 14 17 e = 0 → R = 0 ∧ zgI z 4 4 e = 0 ∧ zgI z 4 7 e = 0 ∧ zgI z 4 5 e = 0) ∧
    (zgI w 14 17 e = 1 → zgI z 4 4 e - zgI z 4 7 e = zgI w 14 18 e + Int32.ofNat R) ∧
    (∀ i, i < R → zgA z 120 e ((st + i) % 2048) = zgA w 160 e (zun (zgI w 14 18 e + Int32.ofNat i) % 2048)) ∧
    (zgI z 4 7 e = 0 → ∀ k, k < 2048 → zgA z 121 e ((st + R + k) % 2048) = zgA w 161 e (zun (zgI z 4 4 e + Int32.ofNat k) % 2048) ∧ (zgA z 121 e ((st + R + k) % 2048) = 0 ∨ (zgA z 121 e ((st + R + k) % 2048) = 1 ∧ k < 2048 - R ∧ zgI w 14 17 e = 1 ∧ zgA z 120 e ((st + R + k) % 2048) = zgA w 160 e (zun (zgI z 4 4 e + Int32.ofNat k) % 2048))))
/-- an end's alarm and measuring -/
def zRt (z w : St) (e : Nat) : Prop :=
  ((zgI z 10 0 e = 0 ∧ zgI w 14 33 e = 0) ∨ (¬ zgI z 10 0 e = 0 ∧ zgI w 14 33 e = 1 ∧ zgI z 10 0 e = zgI w 14 34 e)) ∧
  (zgI z 10 1 e = zgI w 14 36 e ∧ zgI z 10 2 e = zgI w 14 35 e ∧ zgI z 10 3 e = zgI w 14 41 e ∧ zgI z 10 4 e = zgI w 14 42 e ∧ zgI z 10 5 e = zgI w 14 40 e ∧ zgI z 10 6 e = zgI w 14 37 e ∧ (zgI z 10 6 e = 0 ∨ zgI z 10 6 e = 1) ∧ (zgI z 10 6 e = 1 → zgI z 10 7 e = zgI w 14 38 e ∧ zgI z 10 8 e = zgI w 14 39 e) ∧ ∃ t : Nat, 20 ≤ t ∧ t ≤ 1200 ∧ zgI z 10 2 e = Int32.ofNat t)
/-- what else is so of an end: one that began has sent its first number; sizes -/
def zRqv (s h a9 a11 a13 f4 f5 f6 f7 t0 o7 : Int32) : Prop :=
  (¬ (s = 0 ∨ s = 1 ∨ s = 2 ∨ s = 11) → h = 1) ∧ (s = 1 ∨ s = 2 → h = 0) ∧ (¬ a13 = 0 → h = 1) ∧ (¬ a9 = 0 → s = 2 ∨ s = 3) ∧ (¬ a11 = 0 → h = 1 ∧ ¬ f7 = 0 ∧ ¬ f5 = f6) ∧ (¬ (s = 0 ∨ s = 1 ∨ s = 2 ∨ s = 3 ∨ s = 10 ∨ s = 11) → ¬ f7 = 0) ∧ (s = 1 ∨ s = 2 ∨ s = 3 → f5 = f4) ∧ (s = 1 → f6 = f4) ∧ (s = 2 ∨ s = 3 → f6 = f4 + 1) ∧ (s = 6 ∨ s = 10 → f5 = f6) ∧ (¬ t0 = 0 → ¬ (s = 0 ∨ s = 1 ∨ s = 10 ∨ s = 11)) ∧ (s = 3 ∨ s = 4 ∨ s = 5 ∨ s = 6 → o7 = 0)
/-- an end's state and what goes with it -/
def zRq (z w : St) (e : Nat) : Prop := zRqv (zgI z 3 0 e) (zgI w 14 17 e) (zgI z 3 9 e) (zgI z 3 11 e) (zgI z 3 13 e) (zgI z 6 4 e) (zgI z 6 5 e) (zgI z 6 6 e) (zgI z 6 7 e) (zgI z 10 0 e) (zgI z 4 7 e)
theorem zRqv_fin {s h f4 f5 f6 f7 o7 : Int32} (hs : s = 0 ∨ s = 11) : zRqv s h 0 0 0 f4 f5 f6 f7 0 o7 := by
  rcases hs with rfl | rfl <;> simp [zRqv]
theorem zRq_eq {z z' w w' : St} {e : Nat} (h3 : ∀ j, j = 0 ∨ j = 9 ∨ j = 11 ∨ j = 13 → zgI z' 3 j e = zgI z 3 j e) (h6 : ∀ j, 4 ≤ j ∧ j ≤ 7 → zgI z' 6 j e = zgI z 6 j e) (h10 : zgI z' 10 0 e = zgI z 10 0 e) (h4 : zgI z' 4 7 e = zgI z 4 7 e) (hm : zgI w' 14 17 e = zgI w 14 17 e) (h : zRq z w e) : zRq z' w' e := by
  unfold zRq at h ⊢
  rw [h3 0 (by omega), h3 9 (by omega), h3 11 (by omega), h3 13 (by omega), h6 4 (by omega), h6 5 (by omega), h6 6 (by omega), h6 7 (by omega), h10, h4, hm]
  exact h
def zRn (z w : St) (e : Nat) : Prop :=
  (zgI z 3 0 e = 11 ∨ zgI z 3 0 e = 0 ∨ zgI z 3 0 e = 1 ∨ ¬ zgI z 6 6 e = zgI z 6 4 e) ∧ (∃ p : Nat, 1 ≤ p ∧ p ≤ 1460 ∧ zgI z 3 2 e = Int32.ofNat p) ∧ (∃ p : Nat, 60 ≤ p ∧ p ≤ 1460 ∧ zgI z 3 1 e = Int32.ofNat p) ∧ (∃ v : Nat, v ≤ 65535 ∧ zgI z 6 11 e = Int32.ofNat v) ∧ zRq z w e
/-- a door -/
def zRd (z w : St) (e : Nat) : Prop :=
  (zgI z 2 9 e = zgI w 13 9 e) ∧
  ((zgI z 2 0 e = 0 ∧ zgI w 13 0 e = 0 ∧ zgI w 13 3 e = 0 ∧ zgI z 2 1 e = 0 ∧ zgI z 2 2 e = 0 ∧ zgI z 2 3 e = 0) ∨
   (zgI z 2 0 e = 1 ∧ zgI w 13 0 e = 1 ∧ zgI w 13 3 e = 0 ∧ zgI z 2 1 e = zgI w 13 1 e ∧ zgI z 2 2 e = 0 ∧ zgI z 2 3 e = 0 ∧ zgI z 2 4 e = zgI w 13 2 e) ∨
   (zgI z 2 0 e = 2 ∧ zgI w 13 0 e = 0 ∧ zgI w 13 3 e = 1 ∧ zgI z 2 1 e = zgI w 14 2 e ∧ zgI z 2 2 e = zgI w 14 3 e ∧ zgI z 2 3 e = zgI w 14 4 e ∧ zgI z 2 5 e = zgI w 13 5 e ∧ zgI z 2 6 e = zgI w 13 6 e ∧ zgI z 2 7 e = zgI w 13 7 e ∧ zgI z 2 8 e = zgI w 13 8 e ∧ zRs z w e ∧ zRo z w e ∧ zRi z w e ∧ zRt z w e ∧ zRn z w e))
/-- the class's, the model's door and end of a number as they were -/
def zSc (z z' : St) (e : Nat) : Prop := (∀ k j, j < 64 → k = 2 ∨ k = 3 ∨ k = 4 ∨ k = 6 ∨ k = 10 → zgI z' k j e = zgI z k j e) ∧ ∀ k i, k = 120 ∨ k = 121 ∨ k = 124 → zgA z' k e i = zgA z k e i
def zSm (w w' : St) (e : Nat) : Prop := (∀ k j, j < 64 → k = 13 ∨ k = 14 → zgI w' k j e = zgI w k j e) ∧ ∀ k i, k = 159 ∨ k = 160 ∨ k = 161 → zgA w' k e i = zgA w k e i
theorem zSc_rf (z : St) (e : Nat) : zSc z z e := ⟨fun _ _ _ _ => rfl, fun _ _ _ => rfl⟩
theorem zSm_rf (z : St) (e : Nat) : zSm z z e := ⟨fun _ _ _ _ => rfl, fun _ _ _ => rfl⟩
theorem zSc_tr {a b c : St} {e : Nat} (h1 : zSc a b e) (h2 : zSc b c e) : zSc a c e := ⟨fun k j l h => (h2.1 k j l h).trans (h1.1 k j l h), fun k i h => (h2.2 k i h).trans (h1.2 k i h)⟩
theorem zSm_tr {a b c : St} {e : Nat} (h1 : zSm a b e) (h2 : zSm b c e) : zSm a c e := ⟨fun k j l h => (h2.1 k j l h).trans (h1.1 k j l h), fun k i h => (h2.2 k i h).trans (h1.2 k i h)⟩
theorem zRd_cg {z z' w w' : St} {e : Nat} (hc : zSc z z' e) (hm : zSm w w' e) (h : zRd z w e) : zRd z' w' e := by
  have c2 : ∀ j, j < 64 → zgI z' 2 j e = zgI z 2 j e := fun j l => hc.1 2 j l (by simp)
  have c3 : ∀ j, j < 64 → zgI z' 3 j e = zgI z 3 j e := fun j l => hc.1 3 j l (by simp)
  have c4 : ∀ j, j < 64 → zgI z' 4 j e = zgI z 4 j e := fun j l => hc.1 4 j l (by simp)
  have c6 : ∀ j, j < 64 → zgI z' 6 j e = zgI z 6 j e := fun j l => hc.1 6 j l (by simp)
  have c10 : ∀ j, j < 64 → zgI z' 10 j e = zgI z 10 j e := fun j l => hc.1 10 j l (by simp)
  have a0 : ∀ i, zgA z' 120 e i = zgA z 120 e i := fun i => hc.2 120 i (by simp)
  have a1 : ∀ i, zgA z' 121 e i = zgA z 121 e i := fun i => hc.2 121 i (by simp)
  have a4 : ∀ i, zgA z' 124 e i = zgA z 124 e i := fun i => hc.2 124 i (by simp)
  have m3 : ∀ j, j < 64 → zgI w' 13 j e = zgI w 13 j e := fun j l => hm.1 13 j l (by simp)
  have m4 : ∀ j, j < 64 → zgI w' 14 j e = zgI w 14 j e := fun j l => hm.1 14 j l (by simp)
  have b9 : ∀ i, zgA w' 159 e i = zgA w 159 e i := fun i => hm.2 159 i (by simp)
  have b0 : ∀ i, zgA w' 160 e i = zgA w 160 e i := fun i => hm.2 160 i (by simp)
  have b1 : ∀ i, zgA w' 161 e i = zgA w 161 e i := fun i => hm.2 161 i (by simp)
  unfold zRd zRs zRo zRi zRt zRn zRq at h ⊢
  simp (disch := decide) only [c2, c3, c4, c6, c10, a0, a1, a4, m3, m4, b9, b0, b1]
  exact h
/-- all doors of all hosts -/
def zRE (z w : St) (T : Tp) : Prop := ∀ b d, b < tb T → tr T b = false → d < 6 → zRd z w (6 * b + d)
def m64 (k : Nat) : Nat := 18446744073709551615 <<< (64 * k)
def mREc : Nat := m64 2 ||| m64 3 ||| m64 4 ||| m64 6 ||| m64 10 ||| 0x130000000000000000000000000000000000000000000000000000000000000000000000000000000000000000000000000000000000000000000000000000000000000000000000000000000000000000000000000000000000000000000000000000000000000000000000000000000000000000000000000000000000000000000000000000000000000000000000000000000000000000000000000000000000000
def mREm : Nat := m64 13 ||| m64 14 ||| 0x380000000000000000000000000000000000000000000000000000000000000000000000000000000000000000000000000000000000000000000000000000000000000000000000000000000000000000000000000000000000000000000000000000000000000000000000000000000000000000000000000000000000000000000000000000000000000000000000000000000000000000000000000000000000000000000000
theorem zSc_fr {M : Nat} {z z' : St} (f : zFr M z z') (hm : mREc &&& M = 0) (e : Nat) : zSc z z' e := by
  have t : ∀ k, k = 2 ∨ k = 3 ∨ k = 4 ∨ k = 6 ∨ k = 10 → ∀ j, j < 64 → mREc.testBit (64 * k + j) = true := by
    rintro k (rfl | rfl | rfl | rfl | rfl) <;> decide +kernel
  have t2 : ∀ k, k = 120 ∨ k = 121 ∨ k = 124 → mREc.testBit (1180 + k) = true := by
    rintro k (rfl | rfl | rfl) <;> decide +kernel
  exact ⟨fun k j l h => zFr_gI f (by omega) (ztf hm (t k h j l)) e, fun k i h => zFr_gA f (ztf hm (t2 k h)) e i⟩
theorem zSm_fr {M : Nat} {z z' : St} (f : zFr M z z') (hm : mREm &&& M = 0) (e : Nat) : zSm z z' e := by
  have t : ∀ k, k = 13 ∨ k = 14 → ∀ j, j < 64 → mREm.testBit (64 * k + j) = true := by
    rintro k (rfl | rfl) <;> decide +kernel
  have t2 : ∀ k, k = 159 ∨ k = 160 ∨ k = 161 → mREm.testBit (1180 + k) = true := by
    rintro k (rfl | rfl | rfl) <;> decide +kernel
  exact ⟨fun k j l h => zFr_gI f (by omega) (ztf hm (t k h j l)) e, fun k i h => zFr_gA f (ztf hm (t2 k h)) e i⟩
theorem zRE_fr {M M' : Nat} {z z' w w' : St} {T : Tp} (f : zFr M z z') (hm : mREc &&& M = 0) (f' : zFr M' w w') (hm' : mREm &&& M' = 0) (h : zRE z w T) : zRE z' w' T := fun b d hb hr hd => zRd_cg (zSc_fr f hm _) (zSm_fr f' hm' _) (h b d hb hr hd)
theorem zRE_ab {z w : St} {e : Nat} (h : zRd z w e) (h2 : zgI z 2 0 e = 2) : zRd (zsI (zsI (zsI (zsI (zsI (zsI z 3 0 e 11) 3 9 e 0) 3 11 e 0) 3 12 e 0) 3 13 e 0) 10 0 e 0) (zsI (zsI (zsI (zsI (zsI (zsI w 14 0 e 11) 14 28 e 0) 14 30 e 0) 14 31 e 0) 14 32 e 0) 14 33 e 0) e := by
  obtain ⟨hd, h⟩ := h
  rcases h with h | h | h
  · rw [h.1] at h2; exact absurd h2 (by decide)
  · rw [h.1] at h2; exact absurd h2 (by decide)
  · obtain ⟨h20, h130, h133, h21, h22, h23, h25, h26, h27, h28, hs, ho, hi, ht, hnn⟩ := h
    have hnn2 : zRn (zsI (zsI (zsI (zsI (zsI (zsI z 3 0 e 11) 3 9 e 0) 3 11 e 0) 3 12 e 0) 3 13 e 0) 10 0 e 0) (zsI (zsI (zsI (zsI (zsI (zsI w 14 0 e 11) 14 28 e 0) 14 30 e 0) 14 31 e 0) 14 32 e 0) 14 33 e 0) e := by
      obtain ⟨-, ⟨p, p1, p2, p3⟩, ⟨l, l1, l2, l3⟩, ⟨v, v1, v2⟩, -⟩ := hnn
      exact ⟨Or.inl (by simp [zgI_sI]), ⟨p, p1, p2, by simpa [zgI_sI] using p3⟩, ⟨l, l1, l2, by simpa [zgI_sI] using l3⟩, ⟨v, v1, by simpa [zgI_sI] using v2⟩, by unfold zRq; simp only [zgI_sI, Nat.reduceEqDiff, false_and, and_false, true_and, and_true, if_true, if_false, and_self]; exact zRqv_fin (Or.inr rfl)⟩
    unfold zRd zRs zRo zRi zRt at *
    simp only [zgI_sI, zgA_sI, Nat.reduceEqDiff, false_and, and_false, true_and, and_true, if_true, if_false, and_self, true_or]
    refine ⟨hd, Or.inr (Or.inr ⟨h20, h130, h133, h21, h22, h23, h25, h26, h27, h28, ⟨⟨hs.1.2.1, hs.1.2.2.1, hs.1.2.2.2.1, fun y => absurd y (by decide)⟩, hs.2.1, hs.2.2.2.1⟩, ho, hi, ?_, hnn2⟩)⟩
    first
      | exact ⟨Or.inl trivial, ht.2⟩
      | exact ht.2
