/-! the model takes an end away: its books go -/
theorem zm_drop1 {w : St} {T : Tp} {E : Ev} {K : Int32 → Int32 → Int32 → Prop} {g : Sg} {X TS TA TB : List Nat} {x : Int32} {N : Nat} (hx : zIx x 2592) (h : zMV w T E g K X TS TA (bk1 x ++ TB)) : ∃ w', fX19_dropBook N 0 x w = some (0, w') ∧ zMV w' T E g K X TS TA TB ∧ (∀ k o i, k ≠ 183 → k ≠ 185 → zgA w' k o i = zgA w k o i) ∧ (∀ k j o, ¬ (k = 19 ∧ j = 17) → zgI w' k j o = zgI w k j o) ∧ ∀ k o i, zgR w' k o i = zgR w k o i := by
  rcases hx with c | ⟨b, hb, c⟩
  · refine ⟨w, ?_, ?_, fun _ _ _ _ _ => rfl, fun _ _ _ _ => rfl, fun _ _ _ => rfl⟩
    · unfold fX19_dropBook; rw [c, if_pos rfl]
    · rw [c, bk1_n] at h; exact h
  · rw [c, bk1_o hb] at h
    obtain ⟨w2, r1, r2, r3, r4, r5⟩ := zm_dropTB (N := N) h
    exact ⟨w2, by rw [c]; exact r1, r2, r3, r4, r5.2.2.2.2⟩
theorem zm_takeEnd {w : St} {T : Tp} {E : Ev} {g : Sg} {K : Int32 → Int32 → Int32 → Prop} {X TS TA : List Nat} {e N : Nat} (h : zMB w T E g K X TS TA) (he : hEnd T e) (h4 : zgR w 13 4 e = some e) :
    ∃ w', fX19_takeEnd N 0 e w = some (0, w') ∧ zMB w' T E g K X TS TA ∧ zgI w' 13 3 e = 0 ∧ (∀ j, ¬ j = 3 → zgI w' 13 j e = zgI w 13 j e) ∧ zDm e w w' ∧ (∀ k j o, ¬ (o = e ∧ (k = 13 ∧ j = 3 ∨ k = 14 ∧ (j = 44 ∨ j = 45))) → ¬ (k = 19 ∧ j = 17) → zgI w' k j o = zgI w k j o) ∧ (∀ k o i, k ≠ 183 → k ≠ 185 → zgA w' k o i = zgA w k o i) ∧ ∀ k o i, zgR w' k o i = zgR w k o i := by
  obtain ⟨hM, hI⟩ := h
  obtain ⟨R, pR, lR, uR⟩ := zTB_at (w := w) he.1 he.2
  obtain ⟨i44, i45⟩ := hI e he
  obtain ⟨w1, hw1⟩ : ∃ u, u = zsI w 13 3 e 0 := ⟨_, rfl⟩
  have f1 : zFr 0x80000000000000000000000000000000000000000000000000000000000000000000000000000000000000000000000000000000000000000000000000000000000000000000000000000000000000000000000000000000000000000000000000000000000000000 w w1 := by rw [hw1]; exact zFr_I (zFr_rf _ _) (by decide)
  have M1 : zMV w1 T E g K X TS TA (zTB w T) := zMV_fr f1 (by decide) (fun k o i => by rw [hw1]; rfl) hM
  have M1' : zMV w1 T E g K X TS TA (bk1 (zgI w 14 44 e) ++ (bk1 (zgI w 14 45 e) ++ R)) := by
    have := zMV_permTB pR M1
    unfold bk2 at this
    rw [List.append_assoc] at this; exact this
  obtain ⟨w2, a1, a2, a3, a4, a5⟩ := zm_drop1 (N := N) i44 M1'
  obtain ⟨w3, b1, b2, b3, b4, b5⟩ := zm_drop1 (N := N) i45 a2
  have j1 : ∀ k j o, ¬ (k = 13 ∧ j = 3 ∧ o = e) → zgI w1 k j o = zgI w k j o := fun k j o q => by rw [hw1, zgI_sI, if_neg q]
  obtain ⟨w4, hw4⟩ : ∃ u, u = zsI (zsI w3 14 44 e (-1)) 14 45 e (-1) := ⟨_, rfl⟩
  have M4 : zMV w4 T E g K X TS TA R := by rw [hw4]; exact zMV_i14 (zMV_i14 b2)
  have I4 : ∀ k j o, ¬ (o = e ∧ (k = 13 ∧ j = 3 ∨ k = 14 ∧ (j = 44 ∨ j = 45))) → ¬ (k = 19 ∧ j = 17) → zgI w4 k j o = zgI w k j o := fun k j o q q2 => by
    rw [hw4, zgI_sI, zgI_sI, if_neg (by omega), if_neg (by omega), b4 k j o q2, a4 k j o q2, j1 k j o (by omega)]
  have A4 : ∀ k o i, k ≠ 183 → k ≠ 185 → zgA w4 k o i = zgA w k o i := fun k o i q q2 => by
    rw [hw4]
    show zgA w3 k o i = _
    rw [b3 k o i q q2, a3 k o i q q2, hw1]; rfl
  have R4 : ∀ k o i, zgR w4 k o i = zgR w k o i := fun k o i => by
    rw [hw4]
    show zgR w3 k o i = _
    rw [b5, a5, hw1]; rfl
  have n44 : zgI w4 14 44 e = -1 := by rw [hw4, zgI_sI, if_neg (by omega), zgI_sI, if_pos ⟨rfl, rfl, rfl⟩]
  have n45 : zgI w4 14 45 e = -1 := by rw [hw4, zgI_sI, if_pos ⟨rfl, rfl, rfl⟩]
  refine ⟨w4, ?_, ⟨?_, fun u hu => ?_⟩, ?_, fun j q => I4 13 j e (by omega) (by omega), ⟨fun k j o q q2 => I4 k j o (by omega) (by omega), fun k o i _ q => A4 k o i (by omega) (by omega)⟩, I4, A4, R4⟩
  · unfold fX19_takeEnd
    have r1 : ∀ u : St, (∀ k o i, zgR u k o i = zgR w k o i) → zgR u 13 4 e = some e := fun u q => (q 13 4 e).trans h4
    have e44 : zgI w1 14 44 e = zgI w 14 44 e := j1 14 44 e (by omega)
    have e45 : zgI w2 14 45 e = zgI w 14 45 e := (a4 14 45 e (by omega)).trans (j1 14 45 e (by omega))
    rw [← hw1, zl_e, r1 w1 (fun k o i => by rw [hw1]; rfl), zl_e, zd_e, e44, a1, zc_e, r1 w2 (fun k o i => by rw [a5, hw1]; rfl), zl_e, zd_e, e45, b1, zc_e, r1 w3 (fun k o i => by rw [b5, a5, hw1]; rfl), zl_e, zd_e, zl_e, r1 (zsI w3 14 44 e (-1)) (fun k o i => by
      show zgR w3 k o i = _
      rw [b5, a5, hw1]; rfl), zl_e, zd_e, ← hw4, zl_e]
  · have p := uR w4 (fun j u hj q => I4 14 j u (by omega) (by omega))
    unfold bk2 at p
    rw [n44, n45, bk1_n] at p
    exact zMV_permTB p.symm M4
  · by_cases c : u = e
    · subst c; rw [n44, n45]; exact ⟨Or.inl rfl, Or.inl rfl⟩
    · rw [I4 14 44 u (by omega) (by omega), I4 14 45 u (by omega) (by omega)]; exact hI u hu
  · rw [hw4, zgI_sI, zgI_sI, if_neg (by omega), if_neg (by omega), b4 13 3 e (by omega), a4 13 3 e (by omega), hw1, zgI_sI, if_pos ⟨rfl, rfl, rfl⟩]
/-- the class's door becomes unused -/
theorem zc_setUnused (z : St) (e N : Nat) : ∃ z', fX2_setUnused N e z = some (0, z') ∧ zgI z' 2 0 e = 0 ∧ zgI z' 2 1 e = 0 ∧ zgI z' 2 2 e = 0 ∧ zgI z' 2 3 e = 0 ∧ zgI z' 2 9 e = zgI z 2 9 e ∧ zDk e z z' ∧ (∀ k j o, ¬ (k = 2 ∧ o = e) → zgI z' k j o = zgI z k j o) := by
  refine ⟨zsI (zsI (zsI (zsI (zsI (zsI z 2 0 e 0) 2 1 e 0) 2 2 e 0) 2 3 e 0) 2 5 e (-1)) 2 6 e 0, ?_, ?_, ?_, ?_, ?_, ?_, ⟨fun k j o q _ => ?_, fun _ _ _ _ => rfl, fun _ _ _ => rfl, fun _ _ _ => rfl, fun _ _ _ => rfl⟩, fun k j o q => ?_⟩
  · unfold fX2_setUnused
    rw [zl_e, zl_e, zl_e, zl_e, zl_e, zl_e]
  · simp [zgI_sI]
  · simp [zgI_sI]
  · simp [zgI_sI]
  · simp [zgI_sI]
  · simp [zgI_sI]
  · rw [zgI_sI, zgI_sI, zgI_sI, zgI_sI, zgI_sI, zgI_sI, if_neg (by omega), if_neg (by omega), if_neg (by omega), if_neg (by omega), if_neg (by omega), if_neg (by omega)]
  · rw [zgI_sI, zgI_sI, zgI_sI, zgI_sI, zgI_sI, zgI_sI, if_neg (by omega), if_neg (by omega), if_neg (by omega), if_neg (by omega), if_neg (by omega), if_neg (by omega)]
