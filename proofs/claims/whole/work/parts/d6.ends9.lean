/-! ends, both sides: a measurement ends -/
theorem zi_neg (v : Int32) : -v = 0 - v := by
  rw [← Int32.toBitVec_inj]; simp
theorem zm_time76 (w : St) (e N : Nat) : fX14_time_76 N e w = some (0, zsI w 14 35 e (zWt (zgI w 14 41 e) (zgI w 14 42 e))) := by
  have := zWt_m (zgI w 14 41 e) (zgI w 14 42 e) w e N
  unfold fX14_time_76
  by_cases c : zgI w 14 42 e ≤ 1
  · rw [if_pos c] at this ⊢; exact this
  · rw [if_neg c] at this ⊢; exact this
theorem zc_time109 (z : St) (e N : Nat) : fX10_thanked_109 N e z = some (0, zsI z 10 2 e (zWt (zgI z 10 3 e) (zgI z 10 4 e))) := by
  unfold fX10_thanked_109 zWt
  rw [zl_e]
theorem zp_measured {z w : St} {e N : Nat} (x now : Int32) (h : zRt z w e) : ∃ z' w', fX10_thanked N e x now z = some (0, z') ∧ fX14_thankedFor N e x now w = fX14_thankedFor_38 N e now w' ∧ zRt z' (zsI w' 14 36 e 0) e ∧ (∀ k j o, ¬ (k = 10 ∧ 1 ≤ j ∧ j ≤ 6 ∧ o = e) → zgI z' k j o = zgI z k j o) ∧ (∀ k o i, zgA z' k o i = zgA z k o i) ∧ zEc1 e z z' ∧ (∀ j, ¬ (j = 35 ∨ j = 37 ∨ j = 40 ∨ j = 41 ∨ j = 42) → zgI w' 14 j e = if j = 6 then x else zgI w 14 j e) ∧ (∀ k o i, zgA w' k o i = zgA w k o i) ∧ zEm1 e w w' := by
  obtain ⟨t0, t1, t2, t3, t4, t5, t6, t7, t8, t, t9, t10, t11⟩ := h
  obtain ⟨z1, hz1⟩ : ∃ u, u = zsI z 10 1 e 0 := ⟨_, rfl⟩
  obtain ⟨w1, hw1⟩ : ∃ u, u = zsI w 14 6 e x := ⟨_, rfl⟩
  have C1 : ∀ k j o, ¬ (k = 10 ∧ j = 1 ∧ o = e) → zgI z1 k j o = zgI z k j o := fun k j o q => by rw [hz1, zgI_sI, if_neg q]
  have C10 : zgI z1 10 1 e = 0 := by rw [hz1, zgI_sI, if_pos ⟨rfl, rfl, rfl⟩]
  have D1 : ∀ j, j ≠ 6 → zgI w1 14 j e = zgI w 14 j e := fun j q => by rw [hw1, zgI_sI, if_neg (by omega)]
  have D6 : zgI w1 14 6 e = x := by rw [hw1, zgI_sI, if_pos ⟨rfl, rfl, rfl⟩]
  have c1 : zEc1 e z z1 := by rw [hz1]; exact zEc1_I (by simp)
  have m1 : zEm1 e w w1 := by rw [hw1]; exact zEm1_I
  have A1 : ∀ k o i, zgA z1 k o i = zgA z k o i := fun k o i => by rw [hz1]; rfl
  have B1 : ∀ k o i, zgA w1 k o i = zgA w k o i := fun k o i => by rw [hw1]; rfl
  -- nothing is measured, or not yet
  have nope : ∃ z' w', some ((0 : Int32), z1) = some (0, z') ∧ fX14_thankedFor_38 N e now w1 = fX14_thankedFor_38 N e now w' ∧ zRt z' (zsI w' 14 36 e 0) e ∧ (∀ k j o, ¬ (k = 10 ∧ 1 ≤ j ∧ j ≤ 6 ∧ o = e) → zgI z' k j o = zgI z k j o) ∧ (∀ k o i, zgA z' k o i = zgA z k o i) ∧ zEc1 e z z' ∧ (∀ j, ¬ (j = 35 ∨ j = 37 ∨ j = 40 ∨ j = 41 ∨ j = 42) → zgI w' 14 j e = if j = 6 then x else zgI w 14 j e) ∧ (∀ k o i, zgA w' k o i = zgA w k o i) ∧ zEm1 e w w' := by
    have E : ∀ j, j ≠ 36 → j ≠ 6 → zgI (zsI w1 14 36 e 0) 14 j e = zgI w 14 j e := fun j q1 q2 => by rw [zgI_sI, if_neg (by omega)]; exact D1 j q2
    refine ⟨z1, w1, rfl, rfl, ⟨?_, ?_, ?_, ?_, ?_, ?_, ?_, ?_, ?_, t, t9, t10, ?_⟩, fun k j o q => C1 k j o (by omega), A1, c1, fun j q => ?_, B1, m1⟩
    · rw [C1 10 0 e (by omega), E 33 (by omega) (by omega), E 34 (by omega) (by omega)]; exact t0
    · rw [C10, zgI_sI, if_pos ⟨rfl, rfl, rfl⟩]
    · rw [C1 10 2 e (by omega), E 35 (by omega) (by omega)]; exact t2
    · rw [C1 10 3 e (by omega), E 41 (by omega) (by omega)]; exact t3
    · rw [C1 10 4 e (by omega), E 42 (by omega) (by omega)]; exact t4
    · rw [C1 10 5 e (by omega), E 40 (by omega) (by omega)]; exact t5
    · rw [C1 10 6 e (by omega), E 37 (by omega) (by omega)]; exact t6
    · rw [C1 10 6 e (by omega)]; exact t7
    · rw [C1 10 6 e (by omega), C1 10 7 e (by omega), C1 10 8 e (by omega), E 38 (by omega) (by omega), E 39 (by omega) (by omega)]; exact t8
    · rw [C1 10 2 e (by omega)]; exact t11
    · by_cases c : j = 6
      · rw [if_pos c, c]; exact D6
      · rw [if_neg c]; exact D1 j c
  unfold fX10_thanked fX14_thankedFor
  rw [zl_e, zl_e, ← hz1, ← hw1, C1 10 6 e (by omega), D1 37 (by omega), ← t6]
  rcases t7 with c | c
  · rw [if_pos c, if_pos c]; exact nope
  · obtain ⟨t8a, t8b⟩ := t8 c
    rw [if_neg (by rw [c]; decide), if_neg (by rw [c]; decide), C1 10 7 e (by omega), D1 38 (by omega), ← t8a]
    unfold fX11_isBefore fX19_isBefore
    by_cases d : zgI z 10 7 e - x ≤ 0
    · rw [if_pos d, if_pos d, zc_e, zc_e, if_pos rfl, if_neg (fun y => y rfl)]
      simp only [zl_e]
      have s8 : zgI (zsI z1 10 6 e 0) 10 8 e = zgI z 10 8 e := by rw [zgI_sI, if_neg (by omega)]; exact C1 10 8 e (by omega)
      have s5 : zgI (zsI z1 10 6 e 0) 10 5 e = zgI z 10 5 e := by rw [zgI_sI, if_neg (by omega)]; exact C1 10 5 e (by omega)
      have s3 : zgI (zsI z1 10 6 e 0) 10 3 e = zgI z 10 3 e := by rw [zgI_sI, if_neg (by omega)]; exact C1 10 3 e (by omega)
      have s4 : zgI (zsI z1 10 6 e 0) 10 4 e = zgI z 10 4 e := by rw [zgI_sI, if_neg (by omega)]; exact C1 10 4 e (by omega)
      have u39 : zgI (zsI w1 14 37 e 0) 14 39 e = zgI z 10 8 e := by rw [zgI_sI, if_neg (by omega), D1 39 (by omega)]; exact t8b.symm
      have u40 : zgI (zsI w1 14 37 e 0) 14 40 e = zgI z 10 5 e := by rw [zgI_sI, if_neg (by omega), D1 40 (by omega)]; exact t5.symm
      have u41 : zgI (zsI w1 14 37 e 0) 14 41 e = zgI z 10 3 e := by rw [zgI_sI, if_neg (by omega), D1 41 (by omega)]; exact t3.symm
      have u42 : zgI (zsI w1 14 37 e 0) 14 42 e = zgI z 10 4 e := by rw [zgI_sI, if_neg (by omega), D1 42 (by omega)]; exact t4.symm
      rw [s8, s5, s3, u39]
      have s4' : ∀ u : Int32, zgI (zsI (zsI z1 10 6 e 0) 10 3 e u) 10 4 e = zgI z 10 4 e := fun u => by rw [zgI_sI, if_neg (by omega)]; exact s4
      have u42' : ∀ u : Int32, zgI (zsI (zsI w1 14 37 e 0) 14 41 e u) 14 42 e = zgI z 10 4 e := fun u => by rw [zgI_sI, if_neg (by omega)]; exact u42
      -- the end of it, whatever smooth and spread become
      have fin : ∀ (a5 sm sp : Int32), ∃ z' w', z' = zsI (zsI (zsI (zsI (zsI z1 10 6 e 0) 10 5 e a5) 10 3 e sm) 10 4 e sp) 10 2 e (zWt sm sp) ∧ w' = zsI (zsI (zsI (zsI (zsI w1 14 37 e 0) 14 40 e a5) 14 41 e sm) 14 42 e sp) 14 35 e (zWt sm sp) ∧ zRt z' (zsI w' 14 36 e 0) e ∧ (∀ k j o, ¬ (k = 10 ∧ 1 ≤ j ∧ j ≤ 6 ∧ o = e) → zgI z' k j o = zgI z k j o) ∧ (∀ k o i, zgA z' k o i = zgA z k o i) ∧ zEc1 e z z' ∧ (∀ j, ¬ (j = 35 ∨ j = 37 ∨ j = 40 ∨ j = 41 ∨ j = 42) → zgI w' 14 j e = if j = 6 then x else zgI w 14 j e) ∧ (∀ k o i, zgA w' k o i = zgA w k o i) ∧ zEm1 e w w' := fun a5 sm sp => by
        obtain ⟨z', hz⟩ : ∃ u, u = zsI (zsI (zsI (zsI (zsI z1 10 6 e 0) 10 5 e a5) 10 3 e sm) 10 4 e sp) 10 2 e (zWt sm sp) := ⟨_, rfl⟩
        obtain ⟨w', hw⟩ : ∃ u, u = zsI (zsI (zsI (zsI (zsI w1 14 37 e 0) 14 40 e a5) 14 41 e sm) 14 42 e sp) 14 35 e (zWt sm sp) := ⟨_, rfl⟩
        obtain ⟨t', b1, b2, b3⟩ := zWt_b sm sp
        have I : ∀ j, zgI z' 10 j e = if j = 2 then zWt sm sp else if j = 4 then sp else if j = 3 then sm else if j = 5 then a5 else if j = 6 then 0 else zgI z1 10 j e := fun j => by rw [hz]; simp only [zgI_sI, true_and, and_true]
        have J : ∀ j, zgI (zsI w' 14 36 e 0) 14 j e = if j = 36 then 0 else if j = 35 then zWt sm sp else if j = 42 then sp else if j = 41 then sm else if j = 40 then a5 else if j = 37 then 0 else zgI w1 14 j e := fun j => by rw [hw]; simp only [zgI_sI, true_and, and_true]
        refine ⟨z', w', hz, hw, ⟨?_, ?_, ?_, ?_, ?_, ?_, ?_, ?_, ?_, t', b1, b2, ?_⟩, fun k j o q => ?_, fun k o i => by rw [hz]; exact A1 k o i, ?_, fun j q => ?_, fun k o i => by rw [hw]; exact B1 k o i, ?_⟩
        · rw [I, J, J]
          simpa [C1 10 0 e (by omega), D1 33 (by omega), D1 34 (by omega)] using t0
        · rw [I, J]; simpa using C10
        · rw [I, J]; simp
        · rw [I, J]; simp
        · rw [I, J]; simp
        · rw [I, J]; simp
        · rw [I, J]; simp
        · left; rw [I]; simp
        · rw [I]; intro y; simp at y
        · rw [I]; simpa using b3
        · rw [hz]; simp only [zgI_sI]
          rw [if_neg (by omega), if_neg (by omega), if_neg (by omega), if_neg (by omega), if_neg (by omega)]; exact C1 k j o (by omega)
        · rw [hz]; exact zEc1_tr c1 (zEc1_tr (zEc1_I (by simp)) (zEc1_tr (zEc1_I (by simp)) (zEc1_tr (zEc1_I (by simp)) (zEc1_tr (zEc1_I (by simp)) (zEc1_I (by simp))))))
        · rw [hw]; simp only [zgI_sI]
          rw [if_neg (by omega), if_neg (by omega), if_neg (by omega), if_neg (by omega), if_neg (by omega)]
          by_cases c : j = 6
          · rw [if_pos c, c]; exact D6
          · rw [if_neg c]; exact D1 j c
        · rw [hw]; exact zEm1_tr m1 (zEm1_tr zEm1_I (zEm1_tr zEm1_I (zEm1_tr zEm1_I (zEm1_tr zEm1_I zEm1_I))))
      generalize now - zgI z 10 8 e = v
      unfold fX14_time
      rw [u40]
      by_cases k5 : zgI z 10 5 e = 0
      · obtain ⟨z', w', hz, hw, rest⟩ := fin 1 (8 * v) (2 * v)
        refine ⟨z', w', ?_, ?_, rest⟩
        · rw [if_pos k5]
          rw [zc_time109, hz]
          simp [zgI_sI]
        · rw [if_pos k5]
          simp only [zl_e]
          rw [zm_time76, zc_e, hw]
          simp [zgI_sI]
      · rw [if_neg k5, if_neg k5]
        simp only [zl_e]
        rw [u41]
        obtain ⟨d, hd⟩ : ∃ d, d = v - zgI z 10 3 e / 8 := ⟨_, rfl⟩
        rw [← hd]
        obtain ⟨ab, hab⟩ : ∃ ab, ab = (if 0 ≤ d then d else 0 - d) := ⟨_, rfl⟩
        rw [← hab]
        obtain ⟨z', w', hz, hw, rest⟩ := fin (zgI z 10 5 e) (zgI z 10 3 e + d) (zgI z 10 4 e + (ab - zgI z 10 4 e / 4))
        have idc : zsI (zsI z1 10 6 e 0) 10 5 e (zgI z 10 5 e) = zsI z1 10 6 e 0 := by rw [← s5]; exact zsI_id _ _ _ _
        have idm : zsI (zsI w1 14 37 e 0) 14 40 e (zgI z 10 5 e) = zsI w1 14 37 e 0 := by rw [← u40]; exact zsI_id _ _ _ _
        rw [idc] at hz
        rw [idm] at hw
        refine ⟨z', w', ?_, ?_, rest⟩
        · rw [s4', zc_time109, hz]
          simp [zgI_sI]
        · unfold fX14_time_42
          have tail : ∀ u : Int32, (zc (zl (zsI (zsI (zsI w1 14 37 e 0) 14 41 e (zgI z 10 3 e + d)) 14 42 e (zgI z 10 4 e + (u - zgI z 10 4 e / 4))) fun z1 => fX14_time_76 N e z1) fun _ z10 => fX14_thankedFor_38 N e now z10) = fX14_thankedFor_38 N e now (zsI (zsI (zsI (zsI w1 14 37 e 0) 14 41 e (zgI z 10 3 e + d)) 14 42 e (zgI z 10 4 e + (u - zgI z 10 4 e / 4))) 14 35 e (zWt (zgI z 10 3 e + d) (zgI z 10 4 e + (u - zgI z 10 4 e / 4)))) := fun u => by
            rw [zl_e, zm_time76, zc_e]
            simp [zgI_sI]
          rw [u42']
          by_cases k : 0 ≤ d
          · rw [if_pos k] at hab ⊢
            rw [tail, hw, hab]
          · rw [if_neg k] at hab ⊢
            rw [zi_neg, tail, hw, hab]
    · rw [if_neg d, if_neg d, zc_e, zc_e, if_neg (by decide), if_pos (by decide)]; exact nope
