/-! ends, both sides: steps -/
theorem zRs_cg {z z' w w' : St} {e : Nat} (hc : ∀ j, j < 64 → zgI z' 3 j e = zgI z 3 j e) (hm : ∀ j, j ≤ 1 ∨ j = 14 ∨ j = 15 ∨ (24 ≤ j ∧ j ≤ 32) ∨ j = 43 → zgI w' 14 j e = zgI w 14 j e) (h : zRs z w e) : zRs z' w' e := by
  unfold zRs at h ⊢
  simp (disch := decide) only [hc, hm]
  exact h
theorem zRo_cg {z z' w w' : St} {e : Nat} (hc : ∀ j, j < 64 → zgI z' 6 j e = zgI z 6 j e) (ha : ∀ i, zgA z' 124 e i = zgA z 124 e i) (hm : ∀ j, 5 ≤ j ∧ j ≤ 13 → zgI w' 14 j e = zgI w 14 j e) (hb : ∀ i, zgA w' 159 e i = zgA w 159 e i) (h : zRo z w e) : zRo z' w' e := by
  unfold zRo at h ⊢
  simp (disch := decide) only [hc, hm, ha, hb]
  exact h
theorem zRi_cg {z z' w w' : St} {e : Nat} (hc : ∀ j, j < 64 → zgI z' 4 j e = zgI z 4 j e) (ha : ∀ k i, k = 120 ∨ k = 121 → zgA z' k e i = zgA z k e i) (hm : ∀ j, 16 ≤ j ∧ j ≤ 23 → zgI w' 14 j e = zgI w 14 j e) (hb : ∀ k i, k = 160 ∨ k = 161 → zgA w' k e i = zgA w k e i) (h : zRi z w e) : zRi z' w' e := by
  unfold zRi at h ⊢
  simp (disch := decide) only [hc, hm, ha, hb]
  exact h
theorem zRt_cg {z z' w w' : St} {e : Nat} (hc : ∀ j, j < 64 → zgI z' 10 j e = zgI z 10 j e) (hm : ∀ j, 33 ≤ j ∧ j ≤ 42 → zgI w' 14 j e = zgI w 14 j e) (h : zRt z w e) : zRt z' w' e := by
  unfold zRt at h ⊢
  simp (disch := decide) only [hc, hm]
  exact h
theorem zRn_cg {z z' w w' : St} {e : Nat} (h3 : ∀ j, j = 1 ∨ j = 2 → zgI z' 3 j e = zgI z 3 j e) (h6 : zgI z' 6 11 e = zgI z 6 11 e) (hs : zgI z' 3 0 e = 11 ∨ zgI z' 3 0 e = 0 ∨ zgI z' 3 0 e = 1 ∨ ¬ zgI z' 6 6 e = zgI z' 6 4 e) (hq : zRq z' w' e) (h : zRn z w e) : zRn z' w' e := by
  obtain ⟨-, ⟨p, p1, p2, p3⟩, ⟨l, l1, l2, l3⟩, ⟨v, v1, v2⟩, -⟩ := h
  exact ⟨hs, ⟨p, p1, p2, (h3 2 (Or.inr rfl)).trans p3⟩, ⟨l, l1, l2, (h3 1 (Or.inl rfl)).trans l3⟩, ⟨v, v1, h6.trans v2⟩, hq⟩
/-- an end becomes free or aborted -/
theorem zc_fin {z : St} {e N : Nat} {s : Int32} (h : zgR z 3 18 e = some e) (hs : ¬ s = 10) : fX3_finish N e s z = some (0, zsI (zsI (zsI (zsI (zsI (zsI z 3 0 e s) 3 9 e 0) 3 11 e 0) 3 12 e 0) 3 13 e 0) 10 0 e 0) := by
  unfold fX3_finish fX3_finish_31
  rw [zl_e, zl_e, zl_e, zl_e, if_neg hs, zl_e]
  have : zgR (zsI (zsI (zsI (zsI (zsI z 3 0 e s) 3 9 e 0) 3 11 e 0) 3 12 e 0) 3 13 e 0) 3 18 e = some e := h
  rw [this, zl_e, zd_e, zl_e]
theorem zm_fin {w : St} {e N : Nat} {s : Int32} (v : Int32) (hs : s = 0 ∨ s = 11) : fX14_become N e s v w = some (0, zsI (zsI (zsI (zsI (zsI (zsI w 14 0 e s) 14 28 e 0) 14 30 e 0) 14 31 e 0) 14 32 e 0) 14 33 e 0) := by
  have h10 : ¬ s = 10 := by rcases hs with rfl | rfl <;> decide
  have q0 : ∀ {α : Type} (x : Option α), zq ((0 : Int32) = 0 ∨ (0 : Int32) = 1) x = x := fun x => if_pos (Or.inl rfl)
  have tail : ∀ w1 : St, fX14_become_54 N e s v e w1 = some (0, zsI (zsI w1 14 32 e 0) 14 33 e 0) := fun w1 => by
    unfold fX14_become_54 fX14_become_55 fX14_become_63
    rw [q0, zl_e, zl_e, if_pos h10]
  have b21 : ∀ w1 : St, fX14_become_21 N e s v w1 = some (0, zsI (zsI (zsI (zsI (zsI w1 14 28 e 0) 14 30 e 0) 14 31 e 0) 14 32 e 0) 14 33 e 0) := fun w1 => by
    unfold fX14_become_21
    rw [zl_e, zl_e, zl_e]
    rw [if_pos h10]
    split <;> exact tail _
  unfold fX14_become
  rw [zl_e]
  rcases hs with hs | hs
  · rw [if_pos hs]; exact b21 _
  · by_cases c : s = 0
    · rw [if_pos c]; exact b21 _
    · rw [if_neg c, if_pos hs]; exact b21 _
theorem zp_fin {z w : St} {e N : Nat} {s : Int32} (v : Int32) (hR : zgR z 3 18 e = some e) (hs : s = 0 ∨ s = 11) (h : zEe z w e) : ∃ z' w', fX3_finish N e s z = some (0, z') ∧ fX14_become N e s v w = some (0, w') ∧ zEe z' w' e ∧ zEc1 e z z' ∧ zEm1 e w w' ∧ zgI z' 3 0 e = s := by
  have h10 : ¬ s = 10 := by rcases hs with rfl | rfl <;> decide
  obtain ⟨⟨⟨s1, s2, s3, s4, s5⟩, s6, s7⟩, ho, hi, ⟨ht0, ht⟩, hnn⟩ := h
  obtain ⟨z', hz⟩ : ∃ u, u = zsI (zsI (zsI (zsI (zsI (zsI z 3 0 e s) 3 9 e 0) 3 11 e 0) 3 12 e 0) 3 13 e 0) 10 0 e 0 := ⟨_, rfl⟩
  obtain ⟨w', hw⟩ : ∃ u, u = zsI (zsI (zsI (zsI (zsI (zsI w 14 0 e s) 14 28 e 0) 14 30 e 0) 14 31 e 0) 14 32 e 0) 14 33 e 0 := ⟨_, rfl⟩
  have I : ∀ k j, zgI z' k j e = if k = 10 ∧ j = 0 then 0 else if k = 3 ∧ (j = 9 ∨ j = 11 ∨ j = 12 ∨ j = 13) then 0 else if k = 3 ∧ j = 0 then s else zgI z k j e := fun k j => by
    rw [hz]
    simp only [zgI_sI, and_true]
    by_cases c : k = 3
    · subst c
      simp only [true_and]
      by_cases c0 : j = 13
      · subst c0; simp
      · by_cases c1 : j = 12
        · subst c1; simp
        · by_cases c2 : j = 11
          · subst c2; simp
          · by_cases c3 : j = 9
            · subst c3; simp
            · simp [c0, c1, c2, c3]
    · simp [c]
  have J : ∀ j, zgI w' 14 j e = if j = 28 ∨ j = 30 ∨ j = 31 ∨ j = 32 ∨ j = 33 then 0 else if j = 0 then s else zgI w 14 j e := fun j => by
    rw [hw]
    simp only [zgI_sI, and_true, true_and]
    by_cases c0 : j = 33
    · subst c0; simp
    · by_cases c1 : j = 32
      · subst c1; simp
      · by_cases c2 : j = 31
        · subst c2; simp
        · by_cases c3 : j = 30
          · subst c3; simp
          · by_cases c4 : j = 28
            · subst c4; simp
            · simp [c0, c1, c2, c3, c4]
  have A : ∀ k i, zgA z' k e i = zgA z k e i := fun k i => by rw [hz]; rfl
  have B : ∀ k i, zgA w' k e i = zgA w k e i := fun k i => by rw [hw]; rfl
  refine ⟨z', w', by rw [hz]; exact zc_fin hR h10, by rw [hw]; exact zm_fin v hs, ⟨⟨⟨?_, ?_, ?_, ?_, ?_⟩, ⟨?_, ?_⟩, ?_, ?_, ?_, ?_, ?_, ?_⟩, ?_, ?_, ⟨?_, ?_⟩, ?_⟩, ?_, ?_, ?_⟩
  · rw [I, J]; simp
  · rw [I, J]; simpa using s2
  · rw [I, J]; simpa using s3
  · rw [I, J]; simpa using s4
  · rw [I, I, J]; intro y; simp at y; exact absurd y h10
  · rw [I, J]; simpa using s6.1
  · rw [I, I, I, I, J, J, J]; simpa using s6.2
  · rw [I, J]; simp
  · rw [I, J]; simpa using s7.2.1
  · rw [I, J]; simp
  · rw [I, J]; simp
  · rw [I, J]; simp
  · left; rw [I]; simp
  · exact zRo_cg (fun j _ => by rw [I]; simp) (fun i => A 124 i) (fun j hj => by rw [J, if_neg (by omega), if_neg (by omega)]) (fun i => B 159 i) ho
  · exact zRi_cg (fun j _ => by rw [I]; simp) (fun k i _ => A k i) (fun j hj => by rw [J, if_neg (by omega), if_neg (by omega)]) (fun k i _ => B k i) hi
  · left; rw [I, J]; simp
  · obtain ⟨t1, t2, t3, t4, t5, t6, t7, t8, tw, t9, t10, t11⟩ := ht
    refine ⟨?_, ?_, ?_, ?_, ?_, ?_, ?_, ?_, tw, t9, t10, ?_⟩
    · rw [I, J]; simpa using t1
    · rw [I, J]; simpa using t2
    · rw [I, J]; simpa using t3
    · rw [I, J]; simpa using t4
    · rw [I, J]; simpa using t5
    · rw [I, J]; simpa using t6
    · rw [I]; simpa using t7
    · rw [I, I, I, J, J]; simpa using t8
    · rw [I]; simpa using t11
  · refine zRn_cg (fun j hj => ?_) (by rw [I]; simp) ?_ (by unfold zRq; simp only [I, J]; simpa using zRqv_fin hs) hnn
    · rw [I, if_neg (by omega), if_neg (by omega), if_neg (by omega)]
    · rw [I, if_neg (by omega), if_neg (by omega), if_pos ⟨rfl, rfl⟩]
      rcases hs with q | q
      · exact Or.inr (Or.inl q)
      · exact Or.inl q
  · rw [hz]
    exact zEc1_tr (zEc1_I (by simp)) (zEc1_tr (zEc1_I (by simp)) (zEc1_tr (zEc1_I (by simp)) (zEc1_tr (zEc1_I (by simp)) (zEc1_tr (zEc1_I (by simp)) (zEc1_I (by simp))))))
  · rw [hw]
    exact zEm1_tr zEm1_I (zEm1_tr zEm1_I (zEm1_tr zEm1_I (zEm1_tr zEm1_I (zEm1_tr zEm1_I zEm1_I))))
  · rw [I]; simp
