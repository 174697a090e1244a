/-! opens are sent: both sides -/
theorem zsI_cm (z : St) {k j o k' j' o' : Nat} (v v' : Int32) (h : ¬ (k = k' ∧ j = j' ∧ o = o')) : zsI (zsI z k j o v) k' j' o' v' = zsI (zsI z k' j' o' v') k j o v := by
  have e : zup (zup z.1 k j o v) k' j' o' v' = zup (zup z.1 k' j' o' v') k j o v := by
    funext a b c
    unfold zup
    by_cases p : a = k' ∧ b = j' ∧ c = o'
    · by_cases q : a = k ∧ b = j ∧ c = o
      · exact absurd ⟨q.1.symm.trans p.1, q.2.1.symm.trans p.2.1, q.2.2.symm.trans p.2.2⟩ h
      · rw [if_pos p, if_neg q, if_pos p]
    · by_cases q : a = k ∧ b = j ∧ c = o
      · rw [if_neg p, if_pos q, if_pos q]
      · rw [if_neg p, if_neg q, if_neg q, if_neg p]
  exact congrArg (fun f => (f, z.2)) e
theorem zp_opT {z w : St} {e n N : Nat} (r2 : Int32) (hn : n ≤ 400000) (hT : zgI w 19 24 0 = Int32.ofNat n) (h16 : zgR z 3 16 e = some e) (h18 : zgR z 3 18 e = some e) (hst : zgI z 3 0 e = 2 ∨ zgI z 3 0 e = 3) (h : zEe z w e) :
    ∃ z' w', fX3_makeOpen_81 N e (Int32.ofNat n) z = some (0, z') ∧ (if (zgI w 14 29 e) = 0 then (if ¬ (zgI w 14 37 e) = 0 then (fX19_sendOpen_111 N 0 e r2 w) else (zl (zsI w 14 37 e (1 : Int32)) fun z24 => zl (zsI z24 14 38 e (zgI z24 14 7 e)) fun z25 => zl (zsI z25 14 39 e (zgI z25 19 24 0)) fun z26 => fX19_sendOpen_111 N 0 e r2 z26)) else (zl (zsI w 14 37 e (0 : Int32)) fun z27 => fX19_sendOpen_111 N 0 e r2 z27)) = some (r2, w') ∧ zEe z' w' e ∧ zEc1 e z z' ∧ zEm1 e w w' ∧ (∀ k o i, zgA w' k o i = zgA w k o i) ∧ ∀ k j, k = 6 ∨ (k = 3 ∧ ¬ j = 10) → zgI z' k j e = zgI z k j e := by
  obtain ⟨hs, ho, hi, ht, hnn⟩ := h
  obtain ⟨t0, t1, t2, t3, t4, t5, t6, t7, t8, t, u1, u2, u3⟩ := id ht
  have e10 : zgI z 3 10 e = zgI w 14 29 e := hs.2.2.2.1
  -- the measuring
  obtain ⟨z1, w1, c1, m1, v6, v7, v8, I1, J1, ec1, em1, mA1, cA1⟩ : ∃ z1 w1, (fX3_makeOpen_81 N e (Int32.ofNat n) z = (if ¬ zgI z1 10 0 e = 0 then fX3_makeOpen_147 N e z1 else fX3_makeOpen_147 N e (zsI z1 10 0 e (Int32.ofNat n + zgI z 10 2 e))) ∨ (∃ q, q = zgI z 6 6 e ∧ fX3_makeOpen_81 N e (Int32.ofNat n) z = (if ¬ zgI z 10 0 e = 0 then fX3_makeOpen_147 N e z1 else fX3_makeOpen_147 N e (zsI z1 10 0 e (Int32.ofNat n + zgI z 10 2 e))))) ∧ (if (zgI w 14 29 e) = 0 then (if ¬ (zgI w 14 37 e) = 0 then (fX19_sendOpen_111 N 0 e r2 w) else (zl (zsI w 14 37 e (1 : Int32)) fun z24 => zl (zsI z24 14 38 e (zgI z24 14 7 e)) fun z25 => zl (zsI z25 14 39 e (zgI z25 19 24 0)) fun z26 => fX19_sendOpen_111 N 0 e r2 z26)) else (zl (zsI w 14 37 e (0 : Int32)) fun z27 => fX19_sendOpen_111 N 0 e r2 z27)) = fX19_sendOpen_111 N 0 e r2 w1 ∧ zgI z1 10 6 e = zgI w1 14 37 e ∧ (zgI z1 10 6 e = 0 ∨ zgI z1 10 6 e = 1) ∧ (zgI z1 10 6 e = 1 → zgI z1 10 7 e = zgI w1 14 38 e ∧ zgI z1 10 8 e = zgI w1 14 39 e) ∧ (∀ k j, ¬ (k = 10 ∧ (j = 6 ∨ j = 7 ∨ j = 8)) → zgI z1 k j e = zgI z k j e) ∧ (∀ j, ¬ (j = 37 ∨ j = 38 ∨ j = 39) → zgI w1 14 j e = zgI w 14 j e) ∧ zEc1 e z z1 ∧ zEm1 e w w1 ∧ (∀ k o i, zgA w1 k o i = zgA w k o i) ∧ (∀ k o i, zgA z1 k o i = zgA z k o i) := by
    unfold fX3_makeOpen_81
    rw [← e10]
    by_cases c : zgI z 3 10 e = 0
    · rw [if_pos c, if_pos c]
      unfold fX3_makeOpen_96
      rw [if_neg (fun y => y c), h18, zl_e, h16, zl_e, zd_e, zd_e]
      by_cases d : zgI z 10 6 e = 0
      · have d' : zgI w 14 37 e = 0 := t6.symm.trans d
        rw [if_neg (show ¬ ¬ zgI w 14 37 e = 0 from fun y => y d'), zl_e]
        have q7 : zgI (zsI w 14 37 e 1) 14 7 e = zgI w 14 7 e := by rw [zgI_sI, if_neg (by omega)]
        rw [q7, zl_e]
        have q24 : zgI (zsI (zsI w 14 37 e 1) 14 38 e (zgI w 14 7 e)) 19 24 0 = Int32.ofNat n := by rw [zgI_sI, zgI_sI, if_neg (by omega), if_neg (by omega)]; exact hT
        rw [q24, zl_e]
        refine ⟨zsI (zsI (zsI z 10 6 e 1) 10 7 e (zgI z 6 6 e)) 10 8 e (Int32.ofNat n), zsI (zsI (zsI w 14 37 e 1) 14 38 e (zgI w 14 7 e)) 14 39 e (Int32.ofNat n), Or.inr ⟨_, rfl, ?_⟩, rfl, ?_, ?_, fun _ => ⟨?_, ?_⟩, fun k j q => ?_, fun j q => ?_, zEc1_tr (zEc1_I (by simp)) (zEc1_tr (zEc1_I (by simp)) (zEc1_I (by simp))), zEm1_tr zEm1_I (zEm1_tr zEm1_I zEm1_I), fun _ _ _ => rfl, fun _ _ _ => rfl⟩
        · unfold fX10_sentNew fX10_sentNew_17
          by_cases a : zgI z 10 0 e = 0
          · have a6 : zgI (zsI z 10 0 e (Int32.ofNat n + zgI z 10 2 e)) 10 6 e = 0 := by rw [zgI_sI, if_neg (by omega)]; exact d
            rw [if_neg (show ¬ ¬ zgI z 10 0 e = 0 from fun y => y a), if_neg (show ¬ ¬ zgI z 10 0 e = 0 from fun y => y a), zl_e, if_pos a6, zl_e, zl_e, zl_e, zc_e]
            rw [zsI_cm (zsI (zsI z 10 6 e 1) 10 7 e (zgI z 6 6 e)) (Int32.ofNat n) (Int32.ofNat n + zgI z 10 2 e) (by omega), zsI_cm (zsI z 10 6 e 1) (zgI z 6 6 e) (Int32.ofNat n + zgI z 10 2 e) (by omega), zsI_cm z 1 (Int32.ofNat n + zgI z 10 2 e) (by omega)]
          · rw [if_pos a, if_pos a, if_pos d, zl_e, zl_e, zl_e, zc_e]
        · simp [zgI_sI]
        · right; simp [zgI_sI]
        · simp [zgI_sI]; exact ho.1.2.2.1
        · simp [zgI_sI]
        · rw [zgI_sI, zgI_sI, zgI_sI, if_neg (by omega), if_neg (by omega), if_neg (by omega)]
        · rw [zgI_sI, zgI_sI, zgI_sI, if_neg (by omega), if_neg (by omega), if_neg (by omega)]
      · have d' : ¬ zgI w 14 37 e = 0 := by rw [← t6]; exact d
        rw [if_pos d']
        refine ⟨z, w, Or.inr ⟨_, rfl, ?_⟩, rfl, t6, t7, t8, fun _ _ _ => rfl, fun _ _ => rfl, zEc1_rf e z, zEm1_rf e w, fun _ _ _ => rfl, fun _ _ _ => rfl⟩
        unfold fX10_sentNew fX10_sentNew_17
        by_cases a : zgI z 10 0 e = 0
        · have a6 : ¬ zgI (zsI z 10 0 e (Int32.ofNat n + zgI z 10 2 e)) 10 6 e = 0 := by rw [zgI_sI, if_neg (by omega)]; exact d
          rw [if_neg (show ¬ ¬ zgI z 10 0 e = 0 from fun y => y a), if_neg (show ¬ ¬ zgI z 10 0 e = 0 from fun y => y a), zl_e, if_neg a6, zc_e]
        · rw [if_pos a, if_pos a, if_neg d, zc_e]
    · rw [if_neg c, if_neg c, h18, zl_e, zd_e, zl_e, zl_e]
      refine ⟨zsI z 10 6 e 0, zsI w 14 37 e 0, Or.inl ?_, rfl, ?_, ?_, fun y => ?_, fun k j q => ?_, fun j q => ?_, zEc1_I (by simp), zEm1_I, fun _ _ _ => rfl, fun _ _ _ => rfl⟩
      · unfold fX3_makeOpen_96
        have c' : ¬ zgI (zsI z 10 6 e 0) 3 10 e = 0 := by rw [zgI_sI, if_neg (by omega)]; exact c
        have r18 : zgR (zsI z 10 6 e 0) 3 18 e = some e := h18
        have q2 : zgI (zsI z 10 6 e 0) 10 2 e = zgI z 10 2 e := by rw [zgI_sI, if_neg (by omega)]
        rw [if_pos c', r18, zl_e, zd_e, zl_e, zl_e, zd_e, zd_e, q2, zl_e]
      · simp [zgI_sI]
      · left; simp [zgI_sI]
      · rw [zgI_sI, if_pos ⟨rfl, rfl, rfl⟩] at y; exact absurd y (by decide)
      · rw [zgI_sI, if_neg (by omega)]
      · rw [zgI_sI, if_neg (by omega)]
  -- the alarm
  have a0 : zgI z1 10 0 e = zgI z 10 0 e := I1 10 0 (by omega)
  obtain ⟨z2, hz2⟩ : ∃ y, y = (if ¬ zgI z 10 0 e = 0 then zsI z1 3 10 e 1 else zsI (zsI z1 10 0 e (Int32.ofNat n + zgI z 10 2 e)) 3 10 e 1) := ⟨_, rfl⟩
  have runC : fX3_makeOpen_81 N e (Int32.ofNat n) z = some (0, z2) := by
    have c1' : fX3_makeOpen_81 N e (Int32.ofNat n) z = (if ¬ zgI z 10 0 e = 0 then fX3_makeOpen_147 N e z1 else fX3_makeOpen_147 N e (zsI z1 10 0 e (Int32.ofNat n + zgI z 10 2 e))) := by
      rcases c1 with y | ⟨-, -, y⟩
      · rw [a0] at y; exact y
      · exact y
    rw [c1', hz2]
    unfold fX3_makeOpen_147
    by_cases a : zgI z 10 0 e = 0
    · rw [if_neg (fun y => y a), if_neg (fun y => y a), zl_e]
    · rw [if_pos a, if_pos a, zl_e]
  obtain ⟨w2, hw2⟩ : ∃ y, y = (if ¬ zgI w 14 33 e = 0 then zsI w1 14 29 e 1 else zsI (zsI (zsI w1 14 29 e 1) 14 33 e 1) 14 34 e (Int32.ofNat n + zgI w 14 35 e)) := ⟨_, rfl⟩
  have runM : fX19_sendOpen_111 N 0 e r2 w1 = some (r2, w2) := by
    unfold fX19_sendOpen_111 fX14_setAlarm
    have q33 : zgI (zsI w1 14 29 e 1) 14 33 e = zgI w 14 33 e := by rw [zgI_sI, if_neg (by omega)]; exact J1 33 (by omega)
    have q24 : zgI (zsI w1 14 29 e 1) 19 24 0 = Int32.ofNat n := by rw [zgI_sI, if_neg (by omega), em1.1 19 24 0 (by omega)]; exact hT
    have q35 : zgI (zsI (zsI w1 14 29 e 1) 14 33 e 1) 14 35 e = zgI w 14 35 e := by rw [zgI_sI, zgI_sI, if_neg (by omega), if_neg (by omega)]; exact J1 35 (by omega)
    rw [zl_e, q33, q24, hw2]
    by_cases a : zgI w 14 33 e = 0
    · rw [if_neg (fun y => y a), if_neg (fun y => y a), zl_e, q35, zl_e, zc_e]
    · rw [if_pos a, if_pos a]
  have I2 : ∀ k j, ¬ (k = 3 ∧ j = 10) → ¬ (k = 10 ∧ j = 0) → zgI z2 k j e = zgI z1 k j e := fun k j q q2 => by
    rw [hz2]
    by_cases a : zgI z 10 0 e = 0
    · rw [if_neg (fun y => y a), zgI_sI, zgI_sI, if_neg (by omega), if_neg (by omega)]
    · rw [if_pos a, zgI_sI, if_neg (by omega)]
  have J2 : ∀ j, ¬ (j = 29 ∨ j = 33 ∨ j = 34) → zgI w2 14 j e = zgI w1 14 j e := fun j q => by
    rw [hw2]
    by_cases a : zgI w 14 33 e = 0
    · rw [if_neg (fun y => y a), zgI_sI, zgI_sI, zgI_sI, if_neg (by omega), if_neg (by omega), if_neg (by omega)]
    · rw [if_pos a, zgI_sI, if_neg (by omega)]
  have i10 : zgI z2 3 10 e = 1 := by
    rw [hz2]
    by_cases a : zgI z 10 0 e = 0
    · rw [if_neg (fun y => y a), zgI_sI, if_pos ⟨rfl, rfl, rfl⟩]
    · rw [if_pos a, zgI_sI, if_pos ⟨rfl, rfl, rfl⟩]
  have j29 : zgI w2 14 29 e = 1 := by
    rw [hw2]
    by_cases a : zgI w 14 33 e = 0
    · rw [if_neg (fun y => y a)]; simp [zgI_sI]
    · rw [if_pos a, zgI_sI, if_pos ⟨rfl, rfl, rfl⟩]
  have ec2 : zEc1 e z z2 := by
    rw [hz2]
    by_cases a : zgI z 10 0 e = 0
    · rw [if_neg (fun y => y a)]; exact zEc1_tr ec1 (zEc1_tr (zEc1_I (by simp)) (zEc1_I (by simp)))
    · rw [if_pos a]; exact zEc1_tr ec1 (zEc1_I (by simp))
  have em2 : zEm1 e w w2 := by
    rw [hw2]
    by_cases a : zgI w 14 33 e = 0
    · rw [if_neg (fun y => y a)]; exact zEm1_tr em1 (zEm1_tr zEm1_I (zEm1_tr zEm1_I zEm1_I))
    · rw [if_pos a]; exact zEm1_tr em1 zEm1_I
  have mA2 : ∀ k o i, zgA w2 k o i = zgA w k o i := fun k o i => by
    rw [hw2]
    by_cases a : zgI w 14 33 e = 0
    · rw [if_neg (fun y => y a)]; exact mA1 k o i
    · rw [if_pos a]; exact mA1 k o i
  have cA2 : ∀ k o i, zgA z2 k o i = zgA z k o i := fun k o i => by
    rw [hz2]
    by_cases a : zgI z 10 0 e = 0
    · rw [if_neg (fun y => y a)]; exact cA1 k o i
    · rw [if_pos a]; exact cA1 k o i
  have C : ∀ k j, ¬ (k = 3 ∧ j = 10) → ¬ (k = 10 ∧ (j = 0 ∨ j = 6 ∨ j = 7 ∨ j = 8)) → zgI z2 k j e = zgI z k j e := fun k j q q2 => (I2 k j q (by omega)).trans (I1 k j (by omega))
  have D : ∀ j, ¬ (j = 29 ∨ j = 33 ∨ j = 34 ∨ j = 37 ∨ j = 38 ∨ j = 39) → zgI w2 14 j e = zgI w 14 j e := fun j q => (J2 j (by omega)).trans (J1 j (by omega))
  refine ⟨z2, w2, runC, m1.trans runM, ⟨?_, ?_, ?_, ?_, ?_⟩, ec2, em2, mA2, fun k j hk => C k j (by omega) (by omega)⟩
  · obtain ⟨⟨s1, s2, s3, s4, s5⟩, s6, s7, s8, s9, s10, s11, s12⟩ := hs
    refine ⟨⟨?_, ?_, ?_, ?_, ?_⟩, ?_, ?_, by rw [i10, j29], ?_, ?_, ?_, ?_⟩
    · rw [C 3 0 (by omega) (by omega), D 0 (by omega)]; exact s1
    · rw [C 3 1 (by omega) (by omega), D 14 (by omega)]; exact s2
    · rw [C 3 2 (by omega) (by omega), D 15 (by omega)]; exact s3
    · rw [C 3 3 (by omega) (by omega), D 1 (by omega)]; exact s4
    · rw [C 3 0 (by omega) (by omega), C 3 4 (by omega) (by omega), D 43 (by omega)]; exact s5
    · rw [C 3 5 (by omega) (by omega), C 3 6 (by omega) (by omega), C 3 7 (by omega) (by omega), C 3 8 (by omega) (by omega), D 24 (by omega), D 25 (by omega), D 26 (by omega), D 27 (by omega)]; exact s6
    · rw [C 3 9 (by omega) (by omega), D 28 (by omega)]; exact s7
    · rw [C 3 11 (by omega) (by omega), D 30 (by omega)]; exact s9
    · rw [C 3 12 (by omega) (by omega), D 31 (by omega)]; exact s10
    · rw [C 3 13 (by omega) (by omega), D 32 (by omega)]; exact s11
    · rw [C 3 13 (by omega) (by omega)]; exact s12
  · exact zRo_cg (fun j _ => C 6 j (by omega) (by omega)) (fun i => cA2 124 e i) (fun j hj => D j (by omega)) (fun i => mA2 159 e i) ho
  · exact zRi_cg (fun j _ => C 4 j (by omega) (by omega)) (fun k i _ => cA2 k e i) (fun j hj => D j (by omega)) (fun k i _ => mA2 k e i) hi
  · refine ⟨?_, ?_, ?_, ?_, ?_, ?_, ?_, ?_, ?_, t, u1, u2, ?_⟩
    · right
      rcases t0 with ⟨y1, y2⟩ | ⟨y1, y2, y3⟩
      · refine ⟨?_, ?_, ?_⟩
        · rw [hz2, if_neg (fun y => y y1), zgI_sI, zgI_sI, if_neg (by omega), if_pos ⟨rfl, rfl, rfl⟩, u3]
          exact zsum0 hn u1 u2
        · rw [hw2, if_neg (fun y => y y2)]; simp [zgI_sI]
        · rw [hz2, hw2, if_neg (fun y => y y1), if_neg (fun y => y y2)]; simp [zgI_sI]; exact t2
      · have n33 : ¬ zgI w 14 33 e = 0 := by rw [y2]; decide
        refine ⟨?_, ?_, ?_⟩
        · rw [hz2, if_pos y1, zgI_sI, if_neg (by omega), a0]; exact y1
        · rw [hw2, if_pos n33, zgI_sI, if_neg (by omega), J1 33 (by omega)]; exact y2
        · rw [hz2, hw2, if_pos y1, if_pos n33, zgI_sI, zgI_sI, if_neg (by omega), if_neg (by omega), a0, J1 34 (by omega)]; exact y3
    · rw [C 10 1 (by omega) (by omega), D 36 (by omega)]; exact t1
    · rw [C 10 2 (by omega) (by omega), D 35 (by omega)]; exact t2
    · rw [C 10 3 (by omega) (by omega), D 41 (by omega)]; exact t3
    · rw [C 10 4 (by omega) (by omega), D 42 (by omega)]; exact t4
    · rw [C 10 5 (by omega) (by omega), D 40 (by omega)]; exact t5
    · rw [I2 10 6 (by omega) (by omega), J2 37 (by omega)]; exact v6
    · rw [I2 10 6 (by omega) (by omega)]; exact v7
    · rw [I2 10 6 (by omega) (by omega), I2 10 7 (by omega) (by omega), I2 10 8 (by omega) (by omega), J2 38 (by omega), J2 39 (by omega)]; exact v8
    · rw [C 10 2 (by omega) (by omega)]; exact u3
  · refine zRn_of (z := z) (fun j hj => C 3 j (by omega) (by omega)) (C 6 11 (by omega) (by omega)) ?_ ?_ (zRz_n hnn)
    · rw [C 3 0 (by omega) (by omega), C 6 6 (by omega) (by omega), C 6 4 (by omega) (by omega)]; exact hnn.1
    · unfold zRq
      rw [C 3 0 (by omega) (by omega), D 17 (by omega), C 3 9 (by omega) (by omega), C 3 11 (by omega) (by omega), C 3 13 (by omega) (by omega), C 6 4 (by omega) (by omega), C 6 5 (by omega) (by omega), C 6 6 (by omega) (by omega), C 6 7 (by omega) (by omega), C 4 7 (by omega) (by omega)]
      refine zRqv_al _ ?_ hnn.2.2.2.2
      rcases hst with y | y <;> (rw [y]; decide)
