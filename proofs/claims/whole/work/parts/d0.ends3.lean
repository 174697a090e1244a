/-! ends, both sides: quiet, alarms -/
theorem zq01 {α : Type} {v : Int32} (h : v = 0 ∨ v = 1) (x : Option α) : zq (v = 0 ∨ v = 1) x = x := if_pos h
theorem zRqv_quiet {h a13 f4 f5 f6 f7 o7 : Int32} (h1 : h = 1) (h56 : f5 = f6) : zRqv 10 h 0 0 a13 f4 f5 f6 f7 0 o7 := by
  subst h1; subst h56; simp [zRqv]
theorem zRqv_al {s h a9 a11 a13 f4 f5 f6 f7 t0 o7 : Int32} (t : Int32) (hs : ¬ (s = 0 ∨ s = 1 ∨ s = 10 ∨ s = 11)) (q : zRqv s h a9 a11 a13 f4 f5 f6 f7 t0 o7) : zRqv s h a9 a11 a13 f4 f5 f6 f7 t o7 := by
  obtain ⟨c1, c2, c3, c4, c5, c6, c7, c8, c9, c10, c11, c12⟩ := q
  exact ⟨c1, c2, c3, c4, c5, c6, c7, c8, c9, c10, fun _ => hs, c12⟩
theorem zp_quiet {z w : St} {e N : Nat} (v : Int32) (hR : zgR z 3 18 e = some e) (hb : ¬ zgI z 6 6 e = zgI z 6 4 e) (h17 : zgI w 14 17 e = 1) (h56 : zgI z 6 5 e = zgI z 6 6 e) (h : zEe z w e) : ∃ z' w', fX3_becomeQuiet N e v z = some (0, z') ∧ fX14_become N e 10 v w = some (0, w') ∧ zEe z' w' e ∧ zEc1 e z z' ∧ zEm1 e w w' ∧ zgI z' 3 0 e = 10 := by
  obtain ⟨⟨⟨s1, s2, s3, s4, s5⟩, s6, s7⟩, ho, hi, ⟨ht0, ht⟩, hnn⟩ := h
  obtain ⟨z', hz⟩ : ∃ u, u = zsI (zsI (zsI (zsI (zsI (zsI z 3 0 e 10) 3 9 e 0) 3 11 e 0) 3 12 e 0) 10 0 e 0) 3 4 e (v + 2000) := ⟨_, rfl⟩
  obtain ⟨w', hw⟩ : ∃ u, u = zsI (zsI (zsI (zsI (zsI (zsI (zsI w 14 0 e 10) 14 28 e 0) 14 30 e 0) 14 31 e 0) 14 32 e (zgI w 14 32 e)) 14 33 e 0) 14 43 e (v + 2000) := ⟨_, rfl⟩
  have w01 : zgI w 14 32 e = 0 ∨ zgI w 14 32 e = 1 := by rw [← s7.2.2.2.2.1]; exact s7.2.2.2.2.2
  have I : ∀ k j, zgI z' k j e = if k = 3 ∧ j = 4 then v + 2000 else if k = 10 ∧ j = 0 then 0 else if k = 3 ∧ (j = 9 ∨ j = 11 ∨ j = 12) then 0 else if k = 3 ∧ j = 0 then 10 else zgI z k j e := fun k j => by
    rw [hz]
    simp only [zgI_sI, and_true]
    by_cases c : k = 3
    · subst c
      simp only [true_and]
      by_cases c1 : j = 12
      · subst c1; simp
      · by_cases c2 : j = 11
        · subst c2; simp
        · by_cases c3 : j = 9
          · subst c3; simp
          · simp [c1, c2, c3]
    · simp [c]
  have J : ∀ j, zgI w' 14 j e = if j = 43 then v + 2000 else if j = 28 ∨ j = 30 ∨ j = 31 ∨ j = 33 then 0 else if j = 0 then 10 else zgI w 14 j e := fun j => by
    rw [hw]
    simp only [zgI_sI, and_true, true_and]
    by_cases c0 : j = 33
    · subst c0; simp
    · by_cases c1 : j = 32
      · subst c1; simp
      · by_cases c2 : j = 31
        · subst c2; simp
        · by_cases c3 : j = 30
          · subst c3; simp
          · by_cases c4 : j = 28
            · subst c4; simp
            · simp [c0, c1, c2, c3, c4]
  have A : ∀ k i, zgA z' k e i = zgA z k e i := fun k i => by rw [hz]; rfl
  have B : ∀ k i, zgA w' k e i = zgA w k e i := fun k i => by rw [hw]; rfl
  refine ⟨z', w', ?_, ?_, ⟨⟨⟨?_, ?_, ?_, ?_, ?_⟩, ⟨?_, ?_⟩, ?_, ?_, ?_, ?_, ?_, ?_⟩, ?_, ?_, ⟨?_, ?_⟩, ?_⟩, ?_, ?_, ?_⟩
  · unfold fX3_becomeQuiet fX3_finish fX3_finish_31
    rw [zl_e, zl_e, zl_e, zl_e, if_pos rfl]
    have : zgR (zsI (zsI (zsI (zsI z 3 0 e 10) 3 9 e 0) 3 11 e 0) 3 12 e 0) 3 18 e = some e := hR
    rw [this, zl_e, zd_e, zl_e, zc_e, zl_e, hz]
  · unfold fX14_become fX14_become_21 fX14_become_54 fX14_become_55 fX14_become_63
    rw [zl_e, if_neg (by decide), if_neg (by decide), if_neg (fun y => y rfl), zl_e, zl_e, zl_e]
    have e32 : zgI (zsI (zsI (zsI (zsI w 14 0 e 10) 14 28 e 0) 14 30 e 0) 14 31 e 0) 14 32 e = zgI w 14 32 e := by simp [zgI_sI]
    rw [e32, hw]
    rcases w01 with c | c
    · rw [c, if_pos rfl, zq01 (Or.inl rfl), zl_e, zl_e, if_neg (fun y => y rfl), zl_e]
    · rw [c, if_neg (by decide), if_neg (fun y => y rfl), zq01 (Or.inr rfl), zl_e, zl_e, if_neg (fun y => y rfl), zl_e]
  · rw [I, J]; simp
  · rw [I, J]; simpa using s2
  · rw [I, J]; simpa using s3
  · rw [I, J]; simpa using s4
  · rw [I, I, J]; intro y; simp
  · rw [I, J]; simpa using s6.1
  · rw [I, I, I, I, J, J, J]; simpa using s6.2
  · rw [I, J]; simp
  · rw [I, J]; simpa using s7.2.1
  · rw [I, J]; simp
  · rw [I, J]; simp
  · rw [I, J]; simpa using s7.2.2.2.2.1
  · rw [I]; simpa using s7.2.2.2.2.2
  · exact zRo_cg (fun j _ => by rw [I]; simp) (fun i => A 124 i) (fun j hj => by rw [J, if_neg (by omega), if_neg (by omega), if_neg (by omega)]) (fun i => B 159 i) ho
  · exact zRi_cg (fun j _ => by rw [I]; simp) (fun k i _ => A k i) (fun j hj => by rw [J, if_neg (by omega), if_neg (by omega), if_neg (by omega)]) (fun k i _ => B k i) hi
  · left; rw [I, J]; simp
  · obtain ⟨t1, t2, t3, t4, t5, t6, t7, t8, tw, t9, t10, t11⟩ := ht
    refine ⟨?_, ?_, ?_, ?_, ?_, ?_, ?_, ?_, tw, t9, t10, ?_⟩
    · rw [I, J]; simpa using t1
    · rw [I, J]; simpa using t2
    · rw [I, J]; simpa using t3
    · rw [I, J]; simpa using t4
    · rw [I, J]; simpa using t5
    · rw [I, J]; simpa using t6
    · rw [I]; simpa using t7
    · rw [I, I, I, J, J]; simpa using t8
    · rw [I]; simpa using t11
  · refine zRn_cg (fun j hj => ?_) (by rw [I]; simp) (Or.inr (Or.inr (Or.inr ?_))) (by unfold zRq; simp only [I, J]; simpa using zRqv_quiet h17 h56) hnn
    · rw [I, if_neg (by omega), if_neg (by omega), if_neg (by omega), if_neg (by omega)]
    · rw [I, I]; simpa using hb
  · rw [hz]
    exact zEc1_tr (zEc1_I (by simp)) (zEc1_tr (zEc1_I (by simp)) (zEc1_tr (zEc1_I (by simp)) (zEc1_tr (zEc1_I (by simp)) (zEc1_tr (zEc1_I (by simp)) (zEc1_I (by simp))))))
  · rw [hw]
    exact zEm1_tr zEm1_I (zEm1_tr zEm1_I (zEm1_tr zEm1_I (zEm1_tr zEm1_I (zEm1_tr zEm1_I (zEm1_tr zEm1_I zEm1_I)))))
  · rw [I]; simp
/-- the sum of now and a wait is no nought -/
theorem zsum0 {n t : Nat} (hn : n ≤ 400000) (h1 : 20 ≤ t) (h2 : t ≤ 1200) : ¬ Int32.ofNat n + Int32.ofNat t = 0 := by
  rw [zo_add]
  exact fun y => by
    have := (zo_eq (a := n + t) (b := 0) (by omega) (by omega)).mp y
    omega
/-- an alarm is set -/
theorem zRt_al {z z' w w' : St} {e n : Nat} (hn : n ≤ 400000) (hc0 : zgI z' 10 0 e = Int32.ofNat n + zgI z 10 2 e) (hc : ∀ j, 1 ≤ j ∧ j < 64 → zgI z' 10 j e = zgI z 10 j e) (hm3 : zgI w' 14 33 e = 1) (hm4 : zgI w' 14 34 e = Int32.ofNat n + zgI w 14 35 e) (hm : ∀ j, 35 ≤ j ∧ j ≤ 42 → zgI w' 14 j e = zgI w 14 j e) (h : zRt z w e) : zRt z' w' e := by
  obtain ⟨-, t1, t2, t3, t4, t5, t6, t7, t8, tw, t9, t10, t11⟩ := h
  have C : ∀ j, 1 ≤ j ∧ j < 64 → zgI z' 10 j e = zgI z 10 j e := hc
  refine ⟨Or.inr ⟨?_, hm3, ?_⟩, ?_⟩
  · rw [hc0, t11]; exact zsum0 hn t9 t10
  · rw [hc0, hm4, t2]
  · simp (disch := decide) only [C, hm]
    exact ⟨t1, t2, t3, t4, t5, t6, t7, t8, tw, t9, t10, t11⟩
/-- something new is sent: alarm, measuring -/
theorem zp_isNew {z w : St} {e n N : Nat} (hn : n ≤ 400000) (ho : zRo z w e) (h : zRt z w e) : ∃ z' w', fX10_sentNew N e (zgI z 6 6 e) (Int32.ofNat n) z = some (0, z') ∧ fX14_isNew N e (Int32.ofNat n) w = some (0, w') ∧ zRt z' w' e ∧ (∀ k j o, ¬ (k = 10 ∧ (j = 0 ∨ j = 6 ∨ j = 7 ∨ j = 8) ∧ o = e) → zgI z' k j o = zgI z k j o) ∧ (∀ k o i, zgA z' k o i = zgA z k o i) ∧ zEc1 e z z' ∧ (∀ k j o, ¬ (k = 14 ∧ (j = 33 ∨ j = 34 ∨ j = 37 ∨ j = 38 ∨ j = 39) ∧ o = e) → zgI w' k j o = zgI w k j o) ∧ (∀ k o i, zgA w' k o i = zgA w k o i) ∧ zEm1 e w w' := by
  have n7 : zgI z 6 6 e = zgI w 14 7 e := ho.1.2.2.1
  -- the alarm
  have s1 : ∃ z1 w1, fX10_sentNew N e (zgI z 6 6 e) (Int32.ofNat n) z = fX10_sentNew_17 N e (zgI z 6 6 e) (Int32.ofNat n) z1 ∧ fX14_isNew N e (Int32.ofNat n) w = fX14_isNew_12 N e (Int32.ofNat n) w1 ∧ zRt z1 w1 e ∧ (∀ k j o, ¬ (k = 10 ∧ j = 0 ∧ o = e) → zgI z1 k j o = zgI z k j o) ∧ (∀ k o i, zgA z1 k o i = zgA z k o i) ∧ zEc1 e z z1 ∧ (∀ k j o, ¬ (k = 14 ∧ (j = 33 ∨ j = 34) ∧ o = e) → zgI w1 k j o = zgI w k j o) ∧ (∀ k o i, zgA w1 k o i = zgA w k o i) ∧ zEm1 e w w1 := by
    unfold fX10_sentNew fX14_isNew
    rcases h.1 with ⟨a, b⟩ | ⟨a, b, -⟩
    · obtain ⟨z1, hz⟩ : ∃ u, u = zsI z 10 0 e (Int32.ofNat n + zgI z 10 2 e) := ⟨_, rfl⟩
      obtain ⟨w1, hw⟩ : ∃ u, u = zsI (zsI w 14 33 e 1) 14 34 e (Int32.ofNat n + zgI w 14 35 e) := ⟨_, rfl⟩
      refine ⟨z1, w1, ?_, ?_, ?_, fun k j o q => by rw [hz, zgI_sI, if_neg q], fun k o i => by rw [hz]; rfl, by rw [hz]; exact zEc1_I (by simp), fun k j o q => by rw [hw, zgI_sI, zgI_sI, if_neg (by omega), if_neg (by omega)], fun k o i => by rw [hw]; rfl, by rw [hw]; exact zEm1_tr zEm1_I zEm1_I⟩
      · rw [if_neg (fun y => y a), zl_e, hz]
      · unfold fX14_setAlarm
        have : zgI (zsI w 14 33 e 1) 14 35 e = zgI w 14 35 e := by simp [zgI_sI]
        rw [if_neg (fun y => y b), zl_e, this, zl_e, zc_e, hw]
      · refine zRt_al hn ?_ (fun j hj => ?_) ?_ ?_ (fun j hj => ?_) h
        · rw [hz, zgI_sI, if_pos ⟨rfl, rfl, rfl⟩]
        · rw [hz, zgI_sI, if_neg (by omega)]
        · rw [hw]; simp [zgI_sI]
        · rw [hw]; simp [zgI_sI]
        · rw [hw, zgI_sI, zgI_sI, if_neg (by omega), if_neg (by omega)]
    · exact ⟨z, w, if_pos a, if_pos (by rw [b]; decide), h, fun _ _ _ _ => rfl, fun _ _ _ => rfl, zEc1_rf e z, fun _ _ _ _ => rfl, fun _ _ _ => rfl, zEm1_rf e w⟩
  obtain ⟨z1, w1, a1, a2, a3, a4, a5, a6, a7, a8, a9⟩ := s1
  rw [a1, a2]
  obtain ⟨t0, t1, t2, t3, t4, t5, t6, t7, t8, tw, t9, t10, t11⟩ := a3
  unfold fX10_sentNew_17 fX14_isNew_12
  rcases t7 with c | c
  · obtain ⟨z', hz⟩ : ∃ u, u = zsI (zsI (zsI z1 10 6 e 1) 10 7 e (zgI z 6 6 e)) 10 8 e (Int32.ofNat n) := ⟨_, rfl⟩
    obtain ⟨w', hw⟩ : ∃ u, u = zsI (zsI (zsI w1 14 37 e 1) 14 38 e (zgI w 14 7 e)) 14 39 e (Int32.ofNat n) := ⟨_, rfl⟩
    have I : ∀ k j o, zgI z' k j o = if k = 10 ∧ j = 8 ∧ o = e then Int32.ofNat n else if k = 10 ∧ j = 7 ∧ o = e then zgI z 6 6 e else if k = 10 ∧ j = 6 ∧ o = e then 1 else zgI z1 k j o := fun k j o => by rw [hz, zgI_sI, zgI_sI, zgI_sI]
    have J : ∀ k j o, zgI w' k j o = if k = 14 ∧ j = 39 ∧ o = e then Int32.ofNat n else if k = 14 ∧ j = 38 ∧ o = e then zgI w 14 7 e else if k = 14 ∧ j = 37 ∧ o = e then 1 else zgI w1 k j o := fun k j o => by rw [hw, zgI_sI, zgI_sI, zgI_sI]
    have e7 : zgI (zsI w1 14 37 e 1) 14 7 e = zgI w 14 7 e := by rw [zgI_sI, if_neg (by omega)]; exact a7 14 7 e (by omega)
    refine ⟨z', w', ?_, ?_, ⟨?_, ?_, ?_, ?_, ?_, ?_, ?_, ?_, ?_, tw, t9, t10, ?_⟩, fun k j o q => ?_, fun k o i => ?_, ?_, fun k j o q => ?_, fun k o i => ?_, ?_⟩
    · rw [if_pos c, zl_e, zl_e, zl_e, hz]
    · rw [← t6, c, if_neg (fun y => y rfl), zl_e, e7, zl_e, zl_e, hw]
    · rw [I, J, J]; simpa using t0
    · rw [I, J]; simpa using t1
    · rw [I, J]; simpa using t2
    · rw [I, J]; simpa using t3
    · rw [I, J]; simpa using t4
    · rw [I, J]; simpa using t5
    · rw [I, J]; simp
    · right; rw [I]; simp
    · rw [I, I, I, J, J]; simpa using n7
    · rw [I]; simpa using t11
    · rw [I, if_neg (by omega), if_neg (by omega), if_neg (by omega)]; exact a4 k j o (by omega)
    · rw [hz]; exact a5 k o i
    · rw [hz]; exact zEc1_tr a6 (zEc1_tr (zEc1_I (by simp)) (zEc1_tr (zEc1_I (by simp)) (zEc1_I (by simp))))
    · rw [J, if_neg (by omega), if_neg (by omega), if_neg (by omega)]; exact a7 k j o (by omega)
    · rw [hw]; exact a8 k o i
    · rw [hw]; exact zEm1_tr a9 (zEm1_tr zEm1_I (zEm1_tr zEm1_I zEm1_I))
  · refine ⟨z1, w1, if_neg (by rw [c]; decide), if_pos (by rw [← t6, c]; decide), ⟨t0, t1, t2, t3, t4, t5, t6, Or.inr c, t8, tw, t9, t10, t11⟩, fun k j o q => a4 k j o (by omega), a5, a6, fun k j o q => a7 k j o (by omega), a8, a9⟩
