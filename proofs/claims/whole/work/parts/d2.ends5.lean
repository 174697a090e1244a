/-! ends, both sides: the alarm rings -/
theorem ztwo (t : Nat) : (2 : Int32) * Int32.ofNat t = Int32.ofNat (2 * t) := by
  rw [show (2 : Int32) = Int32.ofNat 2 from rfl, ← Int32.ofNat_mul]
theorem zp_rung {z w : St} {e n t jc jm : Nat} (hj : (jc = 9 ∧ jm = 28) ∨ (jc = 11 ∧ jm = 30) ∨ (jc = 12 ∧ jm = 31)) (hn : n ≤ 400000) (ht1 : 20 ≤ t) (ht2 : t ≤ 1200) (v : Int32) (hq : ∀ t0 : Int32, zRqv (zgI z 3 0 e) (zgI w 14 17 e) (if jc = 9 then 1 else zgI z 3 9 e) (if jc = 11 then 1 else zgI z 3 11 e) (zgI z 3 13 e) (zgI z 6 4 e) (zgI z 6 5 e) (zgI z 6 6 e) (zgI z 6 7 e) t0 (zgI z 4 7 e)) (h : zEe z w e) :
    zEe (zsI (zsI (zsI (zsI z 10 1 e v) 3 jc e 1) 10 2 e (Int32.ofNat t)) 10 0 e (Int32.ofNat n + Int32.ofNat t)) (zsI (zsI (zsI (zsI (zsI (zsI w 14 33 e 0) 14 36 e v) 14 jm e 1) 14 35 e (Int32.ofNat t)) 14 33 e 1) 14 34 e (Int32.ofNat n + Int32.ofNat t)) e := by
  obtain ⟨⟨s1, s2, s3⟩, ho, hi, ⟨-, t1, t2, t3, t4, t5, t6, t7, t8, -⟩, hnn⟩ := h
  obtain ⟨z', hz⟩ : ∃ u, u = zsI (zsI (zsI (zsI z 10 1 e v) 3 jc e 1) 10 2 e (Int32.ofNat t)) 10 0 e (Int32.ofNat n + Int32.ofNat t) := ⟨_, rfl⟩
  obtain ⟨w', hw⟩ : ∃ u, u = zsI (zsI (zsI (zsI (zsI (zsI w 14 33 e 0) 14 36 e v) 14 jm e 1) 14 35 e (Int32.ofNat t)) 14 33 e 1) 14 34 e (Int32.ofNat n + Int32.ofNat t) := ⟨_, rfl⟩
  rw [← hz, ← hw]
  have I : ∀ k j, zgI z' k j e = if k = 10 ∧ j = 0 then Int32.ofNat n + Int32.ofNat t else if k = 10 ∧ j = 2 then Int32.ofNat t else if k = 3 ∧ j = jc then 1 else if k = 10 ∧ j = 1 then v else zgI z k j e := fun k j => by
    rw [hz]; simp only [zgI_sI, and_true]
  have J : ∀ j, zgI w' 14 j e = if j = 34 then Int32.ofNat n + Int32.ofNat t else if j = 33 then 1 else if j = 35 then Int32.ofNat t else if j = jm then 1 else if j = 36 then v else zgI w 14 j e := fun j => by
    rw [hw]; simp only [zgI_sI, and_true, true_and]
    by_cases c : j = 33
    · subst c; simp
    · simp [c]
  have A : ∀ k i, zgA z' k e i = zgA z k e i := fun k i => by rw [hz]; rfl
  have B : ∀ k i, zgA w' k e i = zgA w k e i := fun k i => by rw [hw]; rfl
  have I3 : ∀ j, j ≠ jc → zgI z' 3 j e = zgI z 3 j e := fun j hj => by rw [I, if_neg (by omega), if_neg (by omega), if_neg (by omega), if_neg (by omega)]
  have I3c : zgI z' 3 jc e = 1 := by rw [I, if_neg (by omega), if_neg (by omega), if_pos ⟨rfl, rfl⟩]
  have Jm : ∀ j, j ≠ jm → ¬ (33 ≤ j ∧ j ≤ 36) → zgI w' 14 j e = zgI w 14 j e := fun j h1 h2 => by rw [J, if_neg (by omega), if_neg (by omega), if_neg (by omega), if_neg h1, if_neg (by omega)]
  have Jmc : zgI w' 14 jm e = 1 := by rw [J, if_neg (by omega), if_neg (by omega), if_neg (by omega), if_pos rfl]
  refine ⟨⟨⟨?_, ?_, ?_, ?_, ?_⟩, ⟨?_, ?_⟩, ?_⟩, ?_, ?_, ⟨?_, ?_, ?_, ?_, ?_, ?_, ?_, ?_, ?_⟩, ?_⟩
  · rw [I3 0 (by omega), Jm 0 (by omega) (by omega)]; exact s1.1
  · rw [I3 1 (by omega), Jm 14 (by omega) (by omega)]; exact s1.2.1
  · rw [I3 2 (by omega), Jm 15 (by omega) (by omega)]; exact s1.2.2.1
  · rw [I3 3 (by omega), Jm 1 (by omega) (by omega)]; exact s1.2.2.2.1
  · rw [I3 0 (by omega), I3 4 (by omega), Jm 43 (by omega) (by omega)]; exact s1.2.2.2.2
  · rw [I3 5 (by omega), Jm 24 (by omega) (by omega)]; exact s2.1
  · rw [I3 5 (by omega), I3 6 (by omega), I3 7 (by omega), I3 8 (by omega), Jm 25 (by omega) (by omega), Jm 26 (by omega) (by omega), Jm 27 (by omega) (by omega)]; exact s2.2
  · have k10 := I3 10 (by omega)
    have k13 := I3 13 (by omega)
    have l29 := Jm 29 (by omega) (by omega)
    have l32 := Jm 32 (by omega) (by omega)
    rw [k10, k13, l29, l32]
    rcases hj with ⟨rfl, rfl⟩ | ⟨rfl, rfl⟩ | ⟨rfl, rfl⟩
    · rw [I3c, Jmc, I3 11 (by omega), I3 12 (by omega), Jm 30 (by omega) (by omega), Jm 31 (by omega) (by omega)]
      exact ⟨rfl, s3.2⟩
    · rw [I3c, Jmc, I3 9 (by omega), I3 12 (by omega), Jm 28 (by omega) (by omega), Jm 31 (by omega) (by omega)]
      exact ⟨s3.1, s3.2.1, rfl, s3.2.2.2⟩
    · rw [I3c, Jmc, I3 9 (by omega), I3 11 (by omega), Jm 28 (by omega) (by omega), Jm 30 (by omega) (by omega)]
      exact ⟨s3.1, s3.2.1, s3.2.2.1, rfl, s3.2.2.2.2⟩
  · exact zRo_cg (fun j _ => by rw [I]; simp) (fun i => A 124 i) (fun j hj => Jm j (by omega) (by omega)) (fun i => B 159 i) ho
  · exact zRi_cg (fun j _ => by rw [I]; simp) (fun k i _ => A k i) (fun j hj => Jm j (by omega) (by omega)) (fun k i _ => B k i) hi
  · right
    refine ⟨?_, ?_, ?_⟩
    · rw [I, if_pos ⟨rfl, rfl⟩]; exact zsum0 hn ht1 ht2
    · rw [J, if_neg (by omega), if_pos rfl]
    · rw [I, if_pos ⟨rfl, rfl⟩, J, if_pos rfl]
  · rw [I, J, if_neg (by omega), if_neg (by omega), if_neg (by omega), if_pos ⟨rfl, rfl⟩, if_neg (by omega), if_neg (by omega), if_neg (by omega), if_neg (by omega), if_pos rfl]
  · rw [I, J, if_neg (by omega), if_pos ⟨rfl, rfl⟩, if_neg (by omega), if_neg (by omega), if_pos rfl]
  · rw [I, if_neg (by omega), if_neg (by omega), if_neg (by omega), if_neg (by omega), Jm 41 (by omega) (by omega)]; exact t3
  · rw [I, if_neg (by omega), if_neg (by omega), if_neg (by omega), if_neg (by omega), Jm 42 (by omega) (by omega)]; exact t4
  · rw [I, if_neg (by omega), if_neg (by omega), if_neg (by omega), if_neg (by omega), Jm 40 (by omega) (by omega)]; exact t5
  · rw [I, if_neg (by omega), if_neg (by omega), if_neg (by omega), if_neg (by omega), Jm 37 (by omega) (by omega)]; exact t6
  · rw [I, if_neg (by omega), if_neg (by omega), if_neg (by omega), if_neg (by omega)]; exact t7
  · refine ⟨?_, t, ht1, ht2, ?_⟩
    · rw [I, I, I, if_neg (by omega), if_neg (by omega), if_neg (by omega), if_neg (by omega), if_neg (by omega), if_neg (by omega), if_neg (by omega), if_neg (by omega), if_neg (by omega), if_neg (by omega), if_neg (by omega), if_neg (by omega), Jm 38 (by omega) (by omega), Jm 39 (by omega) (by omega)]; exact t8
    · rw [I, if_neg (by omega), if_pos ⟨rfl, rfl⟩]
  · refine zRn_cg (fun j hj => I3 j (by omega)) (by rw [I]; simp) ?_ ?_ hnn
    · rw [I3 0 (by omega), I, I]
      simpa using hnn.1
    · unfold zRq
      have x9 : zgI z' 3 9 e = if jc = 9 then 1 else zgI z 3 9 e := by
        by_cases c : jc = 9
        · rw [if_pos c, ← c]; exact I3c
        · rw [if_neg c]; exact I3 9 (by omega)
      have x11 : zgI z' 3 11 e = if jc = 11 then 1 else zgI z 3 11 e := by
        by_cases c : jc = 11
        · rw [if_pos c, ← c]; exact I3c
        · rw [if_neg c]; exact I3 11 (by omega)
      rw [x9, x11, I3 0 (by omega), I3 13 (by omega), Jm 17 (by omega) (by omega), show zgI z' 6 4 e = zgI z 6 4 e from by rw [I]; simp, show zgI z' 6 5 e = zgI z 6 5 e from by rw [I]; simp, show zgI z' 6 6 e = zgI z 6 6 e from by rw [I]; simp, show zgI z' 6 7 e = zgI z 6 7 e from by rw [I]; simp, show zgI z' 4 7 e = zgI z 4 7 e from by rw [I]; simp]
      exact hq _
