/-! ends: begin, the class -/
theorem zc_outBegin (z : St) (e N : Nat) (F : Int32) : ∃ z', fX6_begin N e F z = some (0, z') ∧ (∀ k j u, zgI z' k j u = if k = 6 ∧ u = e ∧ 1 ≤ j ∧ j ≤ 13 then (if 4 ≤ j ∧ j ≤ 6 then F else 0) else zgI z k j u) ∧ (∀ k u i, zgA z' k u i = zgA z k u i) ∧ zEc1 e z z' := by
  unfold fX6_begin
  rw [zl_e, zl_e, zl_e, zl_e, zl_e, zl_e, zl_e, zl_e, zl_e, zl_e, zl_e, zl_e, zl_e]
  refine ⟨_, rfl, fun k j u => ?_, fun _ _ _ => rfl, ?_⟩
  · simp only [zgI_sI]
    by_cases c : k = 6 ∧ u = e ∧ 1 ≤ j ∧ j ≤ 13
    · rw [if_pos c]
      obtain ⟨rfl, rfl, h1, h2⟩ := c
      have : j = 1 ∨ j = 2 ∨ j = 3 ∨ j = 4 ∨ j = 5 ∨ j = 6 ∨ j = 7 ∨ j = 8 ∨ j = 9 ∨ j = 10 ∨ j = 11 ∨ j = 12 ∨ j = 13 := by omega
      rcases this with rfl | rfl | rfl | rfl | rfl | rfl | rfl | rfl | rfl | rfl | rfl | rfl | rfl <;> simp
    · rw [if_neg c, if_neg (by omega), if_neg (by omega), if_neg (by omega), if_neg (by omega), if_neg (by omega), if_neg (by omega), if_neg (by omega), if_neg (by omega), if_neg (by omega), if_neg (by omega), if_neg (by omega), if_neg (by omega), if_neg (by omega)]
  · exact zEc1_tr (zEc1_I (by simp)) (zEc1_tr (zEc1_I (by simp)) (zEc1_tr (zEc1_I (by simp)) (zEc1_tr (zEc1_I (by simp)) (zEc1_tr (zEc1_I (by simp)) (zEc1_tr (zEc1_I (by simp)) (zEc1_tr (zEc1_I (by simp)) (zEc1_tr (zEc1_I (by simp)) (zEc1_tr (zEc1_I (by simp)) (zEc1_tr (zEc1_I (by simp)) (zEc1_tr (zEc1_I (by simp)) (zEc1_tr (zEc1_I (by simp)) (zEc1_I (by simp)))))))))))))
theorem zc_tmBegin (z : St) (e N : Nat) : ∃ z', fX10_begin N e z = some (0, z') ∧ (∀ k j u, zgI z' k j u = if k = 10 ∧ u = e ∧ j ≤ 6 then (if j = 2 then 60 else 0) else zgI z k j u) ∧ (∀ k u i, zgA z' k u i = zgA z k u i) ∧ zEc1 e z z' := by
  unfold fX10_begin
  rw [zl_e, zl_e, zl_e, zl_e, zl_e, zl_e, zl_e]
  refine ⟨_, rfl, fun k j u => ?_, fun _ _ _ => rfl, ?_⟩
  · simp only [zgI_sI]
    by_cases c : k = 10 ∧ u = e ∧ j ≤ 6
    · rw [if_pos c]
      obtain ⟨rfl, rfl, h1⟩ := c
      have : j = 0 ∨ j = 1 ∨ j = 2 ∨ j = 3 ∨ j = 4 ∨ j = 5 ∨ j = 6 := by omega
      rcases this with rfl | rfl | rfl | rfl | rfl | rfl | rfl <;> simp
    · rw [if_neg c, if_neg (by omega), if_neg (by omega), if_neg (by omega), if_neg (by omega), if_neg (by omega), if_neg (by omega), if_neg (by omega)]
  · exact zEc1_tr (zEc1_I (by simp)) (zEc1_tr (zEc1_I (by simp)) (zEc1_tr (zEc1_I (by simp)) (zEc1_tr (zEc1_I (by simp)) (zEc1_tr (zEc1_I (by simp)) (zEc1_tr (zEc1_I (by simp)) (zEc1_I (by simp)))))))
theorem zc_inBeginL {e N : Nat} : ∀ (n i nn : Nat) (z : St), i + n = 2048 → n < nn → ∃ z', fX4_begin_32 N nn e (Int32.ofNat i) z = some (0, z') ∧ (∀ k j u, zgI z' k j u = zgI z k j u) ∧ (∀ k u j, zgA z' k u j = if k = 121 ∧ u = e ∧ i ≤ j ∧ j < 2048 then 0 else zgA z k u j) ∧ zEc1 e z z' := by
  intro n
  induction n with
  | zero =>
    intro i nn z h1 h2
    obtain ⟨nn, rfl⟩ : ∃ k, nn = k + 1 := ⟨nn - 1, by omega⟩
    refine ⟨z, ?_, fun _ _ _ => rfl, fun k u j => by rw [if_neg (by omega)], zEc1_rf e z⟩
    show fX4_begin_32b N _ e _ z = _
    unfold fX4_begin_32b
    rw [if_pos (by rw [show (2048 : Int32) = Int32.ofNat 2048 from rfl, zo_le (by omega) (by omega)]; omega)]
  | succ n ih =>
    intro i nn z h1 h2
    obtain ⟨nn, rfl⟩ : ∃ k, nn = k + 1 := ⟨nn - 1, by omega⟩
    obtain ⟨z', g1, g2, g3, g4⟩ := ih (i + 1) nn (zsA z 121 e i 0) (by omega) (by omega)
    refine ⟨z', ?_, fun k j u => (g2 k j u).trans rfl, fun k u j => ?_, zEc1_tr (zEc1_A (by simp)) g4⟩
    · show fX4_begin_32b N _ e _ z = _
      unfold fX4_begin_32b
      have vb : vp_nar .boolean (0 : Int32) = 0 := by decide
      rw [if_neg (by rw [show (2048 : Int32) = Int32.ofNat 2048 from rfl, zo_le (by omega) (by omega)]; omega), zkk (by omega) (by omega), zoC (by omega), vb, zl_e, zo_i1, zl_e]
      exact g1
    · rw [g3]
      by_cases c : k = 121 ∧ u = e ∧ i ≤ j ∧ j < 2048
      · rw [if_pos c]
        by_cases d : j = i
        · rw [if_neg (by omega), zgA_sA, if_pos ⟨c.1, c.2.1, d⟩]
        · rw [if_pos (by omega)]
      · rw [if_neg c, if_neg (by omega), zgA_sA, if_neg (by omega)]
theorem zc_inBegin (z : St) {e N : Nat} (hN : 2048 < N) : ∃ z', fX4_begin N e z = some (0, z') ∧ (∀ k j u, zgI z' k j u = if k = 4 ∧ u = e ∧ 2 ≤ j ∧ j ≤ 7 then 0 else zgI z k j u) ∧ (∀ k u i, zgA z' k u i = if k = 121 ∧ u = e ∧ i < 2048 then 0 else zgA z k u i) ∧ zEc1 e z z' := by
  unfold fX4_begin
  rw [zl_e, zl_e, zl_e, zl_e, zl_e, zl_e]
  obtain ⟨z', g1, g2, g3, g4⟩ := zc_inBeginL (e := e) (N := N) 2048 0 N (zsI (zsI (zsI (zsI (zsI (zsI z 4 2 e 0) 4 3 e 0) 4 4 e 0) 4 5 e 0) 4 6 e 0) 4 7 e 0) (by omega) hN
  refine ⟨z', g1, fun k j u => ?_, fun k u i => ?_, zEc1_tr (zEc1_tr (zEc1_I (by simp)) (zEc1_tr (zEc1_I (by simp)) (zEc1_tr (zEc1_I (by simp)) (zEc1_tr (zEc1_I (by simp)) (zEc1_tr (zEc1_I (by simp)) (zEc1_I (by simp))))))) g4⟩
  · rw [g2]
    simp only [zgI_sI]
    by_cases c : k = 4 ∧ u = e ∧ 2 ≤ j ∧ j ≤ 7
    · rw [if_pos c]
      obtain ⟨rfl, rfl, h1, h2⟩ := c
      have : j = 2 ∨ j = 3 ∨ j = 4 ∨ j = 5 ∨ j = 6 ∨ j = 7 := by omega
      rcases this with rfl | rfl | rfl | rfl | rfl | rfl <;> simp
    · rw [if_neg c, if_neg (by omega), if_neg (by omega), if_neg (by omega), if_neg (by omega), if_neg (by omega), if_neg (by omega)]
  · rw [g3]
    by_cases c : k = 121 ∧ u = e ∧ i < 2048
    · rw [if_pos c, if_pos ⟨c.1, c.2.1, Nat.zero_le _, c.2.2⟩]
    · rw [if_neg c, if_neg (fun y => c ⟨y.1, y.2.1, y.2.2.2⟩)]; rfl
/-- what an end that begins again is -/
def bgC (F : Int32) (z : St) (e k j u : Nat) : Int32 :=
  if k = 3 ∧ u = e ∧ (j = 4 ∨ (9 ≤ j ∧ j ≤ 13) ∨ j = 15) then 0 else if k = 3 ∧ u = e ∧ j = 0 then 1 else if k = 3 ∧ u = e ∧ j = 2 then zgI z 3 1 e else
  if k = 6 ∧ u = e ∧ 1 ≤ j ∧ j ≤ 13 then (if 4 ≤ j ∧ j ≤ 6 then F else 0) else if k = 4 ∧ u = e ∧ 2 ≤ j ∧ j ≤ 7 then 0 else if k = 10 ∧ u = e ∧ j ≤ 6 then (if j = 2 then 60 else 0) else zgI z k j u
theorem zc_beginAgain {z : St} {e N : Nat} (F : Int32) (h16 : zgR z 3 16 e = some e) (h17 : zgR z 3 17 e = some e) (h18 : zgR z 3 18 e = some e) (hN : 2048 < N) : ∃ z', fX3_beginAgain N e F z = some (0, z') ∧ (∀ k j u, zgI z' k j u = bgC F z e k j u) ∧ (∀ k u i, zgA z' k u i = if k = 121 ∧ u = e ∧ i < 2048 then 0 else zgA z k u i) ∧ zEc1 e z z' := by
  obtain ⟨z1, hz1⟩ : ∃ y, y = zsI (zsI (zsI (zsI (zsI (zsI (zsI (zsI (zsI z 3 0 e 1) 3 2 e (zgI z 3 1 e)) 3 4 e 0) 3 9 e 0) 3 10 e 0) 3 11 e 0) 3 12 e 0) 3 13 e 0) 3 15 e 0 := ⟨_, rfl⟩
  have e1 : zEc1 e z z1 := by
    rw [hz1]
    exact zEc1_tr (zEc1_I (by simp)) (zEc1_tr (zEc1_I (by simp)) (zEc1_tr (zEc1_I (by simp)) (zEc1_tr (zEc1_I (by simp)) (zEc1_tr (zEc1_I (by simp)) (zEc1_tr (zEc1_I (by simp)) (zEc1_tr (zEc1_I (by simp)) (zEc1_tr (zEc1_I (by simp)) (zEc1_I (by simp)))))))))
  have I1 : ∀ k j u, zgI z1 k j u = if k = 3 ∧ u = e ∧ (j = 4 ∨ (9 ≤ j ∧ j ≤ 13) ∨ j = 15) then 0 else if k = 3 ∧ u = e ∧ j = 0 then 1 else if k = 3 ∧ u = e ∧ j = 2 then zgI z 3 1 e else zgI z k j u := fun k j u => by
    rw [hz1]
    simp only [zgI_sI]
    by_cases c : k = 3 ∧ u = e ∧ (j = 4 ∨ (9 ≤ j ∧ j ≤ 13) ∨ j = 15)
    · rw [if_pos c]
      obtain ⟨rfl, rfl, h1⟩ := c
      have : j = 4 ∨ j = 9 ∨ j = 10 ∨ j = 11 ∨ j = 12 ∨ j = 13 ∨ j = 15 := by omega
      rcases this with rfl | rfl | rfl | rfl | rfl | rfl | rfl <;> simp
    · rw [if_neg c, if_neg (by omega), if_neg (by omega), if_neg (by omega), if_neg (by omega), if_neg (by omega), if_neg (by omega), if_neg (by omega)]
      by_cases d : k = 3 ∧ u = e ∧ j = 0
      · obtain ⟨rfl, rfl, rfl⟩ := d; simp
      · rw [if_neg d]
        by_cases f : k = 3 ∧ u = e ∧ j = 2
        · obtain ⟨rfl, rfl, rfl⟩ := f; simp
        · rw [if_neg f, if_neg (by omega), if_neg (by omega)]
  obtain ⟨z2, g1, g2, g3, g4⟩ := zc_outBegin z1 e N F
  obtain ⟨z3, k1, k2, k3, k4⟩ := zc_inBegin z2 (e := e) hN
  obtain ⟨z4, m1, m2, m3, m4⟩ := zc_tmBegin z3 e N
  refine ⟨z4, ?_, fun k j u => ?_, fun k u i => ?_, zEc1_tr e1 (zEc1_tr g4 (zEc1_tr k4 m4))⟩
  · unfold fX3_beginAgain
    have q1 : zgI (zsI z 3 0 e 1) 3 1 e = zgI z 3 1 e := by rw [zgI_sI, if_neg (by omega)]
    rw [zl_e, q1, zl_e, zl_e, zl_e, zl_e, zl_e, zl_e, zl_e, zl_e, ← hz1, e1.2.2.2.2 3 16 e, h16, zl_e, zd_e, g1, zc_e, g4.2.2.2.2 3 17 e, e1.2.2.2.2 3 17 e, h17, zl_e, zd_e, k1, zc_e, k4.2.2.2.2 3 18 e, g4.2.2.2.2 3 18 e, e1.2.2.2.2 3 18 e, h18, zl_e, zd_e, m1, zc_e]
  · rw [m2, k2, g2, I1]
    unfold bgC
    by_cases c10 : k = 10 ∧ u = e ∧ j ≤ 6
    · have n1 : ¬ (k = 3 ∧ u = e ∧ (j = 4 ∨ (9 ≤ j ∧ j ≤ 13) ∨ j = 15)) := by omega
      have n2 : ¬ (k = 3 ∧ u = e ∧ j = 0) := by omega
      have n3 : ¬ (k = 3 ∧ u = e ∧ j = 2) := by omega
      have n4 : ¬ (k = 6 ∧ u = e ∧ 1 ≤ j ∧ j ≤ 13) := by omega
      have n5 : ¬ (k = 4 ∧ u = e ∧ 2 ≤ j ∧ j ≤ 7) := by omega
      rw [if_pos c10, if_neg n1, if_neg n2, if_neg n3, if_neg n4, if_neg n5, if_pos c10]
    · rw [if_neg c10, if_neg c10]
      by_cases c4 : k = 4 ∧ u = e ∧ 2 ≤ j ∧ j ≤ 7
      · have n1 : ¬ (k = 3 ∧ u = e ∧ (j = 4 ∨ (9 ≤ j ∧ j ≤ 13) ∨ j = 15)) := by omega
        have n2 : ¬ (k = 3 ∧ u = e ∧ j = 0) := by omega
        have n3 : ¬ (k = 3 ∧ u = e ∧ j = 2) := by omega
        have n4 : ¬ (k = 6 ∧ u = e ∧ 1 ≤ j ∧ j ≤ 13) := by omega
        rw [if_pos c4, if_neg n1, if_neg n2, if_neg n3, if_neg n4, if_pos c4]
      · rw [if_neg c4, if_neg c4]
        by_cases c6 : k = 6 ∧ u = e ∧ 1 ≤ j ∧ j ≤ 13
        · rw [if_pos c6, if_neg (show ¬ (k = 3 ∧ u = e ∧ (j = 4 ∨ (9 ≤ j ∧ j ≤ 13) ∨ j = 15)) by omega), if_neg (show ¬ (k = 3 ∧ u = e ∧ j = 0) by omega), if_neg (show ¬ (k = 3 ∧ u = e ∧ j = 2) by omega), if_pos c6]
        · rw [if_neg c6, if_neg c6]
  · rw [m3, k3, g3]
    by_cases c : k = 121 ∧ u = e ∧ i < 2048
    · rw [if_pos c, if_pos c]
    · rw [if_neg c, if_neg c, hz1]; rfl
