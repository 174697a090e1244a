/-! ends, both sides: thanked to -/
theorem zRs_ch {z z' w w' : St} {e : Nat} (hc : ∀ j, j < 64 → ¬ (j = 0 ∨ j = 9 ∨ j = 11 ∨ j = 12 ∨ j = 13) → zgI z' 3 j e = zgI z 3 j e) (hm : ∀ j, j = 1 ∨ j = 14 ∨ j = 15 ∨ (24 ≤ j ∧ j ≤ 27) ∨ j = 29 ∨ j = 43 → zgI w' 14 j e = zgI w 14 j e) (h0 : zgI z' 3 0 e = zgI w' 14 0 e) (hq : zgI z' 3 0 e = 10 → zgI z 3 0 e = 10) (h9 : zgI z' 3 9 e = zgI w' 14 28 e) (h11 : zgI z' 3 11 e = zgI w' 14 30 e) (h12 : zgI z' 3 12 e = zgI w' 14 31 e) (h13 : zgI z' 3 13 e = zgI w' 14 32 e) (h13b : zgI z' 3 13 e = 0 ∨ zgI z' 3 13 e = 1) (h : zRs z w e) : zRs z' w' e := by
  obtain ⟨⟨s1, s2, s3, s4, s5⟩, ⟨s6, s7⟩, s8, s9, -⟩ := h
  refine ⟨⟨h0, ?_, ?_, ?_, fun y => ?_⟩, ⟨?_, fun y => ?_⟩, h9, ?_, h11, h12, h13, h13b⟩
  · rw [hc 1 (by omega) (by omega), hm 14 (by omega)]; exact s2
  · rw [hc 2 (by omega) (by omega), hm 15 (by omega)]; exact s3
  · rw [hc 3 (by omega) (by omega), hm 1 (by omega)]; exact s4
  · rw [hc 4 (by omega) (by omega), hm 43 (by omega)]; exact s5 (hq y)
  · rw [hc 5 (by omega) (by omega), hm 24 (by omega)]; exact s6
  · rw [hc 6 (by omega) (by omega), hc 7 (by omega) (by omega), hc 8 (by omega) (by omega), hm 25 (by omega), hm 26 (by omega), hm 27 (by omega)]
    exact s7 (by rw [← hc 5 (by omega) (by omega)]; exact y)
  · rw [hc 10 (by omega) (by omega), hm 29 (by omega)]; exact s9
theorem zRt_off {z z' w w' : St} {e : Nat} (hc0 : zgI z' 10 0 e = 0) (hc : ∀ j, 1 ≤ j ∧ j < 64 → zgI z' 10 j e = zgI z 10 j e) (hm3 : zgI w' 14 33 e = 0) (hm : ∀ j, 35 ≤ j ∧ j ≤ 42 → zgI w' 14 j e = zgI w 14 j e) (h : zRt z w e) : zRt z' w' e := by
  obtain ⟨-, h⟩ := h
  refine ⟨Or.inl ⟨hc0, hm3⟩, ?_⟩
  rw [hc 1 (by omega), hc 2 (by omega), hc 3 (by omega), hc 4 (by omega), hc 5 (by omega), hc 6 (by omega), hc 7 (by omega), hc 8 (by omega), hm 35 (by omega), hm 36 (by omega), hm 37 (by omega), hm 38 (by omega), hm 39 (by omega), hm 40 (by omega), hm 41 (by omega), hm 42 (by omega)]
  exact h
theorem zp_thanked {z w : St} {e n N o' : Nat} {x : Int32} (hn : n ≤ 400000) (h16 : zgR z 3 16 e = some e) (h18 : zgR z 3 18 e = some e) (hs : zRs z w e) (ho : zRo z w e) (hi : zRi z w e) (ht : zRt z w e) (hx : x = zgI z 6 4 e + Int32.ofNat o') (hoo : ∀ o n, zgI z 6 5 e = zgI z 6 4 e + Int32.ofNat o → zgI z 6 6 e = zgI z 6 4 e + Int32.ofNat n → o ≤ n → n ≤ 1100001 → o < o' ∧ o' ≤ n) :
    ∃ z' w', fX3_thankedTo N e x (Int32.ofNat n) z = some (0, z') ∧ fX14_thankedFor N e x (Int32.ofNat n) w = some (0, w') ∧ zRs z' w' e ∧ zRo z' w' e ∧ zRi z' w' e ∧ zRt z' w' e ∧
      (∀ k j u, ¬ (((k = 6 ∧ (j = 1 ∨ j = 2 ∨ j = 3 ∨ j = 5 ∨ j = 7 ∨ j = 10)) ∨ (k = 10 ∧ j ≤ 6) ∨ (k = 3 ∧ j = 11)) ∧ u = e) → zgI z' k j u = zgI z k j u) ∧ (∀ k u i, zgA z' k u i = zgA z k u i) ∧ zEc1 e z z' ∧
      (∀ j, ¬ (j = 6 ∨ j = 30 ∨ (33 ≤ j ∧ j ≤ 42)) → zgI w' 14 j e = zgI w 14 j e) ∧ (∀ k u i, zgA w' k u i = zgA w k u i) ∧ zEm1 e w w' ∧ zgI z' 6 5 e = x ∧ zgI z' 6 7 e = 1 ∧ zgI z' 3 11 e = 0 := by
  obtain ⟨z1, g1, g2, g3, g4, g5, g6, g7⟩ := zc_thankTo (N := N) ho hx hoo
  have r1 : ∀ k j u, zgR z1 k j u = zgR z k j u := g5.2.2.2.2
  have ht1 : zRt z1 w e := zRt_cg (fun j _ => g3 10 j e (by omega)) (fun _ _ => rfl) ht
  obtain ⟨z2, w2, k1, k2, k3, k4, k5, k6, k7, k8, k9⟩ := zp_measured (N := N) x (Int32.ofNat n) ht1
  have r2 : ∀ k j u, zgR z2 k j u = zgR z k j u := fun k j u => (k6.2.2.2.2 k j u).trans (r1 k j u)
  have m6 : zgI w2 14 6 e = x := by rw [k7 6 (by omega), if_pos rfl]
  have mo : ∀ j, ¬ (j = 6 ∨ j = 35 ∨ j = 37 ∨ j = 40 ∨ j = 41 ∨ j = 42) → zgI w2 14 j e = zgI w 14 j e := fun j q => by rw [k7 j (by omega), if_neg (by omega)]
  have ho2 : zRo z2 w2 e := zRo_cg (w := zsI w 14 6 e x) (fun j _ => k4 6 j e (by omega)) (fun i => k5 124 e i) (fun j hj => by
    by_cases c : j = 6
    · rw [c, m6, zgI_sI, if_pos ⟨rfl, rfl, rfl⟩]
    · rw [mo j (by omega), zgI_sI, if_neg (by omega)]) (fun i => k8 159 e i) g2
  have c5 : zgI z2 6 5 e = x := (k4 6 5 e (by omega)).trans g6
  have c7 : zgI z2 6 7 e = 1 := (k4 6 7 e (by omega)).trans g7
  have cc : ∀ k j u, ¬ (((k = 6 ∧ (j = 1 ∨ j = 2 ∨ j = 3 ∨ j = 5 ∨ j = 7 ∨ j = 10)) ∨ (k = 10 ∧ j ≤ 6) ∨ (k = 3 ∧ j = 11)) ∧ u = e) → zgI z2 k j u = zgI z k j u := fun k j u q => (k4 k j u (by omega)).trans (g3 k j u (by omega))
  have ca : ∀ k u i, zgA z2 k u i = zgA z k u i := fun k u i => (k5 k u i).trans (g4 k u i)
  obtain ⟨v, hv⟩ : ∃ u : Int32, u = if zgI z2 6 5 e = zgI z2 6 6 e then 0 else Int32.ofNat n + zgI z2 10 2 e := ⟨_, rfl⟩
  obtain ⟨z3, hz3⟩ : ∃ u, u = zsI (zsI z2 10 0 e v) 3 11 e 0 := ⟨_, rfl⟩
  have runC : fX3_thankedTo N e x (Int32.ofNat n) z = some (0, z3) := by
    unfold fX3_thankedTo
    rw [h16, zl_e, zd_e, g1, zc_e, r1, h18, zl_e, zd_e, k1, zc_e, r2, h18, zl_e, r2, h16, zl_e, zd_e, zc_unthanked, zc_e]
    unfold fX3_thankedTo_44
    by_cases c : zgI z2 6 5 e = zgI z2 6 6 e
    · rw [decide_eq_false (fun y => y c), if_pos (by rfl), zd_e, zl_e, zl_e, hz3, hv, if_pos c]
    · rw [decide_eq_true c, if_neg (by decide), r2, h18, zl_e, zd_e, zd_e, zl_e, zl_e, hz3, hv, if_neg c]
  have I3 : ∀ k j u, ¬ (((k = 10 ∧ j = 0) ∨ (k = 3 ∧ j = 11)) ∧ u = e) → zgI z3 k j u = zgI z2 k j u := fun k j u q => by rw [hz3, zgI_sI, zgI_sI, if_neg (by omega), if_neg (by omega)]
  have I30 : zgI z3 10 0 e = v := by rw [hz3, zgI_sI, zgI_sI, if_neg (by omega), if_pos ⟨rfl, rfl, rfl⟩]
  have I311 : zgI z3 3 11 e = 0 := by rw [hz3, zgI_sI, if_pos ⟨rfl, rfl, rfl⟩]
  have A3 : ∀ k u i, zgA z3 k u i = zgA z2 k u i := fun k u i => by rw [hz3]; rfl
  have e3 : zEc1 e z2 z3 := by rw [hz3]; exact zEc1_tr (zEc1_I (by simp)) (zEc1_I (by simp))
  obtain ⟨w3, hw3, J33, J34, J30, J36, Jo, JA, Je⟩ : ∃ w3, fX14_thankedFor N e x (Int32.ofNat n) w = some (0, w3) ∧ (zgI w3 14 33 e = if zgI z2 6 5 e = zgI z2 6 6 e then 0 else 1) ∧ (¬ zgI z2 6 5 e = zgI z2 6 6 e → zgI w3 14 34 e = Int32.ofNat n + zgI w2 14 35 e) ∧ zgI w3 14 30 e = 0 ∧ zgI w3 14 36 e = 0 ∧ (∀ j, ¬ (j = 30 ∨ j = 33 ∨ j = 34 ∨ j = 36) → zgI w3 14 j e = zgI w2 14 j e) ∧ (∀ k u i, zgA w3 k u i = zgA w2 k u i) ∧ zEm1 e w2 w3 := by
    rw [k2]
    unfold fX14_thankedFor_38
    rw [zl_e, zl_e]
    have q6 : zgI (zsI (zsI w2 14 36 e 0) 14 30 e 0) 14 6 e = zgI z2 6 5 e := by rw [zgI_sI, zgI_sI, if_neg (by omega), if_neg (by omega)]; exact ho2.1.2.1.symm
    have q7 : zgI (zsI (zsI w2 14 36 e 0) 14 30 e 0) 14 7 e = zgI z2 6 6 e := by rw [zgI_sI, zgI_sI, if_neg (by omega), if_neg (by omega)]; exact ho2.1.2.2.1.symm
    rw [q6, q7]
    by_cases c : zgI z2 6 5 e = zgI z2 6 6 e
    · rw [if_pos c, zl_e, if_pos c]
      refine ⟨_, rfl, ?_, fun y => absurd c y, ?_, ?_, fun j q => ?_, fun _ _ _ => rfl, zEm1_tr zEm1_I (zEm1_tr zEm1_I zEm1_I)⟩
      · rw [zgI_sI, if_pos ⟨rfl, rfl, rfl⟩]
      · rw [zgI_sI, zgI_sI, if_neg (by omega), if_pos ⟨rfl, rfl, rfl⟩]
      · rw [zgI_sI, zgI_sI, zgI_sI, if_neg (by omega), if_neg (by omega), if_pos ⟨rfl, rfl, rfl⟩]
      · rw [zgI_sI, zgI_sI, zgI_sI, if_neg (by omega), if_neg (by omega), if_neg (by omega)]
    · rw [if_neg c, if_neg c]
      unfold fX14_setAlarm
      have q5 : zgI (zsI (zsI (zsI w2 14 36 e 0) 14 30 e 0) 14 33 e 1) 14 35 e = zgI w2 14 35 e := by rw [zgI_sI, zgI_sI, zgI_sI, if_neg (by omega), if_neg (by omega), if_neg (by omega)]
      rw [zl_e, q5, zl_e, zc_e]
      refine ⟨_, rfl, ?_, fun _ => ?_, ?_, ?_, fun j q => ?_, fun _ _ _ => rfl, zEm1_tr zEm1_I (zEm1_tr zEm1_I (zEm1_tr zEm1_I zEm1_I))⟩
      · rw [zgI_sI, zgI_sI, if_neg (by omega), if_pos ⟨rfl, rfl, rfl⟩]
      · rw [zgI_sI, if_pos ⟨rfl, rfl, rfl⟩]
      · rw [zgI_sI, zgI_sI, zgI_sI, if_neg (by omega), if_neg (by omega), if_pos ⟨rfl, rfl, rfl⟩]
      · rw [zgI_sI, zgI_sI, zgI_sI, zgI_sI, if_neg (by omega), if_neg (by omega), if_neg (by omega), if_pos ⟨rfl, rfl, rfl⟩]
      · rw [zgI_sI, zgI_sI, zgI_sI, zgI_sI, if_neg (by omega), if_neg (by omega), if_neg (by omega), if_neg (by omega)]
  have Jw : ∀ j, ¬ (j = 6 ∨ j = 30 ∨ (33 ≤ j ∧ j ≤ 42)) → zgI w3 14 j e = zgI w 14 j e := fun j q => (Jo j (by omega)).trans (mo j (by omega))
  have Cz : ∀ k j u, ¬ (((k = 6 ∧ (j = 1 ∨ j = 2 ∨ j = 3 ∨ j = 5 ∨ j = 7 ∨ j = 10)) ∨ (k = 10 ∧ j ≤ 6) ∨ (k = 3 ∧ j = 11)) ∧ u = e) → zgI z3 k j u = zgI z k j u := fun k j u q => (I3 k j u (by omega)).trans (cc k j u q)
  have hmw : ∀ j, 35 ≤ j ∧ j ≤ 42 → zgI w3 14 j e = zgI (zsI w2 14 36 e 0) 14 j e := fun j hj => by
    by_cases c : j = 36
    · rw [c, J36, zgI_sI, if_pos ⟨rfl, rfl, rfl⟩]
    · rw [Jo j (by omega), zgI_sI, if_neg (by omega)]
  refine ⟨z3, w3, runC, hw3, ?_, ?_, ?_, ?_, Cz, fun k u i => (A3 k u i).trans (ca k u i), zEc1_tr g5 (zEc1_tr k6 e3), Jw, fun k u i => (JA k u i).trans (k8 k u i), zEm1_tr k9 Je, (I3 6 5 e (by omega)).trans c5, (I3 6 7 e (by omega)).trans c7, I311⟩
  · refine zRs_ch (fun j _ q => Cz 3 j e (by omega)) (fun j hj => Jw j (by omega)) ?_ ?_ ?_ ?_ ?_ ?_ ?_ hs
    · rw [Cz 3 0 e (by omega), Jw 0 (by omega)]; exact hs.1.1
    · rw [Cz 3 0 e (by omega)]; exact id
    · rw [Cz 3 9 e (by omega), Jw 28 (by omega)]; exact hs.2.2.1
    · rw [I311, J30]
    · rw [Cz 3 12 e (by omega), Jw 31 (by omega)]; exact hs.2.2.2.2.2.1
    · rw [Cz 3 13 e (by omega), Jw 32 (by omega)]; exact hs.2.2.2.2.2.2.1
    · rw [Cz 3 13 e (by omega)]; exact hs.2.2.2.2.2.2.2
  · exact zRo_cg (fun j _ => I3 6 j e (by omega)) (fun i => A3 124 e i) (fun j hj => Jo j (by omega)) (fun i => JA 159 e i) ho2
  · exact zRi_cg (fun j _ => Cz 4 j e (by omega)) (fun k i _ => (A3 k e i).trans (ca k e i)) (fun j hj => Jw j (by omega)) (fun k i _ => (JA k e i).trans (k8 k e i)) hi
  · by_cases c : zgI z2 6 5 e = zgI z2 6 6 e
    · rw [if_pos c] at J33 hv
      exact zRt_off (I30.trans hv) (fun j hj => I3 10 j e (by omega)) J33 hmw k3
    · rw [if_neg c] at J33 hv
      have q35 : zgI (zsI w2 14 36 e 0) 14 35 e = zgI w2 14 35 e := by rw [zgI_sI, if_neg (by omega)]
      exact zRt_al hn (I30.trans hv) (fun j hj => I3 10 j e (by omega)) J33 (by rw [q35]; exact J34 c) hmw k3
