/-! ends, both sides: an OPEN comes -/
theorem zp_thanked0 {z w : St} {e n N o' : Nat} {x : Int32} (hn : n ≤ 400000) (h16 : zgR z 3 16 e = some e) (h18 : zgR z 3 18 e = some e) (ho : zRo z w e) (hi : zRi z w e) (ht : zRt z w e) (hx : x = zgI z 6 4 e + Int32.ofNat o') (hoo : ∀ o n, zgI z 6 5 e = zgI z 6 4 e + Int32.ofNat o → zgI z 6 6 e = zgI z 6 4 e + Int32.ofNat n → o ≤ n → n ≤ 1100001 → o < o' ∧ o' ≤ n) :
    ∃ z' w', fX3_thankedTo N e x (Int32.ofNat n) z = some (0, z') ∧ fX14_thankedFor N e x (Int32.ofNat n) w = some (0, w') ∧ zRo z' w' e ∧ zRi z' w' e ∧ zRt z' w' e ∧
      (∀ k j u, ¬ (((k = 6 ∧ (j = 1 ∨ j = 2 ∨ j = 3 ∨ j = 5 ∨ j = 7 ∨ j = 10)) ∨ (k = 10 ∧ j ≤ 6) ∨ (k = 3 ∧ j = 11)) ∧ u = e) → zgI z' k j u = zgI z k j u) ∧ (∀ k u i, zgA z' k u i = zgA z k u i) ∧ zEc1 e z z' ∧
      (∀ j, ¬ (j = 6 ∨ j = 30 ∨ (33 ≤ j ∧ j ≤ 42)) → zgI w' 14 j e = zgI w 14 j e) ∧ (∀ k u i, zgA w' k u i = zgA w k u i) ∧ zEm1 e w w' ∧ zgI z' 6 5 e = x ∧ zgI z' 6 7 e = 1 ∧ zgI z' 3 11 e = 0 ∧ zgI w' 14 30 e = 0 := by
  obtain ⟨z1, g1, g2, g3, g4, g5, g6, g7⟩ := zc_thankTo (N := N) ho hx hoo
  have r1 : ∀ k j u, zgR z1 k j u = zgR z k j u := g5.2.2.2.2
  have ht1 : zRt z1 w e := zRt_cg (fun j _ => g3 10 j e (by omega)) (fun _ _ => rfl) ht
  obtain ⟨z2, w2, k1, k2, k3, k4, k5, k6, k7, k8, k9⟩ := zp_measured (N := N) x (Int32.ofNat n) ht1
  have r2 : ∀ k j u, zgR z2 k j u = zgR z k j u := fun k j u => (k6.2.2.2.2 k j u).trans (r1 k j u)
  have m6 : zgI w2 14 6 e = x := by rw [k7 6 (by omega), if_pos rfl]
  have mo : ∀ j, ¬ (j = 6 ∨ j = 35 ∨ j = 37 ∨ j = 40 ∨ j = 41 ∨ j = 42) → zgI w2 14 j e = zgI w 14 j e := fun j q => by rw [k7 j (by omega), if_neg (by omega)]
  have ho2 : zRo z2 w2 e := zRo_cg (w := zsI w 14 6 e x) (fun j _ => k4 6 j e (by omega)) (fun i => k5 124 e i) (fun j hj => by
    by_cases c : j = 6
    · rw [c, m6, zgI_sI, if_pos ⟨rfl, rfl, rfl⟩]
    · rw [mo j (by omega), zgI_sI, if_neg (by omega)]) (fun i => k8 159 e i) g2
  have c5 : zgI z2 6 5 e = x := (k4 6 5 e (by omega)).trans g6
  have c7 : zgI z2 6 7 e = 1 := (k4 6 7 e (by omega)).trans g7
  have cc : ∀ k j u, ¬ (((k = 6 ∧ (j = 1 ∨ j = 2 ∨ j = 3 ∨ j = 5 ∨ j = 7 ∨ j = 10)) ∨ (k = 10 ∧ j ≤ 6) ∨ (k = 3 ∧ j = 11)) ∧ u = e) → zgI z2 k j u = zgI z k j u := fun k j u q => (k4 k j u (by omega)).trans (g3 k j u (by omega))
  have ca : ∀ k u i, zgA z2 k u i = zgA z k u i := fun k u i => (k5 k u i).trans (g4 k u i)
  obtain ⟨v, hv⟩ : ∃ u : Int32, u = if zgI z2 6 5 e = zgI z2 6 6 e then 0 else Int32.ofNat n + zgI z2 10 2 e := ⟨_, rfl⟩
  obtain ⟨z3, hz3⟩ : ∃ u, u = zsI (zsI z2 10 0 e v) 3 11 e 0 := ⟨_, rfl⟩
  have runC : fX3_thankedTo N e x (Int32.ofNat n) z = some (0, z3) := by
    unfold fX3_thankedTo
    rw [h16, zl_e, zd_e, g1, zc_e, r1, h18, zl_e, zd_e, k1, zc_e, r2, h18, zl_e, r2, h16, zl_e, zd_e, zc_unthanked, zc_e]
    unfold fX3_thankedTo_44
    by_cases c : zgI z2 6 5 e = zgI z2 6 6 e
    · rw [decide_eq_false (fun y => y c), if_pos (by rfl), zd_e, zl_e, zl_e, hz3, hv, if_pos c]
    · rw [decide_eq_true c, if_neg (by decide), r2, h18, zl_e, zd_e, zd_e, zl_e, zl_e, hz3, hv, if_neg c]
  have I3 : ∀ k j u, ¬ (((k = 10 ∧ j = 0) ∨ (k = 3 ∧ j = 11)) ∧ u = e) → zgI z3 k j u = zgI z2 k j u := fun k j u q => by rw [hz3, zgI_sI, zgI_sI, if_neg (by omega), if_neg (by omega)]
  have I30 : zgI z3 10 0 e = v := by rw [hz3, zgI_sI, zgI_sI, if_neg (by omega), if_pos ⟨rfl, rfl, rfl⟩]
  have I311 : zgI z3 3 11 e = 0 := by rw [hz3, zgI_sI, if_pos ⟨rfl, rfl, rfl⟩]
  have A3 : ∀ k u i, zgA z3 k u i = zgA z2 k u i := fun k u i => by rw [hz3]; rfl
  have e3 : zEc1 e z2 z3 := by rw [hz3]; exact zEc1_tr (zEc1_I (by simp)) (zEc1_I (by simp))
  obtain ⟨w3, hw3, J33, J34, J30, J36, Jo, JA, Je⟩ : ∃ w3, fX14_thankedFor N e x (Int32.ofNat n) w = some (0, w3) ∧ (zgI w3 14 33 e = if zgI z2 6 5 e = zgI z2 6 6 e then 0 else 1) ∧ (¬ zgI z2 6 5 e = zgI z2 6 6 e → zgI w3 14 34 e = Int32.ofNat n + zgI w2 14 35 e) ∧ zgI w3 14 30 e = 0 ∧ zgI w3 14 36 e = 0 ∧ (∀ j, ¬ (j = 30 ∨ j = 33 ∨ j = 34 ∨ j = 36) → zgI w3 14 j e = zgI w2 14 j e) ∧ (∀ k u i, zgA w3 k u i = zgA w2 k u i) ∧ zEm1 e w2 w3 := by
    rw [k2]
    unfold fX14_thankedFor_38
    rw [zl_e, zl_e]
    have q6 : zgI (zsI (zsI w2 14 36 e 0) 14 30 e 0) 14 6 e = zgI z2 6 5 e := by rw [zgI_sI, zgI_sI, if_neg (by omega), if_neg (by omega)]; exact ho2.1.2.1.symm
    have q7 : zgI (zsI (zsI w2 14 36 e 0) 14 30 e 0) 14 7 e = zgI z2 6 6 e := by rw [zgI_sI, zgI_sI, if_neg (by omega), if_neg (by omega)]; exact ho2.1.2.2.1.symm
    rw [q6, q7]
    by_cases c : zgI z2 6 5 e = zgI z2 6 6 e
    · rw [if_pos c, zl_e, if_pos c]
      refine ⟨_, rfl, ?_, fun y => absurd c y, ?_, ?_, fun j q => ?_, fun _ _ _ => rfl, zEm1_tr zEm1_I (zEm1_tr zEm1_I zEm1_I)⟩
      · rw [zgI_sI, if_pos ⟨rfl, rfl, rfl⟩]
      · rw [zgI_sI, zgI_sI, if_neg (by omega), if_pos ⟨rfl, rfl, rfl⟩]
      · rw [zgI_sI, zgI_sI, zgI_sI, if_neg (by omega), if_neg (by omega), if_pos ⟨rfl, rfl, rfl⟩]
      · rw [zgI_sI, zgI_sI, zgI_sI, if_neg (by omega), if_neg (by omega), if_neg (by omega)]
    · rw [if_neg c, if_neg c]
      unfold fX14_setAlarm
      have q5 : zgI (zsI (zsI (zsI w2 14 36 e 0) 14 30 e 0) 14 33 e 1) 14 35 e = zgI w2 14 35 e := by rw [zgI_sI, zgI_sI, zgI_sI, if_neg (by omega), if_neg (by omega), if_neg (by omega)]
      rw [zl_e, q5, zl_e, zc_e]
      refine ⟨_, rfl, ?_, fun _ => ?_, ?_, ?_, fun j q => ?_, fun _ _ _ => rfl, zEm1_tr zEm1_I (zEm1_tr zEm1_I (zEm1_tr zEm1_I zEm1_I))⟩
      · rw [zgI_sI, zgI_sI, if_neg (by omega), if_pos ⟨rfl, rfl, rfl⟩]
      · rw [zgI_sI, if_pos ⟨rfl, rfl, rfl⟩]
      · rw [zgI_sI, zgI_sI, zgI_sI, if_neg (by omega), if_neg (by omega), if_pos ⟨rfl, rfl, rfl⟩]
      · rw [zgI_sI, zgI_sI, zgI_sI, zgI_sI, if_neg (by omega), if_neg (by omega), if_neg (by omega), if_pos ⟨rfl, rfl, rfl⟩]
      · rw [zgI_sI, zgI_sI, zgI_sI, zgI_sI, if_neg (by omega), if_neg (by omega), if_neg (by omega), if_neg (by omega)]
  have Jw : ∀ j, ¬ (j = 6 ∨ j = 30 ∨ (33 ≤ j ∧ j ≤ 42)) → zgI w3 14 j e = zgI w 14 j e := fun j q => (Jo j (by omega)).trans (mo j (by omega))
  have Cz : ∀ k j u, ¬ (((k = 6 ∧ (j = 1 ∨ j = 2 ∨ j = 3 ∨ j = 5 ∨ j = 7 ∨ j = 10)) ∨ (k = 10 ∧ j ≤ 6) ∨ (k = 3 ∧ j = 11)) ∧ u = e) → zgI z3 k j u = zgI z k j u := fun k j u q => (I3 k j u (by omega)).trans (cc k j u q)
  have hmw : ∀ j, 35 ≤ j ∧ j ≤ 42 → zgI w3 14 j e = zgI (zsI w2 14 36 e 0) 14 j e := fun j hj => by
    by_cases c : j = 36
    · rw [c, J36, zgI_sI, if_pos ⟨rfl, rfl, rfl⟩]
    · rw [Jo j (by omega), zgI_sI, if_neg (by omega)]
  refine ⟨z3, w3, runC, hw3, ?_, ?_, ?_, Cz, fun k u i => (A3 k u i).trans (ca k u i), zEc1_tr g5 (zEc1_tr k6 e3), Jw, fun k u i => (JA k u i).trans (k8 k u i), zEm1_tr k9 Je, (I3 6 5 e (by omega)).trans c5, (I3 6 7 e (by omega)).trans c7, I311, J30⟩
  · exact zRo_cg (fun j _ => I3 6 j e (by omega)) (fun i => A3 124 e i) (fun j hj => Jo j (by omega)) (fun i => JA 159 e i) ho2
  · exact zRi_cg (fun j _ => Cz 4 j e (by omega)) (fun k i _ => (A3 k e i).trans (ca k e i)) (fun j hj => Jw j (by omega)) (fun k i _ => (JA k e i).trans (k8 k e i)) hi
  · by_cases c : zgI z2 6 5 e = zgI z2 6 6 e
    · rw [if_pos c] at J33 hv
      exact zRt_off (I30.trans hv) (fun j hj => I3 10 j e (by omega)) J33 hmw k3
    · rw [if_neg c] at J33 hv
      have q35 : zgI (zsI w2 14 36 e 0) 14 35 e = zgI w2 14 35 e := by rw [zgI_sI, if_neg (by omega)]
      exact zRt_al hn (I30.trans hv) (fun j hj => I3 10 j e (by omega)) J33 (by rw [q35]; exact J34 c) hmw k3
theorem zRi_z {z w : St} {e : Nat} (h : zRi z w e) (h17 : zgI w 14 17 e = 0) : (∀ i, i < 2048 → zgA z 121 e i = 0) ∧ (∀ i, i < 2048 → zgA w 161 e i = 0) ∧ zgI z 4 3 e = Int32.ofNat 0 ∧ zgI z 4 4 e = 0 ∧ zgI z 4 7 e = 0 ∧ zgI z 4 5 e = 0 := by
  obtain ⟨-, st, R, ⟨r1, r2, r3, r4⟩, q0, q1, q2, q3⟩ := h
  obtain ⟨z0, z4, z7, z5⟩ := q0 h17
  subst z0
  have both : ∀ k, k < 2048 → zgA z 121 e ((st + 0 + k) % 2048) = 0 ∧ zgA w 161 e k = 0 := fun k hk => by
    obtain ⟨b1, b2⟩ := q3 z7 k hk
    have ik : zun (zgI z 4 4 e + Int32.ofNat k) % 2048 = k := by
      rw [zun_add, z4]
      show (0 + k) % 2048 = k
      omega
    rw [ik] at b1 b2
    have c0 : zgA z 121 e ((st + 0 + k) % 2048) = 0 := by
      rcases b2 with y | y
      · exact y
      · rw [h17] at y; exact absurd y.2.2.1 (by decide)
    exact ⟨c0, by rw [← b1]; exact c0⟩
  refine ⟨fun i hi => ?_, fun i hi => (both i hi).2, r4, z4, z7, z5⟩
  have := (both ((i + 2048 - st) % 2048) (Nat.mod_lt _ (by decide))).1
  rw [show (st + 0 + (i + 2048 - st) % 2048) % 2048 = i from by omega] at this
  exact this
theorem zo_ne {F : Int32} : ¬ F + 1 = F := by
  intro h
  have := zi_cancel h.symm
  rw [show F - F = 0 from by rw [← Int32.toBitVec_inj]; simp] at this
  exact absurd this (by decide)
theorem zRo_n1 {z z' w w' : St} {e : Nat} (h5 : zgI z 6 5 e = zgI z 6 4 e) (h6 : zgI z 6 6 e = zgI z 6 4 e) (hc : ∀ j, j < 64 → ¬ (j = 6 ∨ j = 11 ∨ j = 12 ∨ j = 13) → zgI z' 6 j e = zgI z 6 j e) (ha : ∀ i, zgA z' 124 e i = zgA z 124 e i) (hm : ∀ j, 5 ≤ j ∧ j ≤ 9 → ¬ j = 7 → zgI w' 14 j e = zgI w 14 j e) (hb : ∀ i, zgA w' 159 e i = zgA w 159 e i) (h11 : zgI z' 6 11 e = zgI w' 14 11 e) (h12 : zgI z' 6 12 e = zgI w' 14 12 e) (h13 : zgI z' 6 13 e = zgI w' 14 13 e) (n6 : zgI z' 6 6 e = zgI z 6 4 e + 1) (m7 : zgI w' 14 7 e = zgI z 6 4 e + 1) (h : zRo z w e) : zRo z' w' e := by
  obtain ⟨⟨f4, f5, f6, f8, f81, -⟩, o, n, W, st, B, L, S, hO, ⟨q1, q2, q3, q4, q5, q6, q7, q8, q9⟩, ⟨r1, r2, r3, r4, r5, r6, r7⟩, a⟩ := zRo_iff.mp h
  have F0 : zgI z 6 4 e = zgI z 6 4 e + Int32.ofNat 0 := by
    show _ = _ + (0 : Int32)
    rw [← Int32.toBitVec_inj]; simp
  have o0 : o = 0 := zo_inj (F := zgI z 6 4 e) (by omega) (by omega) (by rw [← q1, h5]; exact F0)
  have n0 : n = 0 := zo_inj (F := zgI z 6 4 e) (by omega) (by omega) (by rw [← q2, h6]; exact F0)
  subst o0 n0
  have hO' : zOb 0 1 W B L S := by
    obtain ⟨a1, a2, a3⟩ := hO
    exact ⟨a1, a2, by omega⟩
  refine zRo_iff.mpr ⟨⟨?_, ?_, ?_, ?_, ?_, h11, h12, h13⟩, 0, 1, W, st, B, L, S, hO', ⟨?_, ?_, ?_, q4, q5, by omega, by omega, fun y => by omega, q9⟩, ⟨r1, ?_, ?_, ?_, ?_, ?_, ?_⟩, fun i hi => ?_⟩
  · rw [hc 4 (by omega) (by omega), hm 5 (by omega) (by omega)]; exact f4
  · rw [hc 5 (by omega) (by omega), hm 6 (by omega) (by omega)]; exact f5
  · rw [n6, m7]
  · rw [hc 8 (by omega) (by omega), hm 9 (by omega) (by omega)]; exact f8
  · rw [hc 8 (by omega) (by omega)]; exact f81
  · rw [hc 5 (by omega) (by omega), hc 4 (by omega) (by omega)]; exact q1
  · rw [n6, hc 4 (by omega) (by omega)]; rfl
  · rw [hc 4 (by omega) (by omega), hm 8 (by omega) (by omega)]; exact q3
  · rw [hc 1 (by omega) (by omega)]; exact r2
  · rw [hc 2 (by omega) (by omega)]; exact r3
  · rw [hc 3 (by omega) (by omega)]; exact r4
  · rw [hc 7 (by omega) (by omega)]; exact r5
  · rw [hc 9 (by omega) (by omega), r6, decide_eq_false (show ¬ 0 = W + 1 by omega), decide_eq_false (show ¬ 1 = W + 1 by omega)]
  · rw [hc 10 (by omega) (by omega)]; exact r7
  · rw [ha, hb]; exact a i hi
theorem zp_takeOpen {z w : St} {T : Tp} {E : Ev} {g : Sg} {K : Int32 → Int32 → Int32 → Prop} {X TS TA : List Nat} {e x s N : Nat} {V : Sv} (h16 : zgR z 3 16 e = some e) (h17r : zgR z 3 17 e = some e) (hV : zSgC z x V) (hVm : zSgM w s V) (hW : ∃ v : Nat, v ≤ 65535 ∧ vgW V = Int32.ofNat v) (hL : ∃ v : Nat, v ≤ 65535 ∧ vgL V = Int32.ofNat v) (hM : zMB w T E g K X TS TA) (he : hEnd T e) (hix : zIx (msg w s 8) 2592) (hl : TS.length + TA.length ≤ 4000) (h17 : zgI w 14 17 e = 0) (hs : zRs z w e) (hi : zRi z w e) (hz : zRz z e) (h5 : zgI z 6 4 e = zgI w 14 5 e) :
    ∃ z' w', fX3_takeOpen N e x z = some (0, z') ∧ fX19_takeOpen N 0 e (Int32.ofNat s) w = some (0, w') ∧ zMB w' T E g K X TS TA ∧ zRi z' w' e ∧ zRz z' e ∧ zgI z' 3 2 e = zgI w' 14 15 e ∧ zgI z' 6 11 e = zgI w' 14 11 e ∧ zgI z' 6 12 e = zgI w' 14 12 e ∧ zgI z' 6 13 e = zgI w' 14 13 e ∧ zgI w' 14 17 e = 1 ∧
      (∀ k j u, ¬ (((k = 4 ∧ j = 4) ∨ (k = 3 ∧ (j = 2 ∨ j = 15)) ∨ (k = 6 ∧ (j = 11 ∨ j = 12 ∨ j = 13))) ∧ u = e) → zgI z' k j u = zgI z k j u) ∧ (∀ k u i, zgA z' k u i = zgA z k u i) ∧ zEc1 e z z' ∧
      (∀ j, ¬ (j = 11 ∨ j = 12 ∨ j = 13 ∨ j = 15 ∨ j = 16 ∨ j = 17 ∨ j = 18 ∨ j = 45 ∨ j = 46) → zgI w' 14 j e = zgI w 14 j e) ∧ (∀ k u i, ¬ (k = 183 ∨ k = 185) → zgA w' k u i = zgA w k u i) ∧ (∀ k u i, zgL w' k u i = zgL w k u i) ∧ zBe e w w' := by
  obtain ⟨⟨p, p1, p2, p3⟩, ⟨l, l1, l2, l3⟩, v0, v1, v2⟩ := id hz
  obtain ⟨wv, w1', w2'⟩ := hW
  obtain ⟨lv, lv1, lv2⟩ := hL
  have m14 : zgI w 14 14 e = Int32.ofNat l := hs.1.2.1.symm.trans l3
  -- the piece
  obtain ⟨o, ho, ho1, ho2⟩ : ∃ o : Nat, (if ¬ vgL V = 0 then vgL V else 536) = Int32.ofNat o ∧ 1 ≤ o ∧ o ≤ 65535 := by
    by_cases c : vgL V = 0
    · rw [if_neg (fun y => y c)]; exact ⟨536, rfl, by omega, by omega⟩
    · rw [if_pos c]
      refine ⟨lv, lv2, Nat.pos_of_ne_zero (fun y => c ?_), lv1⟩
      rw [lv2, y]; rfl
  obtain ⟨P, hP⟩ : ∃ P : Nat, P = if o < l then o else l := ⟨_, rfl⟩
  have P1 : 1 ≤ P ∧ P ≤ 1460 := by rw [hP]; split <;> omega
  have cP : (if Int32.ofNat o < Int32.ofNat l then Int32.ofNat o else Int32.ofNat l) = Int32.ofNat P := by rw [zmin_of (by omega) (by omega), hP]
  obtain ⟨tk, htk⟩ : ∃ u : Int32, u = if vgK V 8 = true then vgT V else zgI z 6 4 e := ⟨_, rfl⟩
  -- the class
  obtain ⟨z', hz'⟩ : ∃ y, y = zsI (zsI (zsI (zsI (zsI (zsI z 4 4 e (vgN V + 1)) 3 2 e (Int32.ofNat P)) 6 11 e (vgW V)) 6 12 e (vgN V)) 6 13 e tk) 3 15 e (zgI z 7 9 x) := ⟨_, rfl⟩
  have I : ∀ k j u, ¬ (((k = 4 ∧ j = 4) ∨ (k = 3 ∧ (j = 2 ∨ j = 15)) ∨ (k = 6 ∧ (j = 11 ∨ j = 12 ∨ j = 13))) ∧ u = e) → zgI z' k j u = zgI z k j u := fun k j u q => by
    rw [hz', zgI_sI, zgI_sI, zgI_sI, zgI_sI, zgI_sI, zgI_sI, if_neg (by omega), if_neg (by omega), if_neg (by omega), if_neg (by omega), if_neg (by omega), if_neg (by omega)]
  have i44 : zgI z' 4 4 e = vgN V + 1 := by rw [hz']; simp [zgI_sI]
  have i32 : zgI z' 3 2 e = Int32.ofNat P := by rw [hz']; simp [zgI_sI]
  have i11 : zgI z' 6 11 e = vgW V := by rw [hz']; simp [zgI_sI]
  have i12 : zgI z' 6 12 e = vgN V := by rw [hz']; simp [zgI_sI]
  have i13 : zgI z' 6 13 e = tk := by rw [hz']; simp [zgI_sI]
  have ec : zEc1 e z z' := by rw [hz']; exact zEc1_tr (zEc1_I (by simp)) (zEc1_tr (zEc1_I (by simp)) (zEc1_tr (zEc1_I (by simp)) (zEc1_tr (zEc1_I (by simp)) (zEc1_tr (zEc1_I (by simp)) (zEc1_I (by simp))))))
  have runC : fX3_takeOpen N e x z = some (0, z') := by
    have t34 : fX3_takeOpen N e x z = fX3_takeOpen_34 N e x e (Int32.ofNat l) (Int32.ofNat o) (zsI z 4 4 e (vgN V + 1)) := by
      unfold fX3_takeOpen
      have q1 : zgI (zsI z 4 4 e (vgN V + 1)) 3 1 e = Int32.ofNat l := by rw [zgI_sI, if_neg (by omega)]; exact l3
      rw [hV.1.2.2.2.2.1, zl_e, h17r, zl_e, zd_e, hV.1.2.1, zl_e, q1, ← ho]
      by_cases c : vgL V = 0
      · rw [if_neg (fun y => y c), if_neg (fun y => y c)]
      · rw [if_pos c, if_pos c]
    rw [t34]
    unfold fX3_takeOpen_34 fX3_takeOpen_68 fX6_tellWindow
    rw [cP, zl_e]
    obtain ⟨z2, hz2⟩ : ∃ y, y = zsI (zsI z 4 4 e (vgN V + 1)) 3 2 e (Int32.ofNat P) := ⟨_, rfl⟩
    have c2 : zEc1 e z z2 := by rw [hz2]; exact zEc1_tr (zEc1_I (by simp)) (zEc1_I (by simp))
    have V2 : zSgC z2 x V := zSgC_ec c2 hV
    have r16 : zgR z2 3 16 e = some e := (c2.2.2.2.2 3 16 e).trans h16
    have f4 : zgI z2 6 4 e = zgI z 6 4 e := by rw [hz2, zgI_sI, zgI_sI, if_neg (by omega), if_neg (by omega)]
    have mk : zgI z2 7 9 x = zgI z 7 9 x := c2.1 7 9 x (by omega)
    have fin : ∀ v : Int32, v = tk → (zd (zgR z2 3 16 e) fun a1 => zc (zl (zsI z2 6 11 a1 (zgI z2 7 18 x)) fun z1 => zl (zsI z1 6 12 a1 (zgI z1 7 16 x)) fun z2 => zl (zsI z2 6 13 a1 v) fun z3 => some ((0 : Int32), z3)) fun _ z3 => zl (zsI z3 3 15 e (zgI z3 7 9 x)) fun z6 => some ((0 : Int32), z6)) = some (0, z') := fun v hv => by
      rw [r16, zd_e, V2.1.2.2.2.1, zl_e]
      have n1 : zgI (zsI z2 6 11 e (vgW V)) 7 16 x = vgN V := by rw [zgI_sI, if_neg (by omega)]; exact V2.1.2.1
      rw [n1, zl_e, zl_e, zc_e]
      have n2 : zgI (zsI (zsI (zsI z2 6 11 e (vgW V)) 6 12 e (vgN V)) 6 13 e v) 7 9 x = zgI z 7 9 x := by
        rw [zgI_sI, zgI_sI, zgI_sI, if_neg (by omega), if_neg (by omega), if_neg (by omega)]; exact mk
      rw [n2, zl_e, hv, hz', hz2]
    rw [← hz2, zl_e, zc_hasf 8 V2, zc_e]
    cases ck : vgK V 8
    · rw [ck] at htk
      rw [if_pos (by decide)]
      have e16 : (zl (zgR z2 3 16 e) fun y8 => zd y8 fun a9 => zd (zgR z2 3 16 e) fun a1 => zc (zl (zsI z2 6 11 a1 (zgI z2 7 18 x)) fun z1 => zl (zsI z1 6 12 a1 (zgI z1 7 16 x)) fun z2_1 => zl (zsI z2_1 6 13 a1 (zgI z2 6 4 a9)) fun z3 => some ((0 : Int32), z3)) fun _ z3 => zl (zsI z3 3 15 e (zgI z3 7 9 x)) fun z6 => some ((0 : Int32), z6)) = some (0, z') := by
        rw [zl_e]
        conv => lhs; rw [r16]
        rw [zd_e, ← r16]
        exact fin _ (by rw [f4, htk]; rfl)
      exact e16
    · rw [ck] at htk
      rw [if_neg (show ¬ zbi true = 0 by decide)]
      exact fin _ (by rw [V2.1.2.2.1, htk]; rfl)
  -- the model
  obtain ⟨w1, hw1⟩ : ∃ y, y = zsI (zsI (zsI (zsI (zsI (zsI (zsI w 14 17 e 1) 14 16 e (vgN V + 1)) 14 18 e (vgN V + 1)) 14 15 e (Int32.ofNat P)) 14 11 e (vgW V)) 14 12 e (vgN V)) 14 13 e tk := ⟨_, rfl⟩
  have em1 : zEm1 e w w1 := by rw [hw1]; exact zEm1_tr zEm1_I (zEm1_tr zEm1_I (zEm1_tr zEm1_I (zEm1_tr zEm1_I (zEm1_tr zEm1_I (zEm1_tr zEm1_I zEm1_I)))))
  have J1 : ∀ j, ¬ (j = 11 ∨ j = 12 ∨ j = 13 ∨ j = 15 ∨ j = 16 ∨ j = 17 ∨ j = 18) → zgI w1 14 j e = zgI w 14 j e := fun j q => by
    rw [hw1, zgI_sI, zgI_sI, zgI_sI, zgI_sI, zgI_sI, zgI_sI, zgI_sI, if_neg (by omega), if_neg (by omega), if_neg (by omega), if_neg (by omega), if_neg (by omega), if_neg (by omega), if_neg (by omega)]
  have runM : fX19_takeOpen N 0 e (Int32.ofNat s) w = bkt N e (Int32.ofNat s) w1 := by
    have t66 : fX19_takeOpen N 0 e (Int32.ofNat s) w = fX19_takeOpen_66 N 0 e (Int32.ofNat s) e (Int32.ofNat P) (zsI (zsI (zsI w 14 17 e 1) 14 16 e (vgN V + 1)) 14 18 e (vgN V + 1)) := by
      have s1 : zEm1 e w (zsI w 14 17 e 1) := zEm1_I
      have s3 : zEm1 e w (zsI (zsI (zsI w 14 17 e 1) 14 16 e (vgN V + 1)) 14 18 e (vgN V + 1)) := zEm1_tr zEm1_I (zEm1_tr zEm1_I zEm1_I)
      have q16 : zgI (zsI (zsI w 14 17 e 1) 14 16 e (vgN V + 1)) 14 16 e = vgN V + 1 := by rw [zgI_sI, if_pos ⟨rfl, rfl, rfl⟩]
      have q14 : zgI (zsI (zsI (zsI w 14 17 e 1) 14 16 e (vgN V + 1)) 14 18 e (vgN V + 1)) 14 14 e = Int32.ofNat l := by rw [zgI_sI, zgI_sI, zgI_sI, if_neg (by omega), if_neg (by omega), if_neg (by omega)]; exact m14
      have t48 : ∀ s0 : Int32, s0 = Int32.ofNat o → fX19_takeOpen_48 N 0 e (Int32.ofNat s) s0 (zsI (zsI (zsI w 14 17 e 1) 14 16 e (vgN V + 1)) 14 18 e (vgN V + 1)) = fX19_takeOpen_66 N 0 e (Int32.ofNat s) e (Int32.ofNat P) (zsI (zsI (zsI w 14 17 e 1) 14 16 e (vgN V + 1)) 14 18 e (vgN V + 1)) := fun s0 hs0 => by
        unfold fX19_takeOpen_48
        rw [q14, hs0, hP]
        by_cases c : o ≤ l
        · rw [if_pos (by rw [zo_le (by omega) (by omega)]; exact c)]
          by_cases d : o < l
          · rw [if_pos d]
          · rw [if_neg d, show o = l from by omega]
        · rw [if_neg (by rw [zo_le (by omega) (by omega)]; exact c), if_neg (show ¬ o < l by omega)]
      unfold fX19_takeOpen
      rw [zl_e, zm_sgN (zSgM_em s1 hVm), zc_e, zl_e, q16, zl_e, zm_sgL (zSgM_em s3 hVm), zc_e]
      by_cases c : vgL V = 0
      · rw [if_neg (fun y => y c)] at ho
        rw [if_neg (fun y => y c)]
        exact t48 _ ho
      · rw [if_pos c] at ho
        rw [if_pos c, zm_sgL (zSgM_em s3 hVm), zc_e]
        exact t48 _ ho
    rw [t66]
    unfold fX19_takeOpen_66
    obtain ⟨w2, hw2⟩ : ∃ y, y = zsI (zsI (zsI (zsI w 14 17 e 1) 14 16 e (vgN V + 1)) 14 18 e (vgN V + 1)) 14 15 e (Int32.ofNat P) := ⟨_, rfl⟩
    have s2 : zEm1 e w w2 := by rw [hw2]; exact zEm1_tr zEm1_I (zEm1_tr zEm1_I (zEm1_tr zEm1_I zEm1_I))
    have s3 : zEm1 e w (zsI w2 14 11 e (vgW V)) := zEm1_tr s2 zEm1_I
    have s4 : zEm1 e w (zsI (zsI w2 14 11 e (vgW V)) 14 12 e (vgN V)) := zEm1_tr s3 zEm1_I
    have q5 : zgI (zsI (zsI w2 14 11 e (vgW V)) 14 12 e (vgN V)) 14 5 e = zgI z 6 4 e := by
      rw [hw2, zgI_sI, zgI_sI, zgI_sI, zgI_sI, zgI_sI, zgI_sI, if_neg (by omega), if_neg (by omega), if_neg (by omega), if_neg (by omega), if_neg (by omega), if_neg (by omega)]; exact h5.symm
    rw [zl_e, ← hw2, zm_sgW (zSgM_em s2 hVm), zc_e, zl_e, zm_sgN (zSgM_em s3 hVm), zc_e, zl_e, zm_hasf 8 (zSgM_em s4 hVm), zc_e]
    cases ck : vgK V 8
    · rw [ck] at htk
      rw [if_pos (by decide), bkt_e, q5, hw1, hw2, htk]; rfl
    · rw [ck] at htk
      rw [if_neg (show ¬ zbi true = 0 by decide), zm_sgT (zSgM_em s4 hVm), zc_e, bkt_e, hw1, hw2, htk]; rfl
  have e8 : msg w1 s 8 = msg w s 8 := em1.2.1 174 0 _ (by omega)
  obtain ⟨w', b1, b2, b3, b4, b5, b6⟩ := zm_bkt (N := N) (zMB_em hM em1) he hVm.1 (by rw [e8]; exact hix) hl
  have A1 : ∀ k u i, zgA w1 k u i = zgA w k u i := fun k u i => by rw [hw1]; rfl
  have L1 : ∀ k u i, zgL w1 k u i = zgL w k u i := fun k u i => by rw [hw1]; rfl
  have J : ∀ j, ¬ (j = 11 ∨ j = 12 ∨ j = 13 ∨ j = 15 ∨ j = 16 ∨ j = 17 ∨ j = 18 ∨ j = 45 ∨ j = 46) → zgI w' 14 j e = zgI w 14 j e := fun j q => (b3 j (by omega)).trans (J1 j (by omega))
  have j17 : zgI w' 14 17 e = 1 := by rw [b3 17 (by omega), hw1]; simp [zgI_sI]
  have j16 : zgI w' 14 16 e = vgN V + 1 := by rw [b3 16 (by omega), hw1]; simp [zgI_sI]
  have j18 : zgI w' 14 18 e = vgN V + 1 := by rw [b3 18 (by omega), hw1]; simp [zgI_sI]
  have j15 : zgI w' 14 15 e = Int32.ofNat P := by rw [b3 15 (by omega), hw1]; simp [zgI_sI]
  have j11 : zgI w' 14 11 e = vgW V := by rw [b3 11 (by omega), hw1]; simp [zgI_sI]
  have j12 : zgI w' 14 12 e = vgN V := by rw [b3 12 (by omega), hw1]; simp [zgI_sI]
  have j13 : zgI w' 14 13 e = tk := by rw [b3 13 (by omega), hw1]; simp [zgI_sI]
  obtain ⟨c0, m0, r0, x4, x7, x5⟩ := zRi_z hi h17
  obtain ⟨⟨a4, a5, a6, a7, a8, -, -⟩, st, R, ⟨r1, -, r3, -⟩, -⟩ := id hi
  refine ⟨z', w', runC, runM.trans b1, b2, ?_, ⟨⟨P, P1.1, P1.2, i32⟩, ⟨l, l1, l2, (I 3 1 e (by omega)).trans l3⟩, wv, w1', i11.trans w2'⟩, by rw [i32, j15], by rw [i11, j11], by rw [i12, j12], by rw [i13, j13], j17, I, fun k u i => by rw [hz']; rfl, ec, J, fun k u i q => (b4 k u i q).trans (A1 k u i), fun k u i => (b5 k u i).trans (L1 k u i), zBe_tr (zBe_em em1) b6⟩
  refine zRi_b (st := st) (R := 0) (by rw [i44, j16]) ?_ ?_ ?_ ?_ ?_ j17 r1 (by omega) ?_ ?_ ?_ ?_
  · rw [I 4 5 e (by omega), J 21 (by omega)]; exact a5
  · rw [I 4 5 e (by omega), I 4 6 e (by omega), J 22 (by omega)]; exact a6
  · rw [I 4 7 e (by omega), J 23 (by omega)]; exact a7
  · rw [I 4 5 e (by omega)]; exact a8
  · rw [I 4 7 e (by omega)]; exact x7
  · rw [I 4 2 e (by omega)]; exact r3
  · rw [I 4 3 e (by omega)]; exact r0
  · rw [i44, j18]
    show _ = _ + (0 : Int32)
    rw [← Int32.toBitVec_inj]; simp
  · intro i hi'
    have ca : ∀ k u i, zgA z' k u i = zgA z k u i := fun k u i => by rw [hz']; rfl
    have ma : ∀ i, zgA w' 161 e i = zgA w 161 e i := fun i => (b4 161 e i (by omega)).trans (A1 161 e i)
    rw [ca, ma, c0 _ (Nat.mod_lt _ (by decide)), m0 _ (Nat.mod_lt _ (by decide))]
    refine ⟨rfl, Or.inl rfl, fun y => ?_⟩
    rcases y with y | y
    · omega
    · exact absurd y (by decide)
