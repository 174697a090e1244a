/-! ends, both sides: what follows a segment's bytes -/
theorem zEe_st2 {z w : St} {e : Nat} {s : Int32} (hs : ¬ s = 10) (hb : ¬ zgI z 6 6 e = zgI z 6 4 e) (hq : zRqv s (zgI w 14 17 e) (zgI z 3 9 e) (zgI z 3 11 e) (zgI z 3 13 e) (zgI z 6 4 e) (zgI z 6 5 e) (zgI z 6 6 e) (zgI z 6 7 e) (zgI z 10 0 e) (zgI z 4 7 e)) (hs0 : zRs z w e) (ho : zRo z w e) (hi : zRi z w e) (ht : zRt z w e) (hzz : zRz z e) : zEe (zsI z 3 0 e s) (zsI w 14 0 e s) e := by
  obtain ⟨⟨s1, s2, s3, s4, s5⟩, s6, s7⟩ := hs0
  have I : ∀ k j, ¬ (k = 3 ∧ j = 0) → zgI (zsI z 3 0 e s) k j e = zgI z k j e := fun k j q => by rw [zgI_sI, if_neg (by omega)]
  have J : ∀ j, j ≠ 0 → zgI (zsI w 14 0 e s) 14 j e = zgI w 14 j e := fun j q => by rw [zgI_sI, if_neg (by omega)]
  have I0 : zgI (zsI z 3 0 e s) 3 0 e = s := by rw [zgI_sI, if_pos ⟨rfl, rfl, rfl⟩]
  have J0 : zgI (zsI w 14 0 e s) 14 0 e = s := by rw [zgI_sI, if_pos ⟨rfl, rfl, rfl⟩]
  refine ⟨⟨⟨by rw [I0, J0], ?_, ?_, ?_, fun y => absurd (I0.symm.trans y) hs⟩, ⟨?_, ?_⟩, ?_⟩, ?_, ?_, ?_, ?_⟩
  · rw [I 3 1 (by omega), J 14 (by omega)]; exact s2
  · rw [I 3 2 (by omega), J 15 (by omega)]; exact s3
  · rw [I 3 3 (by omega), J 1 (by omega)]; exact s4
  · rw [I 3 5 (by omega), J 24 (by omega)]; exact s6.1
  · rw [I 3 5 (by omega), I 3 6 (by omega), I 3 7 (by omega), I 3 8 (by omega), J 25 (by omega), J 26 (by omega), J 27 (by omega)]; exact s6.2
  · rw [I 3 9 (by omega), I 3 10 (by omega), I 3 11 (by omega), I 3 12 (by omega), I 3 13 (by omega), J 28 (by omega), J 29 (by omega), J 30 (by omega), J 31 (by omega), J 32 (by omega)]; exact s7
  · exact zRo_cg (fun j _ => I 6 j (by omega)) (fun _ => rfl) (fun j hj => J j (by omega)) (fun _ => rfl) ho
  · exact zRi_cg (fun j _ => I 4 j (by omega)) (fun _ _ _ => rfl) (fun j hj => J j (by omega)) (fun _ _ _ => rfl) hi
  · exact zRt_cg (fun j _ => I 10 j (by omega)) (fun j hj => J j (by omega)) ht
  · exact zRn_of (fun j hj => I 3 j (by omega)) (I 6 11 (by omega)) (by rw [I 6 6 (by omega), I 6 4 (by omega)]; exact Or.inr (Or.inr (Or.inr hb))) (by unfold zRq; rw [I0, J 17 (by omega), I 3 9 (by omega), I 3 11 (by omega), I 3 13 (by omega), I 6 4 (by omega), I 6 5 (by omega), I 6 6 (by omega), I 6 7 (by omega), I 10 0 (by omega), I 4 7 (by omega)]; exact hq) hzz
theorem zRqv_thx {s h a9 a11 a13 f4 f5 f6 f7 t0 o7 : Int32} (v : Int32) (h1 : h = 1) (q : zRqv s h a9 a11 a13 f4 f5 f6 f7 t0 o7) : zRqv s h a9 a11 v f4 f5 f6 f7 t0 o7 := by
  obtain ⟨c1, c2, c3, c4, c5, c6, c7, c8, c9, c10, c11, c12⟩ := q
  exact ⟨c1, c2, fun _ => h1, c4, c5, c6, c7, c8, c9, c10, c11, c12⟩
/-- thanks are due -/
theorem zEe_thx {z w : St} {e : Nat} (h17 : zgI w 14 17 e = 1) (h : zEe z w e) : zEe (zsI z 3 13 e 1) (zsI w 14 32 e 1) e := by
  obtain ⟨hs, ho, hi, ht, hnn⟩ := h
  have I : ∀ k j, ¬ (k = 3 ∧ j = 13) → zgI (zsI z 3 13 e 1) k j e = zgI z k j e := fun k j q => by rw [zgI_sI, if_neg (by omega)]
  have J : ∀ j, j ≠ 32 → zgI (zsI w 14 32 e 1) 14 j e = zgI w 14 j e := fun j q => by rw [zgI_sI, if_neg (by omega)]
  have I1 : zgI (zsI z 3 13 e 1) 3 13 e = 1 := by rw [zgI_sI, if_pos ⟨rfl, rfl, rfl⟩]
  have J1 : zgI (zsI w 14 32 e 1) 14 32 e = 1 := by rw [zgI_sI, if_pos ⟨rfl, rfl, rfl⟩]
  refine ⟨zRs_ch (fun j _ q => I 3 j (by omega)) (fun j hj => J j (by omega)) ?_ ?_ ?_ ?_ ?_ ?_ (Or.inr I1) hs, zRo_cg (fun j _ => I 6 j (by omega)) (fun _ => rfl) (fun j hj => J j (by omega)) (fun _ => rfl) ho, zRi_cg (fun j _ => I 4 j (by omega)) (fun _ _ _ => rfl) (fun j hj => J j (by omega)) (fun _ _ _ => rfl) hi, zRt_cg (fun j _ => I 10 j (by omega)) (fun j hj => J j (by omega)) ht, zRn_of (fun j hj => I 3 j (by omega)) (I 6 11 (by omega)) ?_ ?_ (zRz_n hnn)⟩
  · rw [I 3 0 (by omega), J 0 (by omega)]; exact hs.1.1
  · rw [I 3 0 (by omega)]; exact id
  · rw [I 3 9 (by omega), J 28 (by omega)]; exact hs.2.2.1
  · rw [I 3 11 (by omega), J 30 (by omega)]; exact hs.2.2.2.2.1
  · rw [I 3 12 (by omega), J 31 (by omega)]; exact hs.2.2.2.2.2.1
  · rw [I1, J1]
  · rw [I 3 0 (by omega), I 6 6 (by omega), I 6 4 (by omega)]; exact hnn.1
  · unfold zRq
    rw [I1, I 3 0 (by omega), J 17 (by omega), I 3 9 (by omega), I 3 11 (by omega), I 6 4 (by omega), I 6 5 (by omega), I 6 6 (by omega), I 6 7 (by omega), I 10 0 (by omega), I 4 7 (by omega)]
    exact zRqv_thx 1 h17 hnn.2.2.2.2
theorem zp_thx {z w : St} {e x s N : Nat} {V : Sv} (hV : zSgC z x V) (hVm : zSgM w s V) (h17 : zgI w 14 17 e = 1) (h : zEe z w e) : ∃ z' w', fX3_takeRest_120 N e x z = some (0, z') ∧ fX19_arriveBytes_321 N 0 e (Int32.ofNat s) (Int32.ofNat (vgM V)) w = some (0, w') ∧ zEe z' w' e ∧ zEc1 e z z' ∧ zEm1 e w w' := by
  have hM := hV.2.1
  have yes : ∃ z' w', fX3_takeRest_135 N e z = some (0, z') ∧ fX19_arriveBytes_334 N e w = some (0, w') ∧ zEe z' w' e ∧ zEc1 e z z' ∧ zEm1 e w w' := by
    unfold fX3_takeRest_135 fX19_arriveBytes_334
    rw [zl_e, zl_e]
    exact ⟨_, _, rfl, rfl, zEe_thx h17 h, zEc1_I (by simp), zEm1_I⟩
  unfold fX3_takeRest_120 fX19_arriveBytes_321
  rw [zc_bytes hV, zc_e]
  by_cases c : (0 : Int32) < Int32.ofNat (vgM V)
  · rw [if_pos c, if_pos c]; exact yes
  · rw [if_neg c, if_neg c, zc_hasf 2 hV, zc_e, zm_hasf 2 hVm, zc_e]
    cases vgK V 2
    · rw [if_pos (by decide), if_pos (by decide)]; exact ⟨z, w, rfl, rfl, h, zEc1_rf e z, zEm1_rf e w⟩
    · rw [if_neg (show ¬ zbi true = 0 by decide), if_neg (show ¬ zbi true = 0 by decide)]; exact yes
theorem zc_takesIn (z : St) (e N : Nat) : fX3_takesIn N e z = some (zbi (stI (zgI z 3 0 e)), z) := by
  unfold fX3_takesIn fX3_takesIn_25 stI
  by_cases c4 : zgI z 3 0 e = 4
  · rw [if_pos c4, decide_eq_true (Or.inl c4)]; rfl
  · rw [if_neg c4]
    by_cases c5 : zgI z 3 0 e = 5
    · rw [if_pos c5, decide_eq_true (Or.inr (Or.inl c5))]; rfl
    · rw [if_neg c5]
      by_cases c6 : zgI z 3 0 e = 6
      · rw [if_neg (fun y => y c6), decide_eq_true (Or.inr (Or.inr c6))]; rfl
      · rw [if_pos c6, decide_eq_false]; · rfl
        rintro (y | y | y)
        · exact c4 y
        · exact c5 y
        · exact c6 y
/-- the end of what comes is reached -/
theorem zRi_over {z z' w w' : St} {e : Nat} (hc : ∀ j, j < 64 → ¬ (j = 4 ∨ j = 7) → zgI z' 4 j e = zgI z 4 j e) (ha : ∀ k i, k = 120 ∨ k = 121 → zgA z' k e i = zgA z k e i) (hm : ∀ j, 16 ≤ j ∧ j ≤ 23 → ¬ (j = 16 ∨ j = 23) → zgI w' 14 j e = zgI w 14 j e) (hb : ∀ k i, k = 160 ∨ k = 161 → zgA w' k e i = zgA w k e i) (h4 : zgI z' 4 4 e = zgI z 4 4 e + 1) (h16 : zgI w' 14 16 e = zgI w 14 16 e + 1) (h7 : zgI z' 4 7 e = 1) (h23 : zgI w' 14 23 e = 1) (h17 : zgI w 14 17 e = 1) (h70 : zgI z 4 7 e = 0) (h : zRi z w e) : zRi z' w' e := by
  obtain ⟨⟨a4, a5, a6, a7, a8, a9, a10⟩, st, R, ⟨r1, r2, r3, r4⟩, q0, q1, q2, q3⟩ := h
  refine ⟨⟨?_, ?_, ?_, by rw [h7, h23], ?_, Or.inr h7, ?_⟩, st, R, ⟨r1, r2, ?_, ?_⟩, ?_, ?_, ?_, ?_⟩
  · rw [h4, h16, a4]
  · rw [hc 5 (by omega) (by omega), hm 21 (by omega) (by omega)]; exact a5
  · rw [hc 5 (by omega) (by omega), hc 6 (by omega) (by omega), hm 22 (by omega) (by omega)]; exact a6
  · rw [hc 5 (by omega) (by omega)]; exact a8
  · rw [hm 17 (by omega) (by omega)]; exact a10
  · rw [hc 2 (by omega) (by omega)]; exact r3
  · rw [hc 3 (by omega) (by omega)]; exact r4
  · rw [hm 17 (by omega) (by omega)]; intro y; rw [h17] at y; exact absurd y (by decide)
  · intro _
    have := q1 h17
    rw [h70, zi_sub0] at this
    rw [h7, h4, this, hm 18 (by omega) (by omega), ← Int32.toBitVec_inj]
    simp only [Int32.toBitVec_sub, Int32.toBitVec_add]
    exact BitVec.add_sub_cancel _ _
  · intro i hi
    rw [ha 120 _ (by simp), hb 160 _ (by simp), hm 18 (by omega) (by omega)]
    exact q2 i hi
  · intro y; rw [h7] at y; exact absurd y (by decide)
theorem zp_bytes {z w : St} {e x s n N : Nat} {V : Sv} (hT : zgI w 19 24 0 = Int32.ofNat n) (h16 : zgR z 3 16 e = some e) (h17r : zgR z 3 17 e = some e) (h18 : zgR z 3 18 e = some e) (hV : zSgC z x V) (hVm : zSgM w s V) (hst : ¬ (zgI z 3 0 e = 0 ∨ zgI z 3 0 e = 1 ∨ zgI z 3 0 e = 2 ∨ zgI z 3 0 e = 11)) (hN : 4096 < N) (h : zEe z w e) : ∃ z' w', fX3_takeRest_90 N e x (Int32.ofNat n) z = some (0, z') ∧ fX19_arriveBytes N 0 e (Int32.ofNat s) w = some (0, w') ∧ zEe z' w' e ∧ zEc1 e z z' ∧ zEm1 e w w' := by
  obtain ⟨hs, ho, hi, ht, hnn⟩ := id h
  have hq := hnn.2.2.2.2
  have h17 : zgI w 14 17 e = 1 := hq.1 hst
  have s0 : zgI w 14 0 e = zgI z 3 0 e := hs.1.1.symm
  unfold fX3_takeRest_90
  rw [zc_takesIn, zc_e]
  by_cases ti : zgI z 3 0 e = 4 ∨ zgI z 3 0 e = 5 ∨ zgI z 3 0 e = 6
  · have h7 : zgI z 4 7 e = 0 := hq.2.2.2.2.2.2.2.2.2.2.2 (Or.inr ti)
    obtain ⟨z1, w1, g1, g2, g3, g4, g5, g6, g7, g8, g9⟩ := zp_take (N := N) hV hVm hi h17 h7 hN
    have mrun : fX19_arriveBytes N 0 e (Int32.ofNat s) w = fX19_arriveBytes_252 N 0 e (Int32.ofNat s) (Int32.ofNat (vgM V)) w1 := by
      unfold fX19_arriveBytes
      rw [zm_sgM hVm, zc_e, s0]
      by_cases c4 : zgI z 3 0 e = 4
      · rw [if_pos c4]; exact g2
      · rw [if_neg c4]
        by_cases c5 : zgI z 3 0 e = 5
        · rw [if_pos c5]; exact g2
        · rw [if_neg c5, if_neg (fun y => y ((ti.resolve_left c4).resolve_left c5))]; exact g2
    have I1 : ∀ k j, ¬ k = 4 → zgI z1 k j e = zgI z k j e := fun k j q => g4 k j e (by omega)
    have hs1 : zRs z1 w1 e := zRs_cg (fun j _ => I1 3 j (by omega)) (fun j hj => g7 j (by omega)) hs
    have ho1 : zRo z1 w1 e := zRo_cg (fun j _ => I1 6 j (by omega)) (fun i => g5 124 e i (by omega)) (fun j hj => g7 j (by omega)) (fun i => g8 159 e i (by omega)) ho
    have ht1 : zRt z1 w1 e := zRt_cg (fun j _ => I1 10 j (by omega)) (fun j hj => g7 j (by omega)) ht
    have hz1 : zRz z1 e := zRz_cg (fun j _ => I1 3 j (by omega)) (I1 6 11 (by omega)) (zRz_n hnn)
    have h71 : zgI z1 4 7 e = 0 := (g4 4 7 e (by omega)).trans h7
    have h171 : zgI w1 14 17 e = 1 := (g7 17 (by omega)).trans h17
    have hn1 : zRn z1 w1 e := zRn_mk (by rw [I1 3 0 (by omega), I1 6 6 (by omega), I1 6 4 (by omega)]; exact hnn.1) (zRq_eq (fun j _ => I1 3 j (by omega)) (fun j _ => I1 6 j (by omega)) (I1 10 0 (by omega)) (g4 4 7 e (by omega)) (g7 17 (by omega)) hq) hz1
    have s1 : zgI z1 3 0 e = zgI z 3 0 e := I1 3 0 (by omega)
    have r17 : ∀ z2 : St, zEc1 e z z2 → zgR z2 3 17 e = some e := fun z2 c => (c.2.2.2.2 3 17 e).trans h17r
    have f16 : zgI z1 4 4 e = zgI w1 14 16 e := g3.1.1
    have f5 : zgI z1 4 5 e = zgI w1 14 21 e := g3.1.2.1
    have f6 := g3.1.2.2.1
    have f01 := g3.1.2.2.2.2.1
    rw [show stI (zgI z 3 0 e) = true from decide_eq_true ti, if_neg (show ¬ zbi true = 0 by decide), h17r, zl_e, zd_e, g1, zc_e, mrun]
    unfold fX19_arriveBytes_252
    by_cases ov : zOv z1 e = true
    · -- the end is reached
      rw [if_pos ov]
      unfold zOv at ov
      rw [Bool.and_eq_true, decide_eq_true_iff, decide_eq_true_iff] at ov
      have l1 : zgI z1 4 5 e = 1 := f01.resolve_left ov.1
      obtain ⟨z2, hz2⟩ : ∃ u, u = zsI (zsI z1 4 4 e (zgI z1 4 4 e + 1)) 4 7 e 1 := ⟨_, rfl⟩
      obtain ⟨w2, hw2⟩ : ∃ u, u = zsI (zsI w1 14 23 e 1) 14 16 e (zgI w1 14 16 e + 1) := ⟨_, rfl⟩
      have I2 : ∀ k j u, ¬ (k = 4 ∧ (j = 4 ∨ j = 7) ∧ u = e) → zgI z2 k j u = zgI z1 k j u := fun k j u q => by rw [hz2, zgI_sI, zgI_sI, if_neg (by omega), if_neg (by omega)]
      have J2 : ∀ j, ¬ (j = 16 ∨ j = 23) → zgI w2 14 j e = zgI w1 14 j e := fun j q => by rw [hw2, zgI_sI, zgI_sI, if_neg (by omega), if_neg (by omega)]
      have i4 : zgI z2 4 4 e = zgI z1 4 4 e + 1 := by rw [hz2, zgI_sI, zgI_sI, if_neg (by omega), if_pos ⟨rfl, rfl, rfl⟩]
      have i7 : zgI z2 4 7 e = 1 := by rw [hz2, zgI_sI, if_pos ⟨rfl, rfl, rfl⟩]
      have j16 : zgI w2 14 16 e = zgI w1 14 16 e + 1 := by rw [hw2, zgI_sI, if_pos ⟨rfl, rfl, rfl⟩]
      have j23 : zgI w2 14 23 e = 1 := by rw [hw2, zgI_sI, zgI_sI, if_neg (by omega), if_pos ⟨rfl, rfl, rfl⟩]
      have A2 : ∀ k u i, zgA z2 k u i = zgA z1 k u i := fun k u i => by rw [hz2]; rfl
      have B2 : ∀ k u i, zgA w2 k u i = zgA w1 k u i := fun k u i => by rw [hw2]; rfl
      have ec2 : zEc1 e z z2 := by rw [hz2]; exact zEc1_tr g6 (zEc1_tr (zEc1_I (by simp)) (zEc1_I (by simp)))
      have em2 : zEm1 e w w2 := by rw [hw2]; exact zEm1_tr g9 (zEm1_tr zEm1_I zEm1_I)
      have hs2 : zRs z2 w2 e := zRs_cg (fun j _ => I2 3 j e (by omega)) (fun j hj => J2 j (by omega)) hs1
      have ho2 : zRo z2 w2 e := zRo_cg (fun j _ => I2 6 j e (by omega)) (fun i => A2 124 e i) (fun j hj => J2 j (by omega)) (fun i => B2 159 e i) ho1
      have ht2 : zRt z2 w2 e := zRt_cg (fun j _ => I2 10 j e (by omega)) (fun j hj => J2 j (by omega)) ht1
      have hi2 : zRi z2 w2 e := zRi_over (fun j _ q => I2 4 j e (by omega)) (fun k i _ => A2 k e i) (fun j hj q => J2 j (by omega)) (fun k i _ => B2 k e i) i4 j16 i7 j23 h171 h71 g3
      have hz2' : zRz z2 e := zRz_cg (fun j _ => I2 3 j e (by omega)) (I2 6 11 e (by omega)) hz1
      have h172 : zgI w2 14 17 e = 1 := (J2 17 (by omega)).trans h171
      have st2 : zgI z2 3 0 e = zgI z 3 0 e := (I2 3 0 e (by omega)).trans s1
      have sw2 : zgI w2 14 0 e = zgI z 3 0 e := hs2.1.1.symm.trans st2
      have hb2 : ¬ zgI z2 6 6 e = zgI z2 6 4 e := by
        rw [I2 6 6 e (by omega), I2 6 4 e (by omega), I1 6 6 (by omega), I1 6 4 (by omega)]
        rcases hnn.1 with y | y | y | y
        · exact absurd (Or.inr (Or.inr (Or.inr y))) hst
        · exact absurd (Or.inl y) hst
        · exact absurd (Or.inr (Or.inl y)) hst
        · exact y
      have now2 : zgI w2 19 24 0 = Int32.ofNat n := (em2.1 19 24 0 (by omega)).trans hT
      have q2 : ∀ j, zgI z2 3 j e = zgI z 3 j e := fun j => (I2 3 j e (by omega)).trans (I1 3 j (by omega))
      have q6 : ∀ j, zgI z2 6 j e = zgI z 6 j e := fun j => (I2 6 j e (by omega)).trans (I1 6 j (by omega))
      have q10 : zgI z2 10 0 e = zgI z 10 0 e := (I2 10 0 e (by omega)).trans (I1 10 0 (by omega))
      have q17 : zgI w2 14 17 e = zgI w 14 17 e := h172.trans h17.symm
      -- the state that follows
      have next : ∀ s0 s1 : Int32, zgI z 3 0 e = s0 → ¬ s1 = 10 → ¬ s1 = 0 → ¬ s1 = 11 → (∀ h a9 a11 a13 f4 f5 f6 f7 t0 o7, zRqv s0 h a9 a11 a13 f4 f5 f6 f7 t0 o7 → ∀ v, zRqv s1 h a9 a11 a13 f4 f5 f6 f7 t0 v) → ∃ z' w', (zc (some ((0 : Int32), zsI z2 3 0 e s1)) fun _ z16 => fX3_takeRest_120 N e x z16) = some (0, z') ∧ fX19_arriveBytes_314 N 0 e (Int32.ofNat s) (Int32.ofNat (vgM V)) e s1 w2 = some (0, w') ∧ zEe z' w' e ∧ zEc1 e z z' ∧ zEm1 e w w' := fun s0 s1 e0 n10 n0 n11 hv => by
        have E3 : zEe (zsI z2 3 0 e s1) (zsI w2 14 0 e s1) e := zEe_st2 n10 hb2 (by
          have := hq
          unfold zRq at this
          rw [e0] at this
          rw [q2, q2, q2, q6, q6, q6, q6, q10, q17]
          exact hv _ _ _ _ _ _ _ _ _ _ this _) hs2 ho2 hi2 ht2 hz2'
        obtain ⟨z', w', k1, k2, k3, k4, k5⟩ := zp_thx (N := N) (x := x) (s := s) (V := V) (zSgC_ec (zEc1_tr ec2 (zEc1_I (by simp))) hV) (zSgM_em (zEm1_tr em2 zEm1_I) hVm) (show zgI (zsI w2 14 0 e s1) 14 17 e = 1 from by rw [zgI_sI, if_neg (by omega)]; exact h172) E3
        refine ⟨z', w', by rw [zc_e]; exact k1, ?_, k3, zEc1_tr ec2 (zEc1_tr (zEc1_I (by simp)) k4), zEm1_tr em2 (zEm1_tr zEm1_I k5)⟩
        unfold fX19_arriveBytes_314 fX14_become fX14_become_63
        rw [zl_e, if_neg n0, if_neg n11, if_pos n10, if_pos n10, zc_e]
        exact k2
      rw [if_neg (show ¬ zgI w1 14 21 e = 0 from by rw [← f5, l1]; decide), if_neg (show ¬ ¬ zgI w1 14 16 e = zgI w1 14 22 e from fun y => y (by rw [← f16, ov.2, f6 l1])), zl_e, zl_e]
      have w16 : zgI (zsI w1 14 23 e 1) 14 16 e = zgI w1 14 16 e := by rw [zgI_sI, if_neg (by omega)]
      rw [w16, ← hz2, ← hw2, r17 z2 ec2, zl_e, zd_e, i7, if_neg (show ¬ (1 : Int32) = 0 by decide), sw2]
      unfold fX3_peerLeft
      rw [st2]
      by_cases c4 : zgI z 3 0 e = 4
      · rw [if_neg (show ¬ ¬ zgI z 3 0 e = 4 from fun y => y c4), if_neg (show ¬ ¬ zgI z 3 0 e = 4 from fun y => y c4), zl_e]
        exact next 4 7 c4 (by decide) (by decide) (by decide) (fun _ _ _ _ _ _ _ _ _ _ q v => by simp [zRqv] at q ⊢; exact ⟨q.1, q.2.1, q.2.2.1, q.2.2.2.1, q.2.2.2.2.1⟩)
      · rw [if_pos (show ¬ zgI z 3 0 e = 4 from c4), if_pos (show ¬ zgI z 3 0 e = 4 from c4)]
        by_cases c5 : zgI z 3 0 e = 5
        · rw [if_neg (show ¬ ¬ zgI z 3 0 e = 5 from fun y => y c5), if_neg (show ¬ ¬ zgI z 3 0 e = 5 from fun y => y c5), zl_e]
          exact next 5 8 c5 (by decide) (by decide) (by decide) (fun _ _ _ _ _ _ _ _ _ _ q v => by simp [zRqv] at q ⊢; exact ⟨q.1, q.2.1, q.2.2.1, q.2.2.2.1, q.2.2.2.2.1⟩)
        · have c6 : zgI z 3 0 e = 6 := (ti.resolve_left c4).resolve_left c5
          rw [if_pos (show ¬ zgI z 3 0 e = 5 from c5), if_pos (show ¬ zgI z 3 0 e = 5 from c5)]
          obtain ⟨z3, w3, k1, k2, k3, k4, k5, k6⟩ := zp_quiet2 (N := N) (Int32.ofNat n) ((ec2.2.2.2.2 3 18 e).trans h18) hb2 h172 (by rw [q6, q6]; exact hq.2.2.2.2.2.2.2.2.2.1 (Or.inl c6)) hs2 ho2 hi2 ht2 hz2'
          have h173 : zgI w3 14 17 e = 1 := k3.2.2.2.2.2.2.2.2.1 (by rw [k6]; decide)
          obtain ⟨z', w', p1, p2, p3, p4, p5⟩ := zp_thx (N := N) (x := x) (s := s) (V := V) (zSgC_ec (zEc1_tr ec2 k4) hV) (zSgM_em (zEm1_tr em2 k5) hVm) h173 k3
          refine ⟨z', w', ?_, ?_, p3, zEc1_tr ec2 (zEc1_tr k4 p4), zEm1_tr em2 (zEm1_tr k5 p5)⟩
          · rw [k1, zc_e, zc_e]; exact p1
          · unfold fX19_arriveBytes_314
            rw [now2, k2, zc_e]; exact p2
    · -- it isn't reached
      rw [if_neg ov]
      obtain ⟨z', w', k1, k2, k3, k4, k5⟩ := zp_thx (N := N) (zSgC_ec g6 hV) (zSgM_em g9 hVm) h171 ⟨hs1, ho1, g3, ht1, hn1⟩
      refine ⟨z', w', ?_, ?_, k3, zEc1_tr g6 k4, zEm1_tr g9 k5⟩
      · rw [r17 z1 g6, zl_e, zd_e, if_pos h71]; exact k1
      · by_cases d1 : zgI w1 14 21 e = 0
        · rw [if_pos d1]; exact k2
        · have l1 : zgI z1 4 5 e = 1 := f01.resolve_left (fun y => d1 (f5.symm.trans y))
          rw [if_neg d1, if_pos (show ¬ zgI w1 14 16 e = zgI w1 14 22 e from fun y => ov (by
            unfold zOv
            rw [Bool.and_eq_true, decide_eq_true_iff, decide_eq_true_iff]
            exact ⟨by rw [l1]; decide, by rw [f16, y, f6 l1]⟩))]
          exact k2
  · rw [show stI (zgI z 3 0 e) = false from decide_eq_false ti, if_pos (by decide)]
    have mrun : fX19_arriveBytes N 0 e (Int32.ofNat s) w = fX19_arriveBytes_321 N 0 e (Int32.ofNat s) (Int32.ofNat (vgM V)) w := by
      unfold fX19_arriveBytes
      rw [zm_sgM hVm, zc_e, s0, if_neg (fun y => ti (Or.inl y)), if_neg (fun y => ti (Or.inr (Or.inl y))), if_pos (fun y => ti (Or.inr (Or.inr y)))]
    rw [mrun]
    exact zp_thx hV hVm h17 h
