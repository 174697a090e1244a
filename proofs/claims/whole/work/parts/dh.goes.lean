/-! ends, both sides: resets, and whether a segment is looked at -/
theorem zEe_rst {z z' w w' : St} {e : Nat} (I : ∀ k j, ¬ (k = 3 ∧ (j = 5 ∨ j = 6 ∨ j = 7 ∨ j = 8)) → zgI z' k j e = zgI z k j e) (A : ∀ k i, zgA z' k e i = zgA z k e i) (J : ∀ j, ¬ (j = 24 ∨ j = 25 ∨ j = 26 ∨ j = 27) → zgI w' 14 j e = zgI w 14 j e) (B : ∀ k i, zgA w' k e i = zgA w k e i) (h5 : zgI z' 3 5 e = zgI w' 14 24 e) (h6 : zgI z' 3 6 e = zgI w' 14 25 e) (h7 : zgI z' 3 7 e = zgI w' 14 26 e) (h8 : zgI z' 3 8 e = zgI w' 14 27 e) (h6b : zgI z' 3 6 e = 4 ∨ zgI z' 3 6 e = 12) (h : zEe z w e) : zEe z' w' e := by
  obtain ⟨⟨⟨s1, s2, s3, s4, s5⟩, s6, s7⟩, ho, hi, ht, hnn⟩ := h
  refine ⟨⟨⟨?_, ?_, ?_, ?_, ?_⟩, ⟨h5, fun _ => ⟨h6, h7, h8, h6b⟩⟩, ?_⟩, zRo_cg (fun j _ => I 6 j (by omega)) (fun i => A 124 i) (fun j hj => J j (by omega)) (fun i => B 159 i) ho, zRi_cg (fun j _ => I 4 j (by omega)) (fun k i _ => A k i) (fun j hj => J j (by omega)) (fun k i _ => B k i) hi, zRt_cg (fun j _ => I 10 j (by omega)) (fun j hj => J j (by omega)) ht, zRn_of (fun j hj => I 3 j (by omega)) (I 6 11 (by omega)) ?_ (zRq_eq (fun j hj => I 3 j (by omega)) (fun j hj => I 6 j (by omega)) (I 10 0 (by omega)) (I 4 7 (by omega)) (J 17 (by omega)) hnn.2.2.2.2) (zRz_n hnn)⟩
  · rw [I 3 0 (by omega), J 0 (by omega)]; exact s1
  · rw [I 3 1 (by omega), J 14 (by omega)]; exact s2
  · rw [I 3 2 (by omega), J 15 (by omega)]; exact s3
  · rw [I 3 3 (by omega), J 1 (by omega)]; exact s4
  · rw [I 3 0 (by omega), I 3 4 (by omega), J 43 (by omega)]; exact s5
  · rw [I 3 9 (by omega), I 3 10 (by omega), I 3 11 (by omega), I 3 12 (by omega), I 3 13 (by omega), J 28 (by omega), J 29 (by omega), J 30 (by omega), J 31 (by omega), J 32 (by omega)]; exact s7
  · rw [I 3 0 (by omega), I 6 6 (by omega), I 6 4 (by omega)]; exact hnn.1
theorem zc_rstF {z : St} {x N : Nat} {V : Sv} (h : zSgC z x V) : fX7_resetFlags N x z = some (if vgK V 8 = true then 4 else 12, z) := by
  unfold fX7_resetFlags
  rw [zc_hasf 8 h, zc_e]
  cases vgK V 8
  · rw [if_pos (by decide)]; rfl
  · rw [if_neg (show ¬ zbi true = 0 by decide)]; rfl
theorem zc_rstN {z : St} {x N : Nat} {V : Sv} (h : zSgC z x V) : fX7_resetNumber N x z = some (if vgK V 8 = true then vgT V else 0, z) := by
  unfold fX7_resetNumber
  rw [zc_hasf 8 h, zc_e, h.1.2.2.1]
  cases vgK V 8
  · rw [if_pos (by decide)]; rfl
  · rw [if_neg (show ¬ zbi true = 0 by decide)]; rfl
theorem zc_rstT {z : St} {x N : Nat} {V : Sv} (h : zSgC z x V) : fX7_resetThanked N x z = some (if vgK V 8 = true then 0 else vgN V + Int32.ofNat (vSz V), z) := by
  unfold fX7_resetThanked
  rw [zc_hasf 8 h, zc_e, h.1.2.1]
  cases vgK V 8
  · rw [if_pos (by decide), zc_size h, zc_e]; rfl
  · rw [if_neg (show ¬ zbi true = 0 by decide)]; rfl
theorem zp_resets {z w : St} {e x s N : Nat} {V : Sv} (hV : zSgC z x V) (hVm : zSgM w s V) (h : zEe z w e) : ∃ z' w', fX3_resets N e x z = some (0, z') ∧ fX19_answer N 0 e (Int32.ofNat s) w = some (0, w') ∧ zEe z' w' e ∧ zEc1 e z z' ∧ zEm1 e w w' := by
  unfold fX3_resets fX19_answer
  rw [zc_hasf 4 hV, zc_e, zm_hasf 4 hVm, zc_e]
  cases vgK V 4
  · rw [if_pos (show zbi false = 0 by decide), if_neg (show ¬ ¬ zbi false = 0 by decide), zl_e]
    obtain ⟨a, ha⟩ : ∃ u : Int32, u = if vgK V 8 = true then 4 else 12 := ⟨_, rfl⟩
    obtain ⟨b, hb⟩ : ∃ u : Int32, u = if vgK V 8 = true then vgT V else 0 := ⟨_, rfl⟩
    obtain ⟨c, hc⟩ : ∃ u : Int32, u = if vgK V 8 = true then 0 else vgN V + Int32.ofNat (vSz V) := ⟨_, rfl⟩
    have v1 : zSgC (zsI z 3 5 e 1) x V := zSgC_ec (zEc1_I (by simp)) hV
    have v2 : zSgC (zsI (zsI z 3 5 e 1) 3 6 e a) x V := zSgC_ec (zEc1_I (by simp)) v1
    have v3 : zSgC (zsI (zsI (zsI z 3 5 e 1) 3 6 e a) 3 7 e b) x V := zSgC_ec (zEc1_I (by simp)) v2
    rw [zc_rstF v1, zc_e, zl_e, ← ha, zc_rstN v2, zc_e, zl_e, ← hb, zc_rstT v3, zc_e, zl_e, ← hc]
    have mod : (zc (fX19_has N 0 (Int32.ofNat s) (8 : Int32) w) fun r6 z7 => if r6 = 0 then (zc (fX19_seg N 0 (Int32.ofNat s) (3 : Int32) z7) fun r11 z12 => zc (fX19_sizeOf N 0 (Int32.ofNat s) z12) fun r15 z16 => zc (fX14_resetWith N e (12 : Int32) (0 : Int32) (r11 + r15) z16) fun _ z20 => some ((0 : Int32), z20)) else (zc (fX19_seg N 0 (Int32.ofNat s) (4 : Int32) z7) fun r23 z24 => zc (fX14_resetWith N e (4 : Int32) r23 (0 : Int32) z24) fun _ z28 => some ((0 : Int32), z28))) = some (0, zsI (zsI (zsI (zsI w 14 24 e 1) 14 25 e a) 14 26 e b) 14 27 e c) := by
      rw [zm_hasf 8 hVm, zc_e]
      unfold fX14_resetWith
      cases ck : vgK V 8
      · rw [if_pos (by decide), zm_sgN hVm, zc_e, zm_size hVm, zc_e, zl_e, zl_e, zl_e, zl_e, zc_e]
        rw [ck] at ha hb hc
        rw [ha, hb, hc]; rfl
      · rw [if_neg (show ¬ zbi true = 0 by decide), zm_sgT hVm, zc_e, zl_e, zl_e, zl_e, zl_e, zc_e]
        rw [ck] at ha hb hc
        rw [ha, hb, hc]; rfl
    rw [mod]
    refine ⟨_, _, rfl, rfl, zEe_rst (z := z) (w := w) (fun k j q => ?_) (fun _ _ => rfl) (fun j q => ?_) (fun _ _ => rfl) ?_ ?_ ?_ ?_ ?_ h, zEc1_tr (zEc1_I (by simp)) (zEc1_tr (zEc1_I (by simp)) (zEc1_tr (zEc1_I (by simp)) (zEc1_I (by simp)))), zEm1_tr zEm1_I (zEm1_tr zEm1_I (zEm1_tr zEm1_I zEm1_I))⟩
    · rw [zgI_sI, zgI_sI, zgI_sI, zgI_sI, if_neg (by omega), if_neg (by omega), if_neg (by omega), if_neg (by omega)]
    · rw [zgI_sI, zgI_sI, zgI_sI, zgI_sI, if_neg (by omega), if_neg (by omega), if_neg (by omega), if_neg (by omega)]
    · simp [zgI_sI]
    · simp [zgI_sI]
    · simp [zgI_sI]
    · simp [zgI_sI]
    · have e6 : zgI (zsI (zsI (zsI (zsI z 3 5 e 1) 3 6 e a) 3 7 e b) 3 8 e c) 3 6 e = a := by simp [zgI_sI]
      rw [e6, ha]
      cases vgK V 8
      · exact Or.inr rfl
      · exact Or.inl rfl
  · rw [if_neg (show ¬ zbi true = 0 by decide), if_pos (show ¬ zbi true = 0 by decide)]
    exact ⟨z, w, rfl, rfl, h, zEc1_rf e z, zEm1_rf e w⟩
theorem zEe_qt {z w : St} {e : Nat} (v : Int32) (h : zEe z w e) : zEe (zsI z 3 4 e v) (zsI w 14 43 e v) e := by
  obtain ⟨⟨⟨s1, s2, s3, s4, s5⟩, s6, s7⟩, ho, hi, ht, hnn⟩ := h
  have I : ∀ k j, ¬ (k = 3 ∧ j = 4) → zgI (zsI z 3 4 e v) k j e = zgI z k j e := fun k j q => by rw [zgI_sI, if_neg (by omega)]
  have J : ∀ j, ¬ j = 43 → zgI (zsI w 14 43 e v) 14 j e = zgI w 14 j e := fun j q => by rw [zgI_sI, if_neg (by omega)]
  refine ⟨⟨⟨?_, ?_, ?_, ?_, fun _ => ?_⟩, ?_, ?_⟩, zRo_cg (fun j _ => I 6 j (by omega)) (fun _ => rfl) (fun j hj => J j (by omega)) (fun _ => rfl) ho, zRi_cg (fun j _ => I 4 j (by omega)) (fun _ _ _ => rfl) (fun j hj => J j (by omega)) (fun _ _ _ => rfl) hi, zRt_cg (fun j _ => I 10 j (by omega)) (fun j hj => J j (by omega)) ht, zRn_of (fun j hj => I 3 j (by omega)) (I 6 11 (by omega)) ?_ (zRq_eq (fun j hj => I 3 j (by omega)) (fun j hj => I 6 j (by omega)) (I 10 0 (by omega)) (I 4 7 (by omega)) (J 17 (by omega)) hnn.2.2.2.2) (zRz_n hnn)⟩
  · rw [I 3 0 (by omega), J 0 (by omega)]; exact s1
  · rw [I 3 1 (by omega), J 14 (by omega)]; exact s2
  · rw [I 3 2 (by omega), J 15 (by omega)]; exact s3
  · rw [I 3 3 (by omega), J 1 (by omega)]; exact s4
  · rw [zgI_sI, zgI_sI, if_pos ⟨rfl, rfl, rfl⟩, if_pos ⟨rfl, rfl, rfl⟩]
  · rw [I 3 5 (by omega), I 3 6 (by omega), I 3 7 (by omega), I 3 8 (by omega), J 24 (by omega), J 25 (by omega), J 26 (by omega), J 27 (by omega)]; exact s6
  · rw [I 3 9 (by omega), I 3 10 (by omega), I 3 11 (by omega), I 3 12 (by omega), I 3 13 (by omega), J 28 (by omega), J 29 (by omega), J 30 (by omega), J 31 (by omega), J 32 (by omega)]; exact s7
  · rw [I 3 0 (by omega), I 6 6 (by omega), I 6 4 (by omega)]; exact hnn.1
theorem zo_f7 {z w : St} {e : Nat} (h : zRo z w e) (hf : ¬ zgI z 6 5 e = zgI z 6 4 e) : ¬ zgI z 6 7 e = 0 := by
  obtain ⟨-, o, n, W, st, ⟨q1, -⟩, ⟨-, -, -, -, r5, -⟩, -⟩ := h
  have o1 : 1 ≤ o := by
    refine Nat.pos_of_ne_zero (fun y => hf ?_)
    rw [q1, y]
    show zgI z 6 4 e + 0 = zgI z 6 4 e
    rw [← Int32.toBitVec_inj]; simp
  rw [r5, decide_eq_true o1]; decide
theorem zbf_1 (F : Int32) : zbf F (F + 1) = true := by
  unfold zbf
  rw [zi_cancel (show F + 1 = F + 1 from rfl)]
  decide
theorem zbf_0 (F : Int32) : zbf F F = false := by
  unfold zbf
  rw [show F - F = 0 from by rw [← Int32.toBitVec_inj]; simp]
  decide
theorem zRqv_34 {s h a9 a11 a13 f4 f5 f6 f7 t0 o7 : Int32} (hs : s = 4 ∨ s = 5) (q : zRqv 3 h a9 a11 a13 f4 f5 f6 f7 t0 o7) : zRqv s h 0 a11 a13 f4 f5 f6 1 t0 o7 := by
  obtain ⟨c1, c2, c3, c4, c5, c6, c7, c8, c9, c10, c11, c12⟩ := q
  rcases hs with rfl | rfl
  · exact ⟨fun _ => c1 (by decide), fun y => absurd y (by decide), c3, fun y => absurd rfl y, fun y => ⟨(c5 y).1, by decide, (c5 y).2.2⟩, fun _ => by decide, fun y => absurd y (by decide), fun y => absurd y (by decide), fun y => absurd y (by decide), fun y => absurd y (by decide), fun _ => by decide, fun _ => c12 (by decide)⟩
  · exact ⟨fun _ => c1 (by decide), fun y => absurd y (by decide), c3, fun y => absurd rfl y, fun y => ⟨(c5 y).1, by decide, (c5 y).2.2⟩, fun _ => by decide, fun y => absurd y (by decide), fun y => absurd y (by decide), fun y => absurd y (by decide), fun y => absurd y (by decide), fun _ => by decide, fun _ => c12 (by decide)⟩
theorem zRqv_f1 {s h a9 a11 a13 f4 f5 f6 f7 t0 o7 : Int32} (q : zRqv s h a9 a11 a13 f4 f5 f6 f7 t0 o7) : zRqv s h a9 a11 a13 f4 f5 f6 1 t0 o7 := by
  obtain ⟨c1, c2, c3, c4, c5, c6, c7, c8, c9, c10, c11, c12⟩ := q
  exact ⟨c1, c2, c3, c4, fun y => ⟨(c5 y).1, by decide, (c5 y).2.2⟩, fun _ => by decide, c7, c8, c9, c10, c11, c12⟩
