/-! ends, both sides: LISTENING and ASKING -/
theorem zEc1_be {e : Nat} {w w' w'' : St} (h : zBe e w w') (f : zEm1 e w' w'') : zBe e w w'' := zBe_tr h (zBe_em f)
theorem zp_listening {z w : St} {T : Tp} {E : Ev} {g : Sg} {K : Int32 → Int32 → Int32 → Prop} {X TS TA : List Nat} {e x s N : Nat} {V : Sv} (h16 : zgR z 3 16 e = some e) (h17r : zgR z 3 17 e = some e) (hV : zSgC z x V) (hVm : zSgM w s V) (hW : ∃ v : Nat, v ≤ 65535 ∧ vgW V = Int32.ofNat v) (hL : ∃ v : Nat, v ≤ 65535 ∧ vgL V = Int32.ofNat v) (hM : zMB w T E g K X TS TA) (he : hEnd T e) (hix : zIx (msg w s 8) 2592) (hl : TS.length + TA.length ≤ 4000) (h1 : zgI z 3 0 e = 1) (h : zEe z w e) :
    ∃ z' w', fX3_takeListening N e x z = some (0, z') ∧ fX19_arriveListening N 0 e (Int32.ofNat s) w = some (0, w') ∧ zEe z' w' e ∧ zMB w' T E g K X TS TA ∧ zEc1 e z z' ∧ zBe e w w' := by
  obtain ⟨hs, ho, hi, ht, hnn⟩ := id h
  have hq := hnn.2.2.2.2
  unfold zRq at hq
  rw [h1] at hq
  have h17 : zgI w 14 17 e = 0 := hq.2.1 (by decide)
  have f5 : zgI z 6 5 e = zgI z 6 4 e := hq.2.2.2.2.2.2.1 (by decide)
  have f6 : zgI z 6 6 e = zgI z 6 4 e := hq.2.2.2.2.2.2.2.1 rfl
  have same : ∃ z' w', some ((0 : Int32), z) = some (0, z') ∧ some ((0 : Int32), w) = some (0, w') ∧ zEe z' w' e ∧ zMB w' T E g K X TS TA ∧ zEc1 e z z' ∧ zBe e w w' := ⟨z, w, rfl, rfl, h, hM, zEc1_rf e z, zBe_rf e w⟩
  unfold fX3_takeListening fX19_arriveListening
  rw [zc_hasf 4 hV, zc_e, zm_hasf 4 hVm, zc_e]
  cases vgK V 4
  · rw [if_pos (show zbi false = 0 by decide), if_pos (show zbi false = 0 by decide), zc_hasf 8 hV, zc_e, zm_hasf 8 hVm, zc_e]
    cases vgK V 8
    · rw [if_pos (show zbi false = 0 by decide), if_pos (show zbi false = 0 by decide), zc_hasf 1 hV, zc_e, zm_hasf 1 hVm, zc_e]
      cases vgK V 1
      · rw [if_neg (show ¬ ¬ zbi false = 0 by decide), if_pos (show zbi false = 0 by decide)]; exact same
      · rw [if_pos (show ¬ zbi true = 0 by decide), if_neg (show ¬ zbi true = 0 by decide)]
        obtain ⟨z1, w1, g1, g2, g3, g4, g5, g6, g7, g8, g9, g10, I, A, ec, J, B, L, be⟩ := zp_takeOpen (N := N) h16 h17r hV hVm hW hL hM he hix hl h17 hs hi (zRz_n hnn) ho.1.1
        rw [g1, zc_e, zl_e, g2, zc_e, zl_e]
        have r16 : zgR (zsI z1 3 0 e 3) 3 16 e = some e := (ec.2.2.2.2 3 16 e).trans h16
        have q4 : zgI (zsI z1 3 0 e 3) 6 4 e = zgI z 6 4 e := by rw [zgI_sI, if_neg (by omega)]; exact I 6 4 e (by omega)
        have p5 : zgI (zsI w1 14 0 e 3) 14 5 e = zgI z 6 4 e := by rw [zgI_sI, if_neg (by omega), J 5 (by omega)]; exact ho.1.1.symm
        rw [r16, zl_e, zl_e, zd_e, zd_e, q4, zl_e, zl_e, p5, zl_e, zl_e]
        obtain ⟨z2, hz2⟩ : ∃ y, y = zsI (zsI (zsI z1 3 0 e 3) 6 6 e (zgI z 6 4 e + 1)) 3 9 e 1 := ⟨_, rfl⟩
        obtain ⟨w2, hw2⟩ : ∃ y, y = zsI (zsI (zsI w1 14 0 e 3) 14 7 e (zgI z 6 4 e + 1)) 14 28 e 1 := ⟨_, rfl⟩
        rw [← hz2, ← hw2]
        have I2 : ∀ k j, ¬ ((k = 3 ∧ (j = 0 ∨ j = 9)) ∨ (k = 6 ∧ j = 6)) → zgI z2 k j e = zgI z1 k j e := fun k j q => by rw [hz2, zgI_sI, zgI_sI, zgI_sI, if_neg (by omega), if_neg (by omega), if_neg (by omega)]
        have J2 : ∀ j, ¬ (j = 0 ∨ j = 7 ∨ j = 28) → zgI w2 14 j e = zgI w1 14 j e := fun j q => by rw [hw2, zgI_sI, zgI_sI, zgI_sI, if_neg (by omega), if_neg (by omega), if_neg (by omega)]
        have i0 : zgI z2 3 0 e = 3 := by rw [hz2]; simp [zgI_sI]
        have i9 : zgI z2 3 9 e = 1 := by rw [hz2]; simp [zgI_sI]
        have i6 : zgI z2 6 6 e = zgI z 6 4 e + 1 := by rw [hz2]; simp [zgI_sI]
        have j0 : zgI w2 14 0 e = 3 := by rw [hw2]; simp [zgI_sI]
        have j7 : zgI w2 14 7 e = zgI z 6 4 e + 1 := by rw [hw2]; simp [zgI_sI]
        have j28 : zgI w2 14 28 e = 1 := by rw [hw2]; simp [zgI_sI]
        have A2 : ∀ k i, zgA z2 k e i = zgA z k e i := fun k i => by rw [hz2]; exact A k e i
        have B2 : ∀ k i, ¬ (k = 183 ∨ k = 185) → zgA w2 k e i = zgA w k e i := fun k i q => by rw [hw2]; exact B k e i q
        have ec2 : zEc1 e z1 z2 := by rw [hz2]; exact zEc1_tr (zEc1_I (by simp)) (zEc1_tr (zEc1_I (by simp)) (zEc1_I (by simp)))
        have em2 : zEm1 e w1 w2 := by rw [hw2]; exact zEm1_tr zEm1_I (zEm1_tr zEm1_I zEm1_I)
        have C : ∀ k j, ¬ ((k = 3 ∧ (j = 0 ∨ j = 9 ∨ j = 2 ∨ j = 15)) ∨ (k = 6 ∧ (j = 6 ∨ j = 11 ∨ j = 12 ∨ j = 13)) ∨ (k = 4 ∧ j = 4)) → zgI z2 k j e = zgI z k j e := fun k j q => (I2 k j (by omega)).trans (I k j e (by omega))
        have D : ∀ j, ¬ (j = 0 ∨ j = 7 ∨ j = 28 ∨ j = 11 ∨ j = 12 ∨ j = 13 ∨ j = 15 ∨ j = 16 ∨ j = 17 ∨ j = 18 ∨ j = 45 ∨ j = 46) → zgI w2 14 j e = zgI w 14 j e := fun j q => (J2 j (by omega)).trans (J j (by omega))
        have c11 : zgI z 3 11 e = 0 := Decidable.byContradiction (fun y => by
          have := (hq.2.2.2.2.1 y).1
          rw [h17] at this; exact absurd this (by decide))
        have hs1 : zRs z1 w1 e := by
          obtain ⟨⟨s1, s2, s3, s4, s5⟩, s6, s7⟩ := hs
          refine ⟨⟨?_, ?_, g6, ?_, ?_⟩, ?_, ?_⟩
          · rw [I 3 0 e (by omega), J 0 (by omega)]; exact s1
          · rw [I 3 1 e (by omega), J 14 (by omega)]; exact s2
          · rw [I 3 3 e (by omega), J 1 (by omega)]; exact s4
          · rw [I 3 0 e (by omega), I 3 4 e (by omega), J 43 (by omega)]; exact s5
          · rw [I 3 5 e (by omega), I 3 6 e (by omega), I 3 7 e (by omega), I 3 8 e (by omega), J 24 (by omega), J 25 (by omega), J 26 (by omega), J 27 (by omega)]; exact s6
          · rw [I 3 9 e (by omega), I 3 10 e (by omega), I 3 11 e (by omega), I 3 12 e (by omega), I 3 13 e (by omega), J 28 (by omega), J 29 (by omega), J 30 (by omega), J 31 (by omega), J 32 (by omega)]; exact s7
        refine ⟨z2, w2, rfl, rfl, ⟨?_, ?_, ?_, ?_, ?_⟩, zMB_em g3 em2, zEc1_tr ec ec2, zEc1_be be em2⟩
        · refine zRs_ch (fun j _ q => I2 3 j (by omega)) (fun j hj => J2 j (by omega)) (by rw [i0, j0]) ?_ (by rw [i9, j28]) ?_ ?_ ?_ ?_ hs1
          · rw [i0]; intro y; exact absurd y (by decide)
          · rw [I2 3 11 (by omega), J2 30 (by omega)]; exact hs1.2.2.2.2.1
          · rw [I2 3 12 (by omega), J2 31 (by omega)]; exact hs1.2.2.2.2.2.1
          · rw [I2 3 13 (by omega), J2 32 (by omega)]; exact hs1.2.2.2.2.2.2.1
          · rw [I2 3 13 (by omega)]; exact hs1.2.2.2.2.2.2.2
        · exact zRo_n1 f5 f6 (fun j _ q => C 6 j (by omega)) (fun i => A2 124 i) (fun j hj q => D j (by omega)) (fun i => B2 159 i (by omega)) (by rw [I2 6 11 (by omega), J2 11 (by omega)]; exact g7) (by rw [I2 6 12 (by omega), J2 12 (by omega)]; exact g8) (by rw [I2 6 13 (by omega), J2 13 (by omega)]; exact g9) i6 j7 ho
        · exact zRi_cg (z := z1) (w := w1) (fun j _ => I2 4 j (by omega)) (fun k i _ => by rw [hz2]; rfl) (fun j hj => J2 j (by omega)) (fun k i _ => by rw [hw2]; rfl) g4
        · exact zRt_cg (fun j _ => C 10 j (by omega)) (fun j hj => D j (by omega)) ht
        · refine zRn_of (z := z1) (fun j hj => I2 3 j (by omega)) (I2 6 11 (by omega)) (Or.inr (Or.inr (Or.inr ?_))) ?_ g5
          · rw [i6, C 6 4 (by omega)]; exact zo_ne
          · unfold zRq
            rw [i0, (J2 17 (by omega)).trans g10, i9, C 3 11 (by omega), c11, C 3 13 (by omega), C 6 4 (by omega), C 6 5 (by omega), i6, C 6 7 (by omega), C 10 0 (by omega), C 4 7 (by omega), (zRi_z hi h17).2.2.2.2.1, f5]
            simp [zRqv]
    · rw [if_neg (show ¬ zbi true = 0 by decide), if_neg (show ¬ zbi true = 0 by decide)]
      obtain ⟨z', w', p1, p2, p3, p4, p5⟩ := zp_resets (N := N) hV hVm h
      rw [p1, zc_e, p2, zc_e]
      exact ⟨z', w', rfl, rfl, p3, zMB_em hM p5, p4, zBe_em p5⟩
  · rw [if_neg (show ¬ zbi true = 0 by decide), if_neg (show ¬ zbi true = 0 by decide)]; exact same
theorem zp_asking {z w : St} {T : Tp} {E : Ev} {g : Sg} {K : Int32 → Int32 → Int32 → Prop} {X TS TA : List Nat} {e x s n N : Nat} {V : Sv} (hn : n ≤ 400000) (hT : zgI w 19 24 0 = Int32.ofNat n) (h16 : zgR z 3 16 e = some e) (h17r : zgR z 3 17 e = some e) (h18 : zgR z 3 18 e = some e) (hV : zSgC z x V) (hVm : zSgM w s V) (hW : ∃ v : Nat, v ≤ 65535 ∧ vgW V = Int32.ofNat v) (hL : ∃ v : Nat, v ≤ 65535 ∧ vgL V = Int32.ofNat v) (hM : zMB w T E g K X TS TA) (he : hEnd T e) (hix : zIx (msg w s 8) 2592) (hl : TS.length + TA.length ≤ 4000) (h1 : zgI z 3 0 e = 2) (h : zEe z w e) :
    ∃ z' w', fX3_takeAsking N e x (Int32.ofNat n) z = some (0, z') ∧ fX19_arriveAsking N 0 e (Int32.ofNat s) w = some (0, w') ∧ zEe z' w' e ∧ zMB w' T E g K X TS TA ∧ zEc1 e z z' ∧ zBe e w w' := by
  obtain ⟨hs, ho, hi, ht, hnn⟩ := id h
  have hq := hnn.2.2.2.2
  unfold zRq at hq
  rw [h1] at hq
  have h17 : zgI w 14 17 e = 0 := hq.2.1 (by decide)
  have f5 : zgI z 6 5 e = zgI z 6 4 e := hq.2.2.2.2.2.2.1 (by decide)
  have f6 : zgI z 6 6 e = zgI z 6 4 e + 1 := hq.2.2.2.2.2.2.2.2.1 (by decide)
  have c11 : zgI z 3 11 e = 0 := Decidable.byContradiction (fun y => by
    have := (hq.2.2.2.2.1 y).1
    rw [h17] at this; exact absurd this (by decide))
  have c47 := (zRi_z hi h17).2.2.2.2.1
  have main : ∀ t : Bool, t = vgK V 8 → (t = true → vgT V = zgI z 6 6 e) → ∃ z' w', fX3_takeAsking_31 N e x (Int32.ofNat n) (zbi t) z = some (0, z') ∧ fX19_arriveAsking_32 N 0 e (Int32.ofNat s) w = some (0, w') ∧ zEe z' w' e ∧ zMB w' T E g K X TS TA ∧ zEc1 e z z' ∧ zBe e w w' := by
    intro t ht8 hT6
    unfold fX3_takeAsking_31 fX19_arriveAsking_32
    rw [zc_hasf 4 hV, zc_e, zm_hasf 4 hVm, zc_e]
    cases vgK V 4
    · rw [if_pos (show zbi false = 0 by decide), if_pos (show zbi false = 0 by decide), zc_hasf 1 hV, zc_e, zm_hasf 1 hVm, zc_e]
      cases vgK V 1
      · rw [if_neg (show ¬ ¬ zbi false = 0 by decide), if_pos (show zbi false = 0 by decide)]
        exact ⟨z, w, rfl, rfl, h, hM, zEc1_rf e z, zBe_rf e w⟩
      · rw [if_pos (show ¬ zbi true = 0 by decide), if_neg (show ¬ zbi true = 0 by decide)]
        obtain ⟨z1, w1, g1, g2, g3, g4, g5, g6, g7, g8, g9, g10, I, A, ec, J, B, L, be⟩ := zp_takeOpen (N := N) h16 h17r hV hVm hW hL hM he hix hl h17 hs hi (zRz_n hnn) ho.1.1
        have hVm1 : zSgM w1 s V := zSgM_bf (zBe_bf be) hVm
        rw [g1, zc_e, g2, zc_e, zm_hasf 8 hVm1, zc_e, ← ht8]
        have hs1 : zRs z1 w1 e := by
          obtain ⟨⟨s1, s2, s3, s4, s5⟩, s6, s7⟩ := hs
          refine ⟨⟨?_, ?_, g6, ?_, ?_⟩, ?_, ?_⟩
          · rw [I 3 0 e (by omega), J 0 (by omega)]; exact s1
          · rw [I 3 1 e (by omega), J 14 (by omega)]; exact s2
          · rw [I 3 3 e (by omega), J 1 (by omega)]; exact s4
          · rw [I 3 0 e (by omega), I 3 4 e (by omega), J 43 (by omega)]; exact s5
          · rw [I 3 5 e (by omega), I 3 6 e (by omega), I 3 7 e (by omega), I 3 8 e (by omega), J 24 (by omega), J 25 (by omega), J 26 (by omega), J 27 (by omega)]; exact s6
          · rw [I 3 9 e (by omega), I 3 10 e (by omega), I 3 11 e (by omega), I 3 12 e (by omega), I 3 13 e (by omega), J 28 (by omega), J 29 (by omega), J 30 (by omega), J 31 (by omega), J 32 (by omega)]; exact s7
        have ho1 : zRo z1 w1 e := zRo_win (fun j _ q => I 6 j e (by omega)) (fun i => A 124 e i) (fun j hj => J j (by omega)) (fun i => B 159 e i (by omega)) g7 g8 g9 ho
        have ht1 : zRt z1 w1 e := zRt_cg (fun j _ => I 10 j e (by omega)) (fun j hj => J j (by omega)) ht
        cases t
        · -- both ask: ANSWERING
          rw [if_pos (show zbi false = 0 by decide), if_pos (show zbi false = 0 by decide), zl_e, zl_e, zl_e, zl_e]
          obtain ⟨z2, hz2⟩ : ∃ y, y = zsI (zsI z1 3 0 e 3) 3 9 e 1 := ⟨_, rfl⟩
          obtain ⟨w2, hw2⟩ : ∃ y, y = zsI (zsI w1 14 0 e 3) 14 28 e 1 := ⟨_, rfl⟩
          rw [← hz2, ← hw2]
          have I2 : ∀ k j, ¬ (k = 3 ∧ (j = 0 ∨ j = 9)) → zgI z2 k j e = zgI z1 k j e := fun k j q => by rw [hz2, zgI_sI, zgI_sI, if_neg (by omega), if_neg (by omega)]
          have J2 : ∀ j, ¬ (j = 0 ∨ j = 28) → zgI w2 14 j e = zgI w1 14 j e := fun j q => by rw [hw2, zgI_sI, zgI_sI, if_neg (by omega), if_neg (by omega)]
          have i0 : zgI z2 3 0 e = 3 := by rw [hz2]; simp [zgI_sI]
          have i9 : zgI z2 3 9 e = 1 := by rw [hz2]; simp [zgI_sI]
          have j0 : zgI w2 14 0 e = 3 := by rw [hw2]; simp [zgI_sI]
          have j28 : zgI w2 14 28 e = 1 := by rw [hw2]; simp [zgI_sI]
          have ec2 : zEc1 e z1 z2 := by rw [hz2]; exact zEc1_tr (zEc1_I (by simp)) (zEc1_I (by simp))
          have em2 : zEm1 e w1 w2 := by rw [hw2]; exact zEm1_tr zEm1_I zEm1_I
          refine ⟨z2, w2, rfl, rfl, ⟨?_, ?_, ?_, ?_, ?_⟩, zMB_em g3 em2, zEc1_tr ec ec2, zEc1_be be em2⟩
          · refine zRs_ch (fun j _ q => I2 3 j (by omega)) (fun j hj => J2 j (by omega)) (by rw [i0, j0]) ?_ (by rw [i9, j28]) ?_ ?_ ?_ ?_ hs1
            · rw [i0]; intro y; exact absurd y (by decide)
            · rw [I2 3 11 (by omega), J2 30 (by omega)]; exact hs1.2.2.2.2.1
            · rw [I2 3 12 (by omega), J2 31 (by omega)]; exact hs1.2.2.2.2.2.1
            · rw [I2 3 13 (by omega), J2 32 (by omega)]; exact hs1.2.2.2.2.2.2.1
            · rw [I2 3 13 (by omega)]; exact hs1.2.2.2.2.2.2.2
          · exact zRo_cg (z := z1) (w := w1) (fun j _ => I2 6 j (by omega)) (fun i => by rw [hz2]; rfl) (fun j hj => J2 j (by omega)) (fun i => by rw [hw2]; rfl) ho1
          · exact zRi_cg (z := z1) (w := w1) (fun j _ => I2 4 j (by omega)) (fun k i _ => by rw [hz2]; rfl) (fun j hj => J2 j (by omega)) (fun k i _ => by rw [hw2]; rfl) g4
          · exact zRt_cg (fun j _ => I2 10 j (by omega)) (fun j hj => J2 j (by omega)) ht1
          · refine zRn_of (z := z1) (fun j hj => I2 3 j (by omega)) (I2 6 11 (by omega)) (Or.inr (Or.inr (Or.inr ?_))) ?_ g5
            · rw [I2 6 6 (by omega), I2 6 4 (by omega), I 6 6 e (by omega), I 6 4 e (by omega), f6]; exact zo_ne
            · unfold zRq
              rw [i0, (J2 17 (by omega)).trans g10, i9, I2 3 11 (by omega), I2 3 13 (by omega), I2 6 4 (by omega), I2 6 5 (by omega), I2 6 6 (by omega), I2 6 7 (by omega), I2 10 0 (by omega), I2 4 7 (by omega), I 3 11 e (by omega), I 3 13 e (by omega), I 6 4 e (by omega), I 6 5 e (by omega), I 6 6 e (by omega), I 6 7 e (by omega), I 10 0 e (by omega), I 4 7 e (by omega), c11, c47, f5, f6]
              simp [zRqv]
        · -- the OPEN is thanked for: ON
          rw [if_neg (show ¬ zbi true = 0 by decide), if_neg (show ¬ zbi true = 0 by decide), zl_e, zl_e, zl_e]
          obtain ⟨z2, hz2⟩ : ∃ y, y = zsI (zsI z1 3 0 e 4) 3 9 e 0 := ⟨_, rfl⟩
          obtain ⟨w2, hw2⟩ : ∃ y, y = zsI w1 14 0 e 4 := ⟨_, rfl⟩
          have I2 : ∀ k j, ¬ (k = 3 ∧ (j = 0 ∨ j = 9)) → zgI z2 k j e = zgI z1 k j e := fun k j q => by rw [hz2, zgI_sI, zgI_sI, if_neg (by omega), if_neg (by omega)]
          have J2 : ∀ j, ¬ (j = 0) → zgI w2 14 j e = zgI w1 14 j e := fun j q => by rw [hw2, zgI_sI, if_neg (by omega)]
          have i0 : zgI z2 3 0 e = 4 := by rw [hz2]; simp [zgI_sI]
          have i9 : zgI z2 3 9 e = 0 := by rw [hz2]; simp [zgI_sI]
          have j0 : zgI w2 14 0 e = 4 := by rw [hw2]; simp [zgI_sI]
          have ec2 : zEc1 e z1 z2 := by rw [hz2]; exact zEc1_tr (zEc1_I (by simp)) (zEc1_I (by simp))
          have em2 : zEm1 e w1 w2 := by rw [hw2]; exact zEm1_I
          have ecA : zEc1 e z z2 := zEc1_tr ec ec2
          have V2 : zSgC z2 x V := zSgC_ec ecA hV
          have Vm2 : zSgM w2 s V := zSgM_em em2 hVm1
          have now2 : zgI w2 19 24 0 = Int32.ofNat n := by rw [em2.1 19 24 0 (by omega), be.1 19 24 0 (by omega) (by omega)]; exact hT
          have ho2 : zRo z2 w2 e := zRo_cg (z := z1) (w := w1) (fun j _ => I2 6 j (by omega)) (fun i => by rw [hz2]; rfl) (fun j hj => J2 j (by omega)) (fun i => by rw [hw2]; rfl) ho1
          have hi2 : zRi z2 w2 e := zRi_cg (z := z1) (w := w1) (fun j _ => I2 4 j (by omega)) (fun k i _ => by rw [hz2]; rfl) (fun j hj => J2 j (by omega)) (fun k i _ => by rw [hw2]; rfl) g4
          have ht2 : zRt z2 w2 e := zRt_cg (fun j _ => I2 10 j (by omega)) (fun j hj => J2 j (by omega)) ht1
          have k4 : zgI z2 6 4 e = zgI z 6 4 e := (I2 6 4 (by omega)).trans (I 6 4 e (by omega))
          have k5 : zgI z2 6 5 e = zgI z 6 4 e := ((I2 6 5 (by omega)).trans (I 6 5 e (by omega))).trans f5
          have k6 : zgI z2 6 6 e = zgI z 6 4 e + 1 := ((I2 6 6 (by omega)).trans (I 6 6 e (by omega))).trans f6
          have tT : vgT V = zgI z 6 4 e + 1 := (hT6 rfl).trans f6
          obtain ⟨o', hx, hoo⟩ := zbf_th (x := vgT V) ho2 (by rw [k5, tT]; exact zbf_1 _) (by rw [k6, tT]; exact zbf_0 _)
          obtain ⟨z3, w3, p1, p2, p3, p4, p5, p6, p7, p8, p9, p10, p11, p12, p13, p14, p15⟩ := zp_thanked0 (N := N) hn ((ecA.2.2.2.2 3 16 e).trans h16) ((ecA.2.2.2.2 3 18 e).trans h18) ho2 hi2 ht2 hx hoo
          rw [← hz2, ← hw2, V2.1.2.2.1, p1, zc_e, zm_sgT Vm2, zc_e, now2, p2, zc_e, zl_e, zl_e, zl_e]
          obtain ⟨z4, hz4⟩ : ∃ y, y = zsI z3 3 13 e 1 := ⟨_, rfl⟩
          obtain ⟨w4, hw4⟩ : ∃ y, y = zsI (zsI w3 14 28 e 0) 14 32 e 1 := ⟨_, rfl⟩
          rw [← hz4, ← hw4]
          have I4 : ∀ k j, ¬ (k = 3 ∧ j = 13) → zgI z4 k j e = zgI z3 k j e := fun k j q => by rw [hz4, zgI_sI, if_neg (by omega)]
          have J4 : ∀ j, ¬ (j = 28 ∨ j = 32) → zgI w4 14 j e = zgI w3 14 j e := fun j q => by rw [hw4, zgI_sI, zgI_sI, if_neg (by omega), if_neg (by omega)]
          have i13 : zgI z4 3 13 e = 1 := by rw [hz4]; simp [zgI_sI]
          have j28 : zgI w4 14 28 e = 0 := by rw [hw4]; simp [zgI_sI]
          have j32 : zgI w4 14 32 e = 1 := by rw [hw4]; simp [zgI_sI]
          have ec4 : zEc1 e z3 z4 := by rw [hz4]; exact zEc1_I (by simp)
          have em4 : zEm1 e w3 w4 := by rw [hw4]; exact zEm1_tr zEm1_I zEm1_I
          have C3 : ∀ j, ¬ (j = 11 ∨ j = 13) → zgI z4 3 j e = zgI z2 3 j e := fun j q => (I4 3 j (by omega)).trans (p6 3 j e (by omega))
          have D3 : ∀ j, ¬ (j = 6 ∨ j = 28 ∨ j = 30 ∨ j = 32 ∨ (33 ≤ j ∧ j ≤ 42)) → zgI w4 14 j e = zgI w2 14 j e := fun j q => (J4 j (by omega)).trans (p9 j (by omega))
          refine ⟨z4, w4, rfl, rfl, ⟨?_, ?_, ?_, ?_, ?_⟩, zMB_em g3 (zEm1_tr em2 (zEm1_tr p11 em4)), zEc1_tr ecA (zEc1_tr p8 ec4), zEc1_be be (zEm1_tr em2 (zEm1_tr p11 em4))⟩
          · refine zRs_ch (fun j _ q => (C3 j (by omega)).trans (I2 3 j (by omega))) (fun j hj => (D3 j (by omega)).trans (J2 j (by omega))) ?_ ?_ ?_ ?_ ?_ ?_ (Or.inr i13) hs1
            · rw [C3 0 (by omega), i0, D3 0 (by omega), j0]
            · rw [C3 0 (by omega), i0]; intro y; exact absurd y (by decide)
            · rw [C3 9 (by omega), i9, j28]
            · rw [I4 3 11 (by omega), p14, J4 30 (by omega), p15]
            · rw [C3 12 (by omega), D3 31 (by omega), I2 3 12 (by omega), J2 31 (by omega)]; exact hs1.2.2.2.2.2.1
            · rw [i13, j32]
          · exact zRo_cg (z := z3) (w := w3) (fun j _ => I4 6 j (by omega)) (fun i => by rw [hz4]; rfl) (fun j hj => J4 j (by omega)) (fun i => by rw [hw4]; rfl) p3
          · exact zRi_cg (z := z3) (w := w3) (fun j _ => I4 4 j (by omega)) (fun k i _ => by rw [hz4]; rfl) (fun j hj => J4 j (by omega)) (fun k i _ => by rw [hw4]; rfl) p4
          · exact zRt_cg (fun j _ => I4 10 j (by omega)) (fun j hj => J4 j (by omega)) p5
          · refine zRn_of (z := z1) (fun j hj => (C3 j (by omega)).trans (I2 3 j (by omega))) ((I4 6 11 (by omega)).trans ((p6 6 11 e (by omega)).trans (I2 6 11 (by omega)))) (Or.inr (Or.inr (Or.inr ?_))) ?_ g5
            · rw [I4 6 6 (by omega), I4 6 4 (by omega), p6 6 6 e (by omega), p6 6 4 e (by omega), k6, k4]; exact zo_ne
            · unfold zRq
              rw [C3 0 (by omega), i0, D3 17 (by omega), J2 17 (by omega), g10, C3 9 (by omega), i9, I4 3 11 (by omega), p14, i13, I4 6 7 (by omega), p13, I4 4 7 (by omega), p6 4 7 e (by omega), I2 4 7 (by omega), I 4 7 e (by omega), c47]
              simp [zRqv]
    · rw [if_neg (show ¬ zbi true = 0 by decide), if_neg (show ¬ zbi true = 0 by decide), zm_hasf 8 hVm, zc_e, ← ht8]
      cases t
      · rw [if_pos (show zbi false = 0 by decide), if_pos (show zbi false = 0 by decide)]
        exact ⟨z, w, rfl, rfl, h, hM, zEc1_rf e z, zBe_rf e w⟩
      · rw [if_neg (show ¬ zbi true = 0 by decide), if_neg (show ¬ zbi true = 0 by decide), hT]
        obtain ⟨z', w', p1, p2, p3, p4, p5, -⟩ := zp_fin (N := N) (Int32.ofNat n) h18 (Or.inr rfl) h
        rw [p1, zc_e, p2, zc_e]
        exact ⟨z', w', rfl, rfl, p3, zMB_em hM p5, p4, zBe_em p5⟩
  unfold fX3_takeAsking fX19_arriveAsking
  rw [zc_hasf 8 hV, zc_e, zm_hasf 8 hVm, zc_e]
  cases c8 : vgK V 8
  · rw [if_pos (show zbi false = 0 by decide), if_pos (show zbi false = 0 by decide)]
    exact main false c8.symm (fun y => absurd y (by decide))
  · rw [if_neg (show ¬ zbi true = 0 by decide), if_neg (show ¬ zbi true = 0 by decide), h16, zl_e, zd_e, zm_sgT hVm, zc_e, hV.1.2.2.1, ← ho.1.2.2.1]
    by_cases c : vgT V = zgI z 6 6 e
    · rw [if_pos c, if_pos c]
      exact main true c8.symm (fun _ => c)
    · rw [if_neg c, if_neg c]
      obtain ⟨z', w', p1, p2, p3, p4, p5⟩ := zp_resets (N := N) hV hVm h
      rw [p1, zc_e, p2, zc_e]
      exact ⟨z', w', rfl, rfl, p3, zMB_em hM p5, p4, zBe_em p5⟩
