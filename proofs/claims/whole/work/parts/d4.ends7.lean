/-! ends, both sides: the head of a door's turn; closing -/
theorem zp_ring {z w : St} {b x2 e n N : Nat} (hn : n ≤ 400000) (hT : zgI w 19 24 0 = Int32.ofNat n) (h16 : zgR z 3 16 e = some e) (h18 : zgR z 3 18 e = some e) (h : zEe z w e) :
    ∃ z' w', fX3_ring N e (Int32.ofNat n) z = some (0, z') ∧ (if ¬ (zgI w 14 0 e) = (10 : Int32) then (fX19_doorTurn_42 N 0 b x2 e w) else (if (zgI w 19 24 0) < (zgI w 14 43 e) then (fX19_doorTurn_42 N 0 b x2 e w) else (zc (fX14_become N e (0 : Int32) (zgI w 19 24 0) w) fun _ z7 => fX19_doorTurn_42 N 0 b x2 e z7))) = fX19_doorTurn_68 N 0 b x2 e w' ∧ zEe z' w' e ∧ zEc1 e z z' ∧ zEm1 e w w' := by
  obtain ⟨hs, -⟩ := id h
  have st : zgI w 14 0 e = zgI z 3 0 e := hs.1.1.symm
  unfold fX3_ring
  rw [st]
  by_cases c : zgI z 3 0 e = 10
  · rw [if_neg (show ¬ ¬ zgI z 3 0 e = 10 from fun y => y c), if_neg (show ¬ ¬ zgI z 3 0 e = 10 from fun y => y c), hT, ← hs.1.2.2.2.2 c]
    by_cases d : Int32.ofNat n < zgI z 3 4 e
    · rw [if_pos d, if_pos d]
      exact zp_ring22 hn hT h16 h18 h
    · rw [if_neg d, if_neg d]
      obtain ⟨z1, w1, g1, g2, g3, g4, g5, -⟩ := zp_fin (N := N) (Int32.ofNat n) h18 (Or.inl rfl) h
      rw [g1, zc_e, g2, zc_e]
      obtain ⟨z', w', k1, k2, k3, k4, k5⟩ := zp_ring22 (b := b) (x2 := x2) (N := N) hn ((g5.1 19 24 0 (by omega)).trans hT) ((g4.2.2.2.2 3 16 e).trans h16) ((g4.2.2.2.2 3 18 e).trans h18) g3
      exact ⟨z', w', k1, k2, k3, zEc1_tr g4 k4, zEm1_tr g5 k5⟩
  · rw [if_pos c, if_pos c]
    exact zp_ring22 hn hT h16 h18 h
/-- the state alone becomes another one that lives -/
theorem zEe_st {z w : St} {e : Nat} {s : Int32} (hs : ¬ s = 10) (hb : ¬ zgI z 6 6 e = zgI z 6 4 e) (hq : zRqv s (zgI w 14 17 e) (zgI z 3 9 e) (zgI z 3 11 e) (zgI z 3 13 e) (zgI z 6 4 e) (zgI z 6 5 e) (zgI z 6 6 e) (zgI z 6 7 e) (zgI z 10 0 e) (zgI z 4 7 e)) (h : zEe z w e) : zEe (zsI z 3 0 e s) (zsI w 14 0 e s) e := by
  obtain ⟨⟨⟨s1, s2, s3, s4, s5⟩, s6, s7⟩, ho, hi, ht, hnn⟩ := h
  have I : ∀ k j, ¬ (k = 3 ∧ j = 0) → zgI (zsI z 3 0 e s) k j e = zgI z k j e := fun k j q => by rw [zgI_sI, if_neg (by omega)]
  have J : ∀ j, j ≠ 0 → zgI (zsI w 14 0 e s) 14 j e = zgI w 14 j e := fun j q => by rw [zgI_sI, if_neg (by omega)]
  have I0 : zgI (zsI z 3 0 e s) 3 0 e = s := by rw [zgI_sI, if_pos ⟨rfl, rfl, rfl⟩]
  have J0 : zgI (zsI w 14 0 e s) 14 0 e = s := by rw [zgI_sI, if_pos ⟨rfl, rfl, rfl⟩]
  refine ⟨⟨⟨by rw [I0, J0], ?_, ?_, ?_, fun y => absurd (I0.symm.trans y) hs⟩, ⟨?_, ?_⟩, ?_⟩, ?_, ?_, ?_, ?_⟩
  · rw [I 3 1 (by omega), J 14 (by omega)]; exact s2
  · rw [I 3 2 (by omega), J 15 (by omega)]; exact s3
  · rw [I 3 3 (by omega), J 1 (by omega)]; exact s4
  · rw [I 3 5 (by omega), J 24 (by omega)]; exact s6.1
  · rw [I 3 5 (by omega), I 3 6 (by omega), I 3 7 (by omega), I 3 8 (by omega), J 25 (by omega), J 26 (by omega), J 27 (by omega)]; exact s6.2
  · rw [I 3 9 (by omega), I 3 10 (by omega), I 3 11 (by omega), I 3 12 (by omega), I 3 13 (by omega), J 28 (by omega), J 29 (by omega), J 30 (by omega), J 31 (by omega), J 32 (by omega)]; exact s7
  · exact zRo_cg (fun j _ => I 6 j (by omega)) (fun _ => rfl) (fun j hj => J j (by omega)) (fun _ => rfl) ho
  · exact zRi_cg (fun j _ => I 4 j (by omega)) (fun _ _ _ => rfl) (fun j hj => J j (by omega)) (fun _ _ _ => rfl) hi
  · exact zRt_cg (fun j _ => I 10 j (by omega)) (fun j hj => J j (by omega)) ht
  · exact zRn_cg (fun j hj => I 3 j (by omega)) (I 6 11 (by omega)) (by rw [I 6 6 (by omega), I 6 4 (by omega)]; exact Or.inr (Or.inr (Or.inr hb))) (by unfold zRq; rw [I0, J 17 (by omega), I 3 9 (by omega), I 3 11 (by omega), I 3 13 (by omega), I 6 4 (by omega), I 6 5 (by omega), I 6 6 (by omega), I 6 7 (by omega), I 10 0 (by omega), I 4 7 (by omega)]; exact hq) hnn
/-- nothing more is written -/
theorem zEe_cl {z w : St} {e : Nat} (h : zEe z w e) : zEe (zsI z 6 8 e 1) (zsI w 14 9 e 1) e := by
  obtain ⟨hs, ⟨⟨f4, f5, f6, f8, f81, f11⟩, o, n, W, st, ⟨q1, q2, q3, q4, q5, q6, q7, q8, q9⟩, r, a⟩, hi, ht, hnn⟩ := h
  have I : ∀ k j, ¬ (k = 6 ∧ j = 8) → zgI (zsI z 6 8 e 1) k j e = zgI z k j e := fun k j q => by rw [zgI_sI, if_neg (by omega)]
  have J : ∀ j, j ≠ 9 → zgI (zsI w 14 9 e 1) 14 j e = zgI w 14 j e := fun j q => by rw [zgI_sI, if_neg (by omega)]
  have I8 : zgI (zsI z 6 8 e 1) 6 8 e = 1 := by rw [zgI_sI, if_pos ⟨rfl, rfl, rfl⟩]
  have J9 : zgI (zsI w 14 9 e 1) 14 9 e = 1 := by rw [zgI_sI, if_pos ⟨rfl, rfl, rfl⟩]
  refine ⟨zRs_cg (fun j _ => I 3 j (by omega)) (fun j hj => J j (by omega)) hs, ⟨⟨?_, ?_, ?_, ?_, ?_, ?_⟩, o, n, W, st, ⟨?_, ?_, ?_, q4, q5, q6, q7, ?_, q9⟩, ?_, ?_⟩, zRi_cg (fun j _ => I 4 j (by omega)) (fun _ _ _ => rfl) (fun j hj => J j (by omega)) (fun _ _ _ => rfl) hi, zRt_cg (fun j _ => I 10 j (by omega)) (fun j hj => J j (by omega)) ht, ?_⟩
  · rw [I 6 4 (by omega), J 5 (by omega)]; exact f4
  · rw [I 6 5 (by omega), J 6 (by omega)]; exact f5
  · rw [I 6 6 (by omega), J 7 (by omega)]; exact f6
  · rw [I8, J9]
  · exact Or.inr I8
  · rw [I 6 11 (by omega), I 6 12 (by omega), I 6 13 (by omega), J 11 (by omega), J 12 (by omega), J 13 (by omega)]; exact f11
  · rw [I 6 5 (by omega), I 6 4 (by omega)]; exact q1
  · rw [I 6 6 (by omega), I 6 4 (by omega)]; exact q2
  · rw [I 6 4 (by omega), J 8 (by omega)]; exact q3
  · exact fun _ => I8
  · rw [I 6 1 (by omega), I 6 2 (by omega), I 6 3 (by omega), I 6 7 (by omega), I 6 9 (by omega), I 6 10 (by omega)]; exact r
  · exact a
  · exact zRn_cg (fun j _ => I 3 j (by omega)) (I 6 11 (by omega)) (by rw [I 3 0 (by omega), I 6 6 (by omega), I 6 4 (by omega)]; exact hnn.1) (zRq_eq (fun j _ => I 3 j (by omega)) (fun j _ => I 6 j (by omega)) (I 10 0 (by omega)) (I 4 7 (by omega)) (J 17 (by omega)) hnn.2.2.2.2) hnn
theorem zp_close {z w : St} {e N : Nat} (v : Int32) (h16 : zgR z 3 16 e = some e) (h18 : zgR z 3 18 e = some e) (h : zEe z w e) : ∃ z' w', fX3_closeByOwner N e z = some (0, z') ∧ fX14_close N e v w = some (0, w') ∧ zEe z' w' e ∧ zEc1 e z z' ∧ zEm1 e w w' := by
  have h1 := zEe_cl h
  obtain ⟨z1, hz⟩ : ∃ u, u = zsI z 6 8 e 1 := ⟨_, rfl⟩
  obtain ⟨w1, hw⟩ : ∃ u, u = zsI w 14 9 e 1 := ⟨_, rfl⟩
  rw [← hz, ← hw] at h1
  have r18 : zgR z1 3 18 e = some e := by rw [hz]; exact h18
  have c1 : zEc1 e z z1 := by rw [hz]; exact zEc1_I (by simp)
  have m1 : zEm1 e w w1 := by rw [hw]; exact zEm1_I
  have st : zgI w1 14 0 e = zgI z1 3 0 e := h1.1.1.1.symm
  have fr : ∃ z' w', fX3_closeByOwner_24 N e z1 = some (0, z') ∧ fX14_close_21 N e v w1 = some (0, w') ∧ zEe z' w' e ∧ zEc1 e z z' ∧ zEm1 e w w' := by
    obtain ⟨z', w', g1, g2, g3, g4, g5, -⟩ := zp_fin (N := N) v r18 (Or.inl rfl) h1
    unfold fX3_closeByOwner_24 fX14_close_21
    exact ⟨z', w', by rw [g1, zc_e], by rw [g2, zc_e], g3, zEc1_tr c1 g4, zEm1_tr m1 g5⟩
  have to : ∀ s0 s : Int32, zgI z1 3 0 e = s0 → stN s0 = true → ¬ s = 10 → (∀ h a9 a11 a13 f4 f5 f6 f7 t0 o7, zRqv s0 h a9 a11 a13 f4 f5 f6 f7 t0 o7 → zRqv s h a9 a11 a13 f4 f5 f6 f7 t0 o7) → ∃ z' w', some ((0 : Int32), zsI z1 3 0 e s) = some (0, z') ∧ some ((0 : Int32), zsI w1 14 0 e s) = some (0, w') ∧ zEe z' w' e ∧ zEc1 e z z' ∧ zEm1 e w w' := fun s0 s e0 n0 hs hv => ⟨_, _, rfl, rfl, zEe_st hs (stN_b h1.2.2.2.2 (by rw [e0]; exact n0)) (by have q := h1.2.2.2.2.2.2.2.2; unfold zRq at q; rw [e0] at q; exact hv _ _ _ _ _ _ _ _ _ _ q) h1, zEc1_tr c1 (zEc1_I (by simp)), zEm1_tr m1 zEm1_I⟩
  unfold fX3_closeByOwner fX14_close
  rw [h16]
  simp only [zl_e, zd_e]
  rw [← hz, ← hw, st]
  by_cases k1 : zgI z1 3 0 e = 1
  · rw [if_pos k1, if_pos k1]; exact fr
  · rw [if_neg k1, if_neg k1]
    by_cases k2 : zgI z1 3 0 e = 2
    · rw [if_neg (show ¬ ¬ zgI z1 3 0 e = 2 from fun y => y k2), if_neg (show ¬ ¬ zgI z1 3 0 e = 2 from fun y => y k2)]; exact fr
    · rw [if_pos (show ¬ zgI z1 3 0 e = 2 from k2), if_pos (show ¬ zgI z1 3 0 e = 2 from k2)]
      by_cases k4 : zgI z1 3 0 e = 4
      · rw [if_neg (show ¬ ¬ zgI z1 3 0 e = 4 from fun y => y k4), if_neg (show ¬ ¬ zgI z1 3 0 e = 4 from fun y => y k4)]; exact to 4 5 k4 (by decide) (by decide) (fun _ _ _ _ _ _ _ _ _ _ q => by simpa [zRqv] using q)
      · rw [if_pos (show ¬ zgI z1 3 0 e = 4 from k4), if_pos (show ¬ zgI z1 3 0 e = 4 from k4)]
        by_cases k7 : zgI z1 3 0 e = 7
        · rw [if_neg (show ¬ ¬ zgI z1 3 0 e = 7 from fun y => y k7), if_neg (show ¬ ¬ zgI z1 3 0 e = 7 from fun y => y k7)]; exact to 7 9 k7 (by decide) (by decide) (fun _ _ _ _ _ _ _ _ _ _ q => by simpa [zRqv] using q)
        · rw [if_pos (show ¬ zgI z1 3 0 e = 7 from k7), if_pos (show ¬ zgI z1 3 0 e = 7 from k7)]
          exact ⟨z1, w1, rfl, rfl, h1, c1, m1⟩
