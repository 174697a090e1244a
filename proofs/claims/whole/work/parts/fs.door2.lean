/-! a door's turn in the world -/
theorem zAgr_drM {M e : Nat} {w w' : St} (h : zDrM e w w') (h14 : ∀ j, j < 64 → ¬ (j = 2 ∨ j = 3 ∨ j = 4 ∨ j = 44 ∨ j = 45) → M.testBit (64 * 14 + j) = false) (h13 : M.testBit (64 * 13 + 9) = false) (h19 : M.testBit (64 * 19 + 26) = false) : zAgr M w w' := by
  obtain ⟨a1, a2, a3, a4, -⟩ := h
  refine ⟨fun k j o hk hj c => a1 k j o ?_ ?_ ?_, fun k o i c => ⟨a2 k o i, a3 k o i, a4 k o i⟩⟩
  · rintro ⟨rfl, -, n⟩; rw [h14 j hj n] at c; cases c
  · rintro ⟨rfl, rfl, -⟩; rw [h13] at c; cases c
  · rintro ⟨rfl, rfl, -⟩; rw [h19] at c; cases c
theorem zSeq_us {T : Tp} {E : Ev} {Wy : Wyt} {b e n N : Nat} {z w z' w' : St} {g g' : Sg} (h : zSeq T E Wy b e n N z w g z' w' g') (h0 : ∃ L S, zgI z 6 2 e = Int32.ofNat L ∧ zgI z 6 3 e = Int32.ofNat S ∧ S ≤ L ∧ L ≤ 2048) : ∃ L S, zgI z' 6 2 e = Int32.ofNat L ∧ zgI z' 6 3 e = Int32.ofNat S ∧ S ≤ L ∧ L ≤ 2048 := by
  have ro : ∀ {y v : St}, zEe y v e → ∃ L S, zgI y 6 2 e = Int32.ofNat L ∧ zgI y 6 3 e = Int32.ofNat S ∧ S ≤ L ∧ L ≤ 2048 := fun {y v} hE => by
    obtain ⟨-, o, nn, W, st, B, L, S, hO, ⟨q1, q2, q3, q4, q5, q6, q7, q8, q9⟩, ⟨r1, r2, r3, r4, r5, r6, r7⟩, -⟩ := zRo_iff.mp hE.2.1
    obtain ⟨B1, BL, SL, -⟩ := zOb_f hO q4
    exact ⟨L, S, r3, r4, SL, q9⟩
  refine h (fun y _ _ => ∃ L S, zgI y 6 2 e = Int32.ofNat L ∧ zgI y 6 3 e = Int32.ofNat S ∧ S ≤ L ∧ L ≤ 2048) (fun y v k y' v' k' st _ => ?_) h0
  obtain ⟨-, ⟨a1, a2, a3, a4, a5⟩ | ⟨y1, v1, y2, V, b1, b2, b3, b4, b5, b6, b7, b8, b9, c1, c2, c3⟩⟩ := st
  · exact ro a5
  · obtain ⟨L, S, s1, s2, s3⟩ := ro b5
    exact ⟨L, S, (zFr_gI b9 (by decide) (by decide) e).trans ((b6.1 6 2 e (by omega)).trans s1), (zFr_gI b9 (by decide) (by decide) e).trans ((b6.1 6 3 e (by omega)).trans s2), s3⟩
theorem us_ms {z : St} {e : Nat} (h : ∃ L S, zgI z 6 2 e = Int32.ofNat L ∧ zgI z 6 3 e = Int32.ofNat S ∧ S ≤ L ∧ L ≤ 2048) : (dUs z e).toNatClampNeg ≤ zMsr z e := by
  obtain ⟨L, S, r3, r4, SL, L2⟩ := h
  have e1 : (dUs z e).toNatClampNeg = L - S := by
    unfold dUs
    rw [r3, r4, zo_sub SL]; exact zoC (by omega)
  have e2 : (zgI z 6 2 e).toNatClampNeg = L := by rw [r3]; exact zoC (by omega)
  have e3 : (zgI z 6 3 e).toNatClampNeg = S := by rw [r4]; exact zoC (by omega)
  unfold zMsr
  rw [e1, e2, e3]
  split <;> omega
theorem zTn_w {T : Tp} {E : Ev} {Wy : Wyt} {b e n N : Nat} {z w z' w' : St} {g g' : Sg} {mk mk' : Nat → Nat} (h : zTn T E Wy b e n N z w g z' w' g' mk mk') :
    zAgr mDc z z' ∧ zKs z z' ∧ zAgr mDm w w' ∧ (∀ u, ¬ u = e → ∀ j, j < 12 → zgI z' 2 j u = zgI z 2 j u) ∧ (zgI z' 2 0 e = zgI z 2 0 e ∨ zgI z' 2 0 e = 0) ∧ (∀ u j, j = 44 ∨ j = 45 → zgI w' 14 j u = zgI w 14 j u ∨ (u = e ∧ zgI z' 2 0 e = 0)) ∧ (zgI z 11 8 0 = zgI w 19 26 0 → zgI z' 11 8 0 = zgI w' 19 26 0) ∧ (∀ u, ¬ u = e → dUs z' u = dUs z u) ∧ mk b ≤ mk' b ∧ mk' b + (dUs z' e).toNatClampNeg ≤ mk b + (dUs z e).toNatClampNeg + 6 := by
  obtain ⟨z1, w1, z2, w2, g2, a1, a2, a3, a4, a5, a6, ⟨za, wa, a7, a8⟩, a9, b1, b2⟩ := h
  have f1 := wX3_ring (Nat.and_self mX3_ring) (zFr_rf _ _) _ _ a1
  have f6 := wX11_settle (Nat.and_self mX11_settle) (zFr_rf _ _) _ _ a6
  obtain ⟨s1, s2, s3, s4⟩ := zSeq_w a5
  obtain ⟨t1, t2, t3, t4, t5, t6, t7, t8⟩ := a8
  have u1 := zUn_of a4.2.1
  have ro1 : ∃ L S, zgI z1 6 2 e = Int32.ofNat L ∧ zgI z1 6 3 e = Int32.ofNat S ∧ S ≤ L ∧ L ≤ 2048 := by
    obtain ⟨-, o, nn, W, st, B, L, S, hO, ⟨q1, q2, q3, q4, q5, q6, q7, q8, q9⟩, ⟨r1, r2, r3, r4, r5, r6, r7⟩, -⟩ := zRo_iff.mp a4.2.1
    obtain ⟨B1, BL, SL, -⟩ := zOb_f hO q4
    exact ⟨L, S, r3, r4, SL, q9⟩
  have u2 := us_ms (zSeq_us a5 ro1)
  -- the class's drain
  have dC : ∀ k j o, ¬ (o = e ∧ (k = 4 ∧ (j = 2 ∨ j = 3) ∨ k = 3 ∧ j = 13 ∨ k = 2 ∧ (j = 9 ∨ j = 10 ∨ j = 11))) → ¬ (k = 11 ∧ j = 8) → zgI za k j o = zgI z2 k j o := fun k j o n1 n2 => by
    rcases a7 with ⟨y, -⟩ | ⟨nn, bb, p, R, -, -, -, -, -, -, -, y, -⟩
    · rw [y]
    · exact y.1 k j o n1 n2
  have dM : zAgr (mDm ||| 0x30000000000000000000000001ef0000000000000000000000000000000000000000000000000000000000000000000000000000000000000000000000000000000000000000000000000000000000000000000000000000000000000000000000000000000000000000000000000000000000000000) w2 wa := by
    rcases a7 with ⟨-, y⟩ | ⟨nn, bb, p, R, -, -, -, -, -, -, -, -, y⟩
    · rw [y]; exact zAgr_rf _ _
    · exact zAgr_drM y (by decide) (by decide) (by decide)
  have six : ∀ u j, j = 2 ∨ j = 3 → zgI z' 6 j u = zgI z2 6 j u := fun u j hj => (t1 6 j u (by omega) (by omega) (by omega)).trans (dC 6 j u (by omega) (by omega))
  have six1 : ∀ u j, j = 2 ∨ j = 3 → zgI z1 6 j u = zgI z 6 j u := fun u j hj => by rcases hj with rfl | rfl <;> exact zFr_gI f1 (by decide) (by decide) u
  have ag1 : zAgr (mDm ||| 0x30000000000000000000000000000000000000000000000000000000000000000000000000000000000000000000000000000000000000000000000000000000000000000000000000000000000000000000000000000000000000000000000000000000000000000000000000000000000000000000) w w2 := zAgr_tr (zAgr_em a3 (by decide) (by decide)) (zAgr_le s3 (by decide))
  have q44 : ∀ j u, j = 44 ∨ j = 45 → zgI wa 14 j u = zgI w 14 j u := fun j u hj => by
    have e1 : zgI w2 14 j u = zgI w 14 j u := by rcases hj with rfl | rfl <;> exact ag1.1 14 _ u (by decide) (by decide) (by decide)
    have e2 : zgI wa 14 j u = zgI w2 14 j u := by rcases hj with rfl | rfl <;> exact dM.1 14 _ u (by decide) (by decide) (by decide)
    exact e2.trans e1
  refine ⟨zAgr_tr (zAgr_ec a2 (by decide) (by decide) (by decide) (by decide) (by decide)) (zAgr_tr (zAgr_le s1 (by decide)) (zAgr_fr f6 (by decide))), zKs_tr (zKs_ec a2) (zKs_tr s2 (fun v _ _ => ⟨fun j hj => ?_, fun i => zFr_gA f6 (by decide) v i⟩)), zAgr_tr (zAgr_le ag1 (by decide)) (zAgr_tr (zAgr_le dM (by decide)) (zAgr_fr t8 (by decide))), fun u hu j hj => ?_, ?_, fun u j hj => ?_, fun y => ?_, fun u hu => ?_, b1, ?_⟩
  · have t : ∀ j, j < 15 → mX11_settle.testBit (64 * 7 + j) = false := by decide
    exact zFr_gI f6 (by decide) (t j hj) v
  · have e1 : zgI z1 2 j u = zgI z 2 j u := a2.1 2 j u (by omega)
    have e2 : zgI z2 2 j u = zgI z1 2 j u := by
      have t : ∀ j, j < 12 → (mDc ||| 0x100000000000000000000000000000000000000000000000000000000000000000000000000000000000000000000000000000000000000000000000000000000000000000000000fff00000000000000000000000000000000).testBit (64 * 2 + j) = true := by decide
      exact s1.1 2 j u (by decide) (by omega) (t j hj)
    exact (t1 2 j u (by omega) (by omega) (by omega)).trans ((dC 2 j u (by omega) (by omega)).trans (e2.trans e1))
  · rcases t3 with y | ⟨y, -⟩
    · left
      have e1 : zgI z1 2 0 e = zgI z 2 0 e := a2.1 2 0 e (by omega)
      have e2 : zgI z2 2 0 e = zgI z1 2 0 e := s1.1 2 0 e (by decide) (by decide) (by decide)
      exact (y 0).trans ((dC 2 0 e (by omega) (by omega)).trans (e2.trans e1))
    · exact Or.inr y
  · by_cases e0 : u = e
    · subst e0
      rcases t6 with y | y
      · exact Or.inl ((y j hj).trans (q44 j u hj))
      · exact Or.inr ⟨rfl, y⟩
    · exact Or.inl ((t5 14 j u (by omega) (by omega)).trans (q44 j u hj))
  · have e1 : zgI z2 11 8 0 = zgI z 11 8 0 := (s1.1 11 8 0 (by decide) (by decide) (by decide)).trans (a2.1 11 8 0 (by omega))
    have e2 : zgI w2 19 26 0 = zgI w 19 26 0 := (s3.1 19 26 0 (by decide) (by decide) (by decide)).trans (a3.1 19 26 0 (by omega))
    have e3 : zgI za 11 8 0 = zgI wa 19 26 0 := by
      rcases a7 with ⟨y1, y2⟩ | ⟨nn, bb, p, R, -, -, -, -, -, y, -⟩
      · rw [y1, y2, e1, e2]; exact y
      · exact y
    rw [t1 11 8 0 (by omega) (by omega) (by omega), t5 19 26 0 (by omega) (by omega)]; exact e3
  · unfold dUs
    rw [six u 2 (Or.inl rfl), six u 3 (Or.inr rfl), s4 u hu 2 (Or.inl rfl), s4 u hu 3 (Or.inr rfl), six1 u 2 (Or.inl rfl), six1 u 3 (Or.inr rfl)]
  · have e1 : dUs z' e = dUs z2 e := by unfold dUs; rw [six e 2 (Or.inl rfl), six e 3 (Or.inr rfl)]
    have e2 : dUs z1 e = dUs z e := by unfold dUs; rw [six1 e 2 (Or.inl rfl), six1 e 3 (Or.inr rfl)]
    rw [e1, ← e2]
    have := u1.2.2
    omega
