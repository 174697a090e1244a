/-! what a door's turn leaves alone -/
theorem zAgr_ek {M e b : Nat} {z z' : St} (h : zEk e b z z') (h3 : nB M 3) (h4 : nB M 4) (h6 : nB M 6) (h7 : nB M 7) (h10 : nB M 10) (hA : ∀ k, k ∈ [113, 120, 121, 124, 125] → M.testBit (1180 + k) = false) : zAgr M z z' := by
  obtain ⟨a1, a2, a3, a4, -⟩ := h
  refine ⟨fun k j o hk hj c => a1 k j o ?_ ?_, fun k o i c => ⟨a2 k o i ?_ ?_ ?_, a3 k o i, a4 k o i⟩⟩
  · rintro ⟨rfl | rfl | rfl | rfl, -⟩
    · exact nB_no h3 hj c
    · exact nB_no h4 hj c
    · exact nB_no h6 hj c
    · exact nB_no h10 hj c
  · rintro ⟨rfl, -⟩; exact nB_no h7 hj c
  · rintro ⟨rfl | rfl | rfl, -⟩ <;> (rw [hA _ (by simp)] at c; cases c)
  · rintro ⟨rfl, -⟩; rw [hA _ (by simp)] at c; cases c
  · rintro ⟨rfl, -⟩; rw [hA _ (by simp)] at c; cases c
abbrev nB14 (M : Nat) : Prop := ∀ j, j < 64 → ¬ (j = 2 ∨ j = 3 ∨ j = 4 ∨ j = 44 ∨ j = 45 ∨ j = 46) → M.testBit (64 * 14 + j) = false
theorem zAgr_em {M e : Nat} {w w' : St} (h : zEm1 e w w') (h14 : nB14 M) (hA : ∀ k, k ∈ [159, 160, 161] → M.testBit (1180 + k) = false) : zAgr M w w' := by
  obtain ⟨a1, a2, a3, a4, -⟩ := h
  refine ⟨fun k j o hk hj c => a1 k j o ?_, fun k o i c => ⟨a2 k o i ?_, a3 k o i, a4 k o i⟩⟩
  · rintro ⟨rfl, -, n⟩; rw [h14 j hj n] at c; cases c
  · rintro ⟨rfl | rfl | rfl, -⟩ <;> (rw [hA _ (by simp)] at c; cases c)
theorem zAgr_mf {M e : Nat} {w w' : St} (h : zMdF e w w') (h14 : nB14 M) (h19 : M.testBit (64 * 19 + 7) = false) (hA : ∀ k, k ∈ [174, 175, 176, 183] → M.testBit (1180 + k) = false) : zAgr M w w' := by
  obtain ⟨a1, a2, a3, a4, -⟩ := h
  refine ⟨fun k j o hk hj c => a1 k j o ?_ ?_, fun k o i c => ⟨a2 k o i ?_, a3 k o i ?_, a4 k o i⟩⟩
  · rintro ⟨rfl, -, n⟩; rw [h14 j hj n] at c; cases c
  · rintro ⟨rfl, rfl⟩; rw [h19] at c; cases c
  · rintro (rfl | rfl | rfl) <;> (rw [hA _ (by simp)] at c; cases c)
  · rintro rfl; rw [hA _ (by simp)] at c; cases c
theorem zKs_ek {e b : Nat} {z z' : St} (h : zEk e b z z') : zKs z z' := fun u a _ => ⟨fun j _ => h.1 7 j u (by omega) (by omega), fun i => h.2.1 125 u i (by omega) (by omega) (by omega)⟩
theorem zKs_ec {e : Nat} {z z' : St} (h : zEc1 e z z') : zKs z z' := fun u _ _ => ⟨fun j _ => h.1 7 j u (by omega), fun i => h.2.1 125 u i (by omega)⟩
def mDc : Nat := mRC ||| (mPpC ||| 0x40000000000000000000000000000000000000000000000000000000000000010000000000000000000)
def mDm : Nat := mRM ||| (mPpM ||| 0x20000000000000000000000000000002000000000000000000000000000000000000000000000000000000000020000000000000000000000000000000000000000000000000000000000000000000000000000000000000000000000000000000000000000000000000000000000000000000000000000000000000000000000000000000000000000000000000000000)
/-- the sending of a door leaves these alone -/
theorem zSeq_w {T : Tp} {E : Ev} {Wy : Wyt} {b e n N : Nat} {z w z' w' : St} {g g' : Sg} (h : zSeq T E Wy b e n N z w g z' w' g') : zAgr (mDc ||| 0x100000000000000000000000000000000000000000000000000000000000000000000000000000000000000000000000000000000000000000000000000000000000000000000000fff00000000000000000000000000000000) z z' ∧ zKs z z' ∧ zAgr (mDm ||| 0x40000000000000000000000000000000000000000000000000000000000000000000000000030000000000000000000000003ef0000000000000000000000000000000000000000000000000000000000000000000000000000000000000000000000000000000000000000000000000000000000000000000000000000000000000000000000000000000000000000000000000000000000000000) w w' ∧ (∀ u, ¬ u = e → ∀ j, j = 2 ∨ j = 3 → zgI z' 6 j u = zgI z 6 j u) := by
  refine h (fun y v _ => zAgr (mDc ||| 0x100000000000000000000000000000000000000000000000000000000000000000000000000000000000000000000000000000000000000000000000000000000000000000000000fff00000000000000000000000000000000) z y ∧ zKs z y ∧ zAgr (mDm ||| 0x40000000000000000000000000000000000000000000000000000000000000000000000000030000000000000000000000003ef0000000000000000000000000000000000000000000000000000000000000000000000000000000000000000000000000000000000000000000000000000000000000000000000000000000000000000000000000000000000000000000000000000000000000000) w v ∧ (∀ u, ¬ u = e → ∀ j, j = 2 ∨ j = 3 → zgI y 6 j u = zgI z 6 j u)) (fun y v k y' v' k' st ⟨i1, i2, i3, i4⟩ => ?_) ⟨zAgr_rf _ _, zKs_rf z, zAgr_rf _ _, fun _ _ _ _ => rfl⟩
  obtain ⟨-, ⟨a1, a2, a3, a4, a5⟩ | ⟨y1, v1, y2, V, b1, b2, b3, b4, b5, b6, b7, b8, b9, c1, c2, c3⟩⟩ := st
  · exact ⟨zAgr_tr i1 (zAgr_ec a3 (by decide) (by decide) (by decide) (by decide) (by decide)), zKs_tr i2 (zKs_ec a3), zAgr_tr i3 (zAgr_em a4 (by decide) (by decide)), fun u hu j hj => (a3.1 6 j u (by omega)).trans (i4 u hu j hj)⟩
  · refine ⟨zAgr_tr i1 (zAgr_tr (zAgr_ek b3 (by decide) (by decide) (by decide) (by decide) (by decide) (by decide)) (zAgr_tr (zAgr_kd b6 (by decide) (by decide)) (zAgr_fr b9 (by decide)))), zKs_tr i2 (zKs_tr (zKs_ek b3) (zKs_tr (zKs_kd b6) (zKs_e c1))), zAgr_tr i3 (zAgr_tr (zAgr_mf b4 (by decide) (by decide) (by decide)) (zAgr_fr c2 (by decide))), fun u hu j hj => ?_⟩
    have e1 : zgI y' 6 j u = zgI y2 6 j u := by rcases hj with rfl | rfl <;> exact zFr_gI b9 (by decide) (by decide) u
    rw [e1, b6.1 6 j u (by omega), b3.1 6 j u (by omega) (by omega)]
    exact i4 u hu j hj
/-- unsent bytes of an end, by the class's counts -/
theorem zUn_of {z w : St} {e : Nat} (h : zRo z w e) : (dUs z e).toNatClampNeg = (zgI z 6 2 e).toNatClampNeg - (zgI z 6 3 e).toNatClampNeg ∧ (dUs z e).toNatClampNeg ≤ zMsr z e ∧ zMsr z e ≤ (dUs z e).toNatClampNeg + 6 := by
  obtain ⟨-, o, nn, W, st, B, L, S, hO, ⟨q1, q2, q3, q4, q5, q6, q7, q8, q9⟩, ⟨r1, r2, r3, r4, r5, r6, r7⟩, -⟩ := zRo_iff.mp h
  obtain ⟨B1, BL, SL, -⟩ := zOb_f hO q4
  have e1 : (dUs z e).toNatClampNeg = L - S := by
    unfold dUs
    rw [r3, r4]
    have : Int32.ofNat L - Int32.ofNat S = Int32.ofNat (L - S) := zo_sub SL
    rw [this]; exact zoC (by omega)
  have e2 : (zgI z 6 2 e).toNatClampNeg = L := by rw [r3]; exact zoC (by omega)
  have e3 : (zgI z 6 3 e).toNatClampNeg = S := by rw [r4]; exact zoC (by omega)
  have b1 : ∀ x : Int32, zb1 x ≤ 1 := fun x => by unfold zb1; split <;> omega
  unfold zMsr
  rw [e1, e2, e3]
  have c1 := b1 (zgI z 3 5 e); have c2 := b1 (zgI z 3 9 e); have c3 := b1 (zgI z 3 11 e); have c4 := b1 (zgI z 3 12 e); have c5 := b1 (zgI z 3 13 e)
  refine ⟨rfl, ?_, ?_⟩
  · split <;> omega
  · split <;> omega
