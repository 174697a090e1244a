/-! a host's six doors: all of the world -/
theorem zGs_I {T : Tp} {E : Ev} {Wy : Wyt} {b : Nat} {QS : Dg → Prop} {g g' : Sg} (hw : zEw T E) (hT : zTc T) (hWw : zWyw T Wy) (hb : b < tb T) (hk : ∀ D, QS D → ¬ D.1 2 = 5 ∧ ¬ D.1 2 = 6) (h0 : zGI T E (fun _ => True) g) (h : zGs T E Wy b QS g g') : zGI T E (fun _ => True) g' := by
  rcases h with e | ⟨D, goal, d1, d2, e⟩
  · rw [e]; exact h0
  · rw [e]
    cases r : rt T Wy b goal with
    | none => exact h0
    | some v =>
      obtain ⟨q, s⟩ := v
      obtain ⟨hq, -, hs⟩ := rt_some hT hWw hb r
      exact nHand_I hw (fun _ _ _ _ _ _ _ _ _ _ => trivial) hq hs d1 (hk D d2) trivial h0
theorem zTn_Q {T : Tp} {E : Ev} {Wy : Wyt} {b e n N : Nat} {z w z' w' : St} {g g' : Sg} {mk mk' : Nat → Nat} {QF : Fr → Prop} {QW : Nat → Nat → Dg → Prop} {QD : Nat → Int32 → Dg → Prop} (hc : zQcl T E QF QW QD) (hw : zEw T E) (hT : zTc T) (hWw : zWyw T Wy) (hb : b < tb T) (h0 : zGI T E (fun _ => True) g) (hD : ∀ D q s, (D.1 2 = 1 ∨ D.1 2 = 0) → tv T q → tw T q = b → s < 8 → QD q (Int32.ofNat s) D) (h : zTn T E Wy b e n N z w g z' w' g' mk mk') (hq : zQI T QF QW g) : zQI T QF QW g' ∧ zAp E g g' := by
  obtain ⟨z1, w1, z2, w2, g2, a1, a2, a3, a4, a5, a6, a7, a9, b1, b2⟩ := h
  have key : zGI T E (fun _ => True) g2 ∧ zQI T QF QW g2 ∧ zAp E g g2 := a5 (fun _ _ k => zGI T E (fun _ => True) k ∧ zQI T QF QW k ∧ zAp E g k) (fun y v k y' v' k' st ⟨i1, i2, i3⟩ => by
    obtain ⟨-, ⟨c1, c2, c3, c4, c5⟩ | ⟨y1, v1, y2, V, c1, c2, c3, c4, c5, c6, c7, c8, c9, d1, d2, d3⟩⟩ := st
    · rw [c2]; exact ⟨i1, i2, i3⟩
    · have kind : zgI y2 7 2 0 = 1 := (c7.2.2.2.2.1 2 (by omega)).trans c2.1.1
      have gs : zGs T E Wy b (fun G => G.1 2 = 1 ∨ G.1 2 = 0) k k' := zGs_mono (fun D hD => hD.imp (fun y => by rw [y]; exact kind) id) d3
      exact ⟨zGs_I hw hT hWw hb (fun D hD => by rcases hD with y | y <;> (rw [y]; decide)) i1 gs, zGs_Q hc hw hT hWw hb i1.1 (fun D q s hD' hq hqb hs => hD D q s hD' hq hqb hs) i2 gs, zAp_tr i3 (zGs_Ap hw hT hWw hb gs)⟩) ⟨h0, hq, zAp_rf E g⟩
  rcases a9 with y | y
  · rw [y]; exact ⟨key.2.1, key.2.2⟩
  · rw [y]; exact ⟨zQI_cg rfl rfl rfl key.2.1, zAp_tr key.2.2 (zAp_eq rfl)⟩
def zUs (z : St) (b : Nat) : Nat := (dUs z (6 * b)).toNatClampNeg + (dUs z (6 * b + 1)).toNatClampNeg + (dUs z (6 * b + 2)).toNatClampNeg + (dUs z (6 * b + 3)).toNatClampNeg + (dUs z (6 * b + 4)).toNatClampNeg + (dUs z (6 * b + 5)).toNatClampNeg
theorem zUs_le {z0 z : St} (h : zUd z0 z) (b : Nat) : zUs z b ≤ zUs z0 b := by
  have t : ∀ u, (dUs z u).toNatClampNeg ≤ (dUs z0 u).toNatClampNeg := fun u => by
    rcases h u with y | y
    · rw [y]; exact Nat.le_refl _
    · rw [y]; exact Nat.zero_le _
  unfold zUs
  have := t (6 * b); have := t (6 * b + 1); have := t (6 * b + 2); have := t (6 * b + 3); have := t (6 * b + 4); have := t (6 * b + 5)
  omega
theorem zUs_one {z z' : St} {b i x y : Nat} (hi : i < 6) (ho : ∀ u, ¬ u = 6 * b + i → dUs z' u = dUs z u) (h : x + (dUs z' (6 * b + i)).toNatClampNeg ≤ y + (dUs z (6 * b + i)).toNatClampNeg + 6) : x + zUs z' b ≤ y + zUs z b + 6 := by
  unfold zUs
  obtain rfl | rfl | rfl | rfl | rfl | rfl : i = 0 ∨ i = 1 ∨ i = 2 ∨ i = 3 ∨ i = 4 ∨ i = 5 := by omega
  all_goals
    first
    | (rw [ho (6 * b + 1) (by omega), ho (6 * b + 2) (by omega), ho (6 * b + 3) (by omega), ho (6 * b + 4) (by omega), ho (6 * b + 5) (by omega)]; simp only [Nat.add_zero] at h; omega)
    | (rw [ho (6 * b) (by omega), ho (6 * b + 2) (by omega), ho (6 * b + 3) (by omega), ho (6 * b + 4) (by omega), ho (6 * b + 5) (by omega)]; omega)
    | (rw [ho (6 * b) (by omega), ho (6 * b + 1) (by omega), ho (6 * b + 3) (by omega), ho (6 * b + 4) (by omega), ho (6 * b + 5) (by omega)]; omega)
    | (rw [ho (6 * b) (by omega), ho (6 * b + 1) (by omega), ho (6 * b + 2) (by omega), ho (6 * b + 4) (by omega), ho (6 * b + 5) (by omega)]; omega)
    | (rw [ho (6 * b) (by omega), ho (6 * b + 1) (by omega), ho (6 * b + 2) (by omega), ho (6 * b + 3) (by omega), ho (6 * b + 5) (by omega)]; omega)
    | (rw [ho (6 * b) (by omega), ho (6 * b + 1) (by omega), ho (6 * b + 2) (by omega), ho (6 * b + 3) (by omega), ho (6 * b + 4) (by omega)]; omega)
