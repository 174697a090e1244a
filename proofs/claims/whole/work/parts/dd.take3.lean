/-! ends, both sides: the expected number goes on -/
theorem zm_readR {w : St} {e R N : Nat} (h17 : zgI w 14 17 e = 1) (h23 : zgI w 14 23 e = 0) (hX : zgI w 14 16 e = zgI w 14 18 e + Int32.ofNat R) : fX14_readable N e w = some (Int32.ofNat R, w) := by
  unfold fX14_readable fX14_readable_27
  rw [if_neg (by rw [h17]; decide), if_pos h23, zi_cancel hX]
theorem zi_add1 (Y : Int32) (R : Nat) : Y + Int32.ofNat R + 1 = Y + Int32.ofNat (R + 1) := by
  rw [Int32.add_assoc, zo_i1]
def zOv (z : St) (e : Nat) : Bool := decide (¬ zgI z 4 5 e = 0) && decide (zgI z 4 4 e = zgI z 4 6 e)
theorem zp_goOnL {e s m st y0 N : Nat} {Y lk ln : Int32} (hy : y0 = zun Y) (hst : st < 2048) (hlk : lk = 0 ∨ lk = 1) :
    ∀ (n R c nn mm : Nat) (z w : St), R + n = 2048 → n < nn → n < mm → c ≤ R → zgI z 4 2 e = Int32.ofNat st → zgI z 4 3 e = Int32.ofNat R → zgI z 4 4 e = Y + Int32.ofNat R → zgI z 4 5 e = lk → (lk = 1 → zgI z 4 6 e = ln) → zgI w 14 16 e = Y + Int32.ofNat R → zgI w 14 17 e = 1 → zgI w 14 18 e = Y → zgI w 14 21 e = lk → (lk = 1 → zgI w 14 22 e = ln) → zgI w 14 23 e = 0 → zIa z w e st y0 R →
    ∃ z1 w1 R1, fX4_goOn_2 N nn e (Int32.ofNat c) z = some (0, if zOv z1 e = true then zsI (zsI z1 4 4 e (zgI z1 4 4 e + 1)) 4 7 e 1 else z1) ∧ fX19_arriveBytes_181 N mm 0 e (Int32.ofNat s) (Int32.ofNat m) w = fX19_arriveBytes_252 N 0 e (Int32.ofNat s) (Int32.ofNat m) w1 ∧ R1 ≤ 2048 ∧ zgI z1 4 3 e = Int32.ofNat R1 ∧ zgI z1 4 4 e = Y + Int32.ofNat R1 ∧ zgI w1 14 16 e = Y + Int32.ofNat R1 ∧ zIa z1 w1 e st y0 R1 ∧
      (∀ k j u, ¬ (k = 4 ∧ (j = 3 ∨ j = 4) ∧ u = e) → zgI z1 k j u = zgI z k j u) ∧ (∀ k u i, ¬ (k = 121 ∧ u = e) → zgA z1 k u i = zgA z k u i) ∧ zEc1 e z z1 ∧ (∀ j, ¬ j = 16 → zgI w1 14 j e = zgI w 14 j e) ∧ (∀ k u i, ¬ (k = 161 ∧ u = e) → zgA w1 k u i = zgA w k u i) ∧ zEm1 e w w1 := by
  intro n
  induction n with
  | zero =>
    intro R c nn mm z w hR hn hm hc c2 c3 c4 c5 c6 m16 m17 m18 m21 m22 m23 hA
    obtain ⟨nn, rfl⟩ : ∃ k, nn = k + 1 := ⟨nn - 1, by omega⟩
    obtain ⟨mm, rfl⟩ : ∃ k, mm = k + 1 := ⟨mm - 1, by omega⟩
    have e1 : R = 2048 := by omega
    subst e1
    refine ⟨z, w, 2048, ?_, ?_, by omega, c3, c4, m16, hA, fun _ _ _ _ => rfl, fun _ _ _ _ => rfl, zEc1_rf e z, fun _ _ => rfl, fun _ _ _ _ => rfl, zEm1_rf e w⟩
    · show fX4_goOn_2b N _ e _ z = _
      have t43 : ∀ K, fX4_goOn_43 N K e (Int32.ofNat c) z = some (0, z) := fun K => by
        unfold fX4_goOn_43
        rw [zl_e, c3, if_pos (show (2048 : Int32) ≤ Int32.ofNat 2048 from Int32.le_refl _)]
      unfold fX4_goOn_2b zOv
      rw [if_neg (show ¬ (2048 : Int32) < Int32.ofNat c from by rw [show (2048 : Int32) = Int32.ofNat 2048 from rfl, zo_lt (by omega) (by omega)]; omega), t43]
      by_cases d1 : zgI z 4 5 e = 0
      · rw [if_pos d1, decide_eq_false (fun y => y d1)]; rfl
      · rw [if_neg d1, decide_eq_true d1]
        by_cases d2 : zgI z 4 4 e = zgI z 4 6 e
        · rw [if_neg (fun y => y d2), zl_e, zl_e, decide_eq_true d2]; rfl
        · rw [if_pos d2, decide_eq_false d2]; rfl
    · show fX19_arriveBytes_181b N _ 0 e _ _ w = _
      unfold fX19_arriveBytes_181b
      have z0 : zgA w 161 e ((y0 + 2048) % 2048) = 0 := by
        obtain ⟨b1, b2, -⟩ := hA 0 (by omega)
        rw [show (y0 + 2048) % 2048 = (y0 + 0) % 2048 from by omega, ← b1]
        rcases b2 with y | y
        · exact y
        · omega
      have ix : (zgI w 14 16 e) &&& (2047 : Int32) = Int32.ofNat ((y0 + 2048) % 2048) := by rw [m16, zand_o, zun_add, hy]
      rw [ix, zkk (Nat.mod_lt _ (by decide)) (by omega), zoC (by omega), if_pos z0]
  | succ n ih =>
    intro R c nn mm z w hR hn hm hc c2 c3 c4 c5 c6 m16 m17 m18 m21 m22 m23 hA
    obtain ⟨nn, rfl⟩ : ∃ k, nn = k + 1 := ⟨nn - 1, by omega⟩
    obtain ⟨mm, rfl⟩ : ∃ k, mm = k + 1 := ⟨mm - 1, by omega⟩
    have cE : fX4_goOn_2 N (nn + 1) e (Int32.ofNat c) z = fX4_goOn_2b N (fX4_goOn_2 N nn) e (Int32.ofNat c) z := rfl
    have mE : fX19_arriveBytes_181 N (mm + 1) 0 e (Int32.ofNat s) (Int32.ofNat m) w = fX19_arriveBytes_181b N (fX19_arriveBytes_181 N mm) 0 e (Int32.ofNat s) (Int32.ofNat m) w := rfl
    have nc : ¬ (2048 : Int32) < Int32.ofNat c := by rw [show (2048 : Int32) = Int32.ofNat 2048 from rfl, zo_lt (by omega) (by omega)]; omega
    have ix : (zgI w 14 16 e) &&& (2047 : Int32) = Int32.ofNat ((y0 + R) % 2048) := by rw [m16, zand_o, zun_add, hy]
    have ixc : ((zgI z 4 2 e) + (zgI z 4 3 e)) &&& (2047 : Int32) = Int32.ofNat ((st + R) % 2048) := by rw [c2, c3, zo_add, zand47 (by omega)]
    have lt1 : (st + R) % 2048 < 2048 := Nat.mod_lt _ (by decide)
    have lt2 : (y0 + R) % 2048 < 2048 := Nat.mod_lt _ (by decide)
    obtain ⟨b1, b2, -⟩ := hA R (by omega)
    have r2 : ¬ (2048 : Int32) ≤ Int32.ofNat R := by rw [show (2048 : Int32) = Int32.ofNat 2048 from rfl, zo_le (by omega) (by omega)]; omega
    by_cases ov : ¬ zgI z 4 5 e = 0 ∧ zgI z 4 4 e = zgI z 4 6 e
    · -- the last number is reached
      refine ⟨z, w, R, ?_, ?_, by omega, c3, c4, m16, hA, fun _ _ _ _ => rfl, fun _ _ _ _ => rfl, zEc1_rf e z, fun _ _ => rfl, fun _ _ _ _ => rfl, zEm1_rf e w⟩
      · rw [cE]; unfold fX4_goOn_2b zOv
        rw [if_neg nc, if_neg ov.1, if_neg (fun y => y ov.2), zl_e, zl_e, decide_eq_true ov.1, decide_eq_true ov.2]; rfl
      · rw [mE]; unfold fX19_arriveBytes_181b
        rw [ix, zkk lt2 (by omega), zoC (by omega)]
        by_cases d : zgA w 161 e ((y0 + R) % 2048) = 0
        · rw [if_pos d]
        · have l1 : lk = 1 := hlk.resolve_left (fun y => ov.1 (c5.trans y))
          rw [if_neg d, if_neg (show ¬ zgI w 14 21 e = 0 from by rw [m21, l1]; decide), if_pos (show zgI w 14 16 e = zgI w 14 22 e from by rw [m16, ← c4, ov.2, c6 l1, m22 l1])]
    · by_cases d : zgA z 121 e ((st + R) % 2048) = 0
      · -- the next one hasn't come
        refine ⟨z, w, R, ?_, ?_, by omega, c3, c4, m16, hA, fun _ _ _ _ => rfl, fun _ _ _ _ => rfl, zEc1_rf e z, fun _ _ => rfl, fun _ _ _ _ => rfl, zEm1_rf e w⟩
        · have t43 : ∀ K, fX4_goOn_43 N K e (Int32.ofNat c) z = some (0, z) := fun K => by
            unfold fX4_goOn_43
            rw [ixc, zl_e, c3, if_neg r2, zkk lt1 (by omega), zoC (by omega), if_neg (show ¬ ¬ zgA z 121 e ((st + R) % 2048) = 0 from fun y => y d)]
          rw [cE]; unfold fX4_goOn_2b zOv
          rw [if_neg nc, t43]
          by_cases d1 : zgI z 4 5 e = 0
          · rw [if_pos d1, decide_eq_false (fun y => y d1)]; rfl
          · have d2 : ¬ zgI z 4 4 e = zgI z 4 6 e := fun y => ov ⟨d1, y⟩
            rw [if_neg d1, if_pos d2, decide_eq_true d1, decide_eq_false d2]; rfl
        · rw [mE]; unfold fX19_arriveBytes_181b
          rw [ix, zkk lt2 (by omega), zoC (by omega), if_pos (by rw [← b1]; exact d)]
      · -- one more
        obtain ⟨z2, hz2⟩ : ∃ u, u = zsI (zsI (zsA z 121 e ((st + R) % 2048) 0) 4 3 e (Int32.ofNat (R + 1))) 4 4 e (Y + Int32.ofNat (R + 1)) := ⟨_, rfl⟩
        obtain ⟨w2, hw2⟩ : ∃ u, u = zsI (zsA w 161 e ((y0 + R) % 2048) 0) 14 16 e (Y + Int32.ofNat (R + 1)) := ⟨_, rfl⟩
        have I2 : ∀ k j u, ¬ (k = 4 ∧ (j = 3 ∨ j = 4) ∧ u = e) → zgI z2 k j u = zgI z k j u := fun k j u q => by rw [hz2, zgI_sI, zgI_sI, if_neg (by omega), if_neg (by omega)]; rfl
        have J2 : ∀ j, ¬ j = 16 → zgI w2 14 j e = zgI w 14 j e := fun j q => by rw [hw2, zgI_sI, if_neg (by omega)]; rfl
        have A2 : ∀ k u i, ¬ (k = 121 ∧ u = e) → zgA z2 k u i = zgA z k u i := fun k u i q => by
          rw [hz2]
          show zgA (zsA z 121 e ((st + R) % 2048) 0) k u i = _
          rw [zgA_sA, if_neg (fun y => q ⟨y.1, y.2.1⟩)]
        have B2 : ∀ k u i, ¬ (k = 161 ∧ u = e) → zgA w2 k u i = zgA w k u i := fun k u i q => by
          rw [hw2]
          show zgA (zsA w 161 e ((y0 + R) % 2048) 0) k u i = _
          rw [zgA_sA, if_neg (fun y => q ⟨y.1, y.2.1⟩)]
        have i3 : zgI z2 4 3 e = Int32.ofNat (R + 1) := by rw [hz2, zgI_sI, zgI_sI, if_neg (by omega), if_pos ⟨rfl, rfl, rfl⟩]
        have i4 : zgI z2 4 4 e = Y + Int32.ofNat (R + 1) := by rw [hz2, zgI_sI, if_pos ⟨rfl, rfl, rfl⟩]
        have j16 : zgI w2 14 16 e = Y + Int32.ofNat (R + 1) := by rw [hw2, zgI_sI, if_pos ⟨rfl, rfl, rfl⟩]
        have hA2 : zIa z2 w2 e st y0 (R + 1) := by
          rw [hz2, hw2]
          exact zIa_go (by omega) d hA
        have ec2 : zEc1 e z z2 := by rw [hz2]; exact zEc1_tr (zEc1_A (by simp)) (zEc1_tr (zEc1_I (by simp)) (zEc1_I (by simp)))
        have em2 : zEm1 e w w2 := by rw [hw2]; exact zEm1_tr (zEm1_A (by simp)) zEm1_I
        obtain ⟨z1, w1, R1, g1, g2, g3, g4, g5, g6, g7, g8, g9, g10, g11, g12, g13⟩ := ih (R + 1) (c + 1) nn mm z2 w2 (by omega) (by omega) (by omega) (by omega) ((I2 4 2 e (by omega)).trans c2) i3 i4 ((I2 4 5 e (by omega)).trans c5) (fun y => (I2 4 6 e (by omega)).trans (c6 y)) j16 ((J2 17 (by omega)).trans m17) ((J2 18 (by omega)).trans m18) ((J2 21 (by omega)).trans m21) (fun y => (J2 22 (by omega)).trans (m22 y)) ((J2 23 (by omega)).trans m23) hA2
        refine ⟨z1, w1, R1, ?_, ?_, g3, g4, g5, g6, g7, fun k j u q => (g8 k j u q).trans (I2 k j u q), fun k u i q => (g9 k u i q).trans (A2 k u i q), zEc1_tr ec2 g10, fun j q => (g11 j q).trans (J2 j q), fun k u i q => (g12 k u i q).trans (B2 k u i q), zEm1_tr em2 g13⟩
        · have t43 : fX4_goOn_43 N (fX4_goOn_2 N nn) e (Int32.ofNat c) z = fX4_goOn_2 N nn e (Int32.ofNat (c + 1)) z2 := by
            unfold fX4_goOn_43
            have vb : vp_nar .boolean (0 : Int32) = 0 := by decide
            rw [ixc, zl_e, c3, if_neg r2, zkk lt1 (by omega), zoC (by omega), if_pos d, zkk lt1 (by omega), vb, zl_e]
            have k3 : zgI (zsA z 121 e ((st + R) % 2048) 0) 4 3 e = Int32.ofNat R := c3
            rw [k3, zo_i1, zl_e]
            have k4 : zgI (zsI (zsA z 121 e ((st + R) % 2048) 0) 4 3 e (Int32.ofNat (R + 1))) 4 4 e = Y + Int32.ofNat R := by rw [zgI_sI, if_neg (by omega)]; exact c4
            rw [k4, zi_add1, zl_e, zo_i1, ← hz2, zl_e]
          rw [cE]; unfold fX4_goOn_2b
          rw [if_neg nc, t43, g1]
          by_cases d1 : zgI z 4 5 e = 0
          · rw [if_pos d1]
          · rw [if_neg d1, if_pos (fun y => ov ⟨d1, y⟩)]
        · have t215 : fX19_arriveBytes_215 N (fX19_arriveBytes_181 N mm) 0 e (Int32.ofNat s) (Int32.ofNat m) w = fX19_arriveBytes_181 N mm 0 e (Int32.ofNat s) (Int32.ofNat m) w2 := by
            unfold fX19_arriveBytes_215
            have vb : vp_nar .boolean (0 : Int32) = 0 := by decide
            rw [zm_readR m17 m23 (by rw [m16, m18]), zc_e, if_neg r2, ix, zkk lt2 (by omega), zoC (by omega), vb, zl_e]
            have k4 : zgI (zsA w 161 e ((y0 + R) % 2048) 0) 14 16 e = Y + Int32.ofNat R := m16
            rw [k4, zi_add1, zl_e, ← hw2]
          rw [mE]; unfold fX19_arriveBytes_181b
          rw [t215, ix, zkk lt2 (by omega), zoC (by omega), if_neg (by rw [← b1]; exact d), g2]
          by_cases d1 : zgI w 14 21 e = 0
          · rw [if_pos d1]
          · have l1 : lk = 1 := hlk.resolve_left (fun y => d1 (m21.trans y))
            rw [if_neg d1, if_neg (fun y => ov ⟨by rw [c5, l1]; decide, by rw [c4, ← m16, y, m22 l1, c6 l1]⟩)]
