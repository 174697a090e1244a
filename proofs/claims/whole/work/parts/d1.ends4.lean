/-! ends, both sides: whether there is something new, the probe's alarm -/
theorem zo_dif {a b : Nat} (ha : a < 1073741824) (hb : b < 1073741824) : (Int32.ofNat a - Int32.ofNat b).toInt = (a : Int) - (b : Int) := by
  rw [Int32.toInt_sub, zoI (by omega), zoI (by omega), Int.bmod_def]
  split <;> omega
theorem zi_dif (F x y : Int32) : (F + x) - (F + y) = x - y := by
  rw [← Int32.toBitVec_inj]
  simp only [Int32.toBitVec_sub, Int32.toBitVec_add]
  rw [BitVec.sub_eq_iff_eq_add, BitVec.add_comm F.toBitVec y.toBitVec, ← BitVec.add_assoc, BitVec.sub_add_cancel, BitVec.add_comm]
theorem zib {F : Int32} {a b : Nat} (ha : a < 1073741824) (hb : b < 1073741824) : ((F + Int32.ofNat a) - (F + Int32.ofNat b) ≤ 0) ↔ a ≤ b := by
  rw [zi_dif, Int32.le_iff_toInt_le, zo_dif ha hb]
  show (a : Int) - (b : Int) ≤ 0 ↔ a ≤ b
  omega
/-- is one number before another one: both -/
theorem zm_bef {F : Int32} {a b N : Nat} (w : St) (ha : a < 1073741824) (hb : b < 1073741824) : fX19_isBefore N (F + Int32.ofNat a) (F + Int32.ofNat b) w = some (zbi (decide (a < b)), w) := by
  unfold fX19_isBefore
  by_cases c : a < b
  · rw [if_neg (fun y => by have := (zib hb ha).mp y; omega), decide_eq_true c]; rfl
  · rw [if_pos ((zib hb ha).mpr (by omega)), decide_eq_false c]; rfl
theorem zc_bef {F : Int32} {a b N : Nat} (w : St) (ha : a < 1073741824) (hb : b < 1073741824) : fX11_isBefore N (F + Int32.ofNat a) (F + Int32.ofNat b) w = some (zbi (decide (a < b)), w) := by
  unfold fX11_isBefore
  by_cases c : a < b
  · rw [if_neg (fun y => by have := (zib hb ha).mp y; omega), decide_eq_true c]; rfl
  · rw [if_pos ((zib hb ha).mpr (by omega)), decide_eq_false c]; rfl
/-- whether there is something new to send: both sides -/
theorem zp_hasNew {z w : St} {e N : Nat} (h : zRo z w e) (hb : ¬ zgI z 6 6 e = zgI z 6 4 e) : ∃ v : Bool, fX6_hasNew N e z = some (zbi v, z) ∧ fX14_lastSent N e w = some (zbi (decide (zgI z 6 9 e = 1)), w) ∧ (fX14_hasNew N e w = some (zbi (stN (zgI w 14 0 e) && v), w)) := by
  obtain ⟨⟨f4, f5, f6, f8, c01, -⟩, o, n, W, st, ⟨q1, q2, q3, q4, q5, q6, q7, q8, q9⟩, ⟨r1, r2, r3, r4, r5, r6, r7⟩, -⟩ := h
  have n1 : 1 ≤ n := by
    refine Nat.pos_of_ne_zero (fun y => hb ?_)
    rw [q2, y]
    show zgI z 6 4 e + 0 = zgI z 6 4 e
    rw [← Int32.toBitVec_inj]; simp
  have B1 : max 1 (min o W) ≤ min n W := by
    have : min o W ≤ min n W := by omega
    omega
  have m6 : zgI w 14 7 e = zgI z 6 4 e + Int32.ofNat n := f6.symm.trans q2
  have lS : fX14_lastSent N e w = some (zbi (decide (zgI z 6 9 e = 1)), w) := by
    unfold fX14_lastSent
    rw [← f8, m6, q3, r6]
    rcases c01 with c | c
    · rw [if_pos c]
      have : ¬ n = W + 1 := fun y => by rw [q8 y] at c; cases c
      rw [decide_eq_false this]; rfl
    · rw [if_neg (by rw [c]; decide), zm_bef w (by omega) (by omega), zc_e]
      by_cases k : n = W + 1
      · rw [decide_eq_true (show W < n by omega), if_neg (by decide), decide_eq_true k]; rfl
      · rw [decide_eq_false (show ¬ W < n by omega), if_pos (by rfl), decide_eq_false k]; rfl
  have cl9 : zgI z 6 9 e = 0 ∨ zgI z 6 9 e = 1 := by rw [r6]; cases decide (n = W + 1) <;> simp [zbi]
  refine ⟨decide (n < W) || (decide (zgI z 6 8 e = 1) && ! decide (zgI z 6 9 e = 1)), ?_, lS, ?_⟩
  · unfold fX6_hasNew fX6_hasNew_25
    rw [r3, r4]
    by_cases k : n < W
    · rw [if_pos (by rw [zo_lt (by omega) (by omega)]; omega), decide_eq_true k]; rfl
    · rw [if_neg (by rw [zo_lt (by omega) (by omega)]; omega), decide_eq_false k, Bool.false_or]
      rcases c01 with c | c
      · rw [if_pos c, c]; rfl
      · rw [if_neg (by rw [c]; decide), c]
        rcases cl9 with d | d
        · rw [d, if_neg (fun y => y rfl)]; rfl
        · rw [d, if_pos (by decide)]; rfl
  · unfold fX14_hasNew fX14_hasNew_35
    rw [zm_sendsNew, zc_e]
    cases stN (zgI w 14 0 e) with
    | false => rw [if_pos (by rfl), Bool.false_and]; rfl
    | true =>
      rw [if_neg (by decide), Bool.true_and, m6, q3, zm_bef w (by omega) (by omega), zc_e]
      by_cases k : n < W
      · rw [decide_eq_true k, if_pos (by decide)]; rfl
      · rw [decide_eq_false k, if_neg (by decide), Bool.false_or, ← f8]
        rcases c01 with c | c
        · rw [if_pos c, c]; rfl
        · rw [if_neg (by rw [c]; decide), lS, zc_e, c]
          rcases cl9 with d | d
          · rw [d, if_neg (by decide)]; rfl
          · rw [d, if_pos (by decide)]; rfl
theorem zc_unthanked (z : St) (e N : Nat) : fX6_hasUnthanked N e z = some (zbi (decide (¬ zgI z 6 5 e = zgI z 6 6 e)), z) := by
  unfold fX6_hasUnthanked
  by_cases c : zgI z 6 5 e = zgI z 6 6 e
  · rw [if_pos c, decide_eq_false (fun y => y c)]; rfl
  · rw [if_neg c, decide_eq_true c]; rfl
theorem stN_b {z w : St} {e : Nat} (h : zRn z w e) (hs : stN (zgI z 3 0 e) = true) : ¬ zgI z 6 6 e = zgI z 6 4 e := by
  unfold stN at hs
  have hs := of_decide_eq_true hs
  rcases h.1 with c | c | c | c
  · rw [c] at hs; exact absurd hs (by decide)
  · rw [c] at hs; exact absurd hs (by decide)
  · rw [c] at hs; exact absurd hs (by decide)
  · exact c
/-- the probe's alarm, at the end of a turn -/
theorem zp_persist {z w : St} {e n N : Nat} (hn : n ≤ 400000) (h16 : zgR z 3 16 e = some e) (h18 : zgR z 3 18 e = some e) (h : zEe z w e) : ∃ z' w', fX3_armProbe N e (Int32.ofNat n) z = some (0, z') ∧ fX14_persist N e (Int32.ofNat n) w = some (0, w') ∧ zEe z' w' e ∧ zEc1 e z z' ∧ zEm1 e w w' ∧ (∀ j, zgI z' 3 j e = zgI z 3 j e) := by
  obtain ⟨hs, ho, hi, ht, hnn⟩ := id h
  have same : ∃ z' w', some ((0 : Int32), z) = some (0, z') ∧ some ((0 : Int32), w) = some (0, w') ∧ zEe z' w' e ∧ zEc1 e z z' ∧ zEm1 e w w' ∧ (∀ j, zgI z' 3 j e = zgI z 3 j e) := ⟨z, w, rfl, rfl, h, zEc1_rf e z, zEm1_rf e w, fun _ => rfl⟩
  have st0 : zgI w 14 0 e = zgI z 3 0 e := hs.1.1.symm
  have e56 : (zgI w 14 6 e = zgI w 14 7 e) ↔ (zgI z 6 5 e = zgI z 6 6 e) := by rw [ho.1.2.1, ho.1.2.2.1]
  have e11 : zgI w 14 11 e = zgI z 6 11 e := ho.1.2.2.2.2.2.1.symm
  unfold fX3_armProbe fX14_persist
  rw [h18, zl_e, zd_e]
  rcases ht.1 with ⟨a, b⟩ | ⟨a, b, -⟩
  · rw [if_neg (fun y => y a), if_neg (fun y => y b), zc_sendsNew, zc_e]
    by_cases k1 : stN (zgI z 3 0 e) = true
    · have hb := stN_b hnn k1
      obtain ⟨v, v1, -, v3⟩ := zp_hasNew (N := N) ho hb
      rw [st0, k1, Bool.true_and] at v3
      rw [k1, if_neg (by decide), h16, zl_e, zd_e, zc_unthanked, zc_e]
      by_cases k2 : zgI z 6 5 e = zgI z 6 6 e
      · rw [decide_eq_false (fun y => y k2), if_pos (by rfl), h16, zl_e, zd_e, if_neg (show ¬ ¬ zgI w 14 6 e = zgI w 14 7 e from fun y => y (e56.mpr k2)), e11]
        by_cases k3 : zgI z 6 11 e = 0
        · rw [if_neg (show ¬ ¬ zgI z 6 11 e = 0 from fun y => y k3), if_neg (show ¬ ¬ zgI z 6 11 e = 0 from fun y => y k3), zl_e, zd_e, v1, zc_e, v3, zc_e]
          cases v with
          | false => exact same
          | true =>
            rw [if_neg (by decide), if_neg (by decide), h18, zl_e, zl_e, zd_e, zd_e, zl_e]
            unfold fX14_setAlarm
            have e35 : zgI (zsI w 14 33 e 1) 14 35 e = zgI w 14 35 e := by simp [zgI_sI]
            rw [zl_e, e35, zl_e, zc_e]
            refine ⟨_, _, rfl, rfl, ⟨?_, ?_, ?_, ?_, ?_⟩, zEc1_I (by simp), zEm1_tr zEm1_I zEm1_I, fun j => by rw [zgI_sI, if_neg (by omega)]⟩
            · exact zRs_cg (fun j _ => by rw [zgI_sI, if_neg (by omega)]) (fun j hj => by rw [zgI_sI, zgI_sI, if_neg (by omega), if_neg (by omega)]) hs
            · exact zRo_cg (fun j _ => by rw [zgI_sI, if_neg (by omega)]) (fun _ => rfl) (fun j hj => by rw [zgI_sI, zgI_sI, if_neg (by omega), if_neg (by omega)]) (fun _ => rfl) ho
            · exact zRi_cg (fun j _ => by rw [zgI_sI, if_neg (by omega)]) (fun _ _ _ => rfl) (fun j hj => by rw [zgI_sI, zgI_sI, if_neg (by omega), if_neg (by omega)]) (fun _ _ _ => rfl) hi
            · exact zRt_al hn (by rw [zgI_sI, if_pos ⟨rfl, rfl, rfl⟩]) (fun j hj => by rw [zgI_sI, if_neg (by omega)]) (by simp [zgI_sI]) (by simp [zgI_sI]) (fun j hj => by rw [zgI_sI, zgI_sI, if_neg (by omega), if_neg (by omega)]) ht
            · exact zRn_cg (fun j _ => by rw [zgI_sI, if_neg (by omega)]) (by rw [zgI_sI, if_neg (by omega)]) (by simpa [zgI_sI] using hnn.1) (by
              unfold zRq; simp only [zgI_sI, Nat.reduceEqDiff, false_and, and_false, true_and, and_true, if_true, if_false, and_self]
              exact zRqv_al _ (by intro y; rcases y with y | y | y | y <;> (rw [y] at k1; exact absurd k1 (by decide))) hnn.2.2.2.2) hnn
        · rw [if_pos (show ¬ zgI z 6 11 e = 0 from k3), if_pos (show ¬ zgI z 6 11 e = 0 from k3)]; exact same
      · rw [decide_eq_true k2, if_neg (by decide), if_pos (fun y => k2 (e56.mp y))]; exact same
    · have k1' : stN (zgI z 3 0 e) = false := by simpa using k1
      rw [k1', if_pos (by rfl)]
      by_cases k2 : zgI w 14 6 e = zgI w 14 7 e
      · rw [if_neg (fun y => y k2)]
        by_cases k3 : zgI w 14 11 e = 0
        · have hN0 : fX14_hasNew N e w = some (0, w) := by
            unfold fX14_hasNew
            rw [zm_sendsNew, st0, k1', zc_e, if_pos (by rfl)]
          rw [if_neg (fun y => y k3), hN0, zc_e, if_pos rfl]; exact same
        · rw [if_pos k3]; exact same
      · rw [if_pos k2]; exact same
  · rw [if_pos a, if_pos (by rw [b]; decide)]; exact same
