/-! ends, both sides: a segment arrives in the states from ANSWERING on -/
/-- the class's: goesOn, then takeRest -/
def zgo (N e x : Nat) (now : Int32) (z : St) : Option (Int32 × St) := zc (fX3_goesOn N e x now z) fun r z1 => if r = 0 then some ((0 : Int32), z1) else (zc (fX3_takeRest N e x now z1) fun _ z2 => some ((0 : Int32), z2))
theorem zgo_0 {N e x : Nat} {now : Int32} {z z1 : St} (h : fX3_goesOn N e x now z = some (0, z1)) : zgo N e x now z = some (0, z1) := by unfold zgo; rw [h, zc_e, if_pos rfl]
theorem zgo_1 {N e x : Nat} {now : Int32} {z z1 z2 : St} (h : fX3_goesOn N e x now z = some (1, z1)) (h2 : fX3_takeRest N e x now z1 = some (0, z2)) : zgo N e x now z = some (0, z2) := by unfold zgo; rw [h, zc_e, if_neg (by decide), h2, zc_e]
theorem zp_arrives {z w : St} {e x s n N : Nat} {V : Sv} (hn : n ≤ 400000) (hT : zgI w 19 24 0 = Int32.ofNat n) (h16 : zgR z 3 16 e = some e) (h17r : zgR z 3 17 e = some e) (h18 : zgR z 3 18 e = some e) (hV : zSgC z x V) (hVm : zSgM w s V) (hW : ∃ v : Nat, v ≤ 65535 ∧ vgW V = Int32.ofNat v) (hst : ¬ (zgI z 3 0 e = 0 ∨ zgI z 3 0 e = 1 ∨ zgI z 3 0 e = 2 ∨ zgI z 3 0 e = 11)) (hN : 4096 < N) (h : zEe z w e) :
    (∃ z' w', zgo N e x (Int32.ofNat n) z = some (0, z') ∧ fX19_arrives N 0 e (Int32.ofNat s) w = some (0, w') ∧ zEe z' w' e ∧ zEc1 e z z' ∧ zEm1 e w w') ∨
    (zgI z 3 0 e = 3 ∧ ¬ zgI z 3 3 e = 0 ∧ (∀ z', fX3_beginAgain N e (zgI z 6 4 e) z = some (0, z') → zgo N e x (Int32.ofNat n) z = some (0, z')) ∧ fX19_arrives N 0 e (Int32.ofNat s) w = some (1, w)) := by
  obtain ⟨hs, ho, hi, ht, hnn⟩ := id h
  have hM := hV.2.1
  have hq : zRqv (zgI z 3 0 e) (zgI w 14 17 e) (zgI z 3 9 e) (zgI z 3 11 e) (zgI z 3 13 e) (zgI z 6 4 e) (zgI z 6 5 e) (zgI z 6 6 e) (zgI z 6 7 e) (zgI z 10 0 e) (zgI z 4 7 e) := hnn.2.2.2.2
  have h17 : zgI w 14 17 e = 1 := hq.1 hst
  have s0 : zgI w 14 0 e = zgI z 3 0 e := hs.1.1.symm
  have n1 : ¬ zgI w 14 0 e = 1 := by rw [s0]; exact fun y => hst (Or.inr (Or.inl y))
  have n2 : ¬ zgI w 14 0 e = 2 := by rw [s0]; exact fun y => hst (Or.inr (Or.inr (Or.inl y)))
  have hb : ¬ zgI z 6 6 e = zgI z 6 4 e := by
    rcases hnn.1 with y | y | y | y
    · exact absurd (Or.inr (Or.inr (Or.inr y))) hst
    · exact absurd (Or.inl y) hst
    · exact absurd (Or.inr (Or.inl y)) hst
    · exact y
  have e13 : zgI z 3 13 e = zgI w 14 32 e := hs.2.2.2.2.2.2.1
  have e131 : zgI z 3 13 e = 0 ∨ zgI z 3 13 e = 1 := hs.2.2.2.2.2.2.2
  have thx := zEe_thx h17 h
  have tc : zEc1 e z (zsI z 3 13 e 1) := zEc1_I (by simp)
  have tm : zEm1 e w (zsI w 14 32 e 1) := zEm1_I
  obtain ⟨v, f1, f2⟩ := zp_fits (N := N) (s := vSz V) (vgN V) (by have := vSz_le hM; omega) hi
  have gs : ∀ {P : Prop}, P → P ∨ (zgI z 3 0 e = 3 ∧ ¬ zgI z 3 3 e = 0 ∧ (∀ z', fX3_beginAgain N e (zgI z 6 4 e) z = some (0, z') → zgo N e x (Int32.ofNat n) z = some (0, z')) ∧ fX19_arrives N 0 e (Int32.ofNat s) w = some (1, w)) := fun p => Or.inl p
  have mhead : fX19_arrives N 0 e (Int32.ofNat s) w = (if ¬ v = 0 then (zc (fX19_has N 0 (Int32.ofNat s) (4 : Int32) w) fun r16 z17 => if r16 = 0 then (zc (fX19_has N 0 (Int32.ofNat s) (1 : Int32) z17) fun r21 z22 => if r21 = 0 then (zc (fX19_has N 0 (Int32.ofNat s) (8 : Int32) z22) fun r26 z27 => if ¬ r26 = 0 then (if ¬ (zgI z27 14 0 e) = (3 : Int32) then (zc (fX19_seg N 0 (Int32.ofNat s) (4 : Int32) z27) fun r32 z33 => zc (fX19_isBefore N (zgI z27 14 7 e) r32 z33) fun r36 z37 => if r36 = 0 then (fX19_arrives_300 N 0 e (Int32.ofNat s) z37) else (zl (zsI z37 14 32 e (1 : Int32)) fun z41 => some ((0 : Int32), z41))) else (zc (fX19_seg N 0 (Int32.ofNat s) (4 : Int32) z27) fun r42 z43 => if r42 = (zgI z43 14 7 e) then (if (zgI z43 14 9 e) = 0 then (fX19_arrives_266 N 0 e (Int32.ofNat s) e (4 : Int32) z43) else (fX19_arrives_266 N 0 e (Int32.ofNat s) e (5 : Int32) z43)) else (zc (fX19_answer N 0 e (Int32.ofNat s) z43) fun _ z49 => some ((0 : Int32), z49)))) else (some ((0 : Int32), z27))) else (zl (zsI z22 14 32 e (1 : Int32)) fun z52 => some ((0 : Int32), z52))) else (zc (fX19_seg N 0 (Int32.ofNat s) (3 : Int32) z17) fun r53 z54 => if r53 = (zgI z54 14 16 e) then (if ¬ (zgI z54 14 0 e) = (3 : Int32) then (fX19_arrives_153 N 0 e z54) else (if (zgI z54 14 1 e) = 0 then (fX19_arrives_153 N 0 e z54) else (some ((1 : Int32), z54)))) else (zl (zsI z54 14 32 e (1 : Int32)) fun z60 => some ((0 : Int32), z60)))) else (if ¬ (zgI w 14 32 e) = 0 then (fX19_arrives_67 N 0 e (Int32.ofNat s) e w) else (zc (fX19_has N 0 (Int32.ofNat s) (4 : Int32) w) fun r62 z63 => if ¬ r62 = 0 then (fX19_arrives_72 N 0 e (Int32.ofNat s) e (0 : Int32) z63) else (fX19_arrives_67 N 0 e (Int32.ofNat s) e z63)))) := by
    unfold fX19_arrives
    rw [if_pos n1, if_pos n2, zm_sgN hVm, zc_e, zm_size hVm, zc_e, f2, zc_e]
  have chead : fX3_goesOn N e x (Int32.ofNat n) z = (if ¬ v = 0 then (if zbi (vgK V 4) = 0 then (if zbi (vgK V 1) = 0 then (if ¬ zbi (vgK V 8) = 0 then (if ¬ (zgI z 3 0 e) = (3 : Int32) then (if zbf (zgI z 6 6 e) (vgT V) = true then some ((0 : Int32), zsI z 3 13 e 1) else some ((1 : Int32), z)) else (if vgT V = zgI z 6 6 e then (if zgI z 6 8 e = 0 then fX3_goesOn_166 N e e 4 z else fX3_goesOn_166 N e e 5 z) else (zc (fX3_resets N e x z) fun _ z43 => some ((0 : Int32), z43)))) else some ((0 : Int32), z)) else some ((0 : Int32), zsI z 3 13 e 1)) else (if ¬ vgN V = zgI z 4 4 e then some ((0 : Int32), zsI z 3 13 e 1) else (zc (fX3_takeReset N e z) fun _ z52 => some ((0 : Int32), z52)))) else (if ¬ zbi (vgK V 4) = 0 then fX3_goesOn_31 N e x (Int32.ofNat n) z else fX3_goesOn_31 N e x (Int32.ofNat n) (zsI z 3 13 e 1))) := by
    unfold fX3_goesOn
    rw [h17r, zl_e, zc_size hV, zc_e, zd_e, hV.1.2.1, f1, zc_e]
    by_cases c0 : v = 0
    · rw [if_neg (fun y => y c0), if_neg (fun y => y c0), zc_hasf 4 hV, zc_e, zl_e]
    · rw [if_pos c0, if_pos c0, zc_hasf 4 hV, zc_e]
      cases vgK V 4
      · rw [if_pos (show zbi false = 0 by decide), if_pos (show zbi false = 0 by decide), zc_hasf 1 hV, zc_e]
        cases vgK V 1
        · rw [if_pos (show zbi false = 0 by decide), if_pos (show zbi false = 0 by decide), zc_hasf 8 hV, zc_e]
          cases vgK V 8
          · rw [if_neg (show ¬ ¬ zbi false = 0 by decide), if_neg (show ¬ ¬ zbi false = 0 by decide)]
          · rw [if_pos (show ¬ zbi true = 0 by decide), if_pos (show ¬ zbi true = 0 by decide)]
            by_cases c3 : zgI z 3 0 e = 3
            · rw [if_neg (fun y => y c3), if_neg (fun y => y c3), h16, zl_e, zd_e, hV.1.2.2.1, zl_e, zd_e]
            · rw [if_pos c3, if_pos c3, h16, zl_e, zd_e, hV.1.2.2.1, zc_bf, zc_e]
              cases zbf (zgI z 6 6 e) (vgT V)
              · rw [if_pos (by decide), if_neg (by decide)]
              · rw [if_neg (show ¬ zbi true = 0 by decide), if_pos rfl, zl_e]
        · rw [if_neg (show ¬ zbi true = 0 by decide), if_neg (show ¬ zbi true = 0 by decide), zl_e]
      · rw [if_neg (show ¬ zbi true = 0 by decide), if_neg (show ¬ zbi true = 0 by decide), h17r, zl_e, zd_e, zl_e, hV.1.2.1]
  by_cases c0 : v = 0
  · -- it doesn't fit
    left
    rw [if_neg (fun y => y c0)] at mhead chead
    -- what is done in QUIET
    have tail : ∀ z1 w1 : St, zEe z1 w1 e → zEc1 e z z1 → zEm1 e w w1 → ∃ z' w', fX3_goesOn_31 N e x (Int32.ofNat n) z1 = some (0, z') ∧ (if ¬ (zgI w1 14 0 e) = (10 : Int32) then (some ((0 : Int32), w1)) else (zc (fX19_has N 0 (Int32.ofNat s) (2 : Int32) w1) fun r4 z5 => if r4 = 0 then (some ((0 : Int32), z5)) else (zl (zsI z5 14 43 e ((zgI z5 19 24 0) + (2000 : Int32))) fun z9 => some ((0 : Int32), z9)))) = some (0, w') ∧ zEe z' w' e ∧ zEc1 e z z' ∧ zEm1 e w w' := by
      intro z1 w1 h1 e1 m1
      have q1 : zgI w1 14 0 e = zgI z1 3 0 e := h1.1.1.1.symm
      unfold fX3_goesOn_31
      rw [q1]
      by_cases c10 : zgI z1 3 0 e = 10
      · rw [if_neg (show ¬ ¬ zgI z1 3 0 e = 10 from fun y => y c10), if_neg (show ¬ ¬ zgI z1 3 0 e = 10 from fun y => y c10), zc_hasf 2 (zSgC_ec e1 hV), zc_e, zm_hasf 2 (zSgM_em m1 hVm), zc_e]
        cases vgK V 2
        · rw [if_pos (show zbi false = 0 by decide), if_pos (show zbi false = 0 by decide)]; exact ⟨z1, w1, rfl, rfl, h1, e1, m1⟩
        · rw [if_neg (show ¬ zbi true = 0 by decide), if_neg (show ¬ zbi true = 0 by decide), zl_e, zl_e, m1.1 19 24 0 (by omega), hT]
          exact ⟨_, _, rfl, rfl, zEe_qt _ h1, zEc1_tr e1 (zEc1_I (by simp)), zEm1_tr m1 zEm1_I⟩
      · rw [if_pos (show ¬ zgI z1 3 0 e = 10 from c10), if_pos (show ¬ zgI z1 3 0 e = 10 from c10)]; exact ⟨z1, w1, rfl, rfl, h1, e1, m1⟩
    have m72 : ∀ u : Int32, u = 0 ∨ u = 1 → fX19_arrives_72 N 0 e (Int32.ofNat s) e u w = (if ¬ (zgI (zsI w 14 32 e u) 14 0 e) = (10 : Int32) then (some ((0 : Int32), zsI w 14 32 e u)) else (zc (fX19_has N 0 (Int32.ofNat s) (2 : Int32) (zsI w 14 32 e u)) fun r4 z5 => if r4 = 0 then (some ((0 : Int32), z5)) else (zl (zsI z5 14 43 e ((zgI z5 19 24 0) + (2000 : Int32))) fun z9 => some ((0 : Int32), z9)))) := fun u hu => by
      unfold fX19_arrives_72
      rw [zq01 hu, zl_e]
    have wid : ∀ u : Int32, zgI w 14 32 e = u → zsI w 14 32 e u = w := fun u hu => by rw [← hu]; exact zsI_id w 14 32 e
    cases cr : vgK V 4
    · -- no reset: thanks are due
      obtain ⟨z', w', p1, p2, p3, p4, p5⟩ := tail _ _ thx tc tm
      rw [cr, if_neg (show ¬ ¬ zbi false = 0 by decide), p1] at chead
      refine ⟨z', w', zgo_0 chead, ?_, p3, p4, p5⟩
      rw [mhead]
      unfold fX19_arrives_67
      rw [m72 1 (Or.inr rfl), zm_hasf 4 hVm, zc_e, cr]
      by_cases c32 : zgI w 14 32 e = 0
      · rw [if_neg (show ¬ ¬ zgI w 14 32 e = 0 from fun y => y c32), if_neg (show ¬ ¬ zbi false = 0 by decide), m72 1 (Or.inr rfl)]; exact p2
      · rw [if_pos (show ¬ zgI w 14 32 e = 0 from c32)]; exact p2
    · obtain ⟨z', w', p1, p2, p3, p4, p5⟩ := tail z w h (zEc1_rf e z) (zEm1_rf e w)
      rw [cr, if_pos (show ¬ zbi true = 0 by decide), p1] at chead
      refine ⟨z', w', zgo_0 chead, ?_, p3, p4, p5⟩
      rw [mhead]
      unfold fX19_arrives_67
      rw [m72 1 (Or.inr rfl), zm_hasf 4 hVm, zc_e, cr]
      by_cases c32 : zgI w 14 32 e = 0
      · rw [if_neg (show ¬ ¬ zgI w 14 32 e = 0 from fun y => y c32), if_pos (show ¬ zbi true = 0 by decide), m72 0 (Or.inl rfl), wid 0 c32]; exact p2
      · have c1 : zgI w 14 32 e = 1 := by
          rw [← e13] at c32 ⊢
          exact e131.resolve_left c32
        rw [if_pos (show ¬ zgI w 14 32 e = 0 from c32), wid 1 c1]; exact p2
  · rw [if_pos c0] at mhead chead
    rw [zm_hasf 4 hVm, zc_e] at mhead
    cases cr : vgK V 4
    · rw [cr, if_pos (show zbi false = 0 by decide)] at chead mhead
      left
      rw [zm_hasf 1 hVm, zc_e] at mhead
      cases co : vgK V 1
      · rw [co, if_pos (show zbi false = 0 by decide)] at chead mhead
        rw [zm_hasf 8 hVm, zc_e] at mhead
        cases ct : vgK V 8
        · rw [ct, if_neg (show ¬ ¬ zbi false = 0 by decide)] at chead mhead
          exact ⟨z, w, zgo_0 chead, mhead, h, zEc1_rf e z, zEm1_rf e w⟩
        · rw [ct, if_pos (show ¬ zbi true = 0 by decide)] at chead mhead
          rw [s0, zm_sgT hVm, zc_e, zc_e, ← ho.1.2.2.1] at mhead
          by_cases c3 : zgI z 3 0 e = 3
          · rw [if_neg (fun y => y c3)] at chead mhead
            by_cases cx : vgT V = zgI z 6 6 e
            · -- the open is thanked for
              rw [if_pos cx] at chead mhead
              rw [← ho.1.2.2.2.1] at mhead
              have q3 := hq
              rw [c3] at q3
              have both : ∀ u : Int32, u = 4 ∨ u = 5 → fX3_goesOn N e x (Int32.ofNat n) z = fX3_goesOn_166 N e e u z → fX19_arrives N 0 e (Int32.ofNat s) w = fX19_arrives_266 N 0 e (Int32.ofNat s) e u w → ∃ z' w', zgo N e x (Int32.ofNat n) z = some (0, z') ∧ fX19_arrives N 0 e (Int32.ofNat s) w = some (0, w') ∧ zEe z' w' e ∧ zEc1 e z z' ∧ zEm1 e w w' := by
                intro u hu hC hM'
                obtain ⟨z1, hz1⟩ : ∃ y, y = zsI (zsI z 3 0 e u) 3 9 e 0 := ⟨_, rfl⟩
                obtain ⟨w1, hw1⟩ : ∃ y, y = zsI (zsI w 14 0 e u) 14 28 e 0 := ⟨_, rfl⟩
                have I : ∀ k j, ¬ (k = 3 ∧ (j = 0 ∨ j = 9)) → zgI z1 k j e = zgI z k j e := fun k j q => by rw [hz1, zgI_sI, zgI_sI, if_neg (by omega), if_neg (by omega)]
                have J : ∀ j, ¬ (j = 0 ∨ j = 28) → zgI w1 14 j e = zgI w 14 j e := fun j q => by rw [hw1, zgI_sI, zgI_sI, if_neg (by omega), if_neg (by omega)]
                have i0 : zgI z1 3 0 e = u := by rw [hz1, zgI_sI, zgI_sI, if_neg (by omega), if_pos ⟨rfl, rfl, rfl⟩]
                have i9 : zgI z1 3 9 e = 0 := by rw [hz1, zgI_sI, if_pos ⟨rfl, rfl, rfl⟩]
                have j0 : zgI w1 14 0 e = u := by rw [hw1, zgI_sI, zgI_sI, if_neg (by omega), if_pos ⟨rfl, rfl, rfl⟩]
                have j28 : zgI w1 14 28 e = 0 := by rw [hw1, zgI_sI, if_pos ⟨rfl, rfl, rfl⟩]
                have e1 : zEc1 e z z1 := by rw [hz1]; exact zEc1_tr (zEc1_I (by simp)) (zEc1_I (by simp))
                have m1 : zEm1 e w w1 := by rw [hw1]; exact zEm1_tr zEm1_I zEm1_I
                have A1 : ∀ k i, zgA z1 k e i = zgA z k e i := fun k i => by rw [hz1]; rfl
                have B1 : ∀ k i, zgA w1 k e i = zgA w k e i := fun k i => by rw [hw1]; rfl
                have hs1 : zRs z1 w1 e := by
                  refine zRs_ch (fun j _ q => I 3 j (by omega)) (fun j hj => J j (by omega)) (by rw [i0, j0]) ?_ (by rw [i9, j28]) ?_ ?_ ?_ ?_ hs
                  · rw [i0]; intro y; rw [y] at hu; exact absurd hu (by decide)
                  · rw [I 3 11 (by omega), J 30 (by omega)]; exact hs.2.2.2.2.1
                  · rw [I 3 12 (by omega), J 31 (by omega)]; exact hs.2.2.2.2.2.1
                  · rw [I 3 13 (by omega), J 32 (by omega)]; exact e13
                  · rw [I 3 13 (by omega)]; exact e131
                have ho1 : zRo z1 w1 e := zRo_cg (fun j _ => I 6 j (by omega)) (fun i => A1 124 i) (fun j hj => J j (by omega)) (fun i => B1 159 i) ho
                have hi1 : zRi z1 w1 e := zRi_cg (fun j _ => I 4 j (by omega)) (fun k i _ => A1 k i) (fun j hj => J j (by omega)) (fun k i _ => B1 k i) hi
                have ht1 : zRt z1 w1 e := zRt_cg (fun j _ => I 10 j (by omega)) (fun j hj => J j (by omega)) ht
                have t5 : zgI z 6 5 e = zgI z 6 4 e := q3.2.2.2.2.2.2.1 (by decide)
                have t6 : zgI z 6 6 e = zgI z 6 4 e + 1 := q3.2.2.2.2.2.2.2.2.1 (by decide)
                obtain ⟨z', w', p1, p2, p3, p4, p5⟩ := zp_rest (N := N) hn ((m1.1 19 24 0 (by omega)).trans hT) ((e1.2.2.2.2 3 16 e).trans h16) ((e1.2.2.2.2 3 17 e).trans h17r) ((e1.2.2.2.2 3 18 e).trans h18) (zSgC_ec e1 hV) (zSgM_em m1 hVm) hW (by rw [i0]; rcases hu with rfl | rfl <;> decide) hN hs1 ho1 hi1 ht1 (zRz_cg (fun j hj => I 3 j (by omega)) (I 6 11 (by omega)) (zRz_n hnn)) (by rw [I 6 6 (by omega), I 6 4 (by omega)]; exact hb) (by
                    rw [i0, J 17 (by omega), i9, I 3 11 (by omega), I 3 13 (by omega), I 6 4 (by omega), I 6 5 (by omega), I 6 6 (by omega), I 10 0 (by omega), I 4 7 (by omega)]
                    exact zRqv_34 hu q3) (Or.inr (by rw [I 6 5 (by omega), t5, cx, t6]; exact zbf_1 _)) (by rw [I 6 6 (by omega), cx]; exact zbf_0 _)
                refine ⟨z', w', zgo_1 (z1 := z1) ?_ p1, ?_, p3, zEc1_tr e1 p4, zEm1_tr m1 p5⟩
                · rw [hC]; unfold fX3_goesOn_166; rw [zl_e, zl_e, ← hz1]
                · rw [hM']; unfold fX19_arrives_266; rw [zl_e, zl_e, ← hw1]; exact p2
              by_cases c8 : zgI z 6 8 e = 0
              · rw [if_pos c8] at chead mhead
                exact both 4 (Or.inl rfl) chead mhead
              · rw [if_neg c8] at chead mhead
                exact both 5 (Or.inr rfl) chead mhead
            · rw [if_neg cx] at chead mhead
              obtain ⟨z', w', p1, p2, p3, p4, p5⟩ := zp_resets (N := N) hV hVm h
              rw [p1, zc_e] at chead
              rw [p2, zc_e] at mhead
              exact ⟨z', w', zgo_0 chead, mhead, p3, p4, p5⟩
          · rw [if_pos c3] at chead mhead
            rw [zm_bf, zc_e] at mhead
            cases cz : zbf (zgI z 6 6 e) (vgT V)
            · rw [cz] at chead mhead
              rw [if_neg (by decide)] at chead
              rw [if_pos (by decide)] at mhead
              have f7 : ¬ zgI z 6 7 e = 0 := by
                by_cases c10 : zgI z 3 0 e = 10
                · exact zo_f7 ho (by rw [hq.2.2.2.2.2.2.2.2.2.1 (Or.inr c10)]; exact hb)
                · refine hq.2.2.2.2.2.1 ?_
                  rintro (y | y | y | y | y | y)
                  · exact hst (Or.inl y)
                  · exact hst (Or.inr (Or.inl y))
                  · exact hst (Or.inr (Or.inr (Or.inl y)))
                  · exact c3 y
                  · exact c10 y
                  · exact hst (Or.inr (Or.inr (Or.inr y)))
              obtain ⟨z', w', p1, p2, p3, p4, p5⟩ := zp_rest (N := N) hn hT h16 h17r h18 hV hVm hW (by
                rintro (y | y | y | y | y)
                · exact hst (Or.inl y)
                · exact hst (Or.inr (Or.inl y))
                · exact hst (Or.inr (Or.inr (Or.inl y)))
                · exact c3 y
                · exact hst (Or.inr (Or.inr (Or.inr y)))) hN hs ho hi ht (zRz_n hnn) hb (zRqv_f1 hq) (Or.inl f7) cz
              exact ⟨z', w', zgo_1 chead p1, mhead.trans p2, p3, p4, p5⟩
            · rw [cz] at chead mhead
              rw [if_pos rfl] at chead
              rw [if_neg (show ¬ zbi true = 0 by decide), zl_e] at mhead
              exact ⟨_, _, zgo_0 chead, mhead, thx, tc, tm⟩
      · rw [co, if_neg (show ¬ zbi true = 0 by decide)] at chead mhead
        rw [zl_e] at mhead
        exact ⟨_, _, zgo_0 chead, mhead, thx, tc, tm⟩
    · -- a reset
      rw [cr, if_neg (show ¬ zbi true = 0 by decide)] at chead mhead
      rw [zm_sgN hVm, zc_e, ← hi.1.1] at mhead
      by_cases cx : vgN V = zgI z 4 4 e
      · rw [if_neg (fun y => y cx)] at chead
        rw [if_pos cx, s0] at mhead
        -- the end is left
        have fin : ∀ (u : Int32), u = 0 ∨ u = 11 → fX3_takeReset N e z = fX3_takeReset_54 N e u z → fX19_arrives N 0 e (Int32.ofNat s) w = fX19_arrives_187 N 0 e u w → ∃ z' w', zgo N e x (Int32.ofNat n) z = some (0, z') ∧ fX19_arrives N 0 e (Int32.ofNat s) w = some (0, w') ∧ zEe z' w' e ∧ zEc1 e z z' ∧ zEm1 e w w' := by
          intro u hu hC hM'
          obtain ⟨z', w', p1, p2, p3, p4, p5, -⟩ := zp_fin (N := N) (Int32.ofNat n) h18 hu h
          rw [hC] at chead
          unfold fX3_takeReset_54 at chead
          rw [p1, zc_e, zc_e] at chead
          refine ⟨z', w', zgo_0 chead, ?_, p3, p4, p5⟩
          rw [hM']; unfold fX19_arrives_187; rw [hT, p2, zc_e]
        have fin29 : (fX3_takeReset N e z = fX3_takeReset_29 N e z) → fX19_arrives N 0 e (Int32.ofNat s) w = fX19_arrives_153 N 0 e w → ∃ z' w', zgo N e x (Int32.ofNat n) z = some (0, z') ∧ fX19_arrives N 0 e (Int32.ofNat s) w = some (0, w') ∧ zEe z' w' e ∧ zEc1 e z z' ∧ zEm1 e w w' := by
          intro hC hM'
          unfold fX3_takeReset_29 fX3_takeReset_52 at hC
          unfold fX19_arrives_153 fX19_arrives_181 at hM'
          rw [s0] at hM'
          have i810 : (¬ zgI z 3 0 e < 8 ∧ ¬ (10 : Int32) < zgI z 3 0 e) ↔ (zgI z 3 0 e = 8 ∨ zgI z 3 0 e = 9 ∨ zgI z 3 0 e = 10) := by
            rw [Int32.lt_iff_toInt_lt, Int32.lt_iff_toInt_lt, ← Int32.toInt_inj, ← Int32.toInt_inj, ← Int32.toInt_inj]
            show (¬ (zgI z 3 0 e).toInt < 8 ∧ ¬ 10 < (zgI z 3 0 e).toInt) ↔ ((zgI z 3 0 e).toInt = 8 ∨ (zgI z 3 0 e).toInt = 9 ∨ (zgI z 3 0 e).toInt = 10)
            omega
          by_cases c : zgI z 3 0 e = 8 ∨ zgI z 3 0 e = 9 ∨ zgI z 3 0 e = 10
          · have := i810.mpr c
            rw [if_neg this.1, if_neg this.2] at hC
            refine fin 0 (Or.inl rfl) hC ?_
            rw [hM']
            by_cases c8 : zgI z 3 0 e = 8
            · rw [if_pos c8]
            · rw [if_neg c8]
              by_cases c9 : zgI z 3 0 e = 9
              · rw [if_pos c9]
              · rw [if_neg c9, if_neg (fun y => y ((c.resolve_left c8).resolve_left c9))]
          · refine fin 11 (Or.inr rfl) ?_ ?_
            · rw [hC]
              by_cases c8 : zgI z 3 0 e < 8
              · rw [if_pos c8]
              · rw [if_neg c8, if_pos (Decidable.byContradiction (fun y => c (i810.mp ⟨c8, y⟩)))]
            · rw [hM', if_neg (fun y => c (Or.inl y)), if_neg (fun y => c (Or.inr (Or.inl y))), if_pos (fun y => c (Or.inr (Or.inr y)))]
        by_cases c3 : zgI z 3 0 e = 3
        · rw [if_neg (fun y => y c3)] at mhead
          by_cases cl : zgI z 3 3 e = 0
          · rw [if_pos (hs.1.2.2.2.1.mp cl)] at mhead
            left
            refine fin29 ?_ mhead
            unfold fX3_takeReset
            rw [if_neg (fun y => y c3), if_pos cl]
          · rw [if_neg (fun y => cl (hs.1.2.2.2.1.mpr y))] at mhead
            refine Or.inr ⟨c3, cl, fun z' hz' => ?_, mhead⟩
            refine zgo_0 ?_
            rw [chead]
            unfold fX3_takeReset
            rw [if_neg (fun y => y c3), if_neg cl, h16, zl_e, zd_e, hz', zc_e, zc_e]
        · rw [if_pos c3] at mhead
          left
          refine fin29 ?_ mhead
          unfold fX3_takeReset
          rw [if_pos c3]
      · rw [if_pos cx] at chead
        rw [if_neg cx, zl_e] at mhead
        exact Or.inl ⟨_, _, zgo_0 chead, mhead, thx, tc, tm⟩
