/-! ends, both sides: ring -/
theorem zRqv_r9 {s h a9 a11 a13 f4 f5 f6 f7 t0 o7 : Int32} (hs : s = 2 ∨ s = 3) (q : zRqv s h a9 a11 a13 f4 f5 f6 f7 t0 o7) : zRqv s h 1 a11 a13 f4 f5 f6 f7 t0 o7 := by
  obtain ⟨c1, c2, c3, c4, c5, c6, c7, c8, c9, c10, c11, c12⟩ := q
  exact ⟨c1, c2, c3, fun _ => hs, c5, c6, c7, c8, c9, c10, c11, c12⟩
theorem zRqv_r11 {s h a9 a11 a13 f4 f5 f6 f7 t0 o7 : Int32} (h0 : ¬ t0 = 0) (h2 : ¬ s = 2) (h3 : ¬ s = 3) (hn : ¬ f5 = f6) (q : zRqv s h a9 a11 a13 f4 f5 f6 f7 t0 o7) : zRqv s h a9 1 a13 f4 f5 f6 f7 t0 o7 := by
  obtain ⟨c1, c2, c3, c4, c5, c6, c7, c8, c9, c10, c11, c12⟩ := q
  have d := c11 h0
  refine ⟨c1, c2, c3, c4, fun _ => ⟨c1 ?_, c6 ?_, hn⟩, c6, c7, c8, c9, c10, c11, c12⟩
  · rintro (y | y | y | y)
    · exact d (Or.inl y)
    · exact d (Or.inr (Or.inl y))
    · exact h2 y
    · exact d (Or.inr (Or.inr (Or.inr y)))
  · rintro (y | y | y | y | y | y)
    · exact d (Or.inl y)
    · exact d (Or.inr (Or.inl y))
    · exact h2 y
    · exact h3 y
    · exact d (Or.inr (Or.inr (Or.inl y)))
    · exact d (Or.inr (Or.inr (Or.inr y)))
theorem zp_ring22 {z w : St} {b x2 e n N : Nat} (hn : n ≤ 400000) (hT : zgI w 19 24 0 = Int32.ofNat n) (h16 : zgR z 3 16 e = some e) (h18 : zgR z 3 18 e = some e) (h : zEe z w e) :
    ∃ z' w', fX3_ring_22 N e (Int32.ofNat n) z = some (0, z') ∧ fX19_doorTurn_42 N 0 b x2 e w = fX19_doorTurn_68 N 0 b x2 e w' ∧ zEe z' w' e ∧ zEc1 e z z' ∧ zEm1 e w w' := by
  obtain ⟨hs, ho, hi, ht, hnn⟩ := id h
  have same : ∃ z' w', some ((0 : Int32), z) = some (0, z') ∧ fX19_doorTurn_68 N 0 b x2 e w = fX19_doorTurn_68 N 0 b x2 e w' ∧ zEe z' w' e ∧ zEc1 e z z' ∧ zEm1 e w w' := ⟨z, w, rfl, rfl, h, zEc1_rf e z, zEm1_rf e w⟩
  unfold fX3_ring_22 fX19_doorTurn_42
  rw [h18, zl_e, zd_e]
  rcases ht.1 with ⟨a, a'⟩ | ⟨a, a', a''⟩
  · rw [if_pos a, if_pos a']; exact same
  · rw [if_neg a, if_neg (by rw [a']; decide), zl_e, zd_e, hT, ← a'']
    by_cases c : zgI z 10 0 e ≤ Int32.ofNat n
    · rw [if_pos c, if_neg (by rw [Int32.not_lt]; exact c), zl_e, zd_e, zl_e]
      obtain ⟨-, t1, t2, t3, t4, t5, t6, t7, t8, t, t9, t10, t11⟩ := ht
      obtain ⟨v, hv⟩ : ∃ u, u = zgI z 10 1 e + 1 := ⟨_, rfl⟩
      have hqo : zRqv (zgI z 3 0 e) (zgI w 14 17 e) (zgI z 3 9 e) (zgI z 3 11 e) (zgI z 3 13 e) (zgI z 6 4 e) (zgI z 6 5 e) (zgI z 6 6 e) (zgI z 6 7 e) (zgI z 10 0 e) (zgI z 4 7 e) := hnn.2.2.2.2
      have hal := hqo.2.2.2.2.2.2.2.2.2.2.1 a
      rw [← hv]
      have e18 : zgR (zsI z 10 1 e v) 3 18 e = some e := h18
      have e16 : zgR (zsI z 10 1 e v) 3 16 e = some e := h16
      have v1 : zgI (zsI z 10 1 e v) 10 1 e = v := by simp [zgI_sI]
      rw [e18, zl_e, zd_e, v1]
      unfold fX14_ring
      have x36 : zgI (zsI w 14 33 e 0) 14 36 e = zgI z 10 1 e := by rw [zgI_sI, if_neg (by omega)]; exact t1.symm
      rw [zl_e, zl_e, x36, ← hv, zl_e]
      obtain ⟨w1, hw1⟩ : ∃ u, u = zsI (zsI w 14 33 e 0) 14 36 e v := ⟨_, rfl⟩
      rw [← hw1]
      have J1 : ∀ j, j ≠ 33 → j ≠ 36 → zgI w1 14 j e = zgI w 14 j e := fun j q1 q2 => by rw [hw1, zgI_sI, zgI_sI, if_neg (by omega), if_neg (by omega)]
      have w36 : zgI w1 14 36 e = v := by rw [hw1]; simp [zgI_sI]
      rw [w36]
      by_cases k8 : v ≤ 8
      · rw [if_pos k8, if_pos k8, e16, zd_e, zc_unthanked, zc_e, J1 6 (by omega) (by omega), J1 7 (by omega) (by omega)]
        have e5 : zgI (zsI z 10 1 e v) 6 5 e = zgI z 6 5 e := by rw [zgI_sI, if_neg (by omega)]
        have e6 : zgI (zsI z 10 1 e v) 6 6 e = zgI z 6 6 e := by rw [zgI_sI, if_neg (by omega)]
        have e0 : zgI (zsI z 10 1 e v) 3 0 e = zgI z 3 0 e := by rw [zgI_sI, if_neg (by omega)]
        have m0 : zgI w1 14 0 e = zgI z 3 0 e := (J1 0 (by omega) (by omega)).trans hs.1.1.symm
        rw [e5, e6, e0, m0, ← ho.1.2.1, ← ho.1.2.2.1]
        -- the wait doubled
        obtain ⟨t', ht'⟩ : ∃ u, u = if 2 * t ≤ 1200 then 2 * t else 1200 := ⟨_, rfl⟩
        have b1 : 20 ≤ t' ∧ t' ≤ 1200 := by
          rw [ht']; by_cases k : 2 * t ≤ 1200
          · rw [if_pos k]; omega
          · rw [if_neg k]; omega
        have cT : ∀ jc, ∃ z', fX3_ring_123 N e (Int32.ofNat n) (zsI (zsI z 10 1 e v) 3 jc e 1) = some (0, z') ∧ z' = zsI (zsI (zsI (zsI z 10 1 e v) 3 jc e 1) 10 2 e (Int32.ofNat t')) 10 0 e (Int32.ofNat n + Int32.ofNat t') := fun jc => by
          refine ⟨_, ?_, rfl⟩
          unfold fX3_ring_123
          have r1 : zgR (zsI (zsI z 10 1 e v) 3 jc e 1) 3 18 e = some e := h18
          have r2 : zgI (zsI (zsI z 10 1 e v) 3 jc e 1) 10 2 e = Int32.ofNat t := by rw [zgI_sI, zgI_sI, if_neg (by omega), if_neg (by omega)]; exact t11
          rw [r1, zl_e, zl_e, zd_e, zd_e, r2, ztwo, zl_e]
          have ew : (if Int32.ofNat (2 * t) < (1200 : Int32) then Int32.ofNat (2 * t) else (1200 : Int32)) = Int32.ofNat t' := by
            rw [ht']
            by_cases k : 2 * t < 1200
            · rw [if_pos (by rw [show (1200 : Int32) = Int32.ofNat 1200 from rfl, zo_lt (by omega) (by omega)]; exact k), if_pos (by omega)]
            · rw [if_neg (by rw [show (1200 : Int32) = Int32.ofNat 1200 from rfl, zo_lt (by omega) (by omega)]; exact k)]
              by_cases k2 : 2 * t ≤ 1200
              · rw [if_pos k2, show 2 * t = 1200 from by omega]; rfl
              · rw [if_neg k2]; rfl
          rw [ew]
          have r3 : zgR (zsI (zsI (zsI z 10 1 e v) 3 jc e 1) 10 2 e (Int32.ofNat t')) 3 18 e = some e := h18
          have r4 : zgI (zsI (zsI (zsI z 10 1 e v) 3 jc e 1) 10 2 e (Int32.ofNat t')) 10 2 e = Int32.ofNat t' := by simp [zgI_sI]
          rw [r3, zl_e, zl_e, zd_e, zd_e, r4, zl_e]
        have mT : ∀ jm, jm ≠ 35 → ∃ w', fX14_ring_80 N e (Int32.ofNat n) (zsI w1 14 jm e 1) = some (0, w') ∧ w' = zsI (zsI (zsI (zsI (zsI (zsI w 14 33 e 0) 14 36 e v) 14 jm e 1) 14 35 e (Int32.ofNat t')) 14 33 e 1) 14 34 e (Int32.ofNat n + Int32.ofNat t') := fun jm hjm => by
          refine ⟨_, ?_, rfl⟩
          unfold fX14_ring_80 fX14_ring_105 fX14_setAlarm
          have r2 : zgI (zsI w1 14 jm e 1) 14 35 e = Int32.ofNat t := by
            rw [zgI_sI, if_neg (by omega), J1 35 (by omega) (by omega), ← t2]; exact t11
          rw [r2, ztwo, ht', ← hw1]
          have r3 : ∀ u : Int32, zgI (zsI (zsI (zsI w1 14 jm e 1) 14 35 e u) 14 33 e 1) 14 35 e = u := fun u => by simp [zgI_sI]
          by_cases k : 2 * t ≤ 1200
          · rw [if_pos (by rw [show (1200 : Int32) = Int32.ofNat 1200 from rfl, zo_le (by omega) (by omega)]; exact k), if_pos k, zl_e, zl_e, r3, zl_e, zc_e]
          · rw [if_neg (by rw [show (1200 : Int32) = Int32.ofNat 1200 from rfl, zo_le (by omega) (by omega)]; exact k), if_neg k, zl_e, zl_e, r3, zl_e, zc_e]; rfl
        have fin : ∀ jc jm, ((jc = 9 ∧ jm = 28) ∨ (jc = 11 ∧ jm = 30) ∨ (jc = 12 ∧ jm = 31)) → (∀ t0 : Int32, zRqv (zgI z 3 0 e) (zgI w 14 17 e) (if jc = 9 then 1 else zgI z 3 9 e) (if jc = 11 then 1 else zgI z 3 11 e) (zgI z 3 13 e) (zgI z 6 4 e) (zgI z 6 5 e) (zgI z 6 6 e) (zgI z 6 7 e) t0 (zgI z 4 7 e)) → ∃ z' w', fX3_ring_123 N e (Int32.ofNat n) (zsI (zsI z 10 1 e v) 3 jc e 1) = some (0, z') ∧ (zc (fX14_ring_80 N e (Int32.ofNat n) (zsI w1 14 jm e 1)) fun _ z4 => fX19_doorTurn_68 N 0 b x2 e z4) = fX19_doorTurn_68 N 0 b x2 e w' ∧ zEe z' w' e ∧ zEc1 e z z' ∧ zEm1 e w w' := fun jc jm hj hqq => by
          obtain ⟨z', g1, g2⟩ := cT jc
          obtain ⟨w', g3, g4⟩ := mT jm (by omega)
          refine ⟨z', w', g1, by rw [g3, zc_e], ?_, ?_, ?_⟩
          · rw [g2, g4]; exact zp_rung hj hn b1.1 b1.2 v hqq h
          · rw [g2]; exact zEc1_tr (zEc1_I (by simp)) (zEc1_tr (zEc1_I (by simp)) (zEc1_tr (zEc1_I (by simp)) (zEc1_I (by simp))))
          · rw [g4]; exact zEm1_tr zEm1_I (zEm1_tr zEm1_I (zEm1_tr zEm1_I (zEm1_tr zEm1_I (zEm1_tr zEm1_I zEm1_I))))
        by_cases u : zgI z 6 5 e = zgI z 6 6 e
        · rw [decide_eq_false (fun y => y u), if_neg (show ¬ ¬ zbi false = 0 from fun y => y rfl), zl_e, if_neg (show ¬ ¬ zgI z 6 5 e = zgI z 6 6 e from fun y => y u), zl_e]
          exact fin 12 31 (by omega) (fun t0 => by rw [if_neg (by decide), if_neg (by decide)]; exact zRqv_al t0 hal hqo)
        · rw [decide_eq_true u, if_pos (show ¬ zbi true = 0 from by decide), if_pos (show ¬ zgI z 6 5 e = zgI z 6 6 e from u)]
          unfold fX3_ring_110 fX14_ring_67
          by_cases c2 : zgI z 3 0 e = 2
          · rw [if_pos c2, if_pos c2, zl_e, zl_e]; exact fin 9 28 (by omega) (fun t0 => by rw [if_pos rfl, if_neg (by decide)]; exact zRqv_al t0 hal (zRqv_r9 (Or.inl c2) hqo))
          · rw [if_neg c2, if_neg c2]
            by_cases c3 : zgI z 3 0 e = 3
            · rw [if_neg (show ¬ ¬ zgI z 3 0 e = 3 from fun y => y c3), if_neg (show ¬ ¬ zgI z 3 0 e = 3 from fun y => y c3), zl_e, zl_e]; exact fin 9 28 (by omega) (fun t0 => by rw [if_pos rfl, if_neg (by decide)]; exact zRqv_al t0 hal (zRqv_r9 (Or.inr c3) hqo))
            · rw [if_pos (show ¬ zgI z 3 0 e = 3 from c3), if_pos (show ¬ zgI z 3 0 e = 3 from c3), zl_e, zl_e]; exact fin 11 30 (by omega) (fun t0 => by rw [if_neg (by decide), if_pos rfl]; exact zRqv_al t0 hal (zRqv_r11 a c2 c3 u hqo))
      · rw [if_neg k8, if_neg k8]
        obtain ⟨z1, hz1⟩ : ∃ u, u = zsI z 10 1 e v := ⟨_, rfl⟩
        obtain ⟨w2, hw2⟩ : ∃ u, u = zsI w 14 36 e v := ⟨_, rfl⟩
        rw [← hz1]
        have C1 : ∀ k j, ¬ (k = 10 ∧ j = 1) → zgI z1 k j e = zgI z k j e := fun k j q => by rw [hz1, zgI_sI, if_neg (by omega)]
        have D1 : ∀ j, j ≠ 36 → zgI w2 14 j e = zgI w 14 j e := fun j q => by rw [hw2, zgI_sI, if_neg (by omega)]
        have A1 : ∀ k i, zgA z1 k e i = zgA z k e i := fun k i => by rw [hz1]; rfl
        have A2 : ∀ k i, zgA w2 k e i = zgA w k e i := fun k i => by rw [hw2]; rfl
        have hh : zEe z1 w2 e := by
          refine ⟨zRs_cg (fun j _ => C1 3 j (by omega)) (fun j hj => D1 j (by omega)) hs, zRo_cg (fun j _ => C1 6 j (by omega)) (fun i => A1 124 i) (fun j hj => D1 j (by omega)) (fun i => A2 159 i) ho, zRi_cg (fun j _ => C1 4 j (by omega)) (fun k i _ => A1 k i) (fun j hj => D1 j (by omega)) (fun k i _ => A2 k i) hi, ⟨Or.inr ⟨?_, ?_, ?_⟩, ?_, ?_, ?_, ?_, ?_, ?_, ?_, ?_, t, t9, t10, ?_⟩, ?_⟩
          · rw [C1 10 0 (by omega)]; exact a
          · rw [D1 33 (by omega)]; exact a'
          · rw [C1 10 0 (by omega), D1 34 (by omega)]; exact a''
          · rw [hz1, hw2, zgI_sI, zgI_sI, if_pos ⟨rfl, rfl, rfl⟩, if_pos ⟨rfl, rfl, rfl⟩]
          · rw [C1 10 2 (by omega), D1 35 (by omega)]; exact t2
          · rw [C1 10 3 (by omega), D1 41 (by omega)]; exact t3
          · rw [C1 10 4 (by omega), D1 42 (by omega)]; exact t4
          · rw [C1 10 5 (by omega), D1 40 (by omega)]; exact t5
          · rw [C1 10 6 (by omega), D1 37 (by omega)]; exact t6
          · rw [C1 10 6 (by omega)]; exact t7
          · rw [C1 10 6 (by omega), C1 10 7 (by omega), C1 10 8 (by omega), D1 38 (by omega), D1 39 (by omega)]; exact t8
          · rw [C1 10 2 (by omega)]; exact t11
          · exact zRn_cg (fun j _ => C1 3 j (by omega)) (C1 6 11 (by omega)) (by rw [C1 3 0 (by omega), C1 6 6 (by omega), C1 6 4 (by omega)]; exact hnn.1) (zRq_eq (fun j _ => C1 3 j (by omega)) (fun j _ => C1 6 j (by omega)) (C1 10 0 (by omega)) (C1 4 7 (by omega)) (D1 17 (by omega)) hnn.2.2.2.2) hnn
        have r18 : zgR z1 3 18 e = some e := by rw [hz1]; exact h18
        obtain ⟨z', w3, g1, g2, ⟨g3, g4, g5, g6, g7⟩, g8, g9, g10⟩ := zp_fin (N := N) (Int32.ofNat n) r18 (Or.inr rfl) hh
        have q1 := zm_fin (w := w1) (e := e) (N := N) (s := 11) (Int32.ofNat n) (Or.inr rfl)
        have q2 := zm_fin (w := w2) (e := e) (N := N) (s := 11) (Int32.ofNat n) (Or.inr rfl)
        rw [g2] at q2
        have q2 : w3 = zsI (zsI (zsI (zsI (zsI (zsI w2 14 0 e 11) 14 28 e 0) 14 30 e 0) 14 31 e 0) 14 32 e 0) 14 33 e 0 := congrArg Prod.snd (Option.some.inj q2)
        obtain ⟨w4, hw4⟩ : ∃ u, u = zsI (zsI (zsI (zsI (zsI (zsI w1 14 0 e 11) 14 28 e 0) 14 30 e 0) 14 31 e 0) 14 32 e 0) 14 33 e 0 := ⟨_, rfl⟩
        rw [← hw4] at q1
        have M : ∀ j, zgI w4 14 j e = zgI w3 14 j e := fun j => by
          rw [hw4, q2]
          by_cases k : j = 33
          · subst k; simp [zgI_sI]
          · have b : zgI w1 14 j e = zgI w2 14 j e := by
              rw [hw1, hw2, zgI_sI, zgI_sI, zgI_sI, if_neg (show ¬ (14 = 14 ∧ j = 33 ∧ e = e) from fun y => k y.2.1)]
            simp only [zgI_sI]
            rw [b]
        have MA : ∀ k i, zgA w4 k e i = zgA w3 k e i := fun k i => by rw [hw4, q2, hw1, hw2]; rfl
        refine ⟨z', w4, by rw [g1, zc_e], by rw [q1, zc_e, zc_e], ⟨zRs_cg (fun _ _ => rfl) (fun j _ => M j) g3, zRo_cg (fun _ _ => rfl) (fun _ => rfl) (fun j _ => M j) (fun i => MA 159 i) g4, zRi_cg (fun _ _ => rfl) (fun _ _ _ => rfl) (fun j _ => M j) (fun k i _ => MA k i) g5, zRt_cg (fun _ _ => rfl) (fun j _ => M j) g6, zRn_cg (fun _ _ => rfl) rfl g7.1 (zRq_eq (fun _ _ => rfl) (fun _ _ => rfl) rfl rfl (M 17) g7.2.2.2.2) g7⟩, zEc1_tr (by rw [hz1]; exact zEc1_I (by simp)) g8, ?_⟩
        rw [hw4, hw1]
        exact zEm1_tr zEm1_I (zEm1_tr zEm1_I (zEm1_tr zEm1_I (zEm1_tr zEm1_I (zEm1_tr zEm1_I (zEm1_tr zEm1_I (zEm1_tr zEm1_I zEm1_I))))))
    · rw [if_neg c, if_pos (by rw [← Int32.not_le]; exact c)]; exact same
