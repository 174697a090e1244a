/-! ends: begin, the model; both -/
/-- as zEm1, the reader's place aside -/
def zEm0 (e : Nat) (w w' : St) : Prop := (∀ k j o, ¬ (k = 14 ∧ o = e ∧ ¬ (j = 2 ∨ j = 3 ∨ j = 4 ∨ j = 44 ∨ j = 45)) → zgI w' k j o = zgI w k j o) ∧ (∀ k o i, ¬ ((k = 159 ∨ k = 160 ∨ k = 161) ∧ o = e) → zgA w' k o i = zgA w k o i) ∧ (∀ k o i, zgL w' k o i = zgL w k o i) ∧ (∀ k o i, zgQ w' k o i = zgQ w k o i) ∧ ∀ k o i, zgR w' k o i = zgR w k o i
theorem zEm0_rf (e : Nat) (z : St) : zEm0 e z z := ⟨fun _ _ _ _ => rfl, fun _ _ _ _ => rfl, fun _ _ _ => rfl, fun _ _ _ => rfl, fun _ _ _ => rfl⟩
theorem zEm0_tr {e : Nat} {x y z : St} (h1 : zEm0 e x y) (h2 : zEm0 e y z) : zEm0 e x z := ⟨fun k j o n => (h2.1 k j o n).trans (h1.1 k j o n), fun k o i n => (h2.2.1 k o i n).trans (h1.2.1 k o i n), fun k o i => (h2.2.2.1 k o i).trans (h1.2.2.1 k o i), fun k o i => (h2.2.2.2.1 k o i).trans (h1.2.2.2.1 k o i), fun k o i => (h2.2.2.2.2 k o i).trans (h1.2.2.2.2 k o i)⟩
theorem zEm0_I {e j : Nat} {z : St} {v : Int32} (hj : ¬ (j = 2 ∨ j = 3 ∨ j = 4 ∨ j = 44 ∨ j = 45) := by omega) : zEm0 e z (zsI z 14 j e v) := ⟨fun k' j' o n => by rw [zgI_sI, if_neg (fun y => n ⟨y.1, y.2.2, by rw [y.2.1]; exact hj⟩)], fun _ _ _ _ => rfl, fun _ _ _ => rfl, fun _ _ _ => rfl, fun _ _ _ => rfl⟩
theorem zEm0_A {e k i : Nat} {z : St} {v : Int32} (hk : k = 159 ∨ k = 160 ∨ k = 161) : zEm0 e z (zsA z k e i v) := ⟨fun _ _ _ _ => rfl, fun k' o i' n => by rw [zgA_sA, if_neg (fun y => n ⟨by rw [y.1]; exact hk, y.2.1⟩)], fun _ _ _ => rfl, fun _ _ _ => rfl, fun _ _ _ => rfl⟩
theorem zm_beginL {e N : Nat} {F : Int32} : ∀ (n i nn : Nat) (w : St), i + n = 2048 → n < nn → ∃ w', fX14_begin_79 N nn e (Int32.ofNat i) w = some (0, w') ∧ (∀ k j u, zgI w' k j u = if k = 14 ∧ u = e ∧ ((21 ≤ j ∧ j ≤ 23) ∨ (28 ≤ j ∧ j ≤ 33) ∨ j = 36 ∨ j = 37 ∨ (40 ≤ j ∧ j ≤ 42) ∨ j = 46) then 0 else if k = 14 ∧ u = e ∧ j = 35 then 60 else zgI w k j u) ∧ (∀ k u j, zgA w' k u j = if k = 161 ∧ u = e ∧ i ≤ j ∧ j < 2048 then 0 else zgA w k u j) ∧ zEm0 e w w' := by
  intro n
  induction n with
  | zero =>
    intro i nn w h1 h2
    obtain ⟨nn, rfl⟩ : ∃ k, nn = k + 1 := ⟨nn - 1, by omega⟩
    obtain ⟨w', hw'⟩ : ∃ y, y = zsI (zsI (zsI (zsI (zsI (zsI (zsI (zsI (zsI (zsI (zsI (zsI (zsI (zsI (zsI (zsI w 14 21 e 0) 14 22 e 0) 14 23 e 0) 14 28 e 0) 14 29 e 0) 14 30 e 0) 14 31 e 0) 14 32 e 0) 14 33 e 0) 14 35 e 60) 14 36 e 0) 14 37 e 0) 14 40 e 0) 14 41 e 0) 14 42 e 0) 14 46 e 0 := ⟨_, rfl⟩
    refine ⟨w', ?_, fun k j u => ?_, fun k u j => by rw [if_neg (by omega), hw']; rfl, ?_⟩
    · show fX14_begin_79b N _ e _ w = _
      unfold fX14_begin_79b
      rw [if_pos (by rw [show (2048 : Int32) = Int32.ofNat 2048 from rfl, zo_le (by omega) (by omega)]; omega)]
      rw [zl_e, zl_e, zl_e, zl_e, zl_e, zl_e, zl_e, zl_e, zl_e, zl_e, zl_e, zl_e, zl_e, zl_e, zl_e, zl_e, ← hw']
    · rw [hw']
      simp only [zgI_sI]
      by_cases c : k = 14 ∧ u = e ∧ ((21 ≤ j ∧ j ≤ 23) ∨ (28 ≤ j ∧ j ≤ 33) ∨ j = 36 ∨ j = 37 ∨ (40 ≤ j ∧ j ≤ 42) ∨ j = 46)
      · rw [if_pos c]
        obtain ⟨rfl, rfl, h⟩ := c
        have : j = 21 ∨ j = 22 ∨ j = 23 ∨ j = 28 ∨ j = 29 ∨ j = 30 ∨ j = 31 ∨ j = 32 ∨ j = 33 ∨ j = 36 ∨ j = 37 ∨ j = 40 ∨ j = 41 ∨ j = 42 ∨ j = 46 := by omega
        rcases this with rfl | rfl | rfl | rfl | rfl | rfl | rfl | rfl | rfl | rfl | rfl | rfl | rfl | rfl | rfl <;> simp
      · rw [if_neg c, if_neg (by omega), if_neg (by omega), if_neg (by omega), if_neg (by omega), if_neg (by omega), if_neg (by omega)]
        by_cases d : k = 14 ∧ u = e ∧ j = 35
        · obtain ⟨rfl, rfl, rfl⟩ := d; simp
        · rw [if_neg d, if_neg (by omega), if_neg (by omega), if_neg (by omega), if_neg (by omega), if_neg (by omega), if_neg (by omega), if_neg (by omega), if_neg (by omega), if_neg (by omega), if_neg (by omega)]
    · rw [hw']
      exact zEm0_tr zEm0_I (zEm0_tr zEm0_I (zEm0_tr zEm0_I (zEm0_tr zEm0_I (zEm0_tr zEm0_I (zEm0_tr zEm0_I (zEm0_tr zEm0_I (zEm0_tr zEm0_I (zEm0_tr zEm0_I (zEm0_tr zEm0_I (zEm0_tr zEm0_I (zEm0_tr zEm0_I (zEm0_tr zEm0_I (zEm0_tr zEm0_I (zEm0_tr zEm0_I zEm0_I))))))))))))))
  | succ n ih =>
    intro i nn w h1 h2
    obtain ⟨nn, rfl⟩ : ∃ k, nn = k + 1 := ⟨nn - 1, by omega⟩
    obtain ⟨w', g1, g2, g3, g4⟩ := ih (i + 1) nn (zsA w 161 e i 0) (by omega) (by omega)
    refine ⟨w', ?_, fun k j u => (g2 k j u).trans rfl, fun k u j => ?_, zEm0_tr (zEm0_A (by simp)) g4⟩
    · show fX14_begin_79b N _ e _ w = _
      unfold fX14_begin_79b
      have vb : vp_nar .boolean (0 : Int32) = 0 := by decide
      rw [if_neg (by rw [show (2048 : Int32) = Int32.ofNat 2048 from rfl, zo_le (by omega) (by omega)]; omega), zkk (by omega) (by omega), zoC (by omega), vb, zl_e, zo_i1, zl_e]
      exact g1
    · rw [g3]
      by_cases c : k = 161 ∧ u = e ∧ i ≤ j ∧ j < 2048
      · rw [if_pos c]
        by_cases d : j = i
        · rw [if_neg (by omega), zgA_sA, if_pos ⟨c.1, c.2.1, d⟩]
        · rw [if_pos (by omega)]
      · rw [if_neg c, if_neg (by omega), zgA_sA, if_neg (by omega)]
def bgM (F L : Int32) (w : St) (e k j u : Nat) : Int32 :=
  if k = 14 ∧ u = e ∧ (j ≤ 1 ∨ j = 9 ∨ (11 ≤ j ∧ j ≤ 13) ∨ (16 ≤ j ∧ j ≤ 18) ∨ (21 ≤ j ∧ j ≤ 23) ∨ (28 ≤ j ∧ j ≤ 33) ∨ j = 36 ∨ j = 37 ∨ (40 ≤ j ∧ j ≤ 42) ∨ j = 46) then 0 else if k = 14 ∧ u = e ∧ 5 ≤ j ∧ j ≤ 7 then F else if k = 14 ∧ u = e ∧ j = 8 then F + 1 else if k = 14 ∧ u = e ∧ (j = 14 ∨ j = 15) then L else if k = 14 ∧ u = e ∧ j = 35 then 60 else zgI w k j u
theorem zm_begin (w : St) {e N : Nat} (F L : Int32) (hN : 2048 < N) : ∃ w', fX14_begin N e F L w = some (0, w') ∧ (∀ k j u, zgI w' k j u = bgM F L w e k j u) ∧ (∀ k u i, zgA w' k u i = if k = 161 ∧ u = e ∧ i < 2048 then 0 else zgA w k u i) ∧ zEm0 e w w' := by
  obtain ⟨w1, hw1⟩ : ∃ y, y = zsI (zsI (zsI (zsI (zsI (zsI (zsI (zsI (zsI (zsI (zsI (zsI (zsI (zsI (zsI w 14 0 e 0) 14 1 e 0) 14 5 e F) 14 14 e L) 14 15 e L) 14 6 e F) 14 7 e F) 14 8 e (F + 1)) 14 9 e 0) 14 11 e 0) 14 12 e 0) 14 13 e 0) 14 16 e 0) 14 17 e 0) 14 18 e 0 := ⟨_, rfl⟩
  have m1 : zEm0 e w w1 := by
    rw [hw1]
    exact zEm0_tr zEm0_I (zEm0_tr zEm0_I (zEm0_tr zEm0_I (zEm0_tr zEm0_I (zEm0_tr zEm0_I (zEm0_tr zEm0_I (zEm0_tr zEm0_I (zEm0_tr zEm0_I (zEm0_tr zEm0_I (zEm0_tr zEm0_I (zEm0_tr zEm0_I (zEm0_tr zEm0_I (zEm0_tr zEm0_I (zEm0_tr zEm0_I zEm0_I)))))))))))))
  have I1 : ∀ k j u, zgI w1 k j u = if k = 14 ∧ u = e ∧ (j ≤ 1 ∨ j = 9 ∨ (11 ≤ j ∧ j ≤ 13) ∨ (16 ≤ j ∧ j ≤ 18)) then 0 else if k = 14 ∧ u = e ∧ 5 ≤ j ∧ j ≤ 7 then F else if k = 14 ∧ u = e ∧ j = 8 then F + 1 else if k = 14 ∧ u = e ∧ (j = 14 ∨ j = 15) then L else zgI w k j u := fun k j u => by
    rw [hw1]
    simp only [zgI_sI]
    by_cases c : k = 14 ∧ u = e ∧ (j ≤ 1 ∨ j = 9 ∨ (11 ≤ j ∧ j ≤ 13) ∨ (16 ≤ j ∧ j ≤ 18))
    · rw [if_pos c]
      obtain ⟨rfl, rfl, h⟩ := c
      have : j = 0 ∨ j = 1 ∨ j = 9 ∨ j = 11 ∨ j = 12 ∨ j = 13 ∨ j = 16 ∨ j = 17 ∨ j = 18 := by omega
      rcases this with rfl | rfl | rfl | rfl | rfl | rfl | rfl | rfl | rfl <;> simp
    · rw [if_neg c]
      by_cases d : k = 14 ∧ u = e ∧ 5 ≤ j ∧ j ≤ 7
      · rw [if_pos d]
        obtain ⟨rfl, rfl, h1, h2⟩ := d
        have : j = 5 ∨ j = 6 ∨ j = 7 := by omega
        rcases this with rfl | rfl | rfl <;> simp
      · rw [if_neg d]
        by_cases f : k = 14 ∧ u = e ∧ j = 8
        · obtain ⟨rfl, rfl, rfl⟩ := f; simp
        · rw [if_neg f]
          by_cases g : k = 14 ∧ u = e ∧ (j = 14 ∨ j = 15)
          · rw [if_pos g]
            obtain ⟨rfl, rfl, h⟩ := g
            rcases h with rfl | rfl <;> simp
          · rw [if_neg g, if_neg (by omega), if_neg (by omega), if_neg (by omega), if_neg (by omega), if_neg (by omega), if_neg (by omega), if_neg (by omega), if_neg (by omega), if_neg (by omega), if_neg (by omega), if_neg (by omega), if_neg (by omega), if_neg (by omega), if_neg (by omega), if_neg (by omega)]
  obtain ⟨w2, g1, g2, g3, g4⟩ := zm_beginL (e := e) (N := N) (F := F) 2048 0 N w1 (by omega) hN
  refine ⟨w2, ?_, fun k j u => ?_, fun k u i => ?_, zEm0_tr m1 g4⟩
  · unfold fX14_begin
    rw [zl_e, zl_e, zl_e, zl_e, zl_e, zl_e, zl_e, zl_e, zl_e, zl_e, zl_e, zl_e, zl_e, zl_e, zl_e, ← hw1]
    exact g1
  · rw [g2, I1]
    unfold bgM
    by_cases c : k = 14 ∧ u = e
    · obtain ⟨rfl, rfl⟩ := c
      simp only [true_and]
      by_cases d : (21 ≤ j ∧ j ≤ 23) ∨ (28 ≤ j ∧ j ≤ 33) ∨ j = 36 ∨ j = 37 ∨ (40 ≤ j ∧ j ≤ 42) ∨ j = 46
      · rw [if_pos d, if_pos (by omega)]
      · rw [if_neg d]
        by_cases f : j = 35
        · rw [if_pos f, if_neg (by omega), if_neg (by omega), if_neg (by omega), if_neg (by omega), if_pos f]
        · rw [if_neg f]
          by_cases g : j ≤ 1 ∨ j = 9 ∨ (11 ≤ j ∧ j ≤ 13) ∨ (16 ≤ j ∧ j ≤ 18)
          · rw [if_pos g, if_pos (by omega)]
          · rw [if_neg g, if_neg (show ¬ (j ≤ 1 ∨ j = 9 ∨ (11 ≤ j ∧ j ≤ 13) ∨ (16 ≤ j ∧ j ≤ 18) ∨ (21 ≤ j ∧ j ≤ 23) ∨ (28 ≤ j ∧ j ≤ 33) ∨ j = 36 ∨ j = 37 ∨ (40 ≤ j ∧ j ≤ 42) ∨ j = 46) by omega), if_neg f]
    · rw [if_neg (fun y => c ⟨y.1, y.2.1⟩), if_neg (fun y => c ⟨y.1, y.2.1⟩), if_neg (fun y => c ⟨y.1, y.2.1⟩), if_neg (fun y => c ⟨y.1, y.2.1⟩), if_neg (fun y => c ⟨y.1, y.2.1⟩), if_neg (fun y => c ⟨y.1, y.2.1⟩), if_neg (fun y => c ⟨y.1, y.2.1⟩), if_neg (fun y => c ⟨y.1, y.2.1⟩), if_neg (fun y => c ⟨y.1, y.2.1⟩), if_neg (fun y => c ⟨y.1, y.2.1⟩), if_neg (fun y => c ⟨y.1, y.2.1⟩)]
  · rw [g3]
    by_cases c : k = 161 ∧ u = e ∧ i < 2048
    · rw [if_pos c, if_pos ⟨c.1, c.2.1, Nat.zero_le _, c.2.2⟩]
    · rw [if_neg c, if_neg (fun y => c ⟨y.1, y.2.1, y.2.2.2⟩), hw1]; rfl
/-- an end that has begun again listens: both sides -/
theorem zEe_new {z w : St} {e : Nat} {F : Int32} (h3 : ∀ j, j = 4 ∨ (9 ≤ j ∧ j ≤ 13) → zgI z 3 j e = 0) (h30 : zgI z 3 0 e = 1) (h32 : zgI z 3 2 e = zgI z 3 1 e) (h33 : ¬ zgI z 3 3 e = 0) (h6 : ∀ j, 1 ≤ j ∧ j ≤ 13 → zgI z 6 j e = if 4 ≤ j ∧ j ≤ 6 then F else 0) (h4 : ∀ j, 2 ≤ j ∧ j ≤ 7 → zgI z 4 j e = 0) (h10 : ∀ j, j ≤ 6 → zgI z 10 j e = if j = 2 then 60 else 0) (hA : ∀ i, i < 2048 → zgA z 121 e i = 0) (hl : ∃ p : Nat, 60 ≤ p ∧ p ≤ 1460 ∧ zgI z 3 1 e = Int32.ofNat p)
    (m0 : zgI w 14 0 e = 1) (m1 : ¬ zgI w 14 1 e = 0) (m5 : ∀ j, 5 ≤ j ∧ j ≤ 7 → zgI w 14 j e = F) (m8 : zgI w 14 8 e = F + 1) (mz : ∀ j, j = 9 ∨ (11 ≤ j ∧ j ≤ 13) ∨ (16 ≤ j ∧ j ≤ 18) ∨ (21 ≤ j ∧ j ≤ 23) ∨ (28 ≤ j ∧ j ≤ 33) ∨ j = 36 ∨ j = 37 ∨ (40 ≤ j ∧ j ≤ 42) → zgI w 14 j e = 0) (m14 : zgI w 14 14 e = zgI z 3 1 e) (m15 : zgI w 14 15 e = zgI z 3 1 e) (m35 : zgI w 14 35 e = 60) (hB : ∀ i, i < 2048 → zgA w 161 e i = 0)
    (hr : zgI z 3 5 e = zgI w 14 24 e ∧ (¬ zgI z 3 5 e = 0 → zgI z 3 6 e = zgI w 14 25 e ∧ zgI z 3 7 e = zgI w 14 26 e ∧ zgI z 3 8 e = zgI w 14 27 e ∧ (zgI z 3 6 e = 4 ∨ zgI z 3 6 e = 12))) : zEe z w e := by
  have F0 : F = F + Int32.ofNat 0 := by show F = F + 0; rw [← Int32.toBitVec_inj]; simp
  refine ⟨⟨⟨by rw [h30, m0], m14.symm, by rw [h32, m15], ⟨fun y => absurd y h33, fun y => absurd y m1⟩, fun y => ?_⟩, hr, ?_⟩, ?_, ?_, ?_, ?_⟩
  · rw [h30] at y; exact absurd y (by decide)
  · rw [h3 9 (by omega), h3 10 (by omega), h3 11 (by omega), h3 12 (by omega), h3 13 (by omega), mz 28 (by omega), mz 29 (by omega), mz 30 (by omega), mz 31 (by omega), mz 32 (by omega)]
    exact ⟨rfl, rfl, rfl, rfl, rfl, Or.inl rfl⟩
  · refine zRo_iff.mpr ⟨?_, 0, 0, 1, 0, 1, 0, 0, ⟨by decide, by decide, by decide⟩, ?_, ?_, fun i hi => absurd hi (by omega)⟩
    · rw [h6 4 (by omega), h6 5 (by omega), h6 6 (by omega), h6 8 (by omega), h6 11 (by omega), h6 12 (by omega), h6 13 (by omega), m5 5 (by omega), m5 6 (by omega), m5 7 (by omega), mz 9 (by omega), mz 11 (by omega), mz 12 (by omega), mz 13 (by omega)]
      exact ⟨rfl, rfl, rfl, rfl, Or.inl rfl, rfl, rfl, rfl⟩
    · rw [h6 5 (by omega), h6 4 (by omega), h6 6 (by omega), m8]
      exact ⟨F0, F0, rfl, by omega, by omega, by omega, by omega, fun y => absurd y (by omega), by omega⟩
    · rw [h6 1 (by omega), h6 2 (by omega), h6 3 (by omega), h6 7 (by omega), h6 9 (by omega), h6 10 (by omega)]
      exact ⟨by omega, rfl, rfl, rfl, rfl, rfl, rfl⟩
  · refine ⟨?_, 0, 0, ⟨by omega, by omega, h4 2 (by omega), h4 3 (by omega)⟩, fun _ => ⟨rfl, h4 4 (by omega), h4 7 (by omega), h4 5 (by omega)⟩, fun y => ?_, fun i hi => absurd hi (by omega), fun _ k hk => ?_⟩
    · rw [h4 4 (by omega), h4 5 (by omega), h4 6 (by omega), h4 7 (by omega), mz 16 (by omega), mz 17 (by omega), mz 21 (by omega), mz 22 (by omega), mz 23 (by omega)]
      exact ⟨rfl, rfl, fun _ => rfl, rfl, Or.inl rfl, Or.inl rfl, Or.inl rfl⟩
    · rw [mz 17 (by omega)] at y; exact absurd y (by decide)
    · rw [hA _ (Nat.mod_lt _ (by decide)), hB _ (Nat.mod_lt _ (by decide))]
      exact ⟨rfl, Or.inl rfl⟩
  · refine ⟨Or.inl ⟨h10 0 (by omega), mz 33 (by omega)⟩, ?_⟩
    rw [h10 1 (by omega), h10 2 (by omega), h10 3 (by omega), h10 4 (by omega), h10 5 (by omega), h10 6 (by omega), mz 36 (by omega), m35, mz 41 (by omega), mz 42 (by omega), mz 40 (by omega), mz 37 (by omega)]
    exact ⟨rfl, rfl, rfl, rfl, rfl, rfl, Or.inl rfl, fun y => absurd y (by decide), 60, by omega, by omega, rfl⟩
  · obtain ⟨p, p1, p2, p3⟩ := hl
    refine ⟨Or.inr (Or.inr (Or.inl h30)), ⟨p, by omega, p2, h32.trans p3⟩, ⟨p, p1, p2, p3⟩, ⟨0, by omega, h6 11 (by omega)⟩, ?_⟩
    unfold zRq
    rw [h30, mz 17 (by omega), h3 9 (by omega), h3 11 (by omega), h3 13 (by omega), h6 4 (by omega), h6 5 (by omega), h6 6 (by omega), h6 7 (by omega), h10 0 (by omega), h4 7 (by omega)]
    simp [zRqv]
