/-! what is sent again, opens, resets: both sides; an end's next segment -/
theorem zp_again {z w : St} {T : Tp} {E : Ev} {g : Sg} {K : Int32 → Int32 → Int32 → Prop} {X TS TA : List Nat} {e b N : Nat} (h16 : zgR z 3 16 e = some e) (h17r : zgR z 3 17 e = some e) (h18 : zgR z 3 18 e = some e) (hM : zMB w T E g K X TS TA) (hX : X.length ≤ 40) (hW : ∀ q, tv T q → (gW g q).length ≤ 16) (hTS : TS.length ≤ 100) (hl : TS.length + TA.length ≤ 4000) (h : zEe z w e) (h11 : ¬ zgI z 3 11 e = 0) (hN : 1500 < N) :
    ∃ z' w' s, fX3_makeAgain N e 0 z = some (0, z') ∧ (zl (zsI w 14 30 e (0 : Int32)) fun z21 => zl (zsI z21 14 37 e (0 : Int32)) fun z22 => zc (fX14_lastSent N e z22) fun r23 z24 => if r23 = 0 then (fX19_send_85 N 0 e (zgI z24 14 7 e) z24) else (fX19_send_85 N 0 e (zgI z24 14 8 e) z24)) = some (Int32.ofNat s, w') ∧ zMade z w z' w' T E g K X TS TA e b s ∧ zMsr z' e < zMsr z e := by
  obtain ⟨z1, hz1⟩ : ∃ y, y = zsI (zsI z 3 11 e 0) 10 6 e 0 := ⟨_, rfl⟩
  obtain ⟨w1, hw1⟩ : ∃ y, y = zsI (zsI w 14 30 e 0) 14 37 e 0 := ⟨_, rfl⟩
  have I : ∀ k j, ¬ (k = 3 ∧ j = 11) → ¬ (k = 10 ∧ j = 6) → zgI z1 k j e = zgI z k j e := fun k j q q2 => by rw [hz1, zgI_sI, zgI_sI, if_neg (by omega), if_neg (by omega)]
  have J : ∀ j, ¬ (j = 30 ∨ j = 37) → zgI w1 14 j e = zgI w 14 j e := fun j q => by rw [hw1, zgI_sI, zgI_sI, if_neg (by omega), if_neg (by omega)]
  have ec : zEc1 e z z1 := by rw [hz1]; exact zEc1_tr (zEc1_I (by simp)) (zEc1_I (by simp))
  have em : zEm1 e w w1 := by rw [hw1]; exact zEm1_tr zEm1_I zEm1_I
  have mA : ∀ k o i, zgA w1 k o i = zgA w k o i := fun k o i => by rw [hw1]; rfl
  have i11 : zgI z1 3 11 e = 0 := by rw [hz1]; simp [zgI_sI]
  have i6 : zgI z1 10 6 e = 0 := by rw [hz1]; simp [zgI_sI]
  have j30 : zgI w1 14 30 e = 0 := by rw [hw1]; simp [zgI_sI]
  have j37 : zgI w1 14 37 e = 0 := by rw [hw1]; simp [zgI_sI]
  have hqq : zRqv (zgI z 3 0 e) (zgI w 14 17 e) (zgI z 3 9 e) (zgI z 3 11 e) (zgI z 3 13 e) (zgI z 6 4 e) (zgI z 6 5 e) (zgI z 6 6 e) (zgI z 6 7 e) (zgI z 10 0 e) (zgI z 4 7 e) := h.2.2.2.2.2.2.2.2
  obtain ⟨h17, f7, f56⟩ := hqq.2.2.2.2.1 h11
  have hh : zEe z1 w1 e := zEe_ch (z := z) (w := w) (fun k j _ _ q q2 => I k j (by omega) q2) (fun k i _ => by rw [hz1]; rfl) (fun j q => J j (by omega)) (fun k i _ => by rw [hw1]; rfl) (by rw [I 3 9 (by omega) (by omega), J 28 (by omega)]; exact h.1.2.2.1) (by rw [i11, j30]) (by rw [I 3 12 (by omega) (by omega), J 31 (by omega)]; exact h.1.2.2.2.2.2.1) (by rw [I 3 13 (by omega) (by omega), J 32 (by omega)]; exact h.1.2.2.2.2.2.2.1) (by rw [I 3 13 (by omega) (by omega)]; exact h.1.2.2.2.2.2.2.2) (by rw [i6, j37]) (Or.inl i6) (by
    rw [I 3 9 (by omega) (by omega), i11, I 3 13 (by omega) (by omega)]
    obtain ⟨c1, c2, c3, c4, c5, c6, c7, c8, c9, c10, c11, c12⟩ := hqq
    exact ⟨c1, c2, c3, c4, fun y => absurd rfl y, c6, c7, c8, c9, c10, c11, c12⟩) h
  have r16 : zgR z1 3 16 e = some e := (ec.2.2.2.2 3 16 e).trans h16
  have r17 : zgR z1 3 17 e = some e := (ec.2.2.2.2 3 17 e).trans h17r
  have M1 : zMB w1 T E g K X TS TA := zMB_em hM em
  obtain ⟨⟨f4, f5, f6, f8, f81, f11, -⟩, o, nn, W, st, B, L, S, hO, ⟨q1, q2, q3, q4, q5, q6, q7, q8, q9⟩, ⟨r1, r2, r3, r4, r5, r6, r7⟩, ar⟩ := zRo_iff.mp hh.2.1
  obtain ⟨⟨p, p1, p2, p3⟩, -, -⟩ := zRz_n hh.2.2.2.2
  obtain ⟨B1, BL, SL, -, Bo, -, BS, -, SW⟩ := zOb_f hO q4
  have k6 : ∀ j, zgI z1 6 j e = zgI z 6 j e := fun j => I 6 j (by omega) (by omega)
  have o1 : 1 ≤ o := by
    refine Nat.pos_of_ne_zero (fun y => f7 ?_)
    rw [← k6, r5, y]; rfl
  have on : o < nn := by
    refine Nat.lt_of_le_of_ne q6 (fun y => f56 ?_)
    rw [← k6, ← k6, q1, q2, y]
  have Bo : B = o := Bo o1 (by omega)
  have hb : ¬ zgI z1 6 6 e = zgI z1 6 4 e := by rw [q2]; exact zo_nF (by omega) (by omega)
  obtain ⟨-, -, lS, -⟩ := zp_hasNew (N := N) hh.2.1 hb
  -- how much was sent
  have sE : (if nn = W + 1 then W else nn) = o + S := by
    by_cases c : nn = W + 1
    · rw [if_pos c]; have := SW (by omega); omega
    · rw [if_neg c]; have := BS (by omega) (by omega); omega
  obtain ⟨m, hm⟩ : ∃ m, m = if p < S then p else S := ⟨_, rfl⟩
  have mb : m ≤ S ∧ m ≤ 1460 := by rw [hm]; split <;> omega
  obtain ⟨lb, hlb⟩ : ∃ lb : Bool, lb = (decide (nn = W + 1) && decide (m = S)) := ⟨_, rfl⟩
  have n9 : zgI z1 6 9 e = zbi (decide (nn = W + 1)) := r6
  have h171 : zgI w1 14 17 e = 1 := (J 17 (by omega)).trans h17
  obtain ⟨z2, w2, s, a1, a2, a3, a4, -⟩ := zp_told (b := b) (N := N) (st := st) (f := 0) (m := m) (num := zgI z1 6 5 e) lb r16 r17 r1 r2 (by omega) mb.2 (fun i hi => by
    have x1 : tdX w1 e (zgI z1 6 5 e) i = (B - 1 + i) % 2048 := by
      unfold tdX
      rw [q1, ← f4, Int32.add_assoc, zo_add, zi_dif, zo_s1 (by omega), zun_of (by omega), show o + i - 1 = B - 1 + i from by omega]
    rw [x1, Nat.add_zero]
    exact ar i (by omega)) h171 M1 hX hW hTS hl hh hN
  have mu : zMsr z2 e < zMsr z e := by
    have k : ∀ k j, k = 3 ∨ k = 6 → ¬ (k = 3 ∧ j = 13) → ¬ (k = 3 ∧ j = 11) → zgI z2 k j e = zgI z k j e := fun k j hk q q2 => by rw [a4 k j (by omega), if_neg q]; exact I k j q2 (by omega)
    have t13 : zgI z2 3 13 e = 0 := by rw [a4 3 13 (by omega), if_pos ⟨rfl, rfl⟩]
    have t11 : zgI z2 3 11 e = 0 := by rw [a4 3 11 (by omega), if_neg (by omega)]; exact i11
    unfold zMsr
    rw [k 6 2 (by omega) (by omega) (by omega), k 6 3 (by omega) (by omega) (by omega), k 6 9 (by omega) (by omega) (by omega), k 3 5 (by omega) (by omega) (by omega), k 3 9 (by omega) (by omega) (by omega), k 3 12 (by omega) (by omega) (by omega), t13, t11, zb1_n h11, show zb1 (0 : Int32) = 0 from rfl]
    omega
  refine ⟨z2, w2, s, ?_, ?_, zMade_pre ec em mA a3, mu⟩
  · unfold fX3_makeAgain
    have q18 : zgR (zsI z 3 11 e 0) 3 18 e = some e := h18
    have cm : (if (zgI z1 3 2 e) < (zgI z1 6 3 e) then (zgI z1 3 2 e) else (zgI z1 6 3 e)) = Int32.ofNat m := by rw [p3, r4, zmin_of (by omega) (by omega), hm]
    have c64 : fX3_makeAgain_64 N e 0 (Int32.ofNat m) (zbi lb) z1 = some (0, z2) := by
      unfold fX3_makeAgain_64
      have a1 : fX3_makeBytes N e 0 (zgI z1 6 5 e) 0 (Int32.ofNat m) (zbi lb) z1 = some (0, z2) := a1
      rw [r16, zl_e, zd_e, a1, zc_e]
    rw [zl_e, q18, zl_e, zd_e, zl_e, ← hz1, r16, zl_e, zd_e, cm, zl_e, zl_e, zd_e, n9]
    unfold fX3_makeAgain_63
    by_cases c : nn = W + 1
    · rw [decide_eq_true c, if_neg (show ¬ zbi true = 0 by decide), zl_e, zd_e, r7, decide_eq_false (show ¬ o = W + 1 by omega), if_neg (show ¬ ¬ zbi false = 0 by decide), zl_e, zd_e, r4]
      by_cases d : m = S
      · rw [if_neg (fun y => y (by rw [d]))]
        rw [hlb, decide_eq_true c, decide_eq_true d] at c64
        exact c64
      · rw [if_pos (fun y => d ((zo_eq (by omega) (by omega)).mp y))]
        rw [hlb, decide_eq_false d, Bool.and_false] at c64
        exact c64
    · rw [decide_eq_false c, if_pos (show zbi false = 0 by decide)]
      rw [hlb, decide_eq_false c, Bool.false_and] at c64
      exact c64
  · rw [zl_e, zl_e, ← hw1, lS, zc_e, n9]
    have d9 : decide (zbi (decide (nn = W + 1)) = 1) = decide (nn = W + 1) := by cases decide (nn = W + 1) <;> rfl
    rw [d9]
    have m15 : zgI w1 14 15 e = Int32.ofNat p := hh.1.1.2.2.1.symm.trans p3
    have m107 : ∀ x : Nat, x = m → fX19_send_107 N 0 e (Int32.ofNat S) (Int32.ofNat x) w1 = some (Int32.ofNat s, w2) := fun x hx => by
      unfold fX19_send_107 fX19_send_126 fX19_send_127
      rw [hx, lS, zc_e, n9, d9, ← f5]
      by_cases c : nn = W + 1
      · rw [decide_eq_true c, if_neg (show ¬ zbi true = 0 by decide)]
        by_cases d : m = S
        · rw [if_neg (fun y => y (by rw [d]))]
          rw [hlb, decide_eq_true c, decide_eq_true d] at a2
          have a2 : fX19_toldBy N 0 e 2 (zgI z1 6 5 e) (Int32.ofNat m) w1 = some (Int32.ofNat s, w2) := a2
          rw [a2, zc_e]
        · rw [if_pos (fun y => d ((zo_eq (by omega) (by omega)).mp y))]
          rw [hlb, decide_eq_false d, Bool.and_false] at a2
          have a2 : fX19_toldBy N 0 e 0 (zgI z1 6 5 e) (Int32.ofNat m) w1 = some (Int32.ofNat s, w2) := a2
          rw [a2, zc_e]
      · rw [decide_eq_false c, if_pos (show zbi false = 0 by decide)]
        rw [hlb, decide_eq_false c, Bool.false_and] at a2
        have a2 : fX19_toldBy N 0 e 0 (zgI z1 6 5 e) (Int32.ofNat m) w1 = some (Int32.ofNat s, w2) := a2
        rw [a2, zc_e]
    have m85 : ∀ x : Int32, x - zgI w1 14 6 e = Int32.ofNat S → fX19_send_85 N 0 e x w1 = some (Int32.ofNat s, w2) := fun x hx => by
      unfold fX19_send_85
      rw [hx, zl_e, m15]
      by_cases c : p ≤ S
      · rw [if_pos (by rw [zo_le (by omega) (by omega)]; exact c)]
        exact m107 p (by rw [hm]; split <;> omega)
      · rw [if_neg (by rw [zo_le (by omega) (by omega)]; exact c)]
        exact m107 S (by rw [hm, if_neg (by omega)])
    by_cases c : nn = W + 1
    · rw [if_pos c] at sE
      rw [decide_eq_true c, if_neg (show ¬ zbi true = 0 by decide)]
      refine m85 _ ?_
      rw [q3, ← f5, q1, zi_dif, zo_sub (by omega), show W - o = S from by omega]
    · rw [if_neg c] at sE
      rw [decide_eq_false c, if_pos (show zbi false = 0 by decide)]
      refine m85 _ ?_
      rw [← f6, ← f5, q1, q2, zi_dif, zo_sub (by omega), show nn - o = S from by omega]
/-- a reset -/
theorem zp_reset {z w : St} {T : Tp} {E : Ev} {g : Sg} {K : Int32 → Int32 → Int32 → Prop} {X TS TA : List Nat} {e b N : Nat} (hM : zMB w T E g K X TS TA) (hX : X.length ≤ 40) (hW : ∀ q, tv T q → (gW g q).length ≤ 16) (hTS : TS.length ≤ 100) (hl : TS.length + TA.length ≤ 4000) (h : zEe z w e) (h5 : ¬ zgI z 3 5 e = 0) (hN : 1500 < N) :
    ∃ z' w' s, (zl (zsI z 3 5 e (0 : Int32)) fun z22 => zc (fX7_beginSegment N 0 (zgI z22 3 6 e) (zgI z22 3 7 e) (zgI z22 3 8 e) (0 : Int32) z22) fun _ z24 => some ((1 : Int32), z24)) = some (1, z') ∧ (zl (zsI w 14 24 e (0 : Int32)) fun z32 => zc (fX19_newSegment N 0 (zgI z32 14 25 e) (zgI z32 14 26 e) z32) fun r33 z34 => zc (fX19_setSeg N 0 r33 (4 : Int32) (zgI z34 14 27 e) z34) fun _ z38 => some (r33, z38)) = some (Int32.ofNat s, w') ∧ zMade z w z' w' T E g K X TS TA e b s ∧ zMsr z' e < zMsr z e := by
  obtain ⟨g6, g7, g8, g46⟩ := h.1.2.1.2 h5
  obtain ⟨z1, hz1⟩ : ∃ y, y = zsI z 3 5 e 0 := ⟨_, rfl⟩
  obtain ⟨w1, hw1⟩ : ∃ y, y = zsI w 14 24 e 0 := ⟨_, rfl⟩
  have I : ∀ k j, ¬ (k = 3 ∧ j = 5) → zgI z1 k j e = zgI z k j e := fun k j q => by rw [hz1, zgI_sI, if_neg (by omega)]
  have J : ∀ j, ¬ j = 24 → zgI w1 14 j e = zgI w 14 j e := fun j q => by rw [hw1, zgI_sI, if_neg (by omega)]
  have ec : zEc1 e z z1 := by rw [hz1]; exact zEc1_I (by simp)
  have em : zEm1 e w w1 := by rw [hw1]; exact zEm1_I
  have mA : ∀ k o i, zgA w1 k o i = zgA w k o i := fun k o i => by rw [hw1]; rfl
  have M1 : zMB w1 T E g K X TS TA := zMB_em hM em
  have len := zMB_len M1
  obtain ⟨fl, hfl⟩ : ∃ u, u = zgI z 3 6 e := ⟨_, rfl⟩
  have ffl : fl &&& (65535 : Int32) = fl := by rw [hfl]; rcases g46 with y | y <;> (rw [y]; decide)
  obtain ⟨z2, a1, a2, a3, a4⟩ := zc_beginSeg (z := z1) (b := b) (N := N) (fl := fl) (nu := zgI z 3 7 e) (th := zgI z 3 8 e) (wi := 0) (by omega) ffl (by decide) (fun _ => 0)
  obtain ⟨w2, s, b1, b2, b3', b3, b5, b6, b7, b8, b9, b10, b11, b12, b13⟩ := zm_newSg (N := N) fl (zgI z 3 7 e) M1.1 hX hW hTS (by omega) (by omega)
  obtain ⟨w3, hw3⟩ : ∃ y, y = zsA w2 174 0 (10 * s + 4) (zgI z 3 8 e) := ⟨_, rfl⟩
  have A3 : ∀ k o i, ¬ (k = 174 ∧ o = 0 ∧ 10 * s ≤ i ∧ i < 10 * s + 10) → zgA w3 k o i = zgA w2 k o i := fun k o i q => by rw [hw3, zgA_sA, if_neg (by omega)]
  have M3 : ∀ k, k < 10 → msg w3 s k = if k = 4 then zgI z 3 8 e else sgv fl (zgI z 3 7 e) k := fun k hk => by
    unfold msg
    rw [hw3, zgA_sA]
    by_cases c4 : k = 4
    · rw [if_pos ⟨rfl, rfl, by omega⟩, if_pos c4]
    · rw [if_neg (by omega), if_neg c4]; exact b6 k hk
  obtain ⟨p1, p2, p3⟩ := zm_rowSg (w' := w3) b3 b5 b2 A3 (by rw [M3 8 (by omega), b6 8 (by omega), if_neg (by omega)]) (fun k j o => by rw [hw3]; rfl) (fun k o i _ => by rw [hw3]; rfl) (fun k o i => by rw [hw3]; rfl) (fun k o i => by rw [hw3]; rfl)
  have i3 : ∀ k j o, ¬ (k = 19 ∧ j = 7) → zgI w3 k j o = zgI w1 k j o := fun k j o q => by rw [hw3]; exact b8 k j o q
  have z2I : ∀ k j, ¬ k = 7 → zgI z2 k j e = zgI z1 k j e := fun k j q => a3.1 k j e (by omega)
  have hE : zEe z2 w3 e := by
    have hh : zEe z1 w1 e := by
      obtain ⟨⟨⟨s1, s2, s3, s4, s5⟩, s6, s7⟩, ho, hi, ht, hnn⟩ := h
      refine ⟨⟨⟨?_, ?_, ?_, ?_, ?_⟩, ⟨?_, fun y => ?_⟩, ?_⟩, zRo_cg (fun j _ => I 6 j (by omega)) (fun i => by rw [hz1]; rfl) (fun j hj => J j (by omega)) (fun i => by rw [hw1]; rfl) ho, zRi_cg (fun j _ => I 4 j (by omega)) (fun k i _ => by rw [hz1]; rfl) (fun j hj => J j (by omega)) (fun k i _ => by rw [hw1]; rfl) hi, zRt_cg (fun j _ => I 10 j (by omega)) (fun j hj => J j (by omega)) ht, zRn_of (fun j hj => I 3 j (by omega)) (I 6 11 (by omega)) ?_ (zRq_eq (fun j hj => I 3 j (by omega)) (fun j hj => I 6 j (by omega)) (I 10 0 (by omega)) (I 4 7 (by omega)) (J 17 (by omega)) hnn.2.2.2.2) (zRz_n hnn)⟩
      · rw [I 3 0 (by omega), J 0 (by omega)]; exact s1
      · rw [I 3 1 (by omega), J 14 (by omega)]; exact s2
      · rw [I 3 2 (by omega), J 15 (by omega)]; exact s3
      · rw [I 3 3 (by omega), J 1 (by omega)]; exact s4
      · rw [I 3 0 (by omega), I 3 4 (by omega), J 43 (by omega)]; exact s5
      · rw [hz1, hw1, zgI_sI, zgI_sI, if_pos ⟨rfl, rfl, rfl⟩, if_pos ⟨rfl, rfl, rfl⟩]
      · rw [hz1, zgI_sI, if_pos ⟨rfl, rfl, rfl⟩] at y; exact absurd rfl y
      · rw [I 3 9 (by omega), I 3 10 (by omega), I 3 11 (by omega), I 3 12 (by omega), I 3 13 (by omega), J 28 (by omega), J 29 (by omega), J 30 (by omega), J 31 (by omega), J 32 (by omega)]; exact s7
      · rw [I 3 0 (by omega), I 6 6 (by omega), I 6 4 (by omega)]; exact hnn.1
    obtain ⟨hs, ho, hi, ht, hnn⟩ := hh
    have m3 : ∀ j, zgI w3 14 j e = zgI w1 14 j e := fun j => i3 14 j e (by omega)
    have wA : ∀ k i, k = 159 ∨ k = 160 ∨ k = 161 → zgA w3 k e i = zgA w1 k e i := fun k i hk => (A3 k e i (by omega)).trans (b9 k e i (by omega) (by omega))
    have zA : ∀ k i, ¬ k = 125 → zgA z2 k e i = zgA z1 k e i := fun k i q => a4 k e i (by omega)
    exact ⟨zRs_cg (fun j _ => z2I 3 j (by omega)) (fun j _ => m3 j) hs, zRo_cg (fun j _ => z2I 6 j (by omega)) (fun i => zA 124 i (by omega)) (fun j _ => m3 j) (fun i => wA 159 i (by omega)) ho, zRi_cg (fun j _ => z2I 4 j (by omega)) (fun k i hk => zA k i (by omega)) (fun j _ => m3 j) (fun k i hk => wA k i (by omega)) hi, zRt_cg (fun j _ => z2I 10 j (by omega)) (fun j _ => m3 j) ht, zRn_cg (fun j _ => z2I 3 j (by omega)) (z2I 6 11 (by omega)) (by rw [z2I 3 0 (by omega), z2I 6 6 (by omega), z2I 6 4 (by omega)]; exact hnn.1) (zRq_eq (fun j _ => z2I 3 j (by omega)) (fun j _ => z2I 6 j (by omega)) (z2I 10 0 (by omega)) (z2I 4 7 (by omega)) (m3 17) hnn.2.2.2.2) hnn⟩
  have vg : vgK (fl, zgI z 3 7 e, zgI z 3 8 e, (0 : Int32), (0 : Int32), 0, fun _ => (0 : Int32)) 1 = false := by
    unfold vgK vgF
    rw [hfl]
    rcases g46 with y | y
    · show decide (¬ zgI z 3 6 e &&& 1 = 0) = false
      rw [y]; decide
    · show decide (¬ zgI z 3 6 e &&& 1 = 0) = false
      rw [y]; decide
  refine ⟨z2, w3, s, ?_, ?_, ⟨hE, ⟨_, a2, ⟨b2, ⟨?_, ?_, ?_, ?_, ?_, ?_⟩, by show 0 ≤ 1460; omega, fun i hi => absurd hi (by show ¬ i < 0; omega)⟩, fun _ => ?_, fun y => ?_⟩, zMB_mv M1 p1 (fun j u _ => i3 14 j u (by omega)), b3', ?_, fun d D hd hD => p2 d D hd (b7 d D hd (zMD_bf (zBf_em em) hD)), zEk_tr (zEk_c ec) (zEk_d a3), zMdF_tr (zMdF_em em mA) ⟨fun k j o _ q => i3 k j o q, fun k o i q => (A3 k o i (by omega)).trans (b9 k o i (by omega) (by omega)), fun k o i _ => by rw [hw3]; exact b10 k o i, fun k o i => by rw [hw3]; exact b11 k o i, fun k o i => by rw [hw3]; exact b12 k o i⟩⟩, ?_⟩
  · rw [zl_e, ← hz1, I 3 6 (by omega), I 3 7 (by omega), I 3 8 (by omega), ← hfl, a1, zc_e]
  · have s4 : ∀ u x, fX19_setSeg N 0 (Int32.ofNat s) 4 x u = some (0, zsA u 174 0 (10 * s + 4) x) := fun u x => zm_setSg (k := 4) b2 (by omega)
    rw [zl_e, ← hw1, J 25 (by omega), J 26 (by omega), ← g6, ← g7, ← hfl, b1, zc_e, b8 14 27 e (by omega), J 27 (by omega), ← g8, s4, zc_e, ← hw3]
  · rw [M3 2 (by omega)]; rfl
  · rw [M3 3 (by omega)]; rfl
  · rw [M3 4 (by omega)]; rfl
  · rw [M3 5 (by omega)]; rfl
  · rw [M3 6 (by omega)]; rfl
  · rw [M3 7 (by omega)]; rfl
  · rw [M3 8 (by omega)]; rfl
  · rw [vg] at y; exact absurd y (by decide)
  · rw [A3 176 0 s (by omega)]; exact b5
  · have k : ∀ k j, k = 3 ∨ k = 6 → ¬ (k = 3 ∧ j = 5) → zgI z2 k j e = zgI z k j e := fun k j hk q => (z2I k j (by omega)).trans (I k j q)
    have t5 : zgI z2 3 5 e = 0 := by rw [z2I 3 5 (by omega), hz1, zgI_sI, if_pos ⟨rfl, rfl, rfl⟩]
    unfold zMsr
    rw [k 6 2 (by omega) (by omega), k 6 3 (by omega) (by omega), k 6 9 (by omega) (by omega), k 3 9 (by omega) (by omega), k 3 11 (by omega) (by omega), k 3 12 (by omega) (by omega), k 3 13 (by omega) (by omega), t5, zb1_n h5, show zb1 (0 : Int32) = 0 from rfl]
    omega
