/-! opens are sent; an end's next segment: both sides -/
theorem zp_makeOpen {z w : St} {T : Tp} {E : Ev} {g : Sg} {K : Int32 → Int32 → Int32 → Prop} {X TS TA : List Nat} {e b bk n N : Nat} (hn : n ≤ 400000) (hT : zgI w 19 24 0 = Int32.ofNat n) (h16 : zgR z 3 16 e = some e) (h17r : zgR z 3 17 e = some e) (h18 : zgR z 3 18 e = some e) (hM : zMB w T E g K X TS TA) (he : hEnd T e) (hbk : zgI w 14 44 e = Int32.ofNat bk) (hbk2 : bk < 2592) (hX : X.length ≤ 40) (hW : ∀ q, tv T q → (gW g q).length ≤ 16) (hTS : TS.length ≤ 100) (hl : TS.length + TA.length ≤ 4000) (h : zEe z w e) (h9 : ¬ zgI z 3 9 e = 0) (hN : 1500 < N) :
    ∃ z' w' s, fX3_makeOpen N e 0 (Int32.ofNat n) z = some (0, z') ∧ fX19_sendOpen N 0 e w = some (Int32.ofNat s, w') ∧ zMade z w z' w' T E g K X TS TA e b s ∧ zMsr z' e < zMsr z e := by
  have hqq : zRqv (zgI z 3 0 e) (zgI w 14 17 e) (zgI z 3 9 e) (zgI z 3 11 e) (zgI z 3 13 e) (zgI z 6 4 e) (zgI z 6 5 e) (zgI z 6 6 e) (zgI z 6 7 e) (zgI z 10 0 e) (zgI z 4 7 e) := h.2.2.2.2.2.2.2.2
  have hst : zgI z 3 0 e = 2 ∨ zgI z 3 0 e = 3 := hqq.2.2.2.1 h9
  obtain ⟨tt, htt⟩ : ∃ tt : Bool, tt = decide (zgI z 3 0 e = 3) := ⟨_, rfl⟩
  have h17 : zgI w 14 17 e = zbi tt := by
    rcases hst with y | y
    · rw [htt, y]; exact hqq.2.1 (Or.inr y)
    · rw [htt, y]; exact hqq.1 (by rw [y]; decide)
  have e13 : zgI z 3 13 e = zgI w 14 32 e := h.1.2.2.2.2.2.2.1
  have e131 : zgI z 3 13 e = 0 ∨ zgI z 3 13 e = 1 := h.1.2.2.2.2.2.2.2
  obtain ⟨-, ⟨l, l1, l2, l3⟩, -⟩ := zRz_n h.2.2.2.2
  -- what is due goes
  obtain ⟨z1, hz1⟩ : ∃ y, y = zsI z 3 9 e 0 := ⟨_, rfl⟩
  obtain ⟨w1, hw1⟩ : ∃ y, y = zsI w 14 28 e 0 := ⟨_, rfl⟩
  have I1 : ∀ k j, ¬ (k = 3 ∧ j = 9) → zgI z1 k j e = zgI z k j e := fun k j q => by rw [hz1, zgI_sI, if_neg (by omega)]
  have J1 : ∀ j, ¬ j = 28 → zgI w1 14 j e = zgI w 14 j e := fun j q => by rw [hw1, zgI_sI, if_neg (by omega)]
  have ec1 : zEc1 e z z1 := by rw [hz1]; exact zEc1_I (by simp)
  have em1 : zEm1 e w w1 := by rw [hw1]; exact zEm1_I
  have mA1 : ∀ k o i, zgA w1 k o i = zgA w k o i := fun k o i => by rw [hw1]; rfl
  have i9 : zgI z1 3 9 e = 0 := by rw [hz1, zgI_sI, if_pos ⟨rfl, rfl, rfl⟩]
  have j28 : zgI w1 14 28 e = 0 := by rw [hw1, zgI_sI, if_pos ⟨rfl, rfl, rfl⟩]
  have h1 : zEe z1 w1 e := zEe_ch (z := z) (w := w) (fun k j _ _ q _ => I1 k j (by omega)) (fun k i _ => by rw [hz1]; rfl) (fun j q => J1 j (by omega)) (fun k i _ => by rw [hw1]; rfl) (by rw [i9, j28]) (by rw [I1 3 11 (by omega), J1 30 (by omega)]; exact h.1.2.2.2.2.1) (by rw [I1 3 12 (by omega), J1 31 (by omega)]; exact h.1.2.2.2.2.2.1) (by rw [I1 3 13 (by omega), J1 32 (by omega)]; exact e13) (by rw [I1 3 13 (by omega)]; exact e131) (by rw [I1 10 6 (by omega), J1 37 (by omega)]; exact h.2.2.2.1.2.2.2.2.2.2.1) (Or.inr (I1 10 6 (by omega))) (by
    rw [i9, I1 3 11 (by omega), I1 3 13 (by omega)]
    obtain ⟨c1, c2, c3, c4, c5, c6, c7, c8, c9, c10, c11, c12⟩ := hqq
    exact ⟨c1, c2, c3, fun y => absurd rfl y, c5, c6, c7, c8, c9, c10, c11, c12⟩) h
  have M1 : zMB w1 T E g K X TS TA := zMB_em hM em1
  have len := zMB_len M1
  obtain ⟨R, r1, r2, r3⟩ := zRoom (N := N) h1.2.2.1
  -- the class's parcel
  obtain ⟨fl, hfl⟩ : ∃ u : Int32, u = if tt = true then 9 else 1 := ⟨_, rfl⟩
  obtain ⟨th, hth⟩ : ∃ u : Int32, u = if tt = true then zgI z 4 4 e else 0 := ⟨_, rfl⟩
  have ffl : fl &&& (65535 : Int32) = fl := by rw [hfl]; cases tt <;> decide
  obtain ⟨z2, a1, a2, a3, a4⟩ := zc_beginSeg (z := z1) (b := b) (N := N) (fl := fl) (nu := zgI z 6 4 e) (th := th) (wi := Int32.ofNat (2048 - R)) (by omega) ffl (zof_and (by omega)) (fun _ => 0)
  obtain ⟨z3, hz3⟩ : ∃ y, y = zsC z2 125 0 (p2 (zgA z2 125 0) 16 (Int32.ofNat l)) := ⟨_, rfl⟩
  obtain ⟨z4, hz4⟩ : ∃ y, y = if tt = true then zsI z3 3 13 e 0 else z3 := ⟨_, rfl⟩
  have kd3 : zKd b z1 z3 := by rw [hz3]; exact zKd_tr a3 zKd_C
  have ek4 : zEk e b z1 z4 := by
    rw [hz4]
    cases tt
    · exact zEk_d kd3
    · exact zEk_tr (zEk_d kd3) (zEk_c (zEc1_I (by simp)))
  have I4 : ∀ k j, ¬ k = 7 → zgI z4 k j e = if k = 3 ∧ j = 13 ∧ tt = true then 0 else zgI z1 k j e := fun k j q => by
    have b3 : zgI z3 k j e = zgI z1 k j e := kd3.1 k j e (by omega)
    rw [hz4]
    cases tt
    · rw [if_neg (by decide), if_neg (by simp)]; exact b3
    · rw [if_pos rfl, zgI_sI]
      by_cases c : k = 3 ∧ j = 13
      · rw [if_pos ⟨c.1, c.2, rfl⟩, if_pos ⟨c.1, c.2, rfl⟩]
      · rw [if_neg (by omega), if_neg (fun y => c ⟨y.1, y.2.1⟩)]; exact b3
  have A4 : ∀ k i, ¬ k = 125 → zgA z4 k e i = zgA z1 k e i := fun k i q => by
    have b3 : zgA z3 k e i = zgA z1 k e i := by rw [hz3, zgA_sC, if_neg (by omega)]; exact a4 k e i (by omega)
    rw [hz4]
    cases tt
    · exact b3
    · exact b3
  have md4 : zMdC z4 (fl, zgI z 6 4 e, th, Int32.ofNat (2048 - R), Int32.ofNat l, 0, fun _ => 0) := by
    obtain ⟨⟨x1, x2, x3, x4, x5, x6, x7⟩, ⟨y1, y2, y3, y4, y5⟩, -, -⟩ := a2
    have m3 : zMdC z3 (fl, zgI z 6 4 e, th, Int32.ofNat (2048 - R), Int32.ofNat l, 0, fun _ => 0) := by
      refine ⟨?_, ?_, by show 0 ≤ 1460; omega, fun i hi => absurd hi (by show ¬ i < 0; omega)⟩
      · rw [hz3]; exact ⟨x1, x2, x3, x4, x5, x6, x7⟩
      · rw [hz3, zgA_sCs]
        refine ⟨?_, ?_, ?_, ?_, ?_⟩
        · rw [g2_o2 _ _ (by omega)]; exact y1
        · rw [g4_o2 _ _ (by omega)]; exact y2
        · rw [g4_o2 _ _ (by omega)]; exact y3
        · rw [g2_o2 _ _ (by omega)]; exact y4
        · rw [g2_p2]; exact zof_and (by omega)
    rw [hz4]
    cases tt
    · exact m3
    · exact zMdC_ec (zEc1_I (e := e) (by simp)) m3
  -- the model's segment
  obtain ⟨w2, s, b1, b2, b3, b4, b5, b6, b7, b8, b9, b10, b11⟩ := zm_toldBy (e := e) (m := 0) (R := R) (N := N) 1 (zgI w 14 5 e) M1.1 hX hW hTS (by omega) (by omega) r1 r3 hN
  rw [J1 17 (by omega), h17] at b5 b8
  have hs2 : s < 2400 := b5.1
  obtain ⟨w3, hw3⟩ : ∃ y, y = zsA (zsA (zsA w2 174 0 (10 * s + 6) (Int32.ofNat l)) 174 0 (10 * s + 8) (Int32.ofNat bk)) 174 0 (10 * s + 9) (zgA w 184 0 bk) := ⟨_, rfl⟩
  obtain ⟨w4, hw4⟩ : ∃ y, y = zsA w3 183 0 bk (zgA w3 183 0 bk + 1) := ⟨_, rfl⟩
  have A43 : ∀ k o i, ¬ (k = 174 ∧ o = 0 ∧ 10 * s ≤ i ∧ i < 10 * s + 10) → ¬ (k = 183 ∧ o = 0 ∧ i = bk) → zgA w4 k o i = zgA w2 k o i := fun k o i q q2 => by
    rw [hw4, zgA_sA, if_neg q2, hw3, zgA_sA, zgA_sA, zgA_sA, if_neg (by omega), if_neg (by omega), if_neg (by omega)]
  have M4 : ∀ k, k < 10 → msg w4 s k = if k = 9 then zgA w 184 0 bk else if k = 8 then Int32.ofNat bk else if k = 6 then Int32.ofNat l else msg w2 s k := fun k hk => by
    unfold msg
    rw [hw4, zgA_sA, if_neg (by omega), hw3, zgA_sA, zgA_sA, zgA_sA]
    by_cases c9 : k = 9
    · rw [if_pos ⟨rfl, rfl, by omega⟩, if_pos c9]
    · rw [if_neg (by omega), if_neg c9]
      by_cases c8 : k = 8
      · rw [if_pos ⟨rfl, rfl, by omega⟩, if_pos c8]
      · rw [if_neg (by omega), if_neg c8]
        by_cases c6 : k = 6
        · rw [if_pos ⟨rfl, rfl, by omega⟩, if_pos c6]
        · rw [if_neg (by omega), if_neg c6]
  have j44 : zgI w1 14 44 e = Int32.ofNat bk := (J1 44 (by omega)).trans hbk
  have hbT : bk ∈ zTB w1 T := by
    obtain ⟨R', pR, -, -⟩ := zTB_at (w := w1) he.1 he.2
    refine pR.mem_iff.mpr (List.mem_append.mpr (Or.inl ?_))
    unfold bk2
    rw [j44, bk1_o hbk2]
    exact List.mem_append.mpr (Or.inl (List.mem_singleton.mpr rfl))
  have h183 : zgA w4 183 0 bk = zgA w2 183 0 bk + 1 := by
    have : zgA w3 183 0 bk = zgA w2 183 0 bk := by rw [hw3, zgA_sA, zgA_sA, zgA_sA, if_neg (by omega), if_neg (by omega), if_neg (by omega)]
    rw [hw4, zgA_sA, if_pos ⟨rfl, rfl, rfl⟩, this]
  obtain ⟨q1, q2, q3⟩ := zm_bookSg (w' := w4) b3 b4 hs2 hbk2 hbT A43 b6 (by rw [M4 8 (by omega), if_neg (by omega), if_pos rfl]) h183 (fun k j o => by rw [hw4, hw3]; rfl) (fun k o i => by rw [hw4, hw3]; rfl) (fun k o i => by rw [hw4, hw3]; rfl) (fun k o i => by rw [hw4, hw3]; rfl)
  have I42 : ∀ k j o, zgI w4 k j o = zgI w2 k j o := fun k j o => by rw [hw4, hw3]; rfl
  have v32 : (if zbi tt = 0 then (if zgI w1 14 32 e = 0 then (0 : Int32) else 1) else 0) = if tt = true then 0 else zgI z 3 13 e := by
    rw [J1 32 (by omega), ← e13]
    cases tt
    · rw [if_pos (show zbi false = 0 by decide), if_neg (show ¬ false = true by decide)]
      rcases e131 with y | y
      · rw [if_pos y, y]
      · rw [if_neg (by rw [y]; decide), y]
    · rw [if_neg (show ¬ zbi true = 0 by decide), if_pos rfl]
  have J4 : ∀ j, zgI w4 14 j e = if j = 32 then (if tt = true then 0 else zgI z 3 13 e) else zgI w1 14 j e := fun j => by
    rw [I42, b8 14 j e (by omega), v32]
    by_cases c : j = 32
    · rw [if_pos c, if_pos ⟨rfl, c, rfl⟩]
    · rw [if_neg c, if_neg (fun y => c y.2.1)]
  have c13 : zgI z4 3 13 e = if tt = true then 0 else zgI z 3 13 e := by
    rw [I4 3 13 (by omega)]
    cases tt
    · rw [if_neg (by simp), if_neg (by decide)]; exact I1 3 13 (by omega)
    · rw [if_pos ⟨rfl, rfl, rfl⟩, if_pos rfl]
  have h4 : zEe z4 w4 e := zEe_ch (z := z1) (w := w1) (fun k j hk _ q _ => by rw [I4 k j (by omega), if_neg (by omega)]) (fun k i hk => A4 k i (by omega)) (fun j q => by rw [J4, if_neg (by omega)]) (fun k i hk => (A43 k e i (by omega) (by omega)).trans (b9 k e i (by omega))) (by rw [I4 3 9 (by omega), if_neg (by omega), J4, if_neg (by omega), i9, j28]) (by rw [I4 3 11 (by omega), if_neg (by omega), J4, if_neg (by omega)]; exact h1.1.2.2.2.2.1) (by rw [I4 3 12 (by omega), if_neg (by omega), J4, if_neg (by omega)]; exact h1.1.2.2.2.2.2.1) (by rw [c13, J4, if_pos rfl]) (by
    rw [c13]
    cases tt
    · rw [if_neg (by decide)]; exact e131
    · rw [if_pos rfl]; exact Or.inl rfl) (by rw [I4 10 6 (by omega), if_neg (by omega), J4, if_neg (by omega)]; exact h1.2.2.2.1.2.2.2.2.2.2.1) (Or.inr (by rw [I4 10 6 (by omega), if_neg (by omega)])) (by
    have hq1 := h1.2.2.2.2.2.2.2.2
    unfold zRq at hq1
    rw [I4 3 9 (by omega), if_neg (by omega), I4 3 11 (by omega), if_neg (by omega), c13]
    obtain ⟨c1, c2, c3, c4, c5, c6, c7, c8, c9, c10, c11, c12⟩ := hq1
    refine ⟨c1, c2, fun y => ?_, c4, c5, c6, c7, c8, c9, c10, c11, c12⟩
    revert y
    cases tt
    · rw [if_neg (by decide)]
      intro y
      exact c3 (by rw [I1 3 13 (by omega)]; exact y)
    · rw [if_pos rfl]; intro y; exact absurd rfl y) h1
  have M4B : zMB w4 T E g K X (s :: TS) TA := zMB_mv M1 q1 (fun j u hj => by rw [I42, b8 14 j u (by omega), if_neg (by omega)])
  have now4 : zgI w4 19 24 0 = Int32.ofNat n := by rw [I42, b8 19 24 0 (by omega), if_neg (by omega), em1.1 19 24 0 (by omega)]; exact hT
  have hz4s : zgI z4 3 0 e = zgI z 3 0 e := by rw [I4 3 0 (by omega), if_neg (by omega)]; exact I1 3 0 (by omega)
  obtain ⟨z5, w5, t1, t2, t3, t4, t5, t6, t7⟩ := zp_opT (z := z4) (w := w4) (N := N) (Int32.ofNat s) hn now4 ((ek4.2.2.2.2 3 16 e).trans ((ec1.2.2.2.2 3 16 e).trans h16)) ((ek4.2.2.2.2 3 18 e).trans ((ec1.2.2.2.2 3 18 e).trans h18)) (by rw [hz4s]; exact hst) h4
  have made4 : zMade z1 w1 z4 w4 T E g K X TS TA e b s := by
    refine ⟨h4, ⟨_, md4, ⟨hs2, ⟨?_, ?_, ?_, ?_, ?_, ?_⟩, by show 0 ≤ 1460; omega, fun i hi => absurd hi (by show ¬ i < 0; omega)⟩, fun y => ?_, fun _ => ⟨?_, ?_⟩⟩, M4B, b2, ?_, fun d D hd hD => q2 d D hd (b7 d D hd hD), ek4, ⟨fun k j o n1 n2 => ?_, fun k o i n => (A43 k o i (by omega) (by omega)).trans (b9 k o i (by omega)), fun k o i n => ?_, fun k o i => ?_, fun k o i => ?_⟩⟩
    · rw [M4 2 (by omega), if_neg (by omega), if_neg (by omega), if_neg (by omega), b5.2.1.1, hfl]
      cases tt
      · show (if zbi false = 0 then (1 : Int32) else 1 ||| 8) = (if false = true then 9 else 1); decide
      · show (if zbi true = 0 then (1 : Int32) else 1 ||| 8) = (if true = true then 9 else 1); decide
    · rw [M4 3 (by omega), if_neg (by omega), if_neg (by omega), if_neg (by omega), b5.2.1.2.1]
      exact h.2.1.1.1.symm
    · rw [M4 4 (by omega), if_neg (by omega), if_neg (by omega), if_neg (by omega), b5.2.1.2.2.1, hth]
      show (if zbi tt = 0 then (0 : Int32) else zgI w1 14 16 e) = _
      rw [J1 16 (by omega), ← h.2.2.1.1.1]
      cases tt
      · rw [if_pos (show zbi false = 0 by decide), if_neg (show ¬ false = true by decide)]; rfl
      · rw [if_neg (show ¬ zbi true = 0 by decide), if_pos rfl]; rfl
    · rw [M4 5 (by omega), if_neg (by omega), if_neg (by omega), if_neg (by omega), b5.2.1.2.2.2.1]; rfl
    · rw [M4 6 (by omega), if_neg (by omega), if_neg (by omega), if_pos rfl]; rfl
    · rw [M4 7 (by omega), if_neg (by omega), if_neg (by omega), if_neg (by omega), b5.2.1.2.2.2.2.2]; rfl
    · exfalso
      unfold vgK vgF at y
      rw [hfl] at y
      cases tt
      · exact absurd (show decide (¬ (1 : Int32) &&& 1 = 0) = false from y) (by decide)
      · exact absurd (show decide (¬ (9 : Int32) &&& 1 = 0) = false from y) (by decide)
    · rw [M4 8 (by omega), if_neg (by omega), if_pos rfl, J4, if_neg (by omega), j44]
    · rw [M4 9 (by omega), if_pos rfl, J4, if_neg (by omega), j44, zoC (by omega), A43 184 0 bk (by omega) (by omega), b9 184 0 bk (by omega), mA1]
    · rw [A43 176 0 s (by omega) (by omega)]; exact b4
    · rw [I42, b8 k j o n2, if_neg (by omega)]
    · rw [hw4, hw3]; exact b11 k o i n
    · rw [hw4, hw3]; exact b10.2.2.2.1 k o i
    · rw [hw4, hw3]; exact b10.2.2.2.2 k o i
  have mu : zMsr z5 e < zMsr z e := by
    have k : ∀ k j, k = 6 ∨ (k = 3 ∧ ¬ j = 10) → ¬ (k = 3 ∧ j = 13) → ¬ (k = 3 ∧ j = 9) → zgI z5 k j e = zgI z k j e := fun k j hk q q2 => by
      rw [t7 k j hk, I4 k j (by omega), if_neg (by omega)]; exact I1 k j q2
    have t9 : zgI z5 3 9 e = 0 := by rw [t7 3 9 (by omega), I4 3 9 (by omega), if_neg (by omega)]; exact i9
    have t13 : zgI z5 3 13 e = 0 ∨ zgI z5 3 13 e = zgI z 3 13 e := by
      rw [t7 3 13 (by omega), c13]
      cases tt
      · exact Or.inr (if_neg (by decide))
      · exact Or.inl (if_pos rfl)
    have le13 := zb1_0 t13
    unfold zMsr
    rw [k 6 2 (by omega) (by omega) (by omega), k 6 3 (by omega) (by omega) (by omega), k 6 9 (by omega) (by omega) (by omega), k 3 5 (by omega) (by omega) (by omega), k 3 11 (by omega) (by omega) (by omega), k 3 12 (by omega) (by omega) (by omega), t9, zb1_n h9, show zb1 (0 : Int32) = 0 from rfl]
    omega
  refine ⟨z5, w5, s, ?_, ?_, zMade_pre ec1 em1 mA1 (zMade_go made4 t4 t5 t6 t3), mu⟩
  · have rm : fX4_room N e z1 = some (Int32.ofNat (2048 - R), z1) := by
      unfold fX4_room
      rw [r2, show (2048 : Int32) = Int32.ofNat 2048 from rfl, zo_sub r1]
    have r16 : zgR z1 3 16 e = some e := (ec1.2.2.2.2 3 16 e).trans h16
    have r17 : zgR z1 3 17 e = some e := (ec1.2.2.2.2 3 17 e).trans h17r
    have c52 : ∀ x3 : Int32, x3 = zbi tt → fX3_makeOpen_52 N e 0 (Int32.ofNat n) x3 0 fl (zgI z 6 4 e) th z1 = some (0, z5) := fun x3 hx3 => by
      unfold fX3_makeOpen_52
      have q31 : zgI z2 3 1 e = Int32.ofNat l := by rw [a3.1 3 1 e (by omega), I1 3 1 (by omega)]; exact l3
      have p16 : fX7_put2 N 0 16 (Int32.ofNat l) z2 = some (0, z3) := by rw [hz3]; exact zc_put2 (i := 16) (by omega)
      rw [r17, zl_e, zd_e, rm, zc_e, a1, zc_e, q31, p16, zc_e, hx3]
      cases tt
      · rw [if_pos (show zbi false = 0 by decide)]
        rw [if_neg (by decide)] at hz4
        rw [← hz4]; exact t1
      · rw [if_neg (show ¬ zbi true = 0 by decide), zl_e]
        rw [if_pos rfl] at hz4
        rw [← hz4]; exact t1
    have k64 : zgI z1 6 4 e = zgI z 6 4 e := I1 6 4 (by omega)
    have k44 : zgI z1 4 4 e = zgI z 4 4 e := I1 4 4 (by omega)
    unfold fX3_makeOpen fX3_makeOpen_13 fX3_makeOpen_30
    by_cases c : zgI z 3 0 e = 3
    · have ht1 : tt = true := by rw [htt]; exact decide_eq_true c
      rw [ht1, if_pos rfl] at hfl hth
      rw [if_neg (fun y => y c), zl_e, ← hz1, if_neg (by decide), r16, zl_e, zd_e, if_neg (by decide), r17, zl_e, zd_e, k64, k44]
      have c := c52 1 (by rw [ht1]; rfl)
      rw [hfl, hth] at c
      exact c
    · have ht0 : tt = false := by rw [htt]; exact decide_eq_false c
      rw [ht0, if_neg (by decide)] at hfl hth
      rw [if_pos c, zl_e, ← hz1, if_pos rfl, r16, zl_e, zd_e, if_pos rfl, k64]
      have c := c52 0 (by rw [ht0]; rfl)
      rw [hfl, hth] at c
      exact c
  · unfold fX19_sendOpen
    have s6 : ∀ u x, fX19_setSeg N 0 (Int32.ofNat s) 6 x u = some (0, zsA u 174 0 (10 * s + 6) x) := fun u x => zm_setSg (k := 6) hs2 (by omega)
    have s8 : ∀ u x, fX19_setSeg N 0 (Int32.ofNat s) 8 x u = some (0, zsA u 174 0 (10 * s + 8) x) := fun u x => zm_setSg (k := 8) hs2 (by omega)
    have s9 : ∀ u x, fX19_setSeg N 0 (Int32.ofNat s) 9 x u = some (0, zsA u 174 0 (10 * s + 9) x) := fun u x => zm_setSg (k := 9) hs2 (by omega)
    have q14 : zgI w2 14 14 e = Int32.ofNat l := by rw [b8 14 14 e (by omega), if_neg (by omega), J1 14 (by omega)]; exact h.1.1.2.1.symm.trans l3
    have q44 : ∀ u : St, (∀ j, zgI u 14 j e = zgI w2 14 j e) → zgI u 14 44 e = Int32.ofNat bk := fun u hu => by rw [hu, b8 14 44 e (by omega), if_neg (by omega)]; exact j44
    have q184 : zgA (zsA (zsA w2 174 0 (10 * s + 6) (Int32.ofNat l)) 174 0 (10 * s + 8) (Int32.ofNat bk)) 184 0 bk = zgA w 184 0 bk := by
      rw [zgA_sA, zgA_sA, if_neg (by omega), if_neg (by omega), b9 184 0 bk (by omega), mA1]
    have b1 : fX19_toldBy N 0 e 1 (zgI w 14 5 e) 0 w1 = some (Int32.ofNat s, w2) := b1
    have q5 : zgI w1 14 5 e = zgI w 14 5 e := J1 5 (by omega)
    rw [zl_e, ← hw1, q5, b1, zc_e, q14, s6, zc_e, q44 (zsA w2 174 0 (10 * s + 6) (Int32.ofNat l)) (fun _ => rfl), s8, zc_e, q44 (zsA (zsA w2 174 0 (10 * s + 6) (Int32.ofNat l)) 174 0 (10 * s + 8) (Int32.ofNat bk)) (fun _ => rfl), zkk hbk2 (by omega), zoC (by omega), q184, s9, zc_e, ← hw3, q44 w3 (fun j => by rw [hw3]; rfl), zkk hbk2 (by omega), zkk hbk2 (by omega), zoC (by omega), zl_e, ← hw4]
    exact t2
/-- an end's next segment -/
theorem zp_next {z w : St} {T : Tp} {E : Ev} {g : Sg} {K : Int32 → Int32 → Int32 → Prop} {X TS TA : List Nat} {e b bk n N : Nat} (hn : n ≤ 400000) (hT : zgI w 19 24 0 = Int32.ofNat n) (h16 : zgR z 3 16 e = some e) (h17r : zgR z 3 17 e = some e) (h18 : zgR z 3 18 e = some e) (hM : zMB w T E g K X TS TA) (he : hEnd T e) (hbk : zgI w 14 44 e = Int32.ofNat bk) (hbk2 : bk < 2592) (hX : X.length ≤ 40) (hW : ∀ q, tv T q → (gW g q).length ≤ 16) (hTS : TS.length ≤ 100) (hl : TS.length + TA.length ≤ 4000) (h : zEe z w e) (hN : 1500 < N) :
    zNx z w T E g K X TS TA e b (fX3_makeNext N e 0 (Int32.ofNat n) z) (fX19_send N 0 e w) := by
  have hs := h.1
  unfold fX3_makeNext fX19_send
  rw [← hs.2.1.1, ← hs.2.2.1, ← hs.2.2.2.2.1]
  by_cases c5 : zgI z 3 5 e = 0
  · rw [if_pos c5, if_pos c5]
    by_cases c9 : zgI z 3 9 e = 0
    · rw [if_pos c9, if_pos c9]
      by_cases c11 : zgI z 3 11 e = 0
      · rw [if_pos c11, if_pos c11, zc_sendsNew, zc_e]
        have pr := zp_probe (b := b) (N := N) hn hT h16 h17r h18 hM hX hW hTS hl h c11 hN
        by_cases k1 : stN (zgI z 3 0 e) = true
        · rw [k1, if_neg (show ¬ zbi true = 0 by decide)]
          rcases zp_makeNew (b := b) (N := N) hn hT h16 h17r h18 hM hX hW hTS hl h (of_decide_eq_true k1) c11 hN with ⟨a1, a2⟩ | ⟨z', w', s, a1, a2, a3, a4⟩
          · rw [a1, zc_e, if_pos rfl, a2, zc_e, if_pos rfl]; exact pr
          · have sl : s < 2400 := by obtain ⟨-, ⟨V, -, y, -⟩, -⟩ := a3; exact y.1
            rw [a1, zc_e, if_neg (by decide), a2, zc_e, if_neg (zo_ne1 (by omega))]
            exact Or.inr ⟨z', w', s, rfl, rfl, a3, a4⟩
        · have k1' : stN (zgI z 3 0 e) = false := by simpa using k1
          have hN0 : fX14_hasNew N e w = some (0, w) := by
            unfold fX14_hasNew
            rw [zm_sendsNew, ← hs.1.1, k1', zc_e, if_pos (by rfl)]
          have sn : fX19_sendNew N 0 e w = some (-1, w) := by
            unfold fX19_sendNew
            rw [zl_e, hN0, zc_e, if_pos rfl]
          rw [k1', if_pos (show zbi false = 0 by decide), sn, zc_e, if_pos rfl]
          exact pr
      · rw [if_neg c11, if_neg c11]
        obtain ⟨z', w', s, a1, a2, a3, a4⟩ := zp_again (b := b) (N := N) h16 h17r h18 hM hX hW hTS hl h c11 hN
        rw [a1, zc_e]
        exact Or.inr ⟨z', w', s, rfl, a2, a3, a4⟩
    · rw [if_neg c9, if_neg c9]
      obtain ⟨z', w', s, a1, a2, a3, a4⟩ := zp_makeOpen (b := b) (N := N) hn hT h16 h17r h18 hM he hbk hbk2 hX hW hTS hl h c9 hN
      rw [a1, zc_e, a2, zc_e]
      exact Or.inr ⟨z', w', s, rfl, rfl, a3, a4⟩
  · rw [if_neg c5, if_neg c5]
    obtain ⟨z', w', s, a1, a2, a3, a4⟩ := zp_reset (b := b) (N := N) hM hX hW hTS hl h c5 hN
    exact Or.inr ⟨z', w', s, a1, a2, a3, a4⟩
