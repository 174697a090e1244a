/-! ends, both sides: what follows when a segment is looked at -/
theorem zo_inj {F : Int32} {a b : Nat} (ha : a < 2147483648) (hb : b < 2147483648) (h : F + Int32.ofNat a = F + Int32.ofNat b) : a = b := by
  have e := zi_dif F (Int32.ofNat a) (Int32.ofNat b)
  rw [h] at e
  have e2 : Int32.ofNat a = Int32.ofNat b := by
    have z0 : (F + Int32.ofNat b) - (F + Int32.ofNat b) = 0 := by rw [← Int32.toBitVec_inj]; simp
    rw [z0] at e
    have := congrArg (fun v => v + Int32.ofNat b) e
    rw [← Int32.toBitVec_inj] at this
    simp only [Int32.toBitVec_sub, Int32.toBitVec_add, BitVec.sub_add_cancel] at this
    rw [← Int32.toBitVec_inj, ← this]
    simp
  have := congrArg Int32.toInt e2
  rw [zoI ha, zoI hb] at this
  omega
theorem zbf_th {z w : St} {e : Nat} {x : Int32} (h : zRo z w e) (h1 : zbf (zgI z 6 5 e) x = true) (h2 : zbf (zgI z 6 6 e) x = false) : ∃ o', x = zgI z 6 4 e + Int32.ofNat o' ∧ ∀ o n, zgI z 6 5 e = zgI z 6 4 e + Int32.ofNat o → zgI z 6 6 e = zgI z 6 4 e + Int32.ofNat n → o ≤ n → n ≤ 1100001 → o < o' ∧ o' ≤ n := by
  obtain ⟨-, o, n, W, st, ⟨q1, q2, q3, q4, q5, q6, q7, q8, q9⟩, -⟩ := h
  unfold zbf at h1 h2
  have h1 := of_decide_eq_true h1
  have h2 : x - zgI z 6 6 e ≤ 0 := Decidable.byContradiction (fun y => by rw [decide_eq_true y] at h2; exact absurd h2 (by decide))
  obtain ⟨d, hd⟩ : ∃ u, u = x - zgI z 6 5 e := ⟨_, rfl⟩
  rw [← hd] at h1
  have d1 : 0 < d.toInt := by
    rw [Int32.not_le] at h1
    exact Int32.lt_iff_toInt_lt.mp h1
  have e6 : x - zgI z 6 6 e = d - Int32.ofNat (n - o) := by
    have xd : x = zgI z 6 4 e + (Int32.ofNat o + d) := by rw [zi_back hd.symm, q1, Int32.add_assoc]
    have hn : Int32.ofNat n = Int32.ofNat o + Int32.ofNat (n - o) := by rw [zo_add, show o + (n - o) = n from by omega]
    rw [xd, q2, zi_dif, hn, zi_dif]
  rw [e6] at h2
  have h2 := Int32.le_iff_toInt_le.mp h2
  rw [Int32.toInt_sub, zoI (by omega)] at h2
  have lt := Int32.toInt_lt d
  have e0 : (0 : Int32).toInt = 0 := rfl
  rw [e0, Int.bmod_def] at h2
  have le : d.toInt ≤ (n - o : Nat) := by
    split at h2 <;> omega
  refine ⟨o + d.toInt.toNat, ?_, fun o2 n2 p1 p2 p3 p4 => ?_⟩
  · have dd : d = Int32.ofNat d.toInt.toNat := by rw [← Int32.toInt_inj, zoI (by omega)]; omega
    rw [zi_back hd.symm, q1, Int32.add_assoc, ← zo_add, ← dd]
  · have a1 : o2 = o := zo_inj (by omega) (by omega) (p1.symm.trans q1)
    have a2 : n2 = n := zo_inj (by omega) (by omega) (p2.symm.trans q2)
    omega
theorem zRqv_t0 {s h a9 a11 a13 f4 f5 f6 f7 t0 o7 : Int32} {t : Int32} (hs : ¬ t = 0 → ¬ t0 = 0) (q : zRqv s h a9 a11 a13 f4 f5 f6 f7 t0 o7) : zRqv s h a9 a11 a13 f4 f5 f6 f7 t o7 := by
  obtain ⟨c1, c2, c3, c4, c5, c6, c7, c8, c9, c10, c11, c12⟩ := q
  exact ⟨c1, c2, c3, c4, c5, c6, c7, c8, c9, c10, fun y => c11 (hs y), c12⟩
/-- behind a thanking for something new -/
theorem zRqv_tk {s h a9 a11 a13 f4 f5 f6 f7 t0 o7 : Int32} {f5' f7' t : Int32} (hs : ¬ (s = 0 ∨ s = 1 ∨ s = 2 ∨ s = 3 ∨ s = 11)) (h6 : ¬ (s = 6 ∨ s = 10)) (h7 : ¬ f7' = 0) (q : zRqv s h a9 a11 a13 f4 f5 f6 f7 t0 o7) : zRqv s h a9 0 a13 f4 f5' f6 f7' t o7 := by
  obtain ⟨c1, c2, c3, c4, c5, c6, c7, c8, c9, c10, c11, c12⟩ := q
  refine ⟨c1, c2, c3, c4, fun y => absurd rfl y, fun _ => h7, fun y => ?_, c8, c9, fun y => absurd y h6, fun _ y => ?_, c12⟩
  · rcases y with y | y | y
    · exact absurd (Or.inr (Or.inl y)) hs
    · exact absurd (Or.inr (Or.inr (Or.inl y))) hs
    · exact absurd (Or.inr (Or.inr (Or.inr (Or.inl y)))) hs
  · rcases y with y | y | y | y
    · exact hs (Or.inl y)
    · exact hs (Or.inr (Or.inl y))
    · exact h6 (Or.inr y)
    · exact hs (Or.inr (Or.inr (Or.inr (Or.inr y))))
theorem zp_rest {z w : St} {e x s n N : Nat} {V : Sv} (hn : n ≤ 400000) (hT : zgI w 19 24 0 = Int32.ofNat n) (h16 : zgR z 3 16 e = some e) (h17r : zgR z 3 17 e = some e) (h18 : zgR z 3 18 e = some e) (hV : zSgC z x V) (hVm : zSgM w s V) (hW : ∃ v : Nat, v ≤ 65535 ∧ vgW V = Int32.ofNat v) (hst : ¬ (zgI z 3 0 e = 0 ∨ zgI z 3 0 e = 1 ∨ zgI z 3 0 e = 2 ∨ zgI z 3 0 e = 3 ∨ zgI z 3 0 e = 11)) (hN : 4096 < N) (hs : zRs z w e) (ho : zRo z w e) (hi : zRi z w e) (ht : zRt z w e) (hz : zRz z e) (hb : ¬ zgI z 6 6 e = zgI z 6 4 e)
    (hq : zRqv (zgI z 3 0 e) (zgI w 14 17 e) (zgI z 3 9 e) (zgI z 3 11 e) (zgI z 3 13 e) (zgI z 6 4 e) (zgI z 6 5 e) (zgI z 6 6 e) 1 (zgI z 10 0 e) (zgI z 4 7 e)) (hf : ¬ zgI z 6 7 e = 0 ∨ zbf (zgI z 6 5 e) (vgT V) = true) (hle : zbf (zgI z 6 6 e) (vgT V) = false) :
    ∃ z' w', fX3_takeRest N e x (Int32.ofNat n) z = some (0, z') ∧ fX19_arrives_300 N 0 e (Int32.ofNat s) w = some (0, w') ∧ zEe z' w' e ∧ zEc1 e z z' ∧ zEm1 e w w' := by
  -- the thanks
  obtain ⟨z1, w1, c1, m1, hs1, ho1, hi1, ht1, C1, A1, ec1, D1, B1, em1, q1⟩ : ∃ z1 w1, fX3_takeRest N e x (Int32.ofNat n) z = fX3_takeRest_25 N e x (Int32.ofNat n) (vgT V) z1 ∧ fX19_arriveThanks N 0 e (Int32.ofNat s) w = fX19_arriveThanks_27 N 0 e (Int32.ofNat s) (vgT V) w1 ∧ zRs z1 w1 e ∧ zRo z1 w1 e ∧ zRi z1 w1 e ∧ zRt z1 w1 e ∧ (∀ k j u, ¬ (((k = 6 ∧ (j = 1 ∨ j = 2 ∨ j = 3 ∨ j = 5 ∨ j = 7 ∨ j = 10)) ∨ (k = 10 ∧ j ≤ 6) ∨ (k = 3 ∧ j = 11)) ∧ u = e) → zgI z1 k j u = zgI z k j u) ∧ (∀ k u i, zgA z1 k u i = zgA z k u i) ∧ zEc1 e z z1 ∧ (∀ j, ¬ (j = 6 ∨ j = 30 ∨ (33 ≤ j ∧ j ≤ 42)) → zgI w1 14 j e = zgI w 14 j e) ∧ (∀ k u i, zgA w1 k u i = zgA w k u i) ∧ zEm1 e w w1 ∧ zRqv (zgI z 3 0 e) (zgI w 14 17 e) (zgI z 3 9 e) (zgI z1 3 11 e) (zgI z 3 13 e) (zgI z 6 4 e) (zgI z1 6 5 e) (zgI z 6 6 e) (zgI z1 6 7 e) (zgI z1 10 0 e) (zgI z 4 7 e) := by
    unfold fX3_takeRest fX19_arriveThanks
    rw [hV.1.2.2.1, zl_e, h16, zl_e, zd_e, zc_bf, zc_e, zm_sgT hVm, zc_e, ← ho.1.2.1, zm_bf, zc_e]
    cases cb : zbf (zgI z 6 5 e) (vgT V)
    · rw [if_pos (by decide), if_pos (by decide)]
      have f7 : ¬ zgI z 6 7 e = 0 := hf.resolve_right (fun y => by rw [cb] at y; exact absurd y (by decide))
      refine ⟨z, w, rfl, rfl, hs, ho, hi, ht, fun _ _ _ _ => rfl, fun _ _ _ => rfl, zEc1_rf e z, fun _ _ => rfl, fun _ _ _ => rfl, zEm1_rf e w, ?_⟩
      obtain ⟨b1, b2, b3, b4, b5, b6, b7, b8, b9, b10, b11, b12⟩ := hq
      exact ⟨b1, b2, b3, b4, fun y => ⟨(b5 y).1, f7, (b5 y).2.2⟩, fun _ => f7, b7, b8, b9, b10, b11, b12⟩
    · rw [if_neg (show ¬ zbi true = 0 by decide), if_neg (show ¬ zbi true = 0 by decide), hT]
      obtain ⟨o', hx, hoo⟩ := zbf_th ho cb hle
      obtain ⟨z1, w1, g1, g2, g3, g4, g5, g6, g7, g8, g9, g10, g11, g12, g13, g14, g15⟩ := zp_thanked (N := N) hn h16 h18 hs ho hi ht hx hoo
      refine ⟨z1, w1, by rw [g1, zc_e], by rw [g2, zc_e], g3, g4, g5, g6, g7, g8, g9, g10, g11, g12, ?_⟩
      rw [g14, g15]
      refine zRqv_tk hst (fun y => ?_) (by decide) hq
      have := hq.2.2.2.2.2.2.2.2.2.1 y
      rw [this, hle] at cb
      exact absurd cb (by decide)
  -- the window
  obtain ⟨z2, w2, c2, m2, hs2, ho2, hi2, ht2, C2, A2, ec2, D2, B2, em2, win, al⟩ := zp_win (N := N) ((ec1.2.2.2.2 3 16 e).trans h16) ((ec1.2.2.2.2 3 18 e).trans h18) (zSgC_ec ec1 hV) (zSgM_em em1 hVm) hs1 ho1 hi1 ht1
  have ec : zEc1 e z z2 := zEc1_tr ec1 ec2
  have em : zEm1 e w w2 := zEm1_tr em1 em2
  have hV2 : zSgC z2 x V := zSgC_ec ec hV
  have hVm2 : zSgM w2 s V := zSgM_em em hVm
  have r16 : zgR z2 3 16 e = some e := (ec.2.2.2.2 3 16 e).trans h16
  have r17 : zgR z2 3 17 e = some e := (ec.2.2.2.2 3 17 e).trans h17r
  have r18 : zgR z2 3 18 e = some e := (ec.2.2.2.2 3 18 e).trans h18
  have hT2 : zgI w2 19 24 0 = Int32.ofNat n := (em.1 19 24 0 (by omega)).trans hT
  have k3 : ∀ j, ¬ (j = 11 ∨ j = 12) → zgI z2 3 j e = zgI z 3 j e := fun j q => (C2 3 j e (by omega)).trans (C1 3 j e (by omega))
  have k311 : zgI z2 3 11 e = zgI z1 3 11 e := C2 3 11 e (by omega)
  have k6 : ∀ j, j = 4 ∨ j = 6 → zgI z2 6 j e = zgI z 6 j e := fun j q => (C2 6 j e (by omega)).trans (C1 6 j e (by omega))
  have k61 : ∀ j, j = 5 ∨ j = 7 → zgI z2 6 j e = zgI z1 6 j e := fun j q => C2 6 j e (by omega)
  have k47 : zgI z2 4 7 e = zgI z 4 7 e := (C2 4 7 e (by omega)).trans (C1 4 7 e (by omega))
  have k17 : zgI w2 14 17 e = zgI w 14 17 e := (D2 17 (by omega)).trans (D1 17 (by omega))
  have h17 : zgI w2 14 17 e = 1 := by
    rw [k17]
    refine hq.1 (fun y => hst ?_)
    rcases y with y | y | y | y
    · exact Or.inl y
    · exact Or.inr (Or.inl y)
    · exact Or.inr (Or.inr (Or.inl y))
    · exact Or.inr (Or.inr (Or.inr (Or.inr y)))
  have hz2 : zRz z2 e := by
    obtain ⟨⟨p, p1, p2, p3⟩, ⟨l, l1, l2, l3⟩, v, v1, v2⟩ := hz
    refine ⟨⟨p, p1, p2, (k3 2 (by omega)).trans p3⟩, ⟨l, l1, l2, (k3 1 (by omega)).trans l3⟩, ?_⟩
    rcases win with y | y
    · exact ⟨v, v1, by rw [y, C1 6 11 e (by omega)]; exact v2⟩
    · obtain ⟨u, u1, u2⟩ := hW
      exact ⟨u, u1, by rw [y]; exact u2⟩
  have q2 : zRqv (zgI z 3 0 e) (zgI w 14 17 e) (zgI z 3 9 e) (zgI z2 3 11 e) (zgI z 3 13 e) (zgI z 6 4 e) (zgI z2 6 5 e) (zgI z 6 6 e) (zgI z2 6 7 e) (zgI z2 10 0 e) (zgI z 4 7 e) := by
    rw [k311, k61 5 (by omega), k61 7 (by omega)]
    exact zRqv_t0 al q1
  have hq2 : zRq z2 w2 e := by
    unfold zRq
    rw [k3 0 (by omega), k17, k3 9 (by omega), k3 13 (by omega), k6 4 (by omega), k6 6 (by omega), k47]
    exact q2
  have hb2 : ¬ zgI z2 6 6 e = zgI z2 6 4 e := by rw [k6 4 (by omega), k6 6 (by omega)]; exact hb
  have hE2 : zEe z2 w2 e := ⟨hs2, ho2, hi2, ht2, zRn_mk (Or.inr (Or.inr (Or.inr hb2))) hq2 hz2⟩
  have st2 : zgI z2 3 0 e = zgI z 3 0 e := k3 0 (by omega)
  have sw2 : zgI w2 14 0 e = zgI z 3 0 e := hs2.1.1.symm.trans st2
  have hst2 : ¬ (zgI z2 3 0 e = 0 ∨ zgI z2 3 0 e = 1 ∨ zgI z2 3 0 e = 2 ∨ zgI z2 3 0 e = 11) := by
    rw [st2]
    intro y
    rcases y with y | y | y | y
    · exact hst (Or.inl y)
    · exact hst (Or.inr (Or.inl y))
    · exact hst (Or.inr (Or.inr (Or.inl y)))
    · exact hst (Or.inr (Or.inr (Or.inr (Or.inr y))))
  -- bytes, in whatever state
  have go : ∀ z3 w3 : St, zEc1 e z2 z3 → zEm1 e w2 w3 → zEe z3 w3 e → ¬ (zgI z3 3 0 e = 0 ∨ zgI z3 3 0 e = 1 ∨ zgI z3 3 0 e = 2 ∨ zgI z3 3 0 e = 11) → ∃ z' w', fX3_takeRest_90 N e x (Int32.ofNat n) z3 = some (0, z') ∧ (zc (some ((0 : Int32), w3)) fun _ z2 => if (zgI z2 14 0 e) = 0 then (some ((0 : Int32), z2)) else (zc (fX19_arriveBytes N 0 e (Int32.ofNat s) z2) fun _ z7 => some ((0 : Int32), z7))) = some (0, w') ∧ zEe z' w' e ∧ zEc1 e z z' ∧ zEm1 e w w' := by
    intro z3 w3 e3 f3 hE3 hn3
    obtain ⟨z', w', p1, p2, p3, p4, p5⟩ := zp_bytes (N := N) (n := n) ((f3.1 19 24 0 (by omega)).trans hT2) ((e3.2.2.2.2 3 16 e).trans r16) ((e3.2.2.2.2 3 17 e).trans r17) ((e3.2.2.2.2 3 18 e).trans r18) (zSgC_ec e3 hV2) (zSgM_em f3 hVm2) hn3 hN hE3
    refine ⟨z', w', p1, ?_, p3, zEc1_tr ec (zEc1_tr e3 p4), zEm1_tr em (zEm1_tr f3 p5)⟩
    rw [zc_e, if_neg (show ¬ zgI w3 14 0 e = 0 from by rw [← hE3.1.1.1]; exact fun y => hn3 (Or.inl y)), p2, zc_e]
  rw [c1]
  unfold fX19_arrives_300
  rw [m1, m2]
  unfold fX3_takeRest_25 fX19_arriveThanks_195
  rw [c2, zc_e, r16, zl_e, zd_e]
  obtain ⟨⟨x4, x5, x6, x8, x81, -⟩, o, nn, W, st, ⟨y1, y2, y3, y4, y5, y6, y7, y8, y9⟩, ⟨-, -, -, -, -, -, y10⟩, -⟩ := id ho2
  have m6 : zgI w2 14 6 e = zgI z2 6 4 e + Int32.ofNat o := x5.symm.trans y1
  rw [y10, ← x8, st2]
  by_cases cl : o = W + 1
  · -- all is thanked for, also the end
    have nW : nn = W + 1 := by omega
    have c81 : zgI z2 6 8 e = 1 := y8 nW
    have f56 : zgI z2 6 5 e = zgI z2 6 6 e := by rw [y1, y2, cl, nW]
    have lastM : fX19_isBefore N (zgI w2 14 8 e) (zgI w2 14 6 e) w2 = some (1, w2) := by
      rw [y3, m6, zm_bef w2 (show W < 1073741824 by omega) (show o < 1073741824 by omega), decide_eq_true (show W < o by omega)]; rfl
    rw [decide_eq_true cl, if_neg (show ¬ zbi true = 0 by decide), if_neg (show ¬ zgI z2 6 8 e = 0 from by rw [c81]; decide), lastM, zc_e, if_neg (show ¬ (1 : Int32) = 0 by decide), sw2]
    by_cases c5 : zgI z 3 0 e = 5
    · rw [if_neg (show ¬ ¬ zgI z 3 0 e = 5 from fun y => y c5), if_neg (show ¬ ¬ zgI z 3 0 e = 5 from fun y => y c5), zl_e]
      have E3 : zEe (zsI z2 3 0 e 6) (zsI w2 14 0 e 6) e := zEe_st2 (by decide) hb2 (by
        have := hq2
        unfold zRq at this
        rw [st2, c5] at this
        simp [zRqv] at this ⊢
        exact ⟨this.1, this.2.1, this.2.2.1, this.2.2.2.1, this.2.2.2.2.1, f56, this.2.2.2.2.2⟩) hs2 ho2 hi2 ht2 hz2
      have bec : fX14_become N e 6 (zgI w2 19 24 0) w2 = some (0, zsI w2 14 0 e 6) := by
        unfold fX14_become fX14_become_63
        rw [zl_e, if_neg (by decide), if_neg (by decide), if_pos (by decide), if_pos (by decide)]
      rw [bec, zc_e]
      exact go _ _ (zEc1_I (by simp)) zEm1_I E3 (by rw [zgI_sI, if_pos ⟨rfl, rfl, rfl⟩]; decide)
    · rw [if_pos (show ¬ zgI z 3 0 e = 5 from c5), if_pos (show ¬ zgI z 3 0 e = 5 from c5)]
      by_cases c8 : zgI z 3 0 e = 8
      · rw [if_neg (show ¬ ¬ zgI z 3 0 e = 8 from fun y => y c8), if_neg (show ¬ ¬ zgI z 3 0 e = 8 from fun y => y c8)]
        obtain ⟨z3, w3, k1, k2, k3', k4, k5, k6'⟩ := zp_quiet2 (N := N) (Int32.ofNat n) r18 hb2 h17 f56 hs2 ho2 hi2 ht2 hz2
        rw [k1, zc_e, hT2, k2, zc_e]
        exact go _ _ k4 k5 k3' (by rw [k6']; decide)
      · rw [if_pos (show ¬ zgI z 3 0 e = 8 from c8), if_pos (show ¬ zgI z 3 0 e = 8 from c8)]
        by_cases c9 : zgI z 3 0 e = 9
        · rw [if_neg (show ¬ ¬ zgI z 3 0 e = 9 from fun y => y c9), if_neg (show ¬ ¬ zgI z 3 0 e = 9 from fun y => y c9)]
          obtain ⟨z3, w3, k1, k2, k3', k4, k5, k6'⟩ := zp_fin (N := N) (Int32.ofNat n) r18 (Or.inl rfl) hE2
          rw [k1, zc_e, hT2, k2, zc_e, zc_e, if_pos (show zgI w3 14 0 e = 0 from by rw [← k3'.1.1.1]; exact k6')]
          exact ⟨z3, w3, rfl, rfl, k3', zEc1_tr ec k4, zEm1_tr em k5⟩
        · rw [if_pos (show ¬ zgI z 3 0 e = 9 from c9), if_pos (show ¬ zgI z 3 0 e = 9 from c9)]
          exact go z2 w2 (zEc1_rf e z2) (zEm1_rf e w2) hE2 hst2
  · rw [decide_eq_false cl, if_pos (by decide)]
    by_cases c8 : zgI z2 6 8 e = 0
    · rw [if_pos c8]
      exact go z2 w2 (zEc1_rf e z2) (zEm1_rf e w2) hE2 hst2
    · have lastM : fX19_isBefore N (zgI w2 14 8 e) (zgI w2 14 6 e) w2 = some (0, w2) := by
        rw [y3, m6, zm_bef w2 (show W < 1073741824 by omega) (show o < 1073741824 by omega), decide_eq_false (show ¬ W < o by omega)]; rfl
      rw [if_neg c8, lastM, zc_e, if_pos rfl]
      exact go z2 w2 (zEc1_rf e z2) (zEm1_rf e w2) hE2 hst2
