/-! the end of a door's turn: both sides -/
/-- what the last of a door's turn changes -/
def zStd (e : Nat) (z z' w w' : St) : Prop := (∀ k j o, ¬ (k = 11 ∧ j = 5) → ¬ (k = 10 ∧ j = 0 ∧ o = e) → ¬ (k = 2 ∧ o = e) → zgI z' k j o = zgI z k j o) ∧ ((∀ k o i, zgA z' k o i = zgA z k o i) ∧ ∀ k o i, zgL z' k o i = zgL z k o i) ∧ ((∀ j, zgI z' 2 j e = zgI z 2 j e) ∨ (zgI z' 2 0 e = 0 ∧ (zgI z 3 0 e = 1 ∨ stD (zgI z 3 0 e) = true))) ∧ (zgI z' 10 0 e = zgI z 10 0 e ∨ armB z e = true) ∧ (∀ k j o, ¬ (k = 19 ∧ (j = 17 ∨ j = 27)) → ¬ (o = e ∧ (k = 13 ∧ j = 3 ∨ k = 14 ∧ (j = 33 ∨ j = 34 ∨ j = 44 ∨ j = 45))) → zgI w' k j o = zgI w k j o) ∧ ((∀ j, j = 44 ∨ j = 45 → zgI w' 14 j e = zgI w 14 j e) ∨ zgI z' 2 0 e = 0) ∧ (∀ k o i, k ≠ 183 → k ≠ 185 → zgA w' k o i = zgA w k o i) ∧ zFr 0x280000000000000000000000000000080200000000000000000000000000000000000000000000000000000000000000000000000030060000000000000000000000080000000000000000000000000000000000000000000000000000000000000000000000000000000000000000000000000000000000000000000000000000000000000000000000000000000000000000000000000000000000000000000000000000000000000000 w w'
theorem zp_settled {z w : St} {T : Tp} {E : Ev} {g : Sg} {Wy : Wyt} {R : Rg} {mk : Nat → Nat} {K : Int32 → Int32 → Int32 → Prop} {TA : List Nat} {e n N : Nat} (hp : zIp z w T E g g Wy R mk K [] [] [] TA (zTB w T)) (hI : ∀ u, hEnd T u → zIx (zgI w 14 44 u) 2592 ∧ zIx (zgI w 14 45 u) 2592) (he : hEnd T e) (hn : n ≤ 400000) (u0 : zgI z 2 0 e = 2) (r16 : zgR z 3 16 e = some e) (r17 : zgR z 3 17 e = some e) (r18 : zgR z 3 18 e = some e) (r134 : zgR w 13 4 e = some e) (tc : zgI z 11 4 0 = Int32.ofNat n) (tm : zgI w 19 24 0 = Int32.ofNat n) :
    ∃ z' w' g', fX11_settle_54 N 0 e (some e) z = some (0, z') ∧ fX19_doorTurn_152 N 0 e e (alC (armB z e) e (Int32.ofNat n + zgI w 14 35 e) w) = some (0, w') ∧ zIp z' w' T E g' g' Wy R mk K [] [] [] TA (zTB w' T) ∧ (∀ u, hEnd T u → zIx (zgI w' 14 44 u) 2592 ∧ zIx (zgI w' 14 45 u) 2592) ∧ (g' = g ∨ g' = sS g n) ∧ zStd e z z' w w' := by
  obtain ⟨⟨p1, p2, p3, p4, p5, p8, p9, p10⟩, hR, hW⟩ := id hp
  obtain ⟨he1, he2, he3⟩ := id he
  have rdAt : ∀ {a b : St}, zRE a b T → zRd a b e := fun q => by
    have := q (e / 6) (e % 6) he2 he3 (by omega)
    rw [show 6 * (e / 6) + e % 6 = e from by omega] at this
    exact this
  have hE := zRd_E (rdAt p8) u0
  obtain ⟨Rd, q1, q2, q3, q4, q5⟩ := zp_room (N := N) hE.2.2.1
  -- it stirs, where something stands to be read
  obtain ⟨z1, w1, g1, s1, s2, s3, s4, s5, s6, s7, s8, s9, ⟨sA, sB⟩, sC, sD, sW⟩ : ∃ z1 w1 g1, fX11_settle_54 N 0 e (some e) z = fX11_settle_68 N 0 e e z1 ∧ fX19_doorTurn_152 N 0 e e (alC (armB z e) e (Int32.ofNat n + zgI w 14 35 e) w) = fX19_doorTurn_163 N 0 e e (alC (armB z e) e (Int32.ofNat n + zgI w 14 35 e) w1) ∧ zIp z1 w1 T E g1 g1 Wy R mk K [] [] [] TA (zTB w1 T) ∧ (∀ k j o, ¬ (k = 11 ∧ j = 5) → zgI z1 k j o = zgI z k j o) ∧ (∀ k o i, zgR z1 k o i = zgR z k o i) ∧ (∀ k j o, ¬ (k = 19 ∧ j = 27) → zgI w1 k j o = zgI w k j o) ∧ (∀ k o i, zgR w1 k o i = zgR w k o i) ∧ zEe z1 w1 e ∧ (g1 = g ∨ g1 = sS g n) ∧ ((∀ k o i, zgA z1 k o i = zgA z k o i) ∧ ∀ k o i, zgL z1 k o i = zgL z k o i) ∧ (∀ k o i, zgA w1 k o i = zgA w k o i) ∧ (∀ k o i, zgL w1 k o i = zgL w k o i) ∧ zFr 0x80000000000000000000000000000000000000000000000000000000000000000000000000000000000000000000000000000000000000000000000000000000000000000000000000000000000000000000000000000000000000000000000000000000000000000000000000000000000000000000000000000000000000000000000000000000000000000000000000000000000000000000000 w w1 := by
    have rv : ∀ c t, rvM (alC c e t w) e = Int32.ofNat Rd := fun c t => by
      have : rvM w e = Int32.ofNat Rd := by
        have q := (zm_rv w e N).symm.trans q4
        exact (Prod.mk.inj (Option.some.inj q)).1
      rw [← this]
      unfold rvM
      rw [alC_I (by omega), alC_I (by omega), alC_I (by omega), alC_I (by omega)]
    unfold fX11_settle_54 fX19_doorTurn_152
    rw [zd_e, r17, zl_e, zd_e, q2, zm_rv, zc_e, rv]
    by_cases c : Int32.ofNat Rd ≤ 0
    · rw [if_pos c, if_pos c]
      exact ⟨z, w, g, rfl, rfl, hp, fun _ _ _ _ => rfl, fun _ _ _ => rfl, fun _ _ _ _ => rfl, fun _ _ _ => rfl, hE, Or.inl rfl, ⟨fun _ _ _ => rfl, fun _ _ _ => rfl⟩, fun _ _ _ => rfl, fun _ _ _ => rfl, zFr_rf _ _⟩
    · rw [if_neg c, if_neg c]
      unfold fX11_stir fX19_stir
      rw [tc, zl_e, zc_e, alC_I (by omega), tm, zl_e, zc_e, alC_s (by omega)]
      have I := zIp_stir (t := n) hp
      refine ⟨_, _, sS g n, rfl, rfl, ?_, fun k j o q => by rw [zgI_sI, if_neg (by omega)], fun _ _ _ => rfl, fun k j o q => by rw [zgI_sI, if_neg (by omega)], fun _ _ _ => rfl, ?_, Or.inr rfl, ⟨fun _ _ _ => rfl, fun _ _ _ => rfl⟩, fun _ _ _ => rfl, fun _ _ _ => rfl, zFr_I (zFr_rf _ _) (by decide)⟩
      · rw [zTB_cg (fun j u _ => by rw [zgI_sI, if_neg (by omega)])]; exact I
      · exact zEe_same (fun k j hk => by rw [zgI_sI, if_neg (by omega)]) (fun _ _ => rfl) (fun j _ => by rw [zgI_sI, if_neg (by omega)]) (fun _ _ => rfl) hE
  rw [s1, s2]
  have I1 : ∀ u, hEnd T u → zIx (zgI w1 14 44 u) 2592 ∧ zIx (zgI w1 14 45 u) 2592 := fun u hu => by
    rw [s6 14 44 u (by omega), s6 14 45 u (by omega)]; exact hI u hu
  have ab : armB z1 e = armB z e := armB_cg (s4 10 0 e (by omega)) (s4 3 0 e (by omega)) (fun j => s4 6 j e (by omega))
  obtain ⟨k1, k2, k3⟩ := zp_persistX (N := N) hn ((s5 3 16 e).trans r16) ((s5 3 18 e).trans r18) s8
  obtain ⟨z2, hz2⟩ : ∃ u, u = (if armB z1 e = true then zsI z1 10 0 e (Int32.ofNat n + zgI z1 10 2 e) else z1) := ⟨_, rfl⟩
  obtain ⟨w2, hw2⟩ : ∃ u, u = alC (armB z e) e (Int32.ofNat n + zgI w 14 35 e) w1 := ⟨_, rfl⟩
  have ew2 : (if armB z1 e = true then alM e (Int32.ofNat n + zgI w1 14 35 e) w1 else w1) = w2 := by
    rw [hw2, ab, s6 14 35 e (by omega)]; rfl
  rw [← hz2] at k1 k3
  rw [ew2] at k3
  have c12 : zEc1 e z1 z2 := by
    rw [hz2]; split
    · exact zEc1_I (by simp)
    · exact zEc1_rf e z1
  have m12 : zEm1 e w1 w2 := by
    rw [hw2]; unfold alC alM; split
    · exact zEm1_tr zEm1_I zEm1_I
    · exact zEm1_rf e w1
  have u1 : zgI z1 2 0 e = 2 := (s4 2 0 e (by omega)).trans u0
  have hRd1 : zRd z1 w1 e := rdAt s3.1.2.2.2.2.2.1
  have B2 := zMB_em (⟨s3.1.2.1, I1⟩ : zMB w1 T E g1 K [] [] TA) m12
  have hRd2 : zRd z2 w2 e := zRd_of hRd1 u1 (fun j => c12.1 2 j e (by omega)) (fun j => m12.1 13 j e (by omega)) (fun j hj => m12.1 14 j e (by omega)) k3
  have P2 : zIp z2 w2 T E g1 g1 Wy R mk K [] [] [] TA (zTB w2 T) := zIp_dk s3 (zDk_c c12) (zDm_e m12) B2.1 (fun _ => hRd2)
  have u2 : zgI z2 2 0 e = 2 := (c12.1 2 0 e (by omega)).trans u1
  have fc2 : ∀ k j o, ¬ (k = 11 ∧ j = 5) → ¬ (k = 10 ∧ j = 0 ∧ o = e) → ¬ (k = 2 ∧ o = e) → zgI z2 k j o = zgI z k j o := fun k j o n1 n2 _ => by
    have : zgI z2 k j o = zgI z1 k j o := by
      rw [hz2]; split
      · rw [zgI_sI, if_neg (by omega)]
      · rfl
    exact this.trans (s4 k j o n1)
  have fc2j : ∀ j, zgI z2 2 j e = zgI z 2 j e := fun j => (c12.1 2 j e (by omega)).trans (s4 2 j e (by omega))
  have fA2 : ∀ k o i, zgA z2 k o i = zgA z k o i := fun k o i => by
    have : zgA z2 k o i = zgA z1 k o i := by rw [hz2]; split <;> rfl
    exact this.trans (sA k o i)
  have fL2 : ∀ k o i, zgL z2 k o i = zgL z k o i := fun k o i => (c12.2.2.1 k o i).trans (sB k o i)
  have ft2 : zgI z2 10 0 e = zgI z 10 0 e ∨ armB z e = true := by
    by_cases q : armB z e = true
    · exact Or.inr q
    · left
      rw [hz2, ab, if_neg q]; exact s4 10 0 e (by omega)
  have fm2 : ∀ k j o, ¬ (k = 19 ∧ (j = 17 ∨ j = 27)) → ¬ (o = e ∧ k = 14 ∧ (j = 33 ∨ j = 34)) → zgI w2 k j o = zgI w k j o := fun k j o n1 n2 => by
    rw [hw2, alC_I (by omega)]; exact s6 k j o (by omega)
  have fB2 : ∀ k o i, zgA w2 k o i = zgA w k o i := fun k o i => by
    have : zgA w2 k o i = zgA w1 k o i := by rw [hw2]; unfold alC alM; split <;> rfl
    exact this.trans (sC k o i)
  have fM2 : ∀ k o i, zgL w2 k o i = zgL w k o i := fun k o i => (m12.2.2.1 k o i).trans (sD k o i)
  have fW2 : zFr 0x280000000000000000000000000000080200000000000000000000000000000000000000000000000000000000000000000000000030060000000000000000000000080000000000000000000000000000000000000000000000000000000000000000000000000000000000000000000000000000000000000000000000000000000000000000000000000000000000000000000000000000000000000000000000000000000000000000 w w2 := by
    have q : zFr 0x280000000000000000000000000000080200000000000000000000000000000000000000000000000000000000000000000000000030060000000000000000000000080000000000000000000000000000000000000000000000000000000000000000000000000000000000000000000000000000000000000000000000000000000000000000000000000000000000000000000000000000000000000000000000000000000000000000 w w1 := zFr_w sW (by decide)
    rw [hw2]; unfold alC alM; split
    · exact zFr_I (zFr_I q (by decide)) (by decide)
    · exact q
  have e30 : zgI z2 3 0 e = zgI z 3 0 e := fc2 3 0 e (by omega) (by omega) (by omega)
  have stay : ∃ z' w' g', some ((0 : Int32), z2) = some (0, z') ∧ some ((0 : Int32), w2) = some (0, w') ∧ zIp z' w' T E g' g' Wy R mk K [] [] [] TA (zTB w' T) ∧ (∀ u, hEnd T u → zIx (zgI w' 14 44 u) 2592 ∧ zIx (zgI w' 14 45 u) 2592) ∧ (g' = g ∨ g' = sS g n) ∧ zStd e z z' w w' := ⟨z2, w2, g1, rfl, rfl, P2, B2.2, s9, fc2, ⟨fA2, fL2⟩, Or.inl (fun j => fc2j j), ft2, fun k j o n1 n2 => fm2 k j o n1 (by omega), Or.inl (fun j hj => fm2 14 j e (by omega) (by omega)), fun k o i _ _ => fB2 k o i, fW2⟩
  have free : (zgI z2 3 0 e = 1 ∨ stD (zgI z2 3 0 e) = true) → ∃ z' w' g', fX11_settle_106 N e z2 = some (0, z') ∧ fX19_doorTurn_192 N 0 e w2 = some (0, w') ∧ zIp z' w' T E g' g' Wy R mk K [] [] [] TA (zTB w' T) ∧ (∀ u, hEnd T u → zIx (zgI w' 14 44 u) 2592 ∧ zIx (zgI w' 14 45 u) 2592) ∧ (g' = g ∨ g' = sS g n) ∧ zStd e z z' w w' := by
    intro c1
    obtain ⟨z3, a1, a2, a3, a4, a5, a6, a7, a8⟩ := zc_setUnused z2 e N
    obtain ⟨w3, b1, b2, b3, b4, b5, b6, b7, -⟩ := zm_takeEnd (N := N) B2 he ((m12.2.2.2.2 13 4 e).trans ((s7 13 4 e).trans r134))
    have a7A : ∀ k o i, zgA z3 k o i = zgA z2 k o i := fun k o i => by
      by_cases q : k = 120 ∨ k = 121 ∨ k = 124
      · rcases q with rfl | rfl | rfl <;> exact zFr_gA (wX2_setUnused (Nat.and_self _) (zFr_rf _ _) _ _ a1) (by decide) o i
      · exact a7.2.1 k o i (by omega)
    have d0 : zgI w2 13 0 e = 0 := by
      rcases hRd2.2 with y | y | y
      · exact y.2.1
      · rw [y.1] at u2; exact absurd u2 (by decide)
      · exact y.2.1
    refine ⟨z3, w3, g1, ?_, ?_, zIp_dk P2 a7 b5 b2.1 (fun _ => ⟨?_, Or.inl ⟨a2, ?_, b3, a3, a4, a5⟩⟩), b2.2, s9, fun k j o n1 n2 n3 => (a8 k j o n3).trans (fc2 k j o n1 n2 n3), ⟨fun k o i => (a7A k o i).trans (fA2 k o i), fun k o i => (a7.2.2.1 k o i).trans (fL2 k o i)⟩, Or.inr ⟨a2, by rw [← e30]; exact c1⟩, by rw [a8 10 0 e (by omega)]; exact ft2, fun k j o n1 n2 => (b6 k j o (by omega) (by omega)).trans (fm2 k j o n1 (by omega)), Or.inr a2, fun k o i n1 n2 => (b7 k o i n1 n2).trans (fB2 k o i), zFr_tr fW2 (zFr_w (wX19_takeEnd (Nat.and_self mX19_takeEnd) (zFr_rf _ _) _ _ b1) (by decide))⟩
    · unfold fX11_settle_106; rw [a1, zc_e]
    · unfold fX19_doorTurn_192; rw [b1, zc_e]
    · rw [a6, b4 9 (by omega)]; exact hRd2.1
    · rw [b4 0 (by omega)]; exact d0
  have d67 : zgI z2 2 6 e = zgI w2 13 6 e ∧ zgI z2 2 7 e = zgI w2 13 7 e := by
    rcases hRd2.2 with y | y | y
    · rw [y.1] at u2; exact absurd u2 (by decide)
    · rw [y.1] at u2; exact absurd u2 (by decide)
    · obtain ⟨-, -, -, -, -, -, -, x1, x2, -⟩ := y
      exact ⟨x1, x2⟩
  have d30 : zgI w2 14 0 e = zgI z2 3 0 e := k3.1.1.1.symm
  unfold fX11_settle_68 fX19_doorTurn_163
  rw [← hw2, s4 11 4 0 (by omega), tc, k1, zc_e, d67.1, d30]
  by_cases c6 : zgI w2 13 6 e = 0
  · rw [if_neg (show ¬ ¬ zgI w2 13 6 e = 0 from fun y => y c6), if_pos c6]; exact stay
  · rw [if_pos (show ¬ zgI w2 13 6 e = 0 from c6), if_neg c6]
    by_cases c1 : zgI z2 3 0 e = 1
    · rw [if_pos c1, if_pos c1]; exact free (Or.inl c1)
    · rw [if_neg c1, if_neg c1]
      unfold fX3_isDead fX14_isDead fX3_isDead_16 fX14_isDead_16
      rw [d30]
      by_cases c0 : zgI z2 3 0 e = 0
      · rw [if_pos c0, if_pos c0, zc_e, zc_e, if_neg (show ¬ (1 : Int32) = 0 by decide), if_neg (show ¬ (1 : Int32) = 0 by decide), d67.2]
        by_cases c7 : zgI w2 13 7 e = 0
        · rw [if_neg (show ¬ ¬ zgI w2 13 7 e = 0 from fun y => y c7), if_neg (show ¬ ¬ zgI w2 13 7 e = 0 from fun y => y c7)]; exact free (Or.inr (decide_eq_true (Or.inl c0)))
        · rw [if_pos (show ¬ zgI w2 13 7 e = 0 from c7), if_pos (show ¬ zgI w2 13 7 e = 0 from c7)]; exact stay
      · rw [if_neg c0, if_neg c0]
        by_cases c11 : zgI z2 3 0 e = 11
        · rw [if_neg (show ¬ ¬ zgI z2 3 0 e = 11 from fun y => y c11), if_neg (show ¬ ¬ zgI z2 3 0 e = 11 from fun y => y c11), zc_e, zc_e, if_neg (show ¬ (1 : Int32) = 0 by decide), if_neg (show ¬ (1 : Int32) = 0 by decide), d67.2]
          by_cases c7 : zgI w2 13 7 e = 0
          · rw [if_neg (show ¬ ¬ zgI w2 13 7 e = 0 from fun y => y c7), if_neg (show ¬ ¬ zgI w2 13 7 e = 0 from fun y => y c7)]; exact free (Or.inr (decide_eq_true (Or.inr c11)))
          · rw [if_pos (show ¬ zgI w2 13 7 e = 0 from c7), if_pos (show ¬ zgI w2 13 7 e = 0 from c7)]; exact stay
        · rw [if_pos (show ¬ zgI z2 3 0 e = 11 from c11), if_pos (show ¬ zgI z2 3 0 e = 11 from c11), zc_e, zc_e, if_pos rfl, if_pos rfl]; exact stay
