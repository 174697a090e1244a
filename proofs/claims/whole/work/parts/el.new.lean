/-! a door is given a new end: the class, and both -/
theorem zc_giveEnd (z : St) (e N : Nat) (own x q : Int32) : ∃ z', fX2_giveEnd N e own x q z = some (0, z') ∧ (∀ k j u, zgI z' k j u = if k = 2 ∧ u = e ∧ j ≤ 11 ∧ ¬ j = 4 then (if j = 0 then 2 else if j = 1 then own else if j = 2 then x else if j = 3 then q else if j = 5 then -1 else if j = 9 then 1 else 0) else zgI z k j u) ∧ (∀ k u i, zgA z' k u i = zgA z k u i) ∧ (∀ k u i, zgL z' k u i = zgL z k u i) ∧ (∀ k u i, zgQ z' k u i = zgQ z k u i) ∧ (∀ k u i, zgR z' k u i = zgR z k u i) := by
  unfold fX2_giveEnd
  refine ⟨zsI (zsI (zsI (zsI (zsI (zsI (zsI (zsI (zsI (zsI (zsI z 2 0 e 2) 2 1 e own) 2 2 e x) 2 3 e q) 2 5 e (-1)) 2 6 e 0) 2 7 e 0) 2 8 e 0) 2 9 e 1) 2 10 e 0) 2 11 e 0, rfl, fun k j u => ?_, fun _ _ _ => rfl, fun _ _ _ => rfl, fun _ _ _ => rfl, fun _ _ _ => rfl⟩
  simp only [zgI_sI]
  by_cases k2 : k = 2 ∧ u = e
  · obtain ⟨rfl, rfl⟩ := k2
    by_cases hj : j ≤ 11
    · have : j = 0 ∨ j = 1 ∨ j = 2 ∨ j = 3 ∨ j = 4 ∨ j = 5 ∨ j = 6 ∨ j = 7 ∨ j = 8 ∨ j = 9 ∨ j = 10 ∨ j = 11 := by omega
      rcases this with rfl | rfl | rfl | rfl | rfl | rfl | rfl | rfl | rfl | rfl | rfl | rfl <;> simp
    · rw [if_neg (by omega), if_neg (by omega), if_neg (by omega), if_neg (by omega), if_neg (by omega), if_neg (by omega), if_neg (by omega), if_neg (by omega), if_neg (by omega), if_neg (by omega), if_neg (by omega), if_neg (by omega)]
  · rw [if_neg (by omega), if_neg (by omega), if_neg (by omega), if_neg (by omega), if_neg (by omega), if_neg (by omega), if_neg (by omega), if_neg (by omega), if_neg (by omega), if_neg (by omega), if_neg (by omega), if_neg (by omega)]
theorem zc_begin3 {z : St} {e N : Nat} (F L M : Int32) (h16 : zgR z 3 16 e = some e) (h17 : zgR z 3 17 e = some e) (h18 : zgR z 3 18 e = some e) (hN : 2048 < N) : ∃ z', fX3_begin N e F L M z = some (0, z') ∧ (∀ k j u, zgI z' k j u = if k = 3 ∧ u = e ∧ (j = 1 ∨ j = 2) then L else if k = 3 ∧ u = e ∧ j = 3 then 1 else if k = 3 ∧ u = e ∧ j = 14 then M else if k = 3 ∧ u = e ∧ j = 5 then 0 else bgC F z e k j u) ∧ (∀ k u i, zgA z' k u i = if k = 121 ∧ u = e ∧ i < 2048 then 0 else zgA z k u i) ∧ zEc1 e z z' := by
  obtain ⟨z1, hz1⟩ : ∃ y, y = zsI (zsI (zsI (zsI (zsI z 3 0 e 1) 3 1 e L) 3 3 e 1) 3 14 e M) 3 5 e 0 := ⟨_, rfl⟩
  have c1 : zEc1 e z z1 := by rw [hz1]; exact zEc1_tr (zEc1_tr (zEc1_tr (zEc1_tr (zEc1_I (by simp)) (zEc1_I (by simp))) (zEc1_I (by simp))) (zEc1_I (by simp))) (zEc1_I (by simp))
  obtain ⟨z', a1, a2, a3, a4⟩ := zc_beginAgain (z := z1) (e := e) (N := N) F ((c1.2.2.2.2 3 16 e).trans h16) ((c1.2.2.2.2 3 17 e).trans h17) ((c1.2.2.2.2 3 18 e).trans h18) hN
  refine ⟨z', ?_, fun k j u => ?_, fun k u i => ?_, zEc1_tr c1 a4⟩
  · unfold fX3_begin
    rw [zl_e, zl_e, zl_e, zl_e, zl_e, ← hz1, a1, zc_e]
  · rw [a2]
    have e1 : ∀ k j u, zgI z1 k j u = if k = 3 ∧ j = 5 ∧ u = e then 0 else if k = 3 ∧ j = 14 ∧ u = e then M else if k = 3 ∧ j = 3 ∧ u = e then 1 else if k = 3 ∧ j = 1 ∧ u = e then L else if k = 3 ∧ j = 0 ∧ u = e then 1 else zgI z k j u := fun k j u => by rw [hz1]; simp only [zgI_sI]
    unfold bgC
    simp only [e1]
    by_cases k3 : k = 3 ∧ u = e
    · obtain ⟨rfl, rfl⟩ := k3
      by_cases hj : j ≤ 15
      · have : j = 0 ∨ j = 1 ∨ j = 2 ∨ j = 3 ∨ j = 4 ∨ j = 5 ∨ j = 6 ∨ j = 7 ∨ j = 8 ∨ j = 9 ∨ j = 10 ∨ j = 11 ∨ j = 12 ∨ j = 13 ∨ j = 14 ∨ j = 15 := by omega
        rcases this with rfl | rfl | rfl | rfl | rfl | rfl | rfl | rfl | rfl | rfl | rfl | rfl | rfl | rfl | rfl | rfl <;> simp
      · simp [show ¬ j = 5 by omega, show ¬ j = 14 by omega, show ¬ j = 3 by omega, show ¬ j = 1 by omega, show ¬ j = 0 by omega, show ¬ j = 2 by omega, show ¬ j = 4 by omega, show ¬ j = 15 by omega, show ¬ (9 ≤ j ∧ j ≤ 13) by omega]
    · rw [if_neg (show ¬ (k = 3 ∧ u = e ∧ (j = 4 ∨ 9 ≤ j ∧ j ≤ 13 ∨ j = 15)) by omega), if_neg (show ¬ (k = 3 ∧ u = e ∧ j = 0) by omega), if_neg (show ¬ (k = 3 ∧ u = e ∧ j = 2) by omega)]
      rw [if_neg (show ¬ (k = 3 ∧ j = 5 ∧ u = e) by omega), if_neg (show ¬ (k = 3 ∧ j = 14 ∧ u = e) by omega), if_neg (show ¬ (k = 3 ∧ j = 3 ∧ u = e) by omega), if_neg (show ¬ (k = 3 ∧ j = 1 ∧ u = e) by omega), if_neg (show ¬ (k = 3 ∧ j = 0 ∧ u = e) by omega)]
      rw [if_neg (show ¬ (k = 3 ∧ u = e ∧ (j = 1 ∨ j = 2)) by omega), if_neg (show ¬ (k = 3 ∧ u = e ∧ j = 3) by omega), if_neg (show ¬ (k = 3 ∧ u = e ∧ j = 14) by omega), if_neg (show ¬ (k = 3 ∧ u = e ∧ j = 5) by omega)]
      rw [if_neg (show ¬ (k = 3 ∧ u = e ∧ (j = 4 ∨ 9 ≤ j ∧ j ≤ 13 ∨ j = 15)) by omega), if_neg (show ¬ (k = 3 ∧ u = e ∧ j = 0) by omega), if_neg (show ¬ (k = 3 ∧ u = e ∧ j = 2) by omega)]
  · rw [a3, hz1]; rfl
/-- a new end listens, both sides; l, c: through which door, and whether it came so -/
theorem zp_newEnd {z z2 w : St} {T : Tp} {E : Ev} {g : Sg} {Wy : Wyt} {R : Rg} {mk : Nat → Nat} {K : Int32 → Int32 → Int32 → Prop} {X XM TS TA : List Nat} {e b N : Nat} {own x q l c M : Int32} (hp : zIp z w T E g g Wy R mk K X XM TS TA (zTB w T)) (hI : ∀ u, hEnd T u → zIx (zgI w 14 44 u) 2592 ∧ zIx (zgI w 14 45 u) 2592) (he : hEnd T e) (hbe : e / 6 = b) (h0 : 0 < tp T b) (hfree : zgI z 2 0 e = 0) (h4 : zgR w 13 4 e = some e) (hl : TS.length + TA.length ≤ 4000) (hN : 2048 < N)
    (y0 : zgI z2 2 0 e = 2) (y1 : zgI z2 2 1 e = own) (y2 : zgI z2 2 2 e = x) (y3 : zgI z2 2 3 e = q) (y5 : zgI z2 2 5 e = l) (y6 : zgI z2 2 6 e = c) (y7 : zgI z2 2 7 e = 0) (y8 : zgI z2 2 8 e = 0) (y9 : zgI z2 2 9 e = 1) (yI : ∀ k j u, ¬ (k = 2 ∧ u = e) → zgI z2 k j u = zgI z k j u) (yA : ∀ k u i, zgA z2 k u i = zgA z k u i) (yL : ∀ k u i, zgL z2 k u i = zgL z k u i) (yQ : ∀ k u i, zgQ z2 k u i = zgQ z k u i) (yR : ∀ k u i, zgR z2 k u i = zgR z k u i) :
    ∃ z3 w2 w3 bk, w3 = zsI (zsI (zsI (zsI w2 13 5 e l) 13 6 e c) 14 0 e 1) 14 1 e 1 ∧ fX3_begin N e ((64000 : Int32) * Int32.ofNat (eN E) + (977 : Int32) * Int32.ofNat b) (Int32.ofNat (eL E (tq T b 0 / 8)) - (40 : Int32)) M z2 = some (0, z3) ∧ fX19_giveEnd N 0 b e own x q w = some (0, w2) ∧ zIp z3 w3 T E g g Wy R mk K X XM TS TA (zTB w3 T) ∧ (∀ u, hEnd T u → zIx (zgI w3 14 44 u) 2592 ∧ zIx (zgI w3 14 45 u) 2592) ∧ zEe z3 w3 e ∧
      (zEc1 e z2 z3 ∧ zgI z3 3 0 e = 1 ∧ zgI z3 3 14 e = M ∧ zgI z3 3 15 e = 0 ∧ zgI z3 6 4 e = (64000 : Int32) * Int32.ofNat (eN E) + (977 : Int32) * Int32.ofNat b) ∧
      (bk < 2592 ∧ zgI w3 14 44 e = Int32.ofNat bk ∧ zgI w3 14 45 e = -1 ∧ zgI w3 14 46 e = 0 ∧ zgI w3 14 17 e = 0 ∧ zgA w3 182 0 bk = 0 ∧ zgA w3 184 0 bk = zgA w 184 0 bk + 1 ∧ ∀ c, ¬ c = bk → zgA w3 182 0 c = zgA w 182 0 c ∧ zgA w3 184 0 c = zgA w 184 0 c) ∧
      (zDm e w w3 ∧ (∀ k u i, zgL w3 k u i = zgL w k u i) ∧ (∀ k u i, zgR w3 k u i = zgR w k u i) ∧ (∀ k u i, zgQ w3 k u i = zgQ w k u i)) ∧ (∃ Rb : List Nat, (zTB w T).Perm (bk2 w e ++ Rb) ∧ bk ∉ Rb ∧ (zTB w3 T).Perm (bk :: Rb)) := by
  obtain ⟨⟨p1, p2, p3, p4, p5, p8, p9, p10⟩, hR, hW⟩ := id hp
  obtain ⟨he1, he2, he3⟩ := id he
  obtain ⟨hTC, hc, -, hEw, -⟩ := id p1
  have he2b : b < tb T := by rw [← hbe]; exact he2
  have hLb := hEw.2 _ (tv_q hc he2b h0).1
  have rdAt : zRd z w e := by
    have := p8 (e / 6) (e % 6) he2 he3 (by omega)
    rw [show 6 * (e / 6) + e % 6 = e from by omega] at this
    exact this
  obtain ⟨-, t2, t16, t17, t18⟩ := hTC.2.2.1.2 (e / 6) he2 he3 (e % 6) (by omega)
  rw [show 6 * (e / 6) + e % 6 = e from by omega] at t2 t16 t17 t18
  obtain ⟨z3, a1, a2, a3, a4⟩ := zc_begin3 (z := z2) (e := e) (N := N) ((64000 : Int32) * Int32.ofNat (eN E) + (977 : Int32) * Int32.ofNat b) (Int32.ofNat (eL E (tq T b 0 / 8)) - (40 : Int32)) M ((yR 3 16 e).trans t16) ((yR 3 17 e).trans t17) ((yR 3 18 e).trans t18) hN
  obtain ⟨w2, bk, b1, b2, b3, b4, b5, ⟨b61, b62, b63⟩, b7, b8, b9, b10⟩ := zm_give (N := N) (own := own) (x := x) (q := q) (⟨p2, hI⟩ : zMB w T E g K XM TS TA) he hbe h0 h4 hl hN
  obtain ⟨w3, hw3⟩ : ∃ y, y = zsI (zsI (zsI (zsI w2 13 5 e l) 13 6 e c) 14 0 e 1) 14 1 e 1 := ⟨_, rfl⟩
  have I3 : ∀ k j u, zgI w3 k j u = if k = 14 ∧ j = 1 ∧ u = e then 1 else if k = 14 ∧ j = 0 ∧ u = e then 1 else if k = 13 ∧ j = 6 ∧ u = e then c else if k = 13 ∧ j = 5 ∧ u = e then l else zgI w2 k j u := fun k j u => by rw [hw3]; simp only [zgI_sI]
  have o4 : ∀ j u, j = 44 ∨ j = 45 → zgI w3 14 j u = zgI w2 14 j u := fun j u hj => by
    rw [I3, if_neg (by omega), if_neg (by omega), if_neg (by omega), if_neg (by omega)]
  have eT : zTB w3 T = zTB w2 T := zTB_cg (fun j u hj => o4 j u hj)
  have M3 : zMV w3 T E g K XM TS TA (zTB w3 T) := by
    rw [eT, hw3]; exact zMV_i14 (zMV_i14 (zMV_i13 (by simp) (zMV_i13 (by simp) b3.1)))
  have H3 : ∀ u, hEnd T u → zIx (zgI w3 14 44 u) 2592 ∧ zIx (zgI w3 14 45 u) 2592 := fun u hu => by
    rw [o4 44 u (by simp), o4 45 u (by simp)]; exact b3.2 u hu
  have m14 : ∀ j, zgI w3 14 j e = if j = 1 ∨ j = 0 then 1 else gvM own x q ((64000 : Int32) * Int32.ofNat (eN E) + (977 : Int32) * Int32.ofNat b) (Int32.ofNat (eL E (tq T b 0 / 8)) - (40 : Int32)) (Int32.ofNat bk) w e 14 j e := fun j => by
    rw [I3]
    by_cases j1 : j = 1
    · rw [if_pos ⟨rfl, j1, rfl⟩, if_pos (Or.inl j1)]
    · by_cases j0 : j = 0
      · rw [if_neg (by omega), if_pos ⟨rfl, j0, rfl⟩, if_pos (Or.inr j0)]
      · rw [if_neg (by omega), if_neg (by omega), if_neg (by omega), if_neg (by omega), if_neg (by omega), b4 14 j e (by omega)]
  have mg : ∀ j, ¬ (j = 0 ∨ j = 1 ∨ j = 2 ∨ j = 3 ∨ j = 4 ∨ j = 24 ∨ j = 44 ∨ j = 45) → zgI w3 14 j e = bgM ((64000 : Int32) * Int32.ofNat (eN E) + (977 : Int32) * Int32.ofNat b) (Int32.ofNat (eL E (tq T b 0 / 8)) - (40 : Int32)) w e 14 j e := fun j hj => by
    rw [m14, if_neg (by omega)]
    unfold gvM
    rw [if_neg (by omega), if_neg (by omega), if_neg (by omega), if_neg (by omega), if_neg (by omega), if_neg (by omega), if_neg (by omega), if_neg (by omega), if_neg (by omega), if_neg (by omega)]
  have c0 : ∀ k j, (k = 3 → ¬ (j = 1 ∨ j = 2 ∨ j = 3 ∨ j = 5 ∨ j = 14)) → zgI z3 k j e = bgC ((64000 : Int32) * Int32.ofNat (eN E) + (977 : Int32) * Int32.ofNat b) z2 e k j e := fun k j q => by
    rw [a2, if_neg (by omega), if_neg (by omega), if_neg (by omega), if_neg (by omega)]
  have l31 : zgI z3 3 1 e = Int32.ofNat (eL E (tq T b 0 / 8)) - (40 : Int32) := by rw [a2, if_pos (by simp)]
  have l32 : zgI z3 3 2 e = Int32.ofNat (eL E (tq T b 0 / 8)) - (40 : Int32) := by rw [a2, if_pos (by simp)]
  have EE : zEe z3 w3 e := by
    refine zEe_new (F := (64000 : Int32) * Int32.ofNat (eN E) + (977 : Int32) * Int32.ofNat b) (fun j hj => ?_) ?_ ?_ ?_ (fun j hj => ?_) (fun j hj => ?_) (fun j hj => ?_) (fun i hi => ?_) ?_ ?_ ?_ (fun j hj => ?_) ?_ (fun j hj => ?_) ?_ ?_ ?_ (fun i hi => ?_) ?_
    · rw [c0 3 j (by omega)]; unfold bgC; rw [if_pos (by omega)]
    · rw [c0 3 0 (by omega)]; unfold bgC; simp
    · rw [l32, l31]
    · rw [a2, if_neg (by omega), if_pos (by simp)]; decide
    · rw [c0 6 j (by omega)]; unfold bgC
      rw [if_neg (by omega), if_neg (by omega), if_neg (by omega), if_pos (by omega)]
    · rw [c0 4 j (by omega)]; unfold bgC
      rw [if_neg (by omega), if_neg (by omega), if_neg (by omega), if_neg (by omega), if_pos (by omega)]
    · rw [c0 10 j (by omega)]; unfold bgC
      rw [if_neg (by omega), if_neg (by omega), if_neg (by omega), if_neg (by omega), if_neg (by omega), if_pos (by omega)]
    · rw [a3, if_pos ⟨rfl, rfl, hi⟩]
    · refine ⟨eL E (tq T b 0 / 8) - 40, by omega, by omega, ?_⟩
      rw [l31, show (40 : Int32) = Int32.ofNat 40 from rfl, zo_sub (by omega)]
    · rw [m14, if_pos (by simp)]
    · rw [m14, if_pos (by simp)]; decide
    · rw [mg j (by omega)]; unfold bgM
      rw [if_neg (by omega), if_pos (by omega)]
    · rw [mg 8 (by omega)]; unfold bgM; simp
    · rw [mg j (by omega)]; unfold bgM
      rw [if_pos (by omega)]
    · rw [mg 14 (by omega), l31]; unfold bgM; simp
    · rw [mg 15 (by omega), l31]; unfold bgM; simp
    · rw [mg 35 (by omega)]; unfold bgM; simp
    · rw [hw3]
      show zgA w2 161 e i = 0
      rw [b5 161 e i (by omega), if_pos ⟨rfl, rfl, hi⟩]
    · have r5 : zgI z3 3 5 e = 0 := by rw [a2, if_neg (by omega), if_neg (by omega), if_neg (by omega), if_pos (by simp)]
      have r24 : zgI w3 14 24 e = 0 := by
        rw [m14, if_neg (by omega)]; unfold gvM; simp
      rw [r5, r24]
      exact ⟨rfl, fun y => absurd rfl y⟩
  have DM : zDm e w w3 := by
    refine ⟨fun k j u n1 n2 => ?_, fun k u i n1 n2 => ?_⟩
    · rw [I3, if_neg (by omega), if_neg (by omega), if_neg (by omega), if_neg (by omega), b4 k j u (by omega)]
      unfold gvM bgM
      rw [if_neg (by omega), if_neg (by omega), if_neg (by omega), if_neg (by omega), if_neg (by omega), if_neg (by omega), if_neg (by omega), if_neg (by omega), if_neg (by omega), if_neg (by omega), if_neg (by omega), if_neg (by omega), if_neg (by omega), if_neg (by omega), if_neg (by omega)]
    · rw [hw3]
      show zgA w2 k u i = _
      rw [b5 k u i n2, if_neg (by omega)]
  have DK : zDk e z z3 := by
    refine ⟨fun k j u n1 _ => ?_, fun k u i n => ?_, fun k u i => ?_, fun k u i => ?_, fun k u i => ?_⟩
    · rw [a4.1 k j u (by omega)]; exact yI k j u (by omega)
    · rw [a4.2.1 k u i n]; exact yA k u i
    · rw [a4.2.2.1 k u i]; exact yL k u i
    · rw [a4.2.2.2.1 k u i]; exact yQ k u i
    · rw [a4.2.2.2.2 k u i]; exact yR k u i
  have d13 : ∀ j, ¬ (j = 5 ∨ j = 6) → zgI w3 13 j e = gvM own x q ((64000 : Int32) * Int32.ofNat (eN E) + (977 : Int32) * Int32.ofNat b) (Int32.ofNat (eL E (tq T b 0 / 8)) - (40 : Int32)) (Int32.ofNat bk) w e 13 j e := fun j hj => by
    rw [I3, if_neg (by omega), if_neg (by omega), if_neg (by omega), if_neg (by omega), b4 13 j e (by omega)]
  have w130 : zgI w 13 0 e = 0 := by
    rcases zRd_0 rdAt with y | y | y
    · exact y.2.1
    · rw [y.1] at hfree; exact absurd hfree (by decide)
    · rw [y.1] at hfree; exact absurd hfree (by decide)
  have z2k : ∀ j, zgI z3 2 j e = zgI z2 2 j e := fun j => a4.1 2 j e (by omega)
  have RD : zRd z3 w3 e := by
    refine ⟨?_, Or.inr (Or.inr ⟨?_, ?_, ?_, ?_, ?_, ?_, ?_, ?_, ?_, ?_, EE⟩)⟩
    · rw [z2k, y9, d13 9 (by omega)]; unfold gvM; simp
    · rw [z2k]; exact y0
    · rw [d13 0 (by omega)]; unfold gvM bgM; simp; exact w130
    · rw [d13 3 (by omega)]; unfold gvM; simp
    · rw [z2k, y1, m14, if_neg (by omega)]; unfold gvM; simp
    · rw [z2k, y2, m14, if_neg (by omega)]; unfold gvM; simp
    · rw [z2k, y3, m14, if_neg (by omega)]; unfold gvM; simp
    · rw [z2k, y5, I3, if_neg (by omega), if_neg (by omega), if_neg (by omega), if_pos (by simp)]
    · rw [z2k, y6, I3, if_neg (by omega), if_neg (by omega), if_pos (by simp)]
    · rw [z2k, y7, d13 7 (by omega)]; unfold gvM; simp
    · rw [z2k, y8, d13 8 (by omega)]; unfold gvM; simp
  refine ⟨z3, w2, w3, bk, hw3, a1, b1, zIp_dk hp DK DM M3 (fun _ => RD), H3, EE, ⟨a4, EE.1.1.1.trans ((m14 0).trans (if_pos (by simp))), ?_, ?_, ?_⟩, ⟨b2, ?_, ?_, ?_, ?_, ?_, ?_, fun c hcc => ?_⟩, ⟨DM, ?_, ?_, ?_⟩, ?_⟩
  · rw [a2, if_neg (by omega), if_neg (by omega), if_pos (by simp)]
  · rw [c0 3 15 (by omega)]; unfold bgC; simp
  · rw [c0 6 4 (by omega)]; unfold bgC; simp
  · rw [m14, if_neg (by omega)]; unfold gvM; simp
  · rw [m14, if_neg (by omega)]; unfold gvM; simp
  · rw [mg 46 (by omega)]; unfold bgM; simp
  · rw [mg 17 (by omega)]; unfold bgM; simp
  · rw [hw3]; exact b61
  · rw [hw3]; exact b62
  · rw [hw3]; exact b63 c hcc
  · intro k u i
    rw [hw3]; exact b7 k u i
  · intro k u i
    rw [hw3]; exact b8 k u i
  · intro k u i
    rw [hw3]; exact b9 k u i
  · rw [eT]; exact b10
