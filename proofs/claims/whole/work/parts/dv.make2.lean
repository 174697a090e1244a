/-! a segment of new bytes is made: both sides -/
theorem zMdC_k {y y' : St} {V : Sv} {e : Nat} (c : zEc1 e y y') (h : zMdC y V) : zMdC y' V := zMdC_ec c h
theorem zMdF_em {e : Nat} {w w' : St} (f : zEm1 e w w') (hA : ∀ k o i, zgA w' k o i = zgA w k o i) : zMdF e w w' := ⟨fun k j o a _ => f.1 k j o a, fun k o i _ => hA k o i, fun k o i _ => f.2.2.1 k o i, f.2.2.2.1, f.2.2.2.2⟩
/-- what was made stays, when the end alone goes on -/
theorem zMade_go {z w z1 w1 z2 w2 : St} {T : Tp} {E : Ev} {g : Sg} {K : Int32 → Int32 → Int32 → Prop} {X TS TA : List Nat} {e b s : Nat} (h : zMade z w z1 w1 T E g K X TS TA e b s) (c : zEc1 e z1 z2) (m : zEm1 e w1 w2) (mA : ∀ k o i, zgA w2 k o i = zgA w1 k o i) (hE : zEe z2 w2 e) : zMade z w z2 w2 T E g K X TS TA e b s := by
  obtain ⟨-, ⟨V, a1, a2, a3, a4⟩, b1, b2, b3, b4, b5, b6⟩ := h
  have e8 : ∀ k, msg w2 s k = msg w1 s k := fun k => mA 174 0 _
  have e44 : zgI w2 14 44 e = zgI w1 14 44 e := m.1 14 44 e (by omega)
  exact ⟨hE, ⟨V, zMdC_ec c a1, zSgM_em m a2, fun y => (e8 8).trans (a3 y), fun y => ⟨by rw [e8, e44]; exact (a4 y).1, by rw [e8, e44, mA]; exact (a4 y).2⟩⟩, zMB_em b1 m, b2, by rw [mA]; exact b3, fun d D hd hD => zMD_bf (zBf_em m) (b4 d D hd hD), zEk_tr b5 (zEk_c c), zMdF_tr b6 (zMdF_em m mA)⟩
theorem zRqv_n {s h a9 a11 a13 f4 f5 f6 f7 t0 o7 : Int32} {f6' t : Int32} (hs : s = 4 ∨ s = 5 ∨ s = 7 ∨ s = 8 ∨ s = 9) (h11 : a11 = 0) (q : zRqv s h a9 a11 a13 f4 f5 f6 f7 t0 o7) : zRqv s h a9 a11 a13 f4 f5 f6' f7 t o7 := by
  obtain ⟨c1, c2, c3, c4, c5, c6, c7, c8, c9, c10, c11, c12⟩ := q
  refine ⟨c1, c2, c3, c4, fun y => absurd h11 y, c6, c7, fun y => ?_, fun y => ?_, fun y => ?_, fun _ => ?_, c12⟩
  · rw [y] at hs; exact absurd hs (by decide)
  · rcases y with y | y <;> (rw [y] at hs; exact absurd hs (by decide))
  · rcases y with y | y <;> (rw [y] at hs; exact absurd hs (by decide))
  · rcases hs with rfl | rfl | rfl | rfl | rfl <;> decide
theorem zo_nF {F : Int32} {n : Nat} (h1 : 1 ≤ n) (h2 : n < 2147483648) : ¬ F + Int32.ofNat n = F := by
  intro y
  have F0 : F = F + Int32.ofNat 0 := by show F = F + 0; rw [← Int32.toBitVec_inj]; simp
  have := zo_inj (a := n) (b := 0) h2 (by omega) (y.trans F0)
  omega
/-- how much an end has to send -/
def zb1 (x : Int32) : Nat := if x = 0 then 0 else 1
def zMsr (z : St) (e : Nat) : Nat := (zgI z 6 2 e).toNatClampNeg - (zgI z 6 3 e).toNatClampNeg + (if zgI z 6 9 e = 0 then 1 else 0) + zb1 (zgI z 3 5 e) + zb1 (zgI z 3 9 e) + zb1 (zgI z 3 11 e) + zb1 (zgI z 3 12 e) + zb1 (zgI z 3 13 e)
theorem zb1_0 {x y : Int32} (h : x = 0 ∨ x = y) : zb1 x ≤ zb1 y := by
  rcases h with h | h
  · rw [h]; exact Nat.zero_le _
  · rw [h]; exact Nat.le_refl _
theorem zb1_n {x : Int32} (h : ¬ x = 0) : zb1 x = 1 := if_neg h
/-- numbers go ahead -/
theorem zp_ahead {z w : St} {e m n N o nn W st B L S : Nat} (last : Bool) (hn : n ≤ 400000) (hT : zgI w 19 24 0 = Int32.ofNat n) (h16 : zgR z 3 16 e = some e) (h18 : zgR z 3 18 e = some e) (h : zEe z w e) (hst : zgI z 3 0 e = 4 ∨ zgI z 3 0 e = 5 ∨ zgI z 3 0 e = 7 ∨ zgI z 3 0 e = 8 ∨ zgI z 3 0 e = 9) (h11 : zgI z 3 11 e = 0) (hO : zOb o nn W B L S)
    (q1 : zgI z 6 5 e = zgI z 6 4 e + Int32.ofNat o) (q2 : zgI z 6 6 e = zgI z 6 4 e + Int32.ofNat nn) (q3 : zgI w 14 8 e = zgI z 6 4 e + Int32.ofNat W) (q4 : 1 ≤ W) (q5 : W ≤ 1100000) (q6 : o ≤ nn) (o1 : 1 ≤ o) (hmW : nn + m ≤ W) (hlast : last = true → nn + m = W ∧ zgI z 6 8 e = 1) :
    ∃ z' w', (zl (zgR z 3 16 e) fun y9 => zd y9 fun a10 => zl (zsI z 6 3 a10 ((zgI z 6 3 a10) + Int32.ofNat m)) fun z11 => zl (zgR z11 3 16 e) fun y12 => zd y12 fun a13 => if zbi last = 0 then (fX3_goAhead_53 N e (zbi last) (Int32.ofNat n) a13 (zgI z11 6 6 a13) (Int32.ofNat m) z11) else (fX3_goAhead_53 N e (zbi last) (Int32.ofNat n) a13 (zgI z11 6 6 a13) (Int32.ofNat m + (1 : Int32)) z11)) = some (0, z') ∧ fX14_isNew N e (Int32.ofNat n) (zsI w 14 7 e (zgI w 14 7 e + Int32.ofNat (m + if last = true then 1 else 0))) = some (0, w') ∧ zEe z' w' e ∧ zEc1 e z z' ∧ zEm1 e w w' ∧ (∀ k o i, zgA w' k o i = zgA w k o i) ∧ zgI z' 6 2 e = zgI z 6 2 e ∧ zgI z' 6 3 e = Int32.ofNat (S + m) ∧ (zgI z' 6 9 e = if last = true then 1 else zgI z 6 9 e) ∧ ∀ j, zgI z' 3 j e = zgI z 3 j e := by
  obtain ⟨hs, ho, hi, ht, hnn⟩ := h
  obtain ⟨⟨f4, f5, f6, f8, f81, f11⟩, o', n', W', st', B', L', S', hO', ⟨p1, p2, p3, p4, p5, p6, p7, p8, p9⟩, ⟨r1, r2, r3, r4, r5, r6, r7⟩, a⟩ := zRo_iff.mp ho
  have eo : o' = o := zo_inj (by omega) (by omega) (p1.symm.trans q1)
  have en : n' = nn := zo_inj (by omega) (by omega) (p2.symm.trans q2)
  have eW : W' = W := zo_inj (by omega) (by omega) (p3.symm.trans q3)
  subst eo en eW
  have eB : B' = B ∧ L' = L ∧ S' = S := by
    obtain ⟨a1, a2, a3⟩ := hO
    obtain ⟨b1, b2, b3⟩ := hO'
    refine ⟨b1.trans a1.symm, ?_, ?_⟩
    · rw [b2, a2, b1, a1]
    · rw [b3, a3, b1, a1]
  obtain ⟨rfl, rfl, rfl⟩ := eB
  obtain ⟨x, hx⟩ : ∃ x, x = m + if last = true then 1 else 0 := ⟨_, rfl⟩
  have x1 : x ≤ m + 1 := by rw [hx]; split <;> omega
  have hO2 : zOb o' (n' + x) W' B' L' (S' + m) := by
    obtain ⟨b1, b2, b3⟩ := hO'
    refine ⟨b1, b2, ?_⟩
    cases last
    · have : x = m := by rw [hx]; simp
      omega
    · have : x = m + 1 := by rw [hx]; simp
      have := (hlast rfl).1
      omega
  have b1' : n' + x = W' + 1 ↔ last = true := by
    cases last
    · have : x = m := by rw [hx]; simp
      constructor
      · intro y; omega
      · intro y; exact absurd y (by decide)
    · have : x = m + 1 := by rw [hx]; simp
      have := (hlast rfl).1
      constructor
      · intro _; rfl
      · intro _; omega
  -- the class's numbers
  obtain ⟨z1, hz1⟩ : ∃ y, y = zsI z 6 3 e (Int32.ofNat (S' + m)) := ⟨_, rfl⟩
  obtain ⟨z2, hz2⟩ : ∃ y, y = zsI z1 6 6 e (zgI z 6 4 e + Int32.ofNat (n' + x)) := ⟨_, rfl⟩
  obtain ⟨z3, hz3⟩ : ∃ y, y = if last = true then zsI z2 6 9 e 1 else z2 := ⟨_, rfl⟩
  obtain ⟨w2, hw2⟩ : ∃ y, y = zsI w 14 7 e (zgI z 6 4 e + Int32.ofNat (n' + x)) := ⟨_, rfl⟩
  have sum : zgI z 6 6 e + Int32.ofNat x = zgI z 6 4 e + Int32.ofNat (n' + x) := by rw [q2, Int32.add_assoc, zo_add]
  have ec1 : zEc1 e z z1 := by rw [hz1]; exact zEc1_I (by simp)
  have ec2 : zEc1 e z z2 := by rw [hz2]; exact zEc1_tr ec1 (zEc1_I (by simp))
  have ec3 : zEc1 e z z3 := by
    rw [hz3]
    cases last
    · exact ec2
    · exact zEc1_tr ec2 (zEc1_I (by simp))
  have em2 : zEm1 e w w2 := by rw [hw2]; exact zEm1_I
  have I3 : ∀ k j, ¬ (k = 6 ∧ (j = 3 ∨ j = 6 ∨ j = 9)) → zgI z3 k j e = zgI z k j e := fun k j q => by
    rw [hz3]
    cases last
    · rw [if_neg (by decide), hz2, hz1, zgI_sI, zgI_sI, if_neg (by omega), if_neg (by omega)]
    · rw [if_pos rfl, hz2, hz1, zgI_sI, zgI_sI, zgI_sI, if_neg (by omega), if_neg (by omega), if_neg (by omega)]
  have i3 : zgI z3 6 3 e = Int32.ofNat (S' + m) := by
    rw [hz3]
    cases last
    · rw [if_neg (by decide), hz2, hz1]; simp [zgI_sI]
    · rw [if_pos rfl, hz2, hz1]; simp [zgI_sI]
  have i6 : zgI z3 6 6 e = zgI z 6 4 e + Int32.ofNat (n' + x) := by
    rw [hz3]
    cases last
    · rw [if_neg (by decide), hz2]; simp [zgI_sI]
    · rw [if_pos rfl, hz2]; simp [zgI_sI]
  have i9 : zgI z3 6 9 e = zbi (decide (n' + x = W' + 1)) := by
    rw [hz3]
    cases last
    · rw [if_neg (by decide), hz2, hz1, zgI_sI, zgI_sI, if_neg (by omega), if_neg (by omega), r6, decide_eq_false (show ¬ n' = W' + 1 by omega), decide_eq_false (fun y => absurd (b1'.mp y) (by decide))]
    · rw [if_pos rfl, zgI_sI, if_pos ⟨rfl, rfl, rfl⟩, decide_eq_true (b1'.mpr rfl)]; rfl
  have A3 : ∀ k i, zgA z3 k e i = zgA z k e i := fun k i => by
    rw [hz3]
    cases last
    · rw [if_neg (by decide), hz2, hz1]; rfl
    · rw [if_pos rfl, hz2, hz1]; rfl
  have J2 : ∀ j, ¬ j = 7 → zgI w2 14 j e = zgI w 14 j e := fun j q => by rw [hw2, zgI_sI, if_neg (by omega)]
  have j7 : zgI w2 14 7 e = zgI z 6 4 e + Int32.ofNat (n' + x) := by rw [hw2, zgI_sI, if_pos ⟨rfl, rfl, rfl⟩]
  have ho3 : zRo z3 w2 e := by
    refine zRo_iff.mpr ⟨⟨?_, ?_, ?_, ?_, ?_, ?_⟩, o', n' + x, W', st', B', L', S' + m, hO2, ⟨?_, ?_, ?_, p4, p5, by omega, ?_, ?_, p9⟩, ⟨r1, ?_, ?_, i3, ?_, i9, ?_⟩, fun i hi' => ?_⟩
    · rw [I3 6 4 (by omega), J2 5 (by omega)]; exact f4
    · rw [I3 6 5 (by omega), J2 6 (by omega)]; exact f5
    · rw [i6, j7]
    · rw [I3 6 8 (by omega), J2 9 (by omega)]; exact f8
    · rw [I3 6 8 (by omega)]; exact f81
    · rw [I3 6 11 (by omega), I3 6 12 (by omega), I3 6 13 (by omega), J2 11 (by omega), J2 12 (by omega), J2 13 (by omega)]; exact f11
    · rw [I3 6 5 (by omega), I3 6 4 (by omega)]; exact p1
    · rw [i6, I3 6 4 (by omega)]
    · rw [I3 6 4 (by omega), J2 8 (by omega)]; exact p3
    · cases last
      · have : x = m := by rw [hx]; simp
        omega
      · have : x = m + 1 := by rw [hx]; simp
        omega
    · intro y
      rw [I3 6 8 (by omega)]
      exact (hlast (b1'.mp y)).2
    · rw [I3 6 1 (by omega)]; exact r2
    · rw [I3 6 2 (by omega)]; exact r3
    · rw [I3 6 7 (by omega)]; exact r5
    · rw [I3 6 10 (by omega)]; exact r7
    · rw [A3, show zgA w2 159 e ((B' - 1 + i) % 2048) = zgA w 159 e ((B' - 1 + i) % 2048) from by rw [hw2]; rfl]
      exact a i hi'
  have ht3 : zRt z3 w2 e := zRt_cg (fun j _ => I3 10 j (by omega)) (fun j hj => J2 j (by omega)) ht
  obtain ⟨z4, w4, g1, g2', g3, g4', g5, g6, g7, g8, g9⟩ := zp_isNew (N := N) hn ho3 ht3
  have r18 : zgR z3 3 18 e = some e := (ec3.2.2.2.2 3 18 e).trans h18
  have r16 : zgR z3 3 16 e = some e := (ec3.2.2.2.2 3 16 e).trans h16
  have c69 : fX3_goAhead_69 N e (Int32.ofNat n) z3 = some (0, z4) := by
    unfold fX3_goAhead_69
    rw [r18, zl_e, r16, zl_e, zd_e, zd_e, g1, zc_e]
  refine ⟨z4, w4, ?_, ?_, ⟨?_, ?_, ?_, g3, ?_⟩, zEc1_tr ec3 g6, zEm1_tr em2 g9, fun k o i => (g8 k o i).trans (by rw [hw2]; rfl), (g4' 6 2 e (by omega)).trans (I3 6 2 (by omega)), (g4' 6 3 e (by omega)).trans i3, ?_, fun j => (g4' 3 j e (by omega)).trans (I3 3 j (by omega))⟩
  · have s3 : zgI z 6 3 e + Int32.ofNat m = Int32.ofNat (S' + m) := by rw [r4, zo_add]
    have q16 : zgR z1 3 16 e = some e := (ec1.2.2.2.2 3 16 e).trans h16
    have q66 : zgI z1 6 6 e = zgI z 6 6 e := by rw [hz1, zgI_sI, if_neg (by omega)]
    rw [h16, zl_e, zd_e, s3, ← hz1, zl_e, q16, zl_e, zd_e, q66]
    unfold fX3_goAhead_53
    cases last
    · have : x = m := by rw [hx]; simp
      rw [if_pos (show zbi false = 0 by decide), ← this, sum, ← hz2, zl_e, if_pos (show zbi false = 0 by decide)]
      rw [if_neg (by decide)] at hz3
      rw [← hz3]; exact c69
    · have xe : x = m + 1 := by rw [hx]; simp
      have q26 : zgR z2 3 16 e = some e := (ec2.2.2.2.2 3 16 e).trans h16
      rw [if_neg (show ¬ zbi true = 0 by decide), zo_i1, ← xe, sum, ← hz2, zl_e, if_neg (show ¬ zbi true = 0 by decide), q26, zl_e, zd_e, zl_e]
      rw [if_pos rfl] at hz3
      rw [← hz3]; exact c69
  · rw [← hx, ← f6, sum, ← hw2]; exact g2'
  · refine zRs_cg (fun j _ => (g4' 3 j e (by omega)).trans (I3 3 j (by omega))) (fun j hj => (g7 14 j e (by omega)).trans (J2 j (by omega))) hs
  · exact zRo_cg (fun j _ => g4' 6 j e (by omega)) (fun i => g5 124 e i) (fun j hj => g7 14 j e (by omega)) (fun i => g8 159 e i) ho3
  · exact zRi_cg (fun j _ => (g4' 4 j e (by omega)).trans (I3 4 j (by omega))) (fun k i _ => (g5 k e i).trans (A3 k i)) (fun j hj => (g7 14 j e (by omega)).trans (J2 j (by omega))) (fun k i _ => (g8 k e i).trans (by rw [hw2]; rfl)) hi
  · refine zRn_of (z := z) (fun j hj => (g4' 3 j e (by omega)).trans (I3 3 j (by omega))) ((g4' 6 11 e (by omega)).trans (I3 6 11 (by omega))) (Or.inr (Or.inr (Or.inr ?_))) ?_ (zRz_n hnn)
    · rw [g4' 6 6 e (by omega), g4' 6 4 e (by omega), i6, I3 6 4 (by omega)]
      exact zo_nF (by omega) (by omega)
    · unfold zRq
      rw [g4' 3 0 e (by omega), g7 14 17 e (by omega), g4' 3 9 e (by omega), g4' 3 11 e (by omega), g4' 3 13 e (by omega), g4' 6 4 e (by omega), g4' 6 5 e (by omega), g4' 6 6 e (by omega), g4' 6 7 e (by omega), g4' 4 7 e (by omega), I3 3 0 (by omega), J2 17 (by omega), I3 3 9 (by omega), I3 3 11 (by omega), I3 3 13 (by omega), I3 6 4 (by omega), I3 6 5 (by omega), I3 6 7 (by omega), I3 4 7 (by omega)]
      exact zRqv_n hst h11 hnn.2.2.2.2
  · rw [g4' 6 9 e (by omega), hz3]
    cases last
    · rw [if_neg (show ¬ false = true by decide), if_neg (show ¬ false = true by decide), hz2, hz1, zgI_sI, zgI_sI, if_neg (by omega), if_neg (by omega)]
    · rw [if_pos rfl, if_pos rfl, zgI_sI, if_pos ⟨rfl, rfl, rfl⟩]
