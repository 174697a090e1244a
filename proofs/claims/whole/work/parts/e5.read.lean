/-! a byte that came is taken out of an end, both sides -/
theorem zEe_rd {z w : St} {e : Nat} (h : zEe z w e) {st R : Nat} (hst : st < 2048) (hR : R ≤ 2048) (h0 : 0 < R) (h2 : zgI z 4 2 e = Int32.ofNat st) (h3 : zgI z 4 3 e = Int32.ofNat R) : zgI w 14 17 e = 1 ∧ zgA z 120 e st = zgA w 160 e (zun (zgI w 14 18 e) % 2048) ∧ zEe (zsI (zsI z 4 2 e (Int32.ofNat ((st + 1) % 2048))) 4 3 e (Int32.ofNat (R - 1))) (zsI w 14 18 e (zgI w 14 18 e + 1)) e := by
  obtain ⟨hs, ho, hi, ht, hnn⟩ := h
  obtain ⟨⟨i1, i2, i3, i4, i5, i6, i7⟩, st', R', ⟨r1, r2, r3, r4⟩, j0, j1, j2, j3⟩ := hi
  have e1 : st' = st := (zo_eq (by omega) (by omega)).mp (r3.symm.trans h2)
  have e2 : R' = R := (zo_eq (by omega) (by omega)).mp (r4.symm.trans h3)
  subst e1 e2
  have h17 : zgI w 14 17 e = 1 := by
    rcases i7 with c | c
    · have := (j0 c).1; omega
    · exact c
  obtain ⟨z1, hz⟩ : ∃ u, u = zsI (zsI z 4 2 e (Int32.ofNat ((st' + 1) % 2048))) 4 3 e (Int32.ofNat (R' - 1)) := ⟨_, rfl⟩
  obtain ⟨w1, hw⟩ : ∃ u, u = zsI w 14 18 e (zgI w 14 18 e + 1) := ⟨_, rfl⟩
  have I : ∀ k j, ¬ (k = 4 ∧ (j = 2 ∨ j = 3)) → zgI z1 k j e = zgI z k j e := fun k j q => by rw [hz, zgI_sI, zgI_sI, if_neg (by omega), if_neg (by omega)]
  have I2 : zgI z1 4 2 e = Int32.ofNat ((st' + 1) % 2048) := by rw [hz]; simp [zgI_sI]
  have I3 : zgI z1 4 3 e = Int32.ofNat (R' - 1) := by rw [hz]; simp [zgI_sI]
  have J : ∀ j, ¬ j = 18 → zgI w1 14 j e = zgI w 14 j e := fun j q => by rw [hw, zgI_sI, if_neg (by omega)]
  have J1 : zgI w1 14 18 e = zgI w 14 18 e + 1 := by rw [hw]; simp [zgI_sI]
  have A : ∀ k i, zgA z1 k e i = zgA z k e i := fun k i => by rw [hz]; rfl
  have B : ∀ k i, zgA w1 k e i = zgA w k e i := fun k i => by rw [hw]; rfl
  have ad : ∀ k : Nat, zgI w 14 18 e + 1 + Int32.ofNat k = zgI w 14 18 e + Int32.ofNat (k + 1) := fun k => by
    rw [show (1 : Int32) = Int32.ofNat 1 from rfl, Int32.add_assoc, zo_add, Nat.add_comm 1 k]
  have md : ∀ k, ((st' + 1) % 2048 + k) % 2048 = (st' + (k + 1)) % 2048 := fun k => by omega
  refine ⟨h17, ?_, ?_⟩
  · have := j2 0 (by omega)
    rw [zun_add, Nat.add_zero, Nat.add_zero, Nat.mod_eq_of_lt r1] at this
    exact this
  · rw [← hz, ← hw]
    refine ⟨zRs_cg (fun j _ => I 3 j (by omega)) (fun j hj => J j (by omega)) hs, zRo_cg (fun j _ => I 6 j (by omega)) (fun _ => A _ _) (fun j hj => J j (by omega)) (fun _ => B _ _) ho, ⟨⟨?_, ?_, ?_, ?_, ?_, ?_, ?_⟩, (st' + 1) % 2048, R' - 1, ⟨by omega, by omega, I2, I3⟩, fun y => ?_, fun _ => ?_, fun i hi => ?_, fun y k hk => ?_⟩, zRt_cg (fun j _ => I 10 j (by omega)) (fun j hj => J j (by omega)) ht, zRn_cg (fun j _ => I 3 j (by omega)) (I 6 11 (by omega)) ?_ ?_ hnn⟩
    · rw [I 4 4 (by omega), J 16 (by omega)]; exact i1
    · rw [I 4 5 (by omega), J 21 (by omega)]; exact i2
    · rw [I 4 5 (by omega), I 4 6 (by omega), J 22 (by omega)]; exact i3
    · rw [I 4 7 (by omega), J 23 (by omega)]; exact i4
    · rw [I 4 5 (by omega)]; exact i5
    · rw [I 4 7 (by omega)]; exact i6
    · rw [J 17 (by omega)]; exact i7
    · rw [J 17 (by omega), h17] at y; exact absurd y (by decide)
    · rw [I 4 4 (by omega), I 4 7 (by omega), J1, ad, j1 h17, show R' - 1 + 1 = R' from by omega]
    · rw [A, B, J1, ad, md]; exact j2 (i + 1) (by omega)
    · rw [I 4 7 (by omega)] at y
      have q := j3 y k hk
      rw [A, A, B, B, I 4 4 (by omega), J 17 (by omega), show ((st' + 1) % 2048 + (R' - 1) + k) % 2048 = (st' + R' + k) % 2048 from by omega]
      refine ⟨q.1, q.2.imp id (fun t => ⟨t.1, by omega, t.2.2⟩)⟩
    · rw [I 3 0 (by omega), I 6 6 (by omega), I 6 4 (by omega)]; exact hnn.1
    · exact zRq_eq (fun j hj => I 3 j (by omega)) (fun j hj => I 6 j (by omega)) (I 10 0 (by omega)) (I 4 7 (by omega)) (J 17 (by omega)) hnn.2.2.2.2
theorem zp_takeByte {z w : St} {e N : Nat} (h17r : zgR z 3 17 e = some e) (h : zEe z w e) (h0 : ¬ zgI z 4 3 e ≤ 0) :
    ∃ v z' w', fX3_takeByte N e z = some (v, z') ∧ fX14_read N e w = some (v, w') ∧ zEe z' w' e ∧ zEc1 e z z' ∧ zEm1 e w w' ∧ (∀ k j, ¬ (k = 4 ∧ (j = 2 ∨ j = 3)) → ¬ (k = 3 ∧ j = 13) → zgI z' k j e = zgI z k j e) ∧ (zgI z' 4 3 e).toNatClampNeg + 1 = (zgI z 4 3 e).toNatClampNeg ∧ (∀ k o i, zgA w' k o i = zgA w k o i) := by
  obtain ⟨hs, ho, hi, ht, hnn⟩ := id h
  obtain ⟨R, r1, r2, r3, r4, r5⟩ := zp_room (N := N) hi
  obtain ⟨-, st, R', ⟨s1, s2, s3, s4⟩, -⟩ := id hi
  have e2 : R' = R := (zo_eq (by omega) (by omega)).mp (s4.symm.trans r2)
  subst e2
  have hR : 0 < R' := by
    rcases Nat.eq_zero_or_pos R' with y | y
    · rw [r2, y] at h0; exact absurd (by decide) h0
    · exact y
  obtain ⟨h17, hb, E1⟩ := zEe_rd h s1 r1 hR s3 s4
  obtain ⟨z1, hz⟩ : ∃ u, u = zsI (zsI z 4 2 e (Int32.ofNat ((st + 1) % 2048))) 4 3 e (Int32.ofNat (R' - 1)) := ⟨_, rfl⟩
  obtain ⟨w1, hw⟩ : ∃ u, u = zsI w 14 18 e (zgI w 14 18 e + 1) := ⟨_, rfl⟩
  rw [← hz, ← hw] at E1
  have I : ∀ k j, ¬ (k = 4 ∧ (j = 2 ∨ j = 3)) → zgI z1 k j e = zgI z k j e := fun k j q => by rw [hz, zgI_sI, zgI_sI, if_neg (by omega), if_neg (by omega)]
  have I3 : zgI z1 4 3 e = Int32.ofNat (R' - 1) := by rw [hz]; simp [zgI_sI]
  have J : ∀ j, ¬ j = 18 → zgI w1 14 j e = zgI w 14 j e := fun j q => by rw [hw, zgI_sI, if_neg (by omega)]
  have RR : zgR z1 3 17 e = some e := by rw [hz]; exact h17r
  have c1 : zEc1 e z z1 := by rw [hz]; exact zEc1_tr (zEc1_I (by simp)) (zEc1_I (by simp))
  have m1 : zEm1 e w w1 := by rw [hw]; exact zEm1_I
  obtain ⟨v, hv⟩ : ∃ v, v = zgA z 120 e st &&& (255 : Int32) := ⟨_, rfl⟩
  have tk : fX4_takeByte N e z = some (v, z1) := by
    unfold fX4_takeByte
    have q3 : zgI (zsI z 4 2 e (Int32.ofNat ((st + 1) % 2048))) 4 3 e = Int32.ofNat R' := by rw [zgI_sI, if_neg (by omega)]; exact r2
    rw [r2, if_pos (show (0 : Int32) < Int32.ofNat R' from (zo_lt (a := 0) (by omega) (by omega)).mpr hR), s3, zkk s1 (by omega), zoC (by omega), ← hv, zl_e, show Int32.ofNat st + (1 : Int32) = Int32.ofNat (st + 1) from zo_add st 1, zand47 (by omega), zl_e, q3, show Int32.ofNat R' - (1 : Int32) = Int32.ofNat (R' - 1) from zo_sub (b := 1) (by omega), zl_e, ← hz]
  have lim : (if (1024 : Int32) ≤ zgI w 14 15 e then (1024 : Int32) else zgI w 14 15 e) = (if (1024 : Int32) < zgI z 3 2 e then (1024 : Int32) else zgI z 3 2 e) := by
    rw [hs.1.2.2.1]
    by_cases q : (1024 : Int32) < zgI w 14 15 e
    · rw [if_pos q, if_pos (Int32.le_of_lt q)]
    · rw [if_neg q]
      by_cases q2 : (1024 : Int32) ≤ zgI w 14 15 e
      · rw [if_pos q2]; exact Int32.le_antisymm q2 (Int32.not_lt.mp q)
      · rw [if_neg q2]
  obtain ⟨l, hl⟩ : ∃ l, l = (if (1024 : Int32) < zgI z 3 2 e then (1024 : Int32) else zgI z 3 2 e) := ⟨_, rfl⟩
  have mr : ∀ s0 : Int32, fX14_read_34 N e l s0 w = (if s0 = 0 then (some (v, w1)) else (zc (fX14_room N e w1) fun r5 z6 => if r5 < l then (some (v, z6)) else (if (zgI z6 14 0 e) = (4 : Int32) then (fX14_read_100 N e v z6) else (if (zgI z6 14 0 e) = (5 : Int32) then (fX14_read_100 N e v z6) else (if ¬ (zgI z6 14 0 e) = (6 : Int32) then (some (v, z6)) else (fX14_read_100 N e v z6)))))) := fun s0 => by
    unfold fX14_read_34
    have p := zun_lt (zgI w 14 18 e)
    have hp : zun (zgI w 14 18 e) % 2048 < 2048 := Nat.mod_lt _ (by omega)
    rw [zand_o, zkk hp (by omega), zoC (by omega), ← hb, ← hv, zl_e, zl_e, ← hw]
  have mr0 : fX14_read N e w = fX14_read_20 N e l w := by
    unfold fX14_read
    rw [hl, ← lim]
    split <;> rfl
  obtain ⟨R2, q1, q2, q3, q4, q5⟩ := zp_room (N := N) E1.2.2.1
  have e3 : R2 = R' - 1 := (zo_eq (by omega) (by omega)).mp (q2.symm.trans I3)
  subst e3
  have sh : fX3_takeByte_27 N e l 0 z = some (v, z1) := by
    unfold fX3_takeByte_27
    rw [h17r, zl_e, zd_e, tk, zc_e, if_pos rfl]
  have sz : (zgI z1 4 3 e).toNatClampNeg + 1 = (zgI z 4 3 e).toNatClampNeg := by
    rw [I3, r2, zoC (by omega), zoC (by omega)]; omega
  have wA : ∀ k o i, zgA w1 k o i = zgA w k o i := fun k o i => by rw [hw]; rfl
  have plain : ∃ z' w', some (v, z1) = some (v, z') ∧ some (v, w1) = some (v, w') ∧ zEe z' w' e ∧ zEc1 e z z' ∧ zEm1 e w w' ∧ (∀ k j, ¬ (k = 4 ∧ (j = 2 ∨ j = 3)) → ¬ (k = 3 ∧ j = 13) → zgI z' k j e = zgI z k j e) ∧ (zgI z' 4 3 e).toNatClampNeg + 1 = (zgI z 4 3 e).toNatClampNeg ∧ (∀ k o i, zgA w' k o i = zgA w k o i) := ⟨z1, w1, rfl, rfl, E1, c1, m1, fun k j q _ => I k j q, sz, wA⟩
  have thx : ∃ z' w', some (v, zsI z1 3 13 e 1) = some (v, z') ∧ some (v, zsI w1 14 32 e 1) = some (v, w') ∧ zEe z' w' e ∧ zEc1 e z z' ∧ zEm1 e w w' ∧ (∀ k j, ¬ (k = 4 ∧ (j = 2 ∨ j = 3)) → ¬ (k = 3 ∧ j = 13) → zgI z' k j e = zgI z k j e) ∧ (zgI z' 4 3 e).toNatClampNeg + 1 = (zgI z 4 3 e).toNatClampNeg ∧ (∀ k o i, zgA w' k o i = zgA w k o i) := ⟨_, _, rfl, rfl, zEe_thx (by rw [J 17 (by omega)]; exact h17) E1, zEc1_tr c1 (zEc1_I (by simp)), zEm1_tr m1 zEm1_I, fun k j q q2 => by rw [zgI_sI, if_neg (by omega)]; exact I k j q, by rw [zgI_sI, if_neg (by omega)]; exact sz, fun k o i => wA k o i⟩
  refine ⟨v, ?_⟩
  rw [mr0]
  unfold fX3_takeByte fX14_read_20
  rw [← hl, zl_e, h17r, zl_e, zd_e, r3, zc_e, r5, zc_e]
  by_cases k1 : l ≤ Int32.ofNat (2048 - R')
  · rw [if_pos k1, if_pos k1, mr, if_pos rfl, sh]
    exact plain
  · rw [if_neg k1, if_neg k1, mr, if_neg (show ¬ (1 : Int32) = 0 by decide), q5, zc_e]
    unfold fX3_takeByte_27
    rw [h17r, zl_e, zd_e, tk, zc_e, if_neg (show ¬ (1 : Int32) = 0 by decide), RR, zl_e, zd_e, q3, zc_e]
    by_cases k2 : Int32.ofNat (2048 - (R' - 1)) < l
    · rw [if_pos k2, if_pos k2]; exact plain
    · rw [if_neg k2, if_neg k2]
      unfold fX3_takesIn fX3_takesIn_25 fX14_read_100
      rw [J 0 (by omega), ← hs.1.1, I 3 0 (by omega)]
      by_cases a4 : zgI z 3 0 e = 4
      · rw [if_pos a4, if_pos a4, zc_e, if_neg (by decide), zl_e, zl_e]; exact thx
      · rw [if_neg a4, if_neg a4]
        by_cases a5 : zgI z 3 0 e = 5
        · rw [if_pos a5, if_pos a5, zc_e, if_neg (by decide), zl_e, zl_e]; exact thx
        · rw [if_neg a5, if_neg a5]
          by_cases a6 : zgI z 3 0 e = 6
          · rw [if_neg (fun y => y a6), if_neg (fun y => y a6), zc_e, if_neg (by decide), zl_e, zl_e]; exact thx
          · rw [if_pos a6, if_pos a6, zc_e, if_pos rfl]; exact plain
