/-! ends, both sides: a segment's bytes and its end -/
def zRz (z : St) (e : Nat) : Prop := (∃ p : Nat, 1 ≤ p ∧ p ≤ 1460 ∧ zgI z 3 2 e = Int32.ofNat p) ∧ (∃ p : Nat, 60 ≤ p ∧ p ≤ 1460 ∧ zgI z 3 1 e = Int32.ofNat p) ∧ ∃ v : Nat, v ≤ 65535 ∧ zgI z 6 11 e = Int32.ofNat v
theorem zRz_n {z w : St} {e : Nat} (h : zRn z w e) : zRz z e := ⟨h.2.1, h.2.2.1, h.2.2.2.1⟩
theorem zRz_cg {z z' : St} {e : Nat} (h3 : ∀ j, j = 1 ∨ j = 2 → zgI z' 3 j e = zgI z 3 j e) (h6 : zgI z' 6 11 e = zgI z 6 11 e) (h : zRz z e) : zRz z' e := by
  obtain ⟨⟨p, p1, p2, p3⟩, ⟨l, l1, l2, l3⟩, v, v1, v2⟩ := h
  exact ⟨⟨p, p1, p2, (h3 2 (Or.inr rfl)).trans p3⟩, ⟨l, l1, l2, (h3 1 (Or.inl rfl)).trans l3⟩, v, v1, h6.trans v2⟩
theorem zRn_mk {z w : St} {e : Nat} (hs : zgI z 3 0 e = 11 ∨ zgI z 3 0 e = 0 ∨ zgI z 3 0 e = 1 ∨ ¬ zgI z 6 6 e = zgI z 6 4 e) (hq : zRq z w e) (h : zRz z e) : zRn z w e := ⟨hs, h.1, h.2.1, h.2.2, hq⟩
theorem zRn_of {z z' w' : St} {e : Nat} (h3 : ∀ j, j = 1 ∨ j = 2 → zgI z' 3 j e = zgI z 3 j e) (h6 : zgI z' 6 11 e = zgI z 6 11 e) (hs : zgI z' 3 0 e = 11 ∨ zgI z' 3 0 e = 0 ∨ zgI z' 3 0 e = 1 ∨ ¬ zgI z' 6 6 e = zgI z' 6 4 e) (hq : zRq z' w' e) (h : zRz z e) : zRn z' w' e := zRn_mk hs hq (zRz_cg h3 h6 h)
theorem zp_quiet2 {z w : St} {e N : Nat} (v : Int32) (hR : zgR z 3 18 e = some e) (hb : ¬ zgI z 6 6 e = zgI z 6 4 e) (h17 : zgI w 14 17 e = 1) (h56 : zgI z 6 5 e = zgI z 6 6 e) (hs0 : zRs z w e) (ho : zRo z w e) (hi : zRi z w e) (ht00 : zRt z w e) (hzz : zRz z e) : ∃ z' w', fX3_becomeQuiet N e v z = some (0, z') ∧ fX14_become N e 10 v w = some (0, w') ∧ zEe z' w' e ∧ zEc1 e z z' ∧ zEm1 e w w' ∧ zgI z' 3 0 e = 10 := by
  obtain ⟨⟨s1, s2, s3, s4, s5⟩, s6, s7⟩ := hs0
  obtain ⟨ht0, ht⟩ := ht00
  obtain ⟨z', hz⟩ : ∃ u, u = zsI (zsI (zsI (zsI (zsI (zsI z 3 0 e 10) 3 9 e 0) 3 11 e 0) 3 12 e 0) 10 0 e 0) 3 4 e (v + 2000) := ⟨_, rfl⟩
  obtain ⟨w', hw⟩ : ∃ u, u = zsI (zsI (zsI (zsI (zsI (zsI (zsI w 14 0 e 10) 14 28 e 0) 14 30 e 0) 14 31 e 0) 14 32 e (zgI w 14 32 e)) 14 33 e 0) 14 43 e (v + 2000) := ⟨_, rfl⟩
  have w01 : zgI w 14 32 e = 0 ∨ zgI w 14 32 e = 1 := by rw [← s7.2.2.2.2.1]; exact s7.2.2.2.2.2
  have I : ∀ k j, zgI z' k j e = if k = 3 ∧ j = 4 then v + 2000 else if k = 10 ∧ j = 0 then 0 else if k = 3 ∧ (j = 9 ∨ j = 11 ∨ j = 12) then 0 else if k = 3 ∧ j = 0 then 10 else zgI z k j e := fun k j => by
    rw [hz]
    simp only [zgI_sI, and_true]
    by_cases c : k = 3
    · subst c
      simp only [true_and]
      by_cases c1 : j = 12
      · subst c1; simp
      · by_cases c2 : j = 11
        · subst c2; simp
        · by_cases c3 : j = 9
          · subst c3; simp
          · simp [c1, c2, c3]
    · simp [c]
  have J : ∀ j, zgI w' 14 j e = if j = 43 then v + 2000 else if j = 28 ∨ j = 30 ∨ j = 31 ∨ j = 33 then 0 else if j = 0 then 10 else zgI w 14 j e := fun j => by
    rw [hw]
    simp only [zgI_sI, and_true, true_and]
    by_cases c0 : j = 33
    · subst c0; simp
    · by_cases c1 : j = 32
      · subst c1; simp
      · by_cases c2 : j = 31
        · subst c2; simp
        · by_cases c3 : j = 30
          · subst c3; simp
          · by_cases c4 : j = 28
            · subst c4; simp
            · simp [c0, c1, c2, c3, c4]
  have A : ∀ k i, zgA z' k e i = zgA z k e i := fun k i => by rw [hz]; rfl
  have B : ∀ k i, zgA w' k e i = zgA w k e i := fun k i => by rw [hw]; rfl
  refine ⟨z', w', ?_, ?_, ⟨⟨⟨?_, ?_, ?_, ?_, ?_⟩, ⟨?_, ?_⟩, ?_, ?_, ?_, ?_, ?_, ?_⟩, ?_, ?_, ⟨?_, ?_⟩, ?_⟩, ?_, ?_, ?_⟩
  · unfold fX3_becomeQuiet fX3_finish fX3_finish_31
    rw [zl_e, zl_e, zl_e, zl_e, if_pos rfl]
    have : zgR (zsI (zsI (zsI (zsI z 3 0 e 10) 3 9 e 0) 3 11 e 0) 3 12 e 0) 3 18 e = some e := hR
    rw [this, zl_e, zd_e, zl_e, zc_e, zl_e, hz]
  · unfold fX14_become fX14_become_21 fX14_become_54 fX14_become_55 fX14_become_63
    rw [zl_e, if_neg (by decide), if_neg (by decide), if_neg (fun y => y rfl), zl_e, zl_e, zl_e]
    have e32 : zgI (zsI (zsI (zsI (zsI w 14 0 e 10) 14 28 e 0) 14 30 e 0) 14 31 e 0) 14 32 e = zgI w 14 32 e := by simp [zgI_sI]
    rw [e32, hw]
    rcases w01 with c | c
    · rw [c, if_pos rfl, zq01 (Or.inl rfl), zl_e, zl_e, if_neg (fun y => y rfl), zl_e]
    · rw [c, if_neg (by decide), if_neg (fun y => y rfl), zq01 (Or.inr rfl), zl_e, zl_e, if_neg (fun y => y rfl), zl_e]
  · rw [I, J]; simp
  · rw [I, J]; simpa using s2
  · rw [I, J]; simpa using s3
  · rw [I, J]; simpa using s4
  · rw [I, I, J]; intro y; simp
  · rw [I, J]; simpa using s6.1
  · rw [I, I, I, I, J, J, J]; simpa using s6.2
  · rw [I, J]; simp
  · rw [I, J]; simpa using s7.2.1
  · rw [I, J]; simp
  · rw [I, J]; simp
  · rw [I, J]; simpa using s7.2.2.2.2.1
  · rw [I]; simpa using s7.2.2.2.2.2
  · exact zRo_cg (fun j _ => by rw [I]; simp) (fun i => A 124 i) (fun j hj => by rw [J, if_neg (by omega), if_neg (by omega), if_neg (by omega)]) (fun i => B 159 i) ho
  · exact zRi_cg (fun j _ => by rw [I]; simp) (fun k i _ => A k i) (fun j hj => by rw [J, if_neg (by omega), if_neg (by omega), if_neg (by omega)]) (fun k i _ => B k i) hi
  · left; rw [I, J]; simp
  · obtain ⟨t1, t2, t3, t4, t5, t6, t7, t8, tw, t9, t10, t11⟩ := ht
    refine ⟨?_, ?_, ?_, ?_, ?_, ?_, ?_, ?_, tw, t9, t10, ?_⟩
    · rw [I, J]; simpa using t1
    · rw [I, J]; simpa using t2
    · rw [I, J]; simpa using t3
    · rw [I, J]; simpa using t4
    · rw [I, J]; simpa using t5
    · rw [I, J]; simpa using t6
    · rw [I]; simpa using t7
    · rw [I, I, I, J, J]; simpa using t8
    · rw [I]; simpa using t11
  · refine zRn_of (fun j hj => ?_) (by rw [I]; simp) (Or.inr (Or.inr (Or.inr ?_))) (by unfold zRq; simp only [I, J]; simpa using zRqv_quiet h17 h56) hzz
    · rw [I, if_neg (by omega), if_neg (by omega), if_neg (by omega), if_neg (by omega)]
    · rw [I, I]; simpa using hb
  · rw [hz]
    exact zEc1_tr (zEc1_I (by simp)) (zEc1_tr (zEc1_I (by simp)) (zEc1_tr (zEc1_I (by simp)) (zEc1_tr (zEc1_I (by simp)) (zEc1_tr (zEc1_I (by simp)) (zEc1_I (by simp))))))
  · rw [hw]
    exact zEm1_tr zEm1_I (zEm1_tr zEm1_I (zEm1_tr zEm1_I (zEm1_tr zEm1_I (zEm1_tr zEm1_I (zEm1_tr zEm1_I zEm1_I)))))
  · rw [I]; simp
/-- a segment's bytes and its LAST are taken: both sides, up to the end that may be reached -/
theorem zp_take {z w : St} {e x s N : Nat} {V : Sv} (hV : zSgC z x V) (hVm : zSgM w s V) (hi : zRi z w e) (h17 : zgI w 14 17 e = 1) (h7 : zgI z 4 7 e = 0) (hN : 4096 < N) :
    ∃ z1 w1, fX4_take N e x z = some (0, if zOv z1 e = true then zsI (zsI z1 4 4 e (zgI z1 4 4 e + 1)) 4 7 e 1 else z1) ∧ fX19_arriveBytes_33 N 0 e (Int32.ofNat s) (Int32.ofNat (vgM V)) w = fX19_arriveBytes_252 N 0 e (Int32.ofNat s) (Int32.ofNat (vgM V)) w1 ∧ zRi z1 w1 e ∧
      (∀ k j u, ¬ (k = 4 ∧ (j = 3 ∨ j = 4 ∨ j = 5 ∨ j = 6) ∧ u = e) → zgI z1 k j u = zgI z k j u) ∧ (∀ k u i, ¬ ((k = 120 ∨ k = 121) ∧ u = e) → zgA z1 k u i = zgA z k u i) ∧ zEc1 e z z1 ∧ (∀ j, ¬ (j = 16 ∨ j = 21 ∨ j = 22) → zgI w1 14 j e = zgI w 14 j e) ∧ (∀ k u i, ¬ ((k = 160 ∨ k = 161) ∧ u = e) → zgA w1 k u i = zgA w k u i) ∧ zEm1 e w w1 := by
  have hM := hV.2.1
  obtain ⟨f4, f5, f6, f7, f8, -, -⟩ := hi.1
  obtain ⟨st, R, hst, hR, c2, c3, c4, hA⟩ := zRi_a hi h17 h7
  have m16 : zgI w 14 16 e = zgI w 14 18 e + Int32.ofNat R := f4.symm.trans c4
  have m23 : zgI w 14 23 e = 0 := f7.symm.trans h7
  obtain ⟨a, ha⟩ : ∃ u, u = vgN V - (zgI w 14 18 e + Int32.ofNat R) := ⟨_, rfl⟩
  obtain ⟨z2, w2, g1, g2, g3, g4, g5⟩ := zp_bytesL (N := N) (e := e) (x := x) (s := s) (X := zgI w 14 18 e + Int32.ofNat R) ha rfl rfl hst hR (vgM V) 0 N N z w (by omega) (by omega) (by omega) hV hVm c2 c3 m16 hA
  have hV2 : zSgC z2 x V := zSgC_ec (zRwC_c g4) hV
  have hVm2 : zSgM w2 s V := zSgM_em (zRwM_m g5) hVm
  have rm : fX4_room N e z = some (Int32.ofNat (2048 - R), z) := by
    unfold fX4_room
    rw [c3, show (2048 : Int32) = Int32.ofNat 2048 from rfl, zo_sub hR]
  have rmM : fX14_room N e w = some (Int32.ofNat (2048 - R), w) := by
    unfold fX14_room
    rw [zm_readR h17 m23 m16, zc_e, show (2048 : Int32) = Int32.ofNat 2048 from rfl, zo_sub hR]
  -- the LAST that the segment may bring
  obtain ⟨z3, w3, k1, k2, k3, k4, k5, k6, k7, k8, k9, k10, k11⟩ : ∃ z3 w3, fX4_take_24b N (fun _ _ _ _ _ _ _ => none) e x (Int32.ofNat (2048 - R)) (Int32.ofNat (vgM V)) a (Int32.ofNat (vgM V)) z2 = fX4_take_160 N e z3 ∧ fX19_arriveBytes_50b N (fun _ _ _ _ _ _ _ _ => none) 0 e (Int32.ofNat s) (Int32.ofNat (vgM V)) (Int32.ofNat (2048 - R)) (vgN V) (Int32.ofNat (vgM V)) w2 = fX19_arriveBytes_181 N N 0 e (Int32.ofNat s) (Int32.ofNat (vgM V)) w3 ∧ zgI z3 4 5 e = zgI w3 14 21 e ∧ (zgI z3 4 5 e = 0 ∨ zgI z3 4 5 e = 1) ∧ (zgI z3 4 5 e = 1 → zgI z3 4 6 e = zgI w3 14 22 e) ∧ (∀ k j u, ¬ (k = 4 ∧ (j = 5 ∨ j = 6) ∧ u = e) → zgI z3 k j u = zgI z2 k j u) ∧ (∀ k u i, zgA z3 k u i = zgA z2 k u i) ∧ zEc1 e z2 z3 ∧ (∀ j, ¬ (j = 21 ∨ j = 22) → zgI w3 14 j e = zgI w2 14 j e) ∧ (∀ k u i, zgA w3 k u i = zgA w2 k u i) ∧ zEm1 e w2 w3 := by
    have n45 : zgI z2 4 5 e = zgI w2 14 21 e := by rw [g4.1, g5.1]; exact f5
    have n01 : zgI z2 4 5 e = 0 ∨ zgI z2 4 5 e = 1 := by rw [g4.1]; exact f8
    have n46 : zgI z2 4 5 e = 1 → zgI z2 4 6 e = zgI w2 14 22 e := by rw [g4.1, g4.1, g5.1]; exact f6
    have same : ∀ r1 r2, r1 = fX4_take_160 N e z2 → r2 = fX19_arriveBytes_181 N N 0 e (Int32.ofNat s) (Int32.ofNat (vgM V)) w2 → ∃ z3 w3, r1 = fX4_take_160 N e z3 ∧ r2 = fX19_arriveBytes_181 N N 0 e (Int32.ofNat s) (Int32.ofNat (vgM V)) w3 ∧ zgI z3 4 5 e = zgI w3 14 21 e ∧ (zgI z3 4 5 e = 0 ∨ zgI z3 4 5 e = 1) ∧ (zgI z3 4 5 e = 1 → zgI z3 4 6 e = zgI w3 14 22 e) ∧ (∀ k j u, ¬ (k = 4 ∧ (j = 5 ∨ j = 6) ∧ u = e) → zgI z3 k j u = zgI z2 k j u) ∧ (∀ k u i, zgA z3 k u i = zgA z2 k u i) ∧ zEc1 e z2 z3 ∧ (∀ j, ¬ (j = 21 ∨ j = 22) → zgI w3 14 j e = zgI w2 14 j e) ∧ (∀ k u i, zgA w3 k u i = zgA w2 k u i) ∧ zEm1 e w2 w3 := fun r1 r2 h1 h2 => ⟨z2, w2, h1, h2, n45, n01, n46, fun _ _ _ _ => rfl, fun _ _ _ => rfl, zEc1_rf e z2, fun _ _ => rfl, fun _ _ _ => rfl, zEm1_rf e w2⟩
    unfold fX4_take_24b fX19_arriveBytes_50b
    have off : (vgN V + Int32.ofNat (vgM V)) - zgI w2 14 16 e = a + Int32.ofNat (vgM V) := by rw [g5.1, m16, ha]; exact zi_off _ _ _
    rw [if_pos (Int32.le_refl _), if_pos (Int32.le_refl _), off, zl_e, zc_hasf 2 hV2, zc_e, zm_hasf 2 hVm2, zc_e, ← n45]
    cases vgK V 2
    · rw [if_pos (by decide), if_pos (by decide)]; exact same _ _ rfl rfl
    · rw [if_neg (show ¬ zbi true = 0 by decide), if_neg (show ¬ zbi true = 0 by decide)]
      by_cases d1 : zgI z2 4 5 e = 0
      · rw [if_neg (show ¬ ¬ zgI z2 4 5 e = 0 from fun y => y d1), if_neg (show ¬ ¬ zgI z2 4 5 e = 0 from fun y => y d1)]
        by_cases d2 : a + Int32.ofNat (vgM V) < 0
        · rw [if_pos d2, if_pos d2]; exact same _ _ rfl rfl
        · rw [if_neg d2, if_neg d2]
          by_cases d3 : Int32.ofNat (2048 - R) ≤ a + Int32.ofNat (vgM V)
          · rw [if_pos d3, if_pos d3]; exact same _ _ rfl rfl
          · rw [if_neg d3, if_neg d3, zl_e, zl_e]
            have q7 : zgI (zsI z2 4 5 e 1) 7 16 x = vgN V := by rw [zgI_sI, if_neg (by omega)]; exact hV2.1.2.1
            rw [q7, zl_e, zl_e]
            refine ⟨_, _, rfl, rfl, ?_, ?_, fun _ => ?_, fun k j u q => ?_, fun _ _ _ => rfl, zEc1_tr (zEc1_I (by simp)) (zEc1_I (by simp)), fun j q => ?_, fun _ _ _ => rfl, zEm1_tr zEm1_I zEm1_I⟩
            · rw [zgI_sI, zgI_sI, zgI_sI, zgI_sI, if_neg (by omega), if_pos ⟨rfl, rfl, rfl⟩, if_neg (by omega), if_pos ⟨rfl, rfl, rfl⟩]
            · right; rw [zgI_sI, zgI_sI, if_neg (by omega), if_pos ⟨rfl, rfl, rfl⟩]
            · rw [zgI_sI, if_pos ⟨rfl, rfl, rfl⟩, zgI_sI, if_pos ⟨rfl, rfl, rfl⟩]
            · rw [zgI_sI, zgI_sI, if_neg (by omega), if_neg (by omega)]
            · rw [zgI_sI, zgI_sI, if_neg (by omega), if_neg (by omega)]
      · rw [if_pos (show ¬ zgI z2 4 5 e = 0 from d1), if_pos (show ¬ zgI z2 4 5 e = 0 from d1)]; exact same _ _ rfl rfl
  have C3 : ∀ k j u, ¬ (k = 4 ∧ (j = 5 ∨ j = 6) ∧ u = e) → zgI z3 k j u = zgI z k j u := fun k j u q => (k6 k j u q).trans (g4.1 k j u)
  have D3 : ∀ j, ¬ (j = 21 ∨ j = 22) → zgI w3 14 j e = zgI w 14 j e := fun j q => (k9 j q).trans (g5.1 14 j e)
  have hA3 : zIa z3 w3 e st (zun (zgI w 14 18 e)) R := fun i hi => by
    have := g3 i hi
    rw [k7, k7, k10, k10]; exact this
  obtain ⟨z1, w1, R1, p1, p2, p3, p4, p5, p6, p7, p8, p9, p10, p11, p12, p13⟩ := zp_goOnL (N := N) (e := e) (s := s) (m := vgM V) (Y := zgI w 14 18 e) (lk := zgI z3 4 5 e) (ln := zgI z3 4 6 e) rfl hst k4 (2048 - R) R 0 N N z3 w3 (by omega) (by omega) (by omega) (by omega) ((C3 4 2 e (by omega)).trans c2) ((C3 4 3 e (by omega)).trans c3) ((C3 4 4 e (by omega)).trans c4) rfl (fun _ => rfl) ((D3 16 (by omega)).trans m16) ((D3 17 (by omega)).trans h17) (D3 18 (by omega)) k3.symm (fun y => (k5 y).symm) ((D3 23 (by omega)).trans m23) hA3
  have C1 : ∀ k j u, ¬ (k = 4 ∧ (j = 3 ∨ j = 4 ∨ j = 5 ∨ j = 6) ∧ u = e) → zgI z1 k j u = zgI z k j u := fun k j u q => (p8 k j u (by omega)).trans (C3 k j u (by omega))
  have D1 : ∀ j, ¬ (j = 16 ∨ j = 21 ∨ j = 22) → zgI w1 14 j e = zgI w 14 j e := fun j q => (p11 j (by omega)).trans (D3 j (by omega))
  have q45 : zgI z1 4 5 e = zgI z3 4 5 e := p8 4 5 e (by omega)
  have q46 : zgI z1 4 6 e = zgI z3 4 6 e := p8 4 6 e (by omega)
  refine ⟨z1, w1, ?_, ?_, ?_, C1, fun k u i q => (p9 k u i (by omega)).trans ((k7 k u i).trans (g4.2.1 k u i q)), zEc1_tr (zRwC_c g4) (zEc1_tr k8 p10), D1, fun k u i q => (p12 k u i (by omega)).trans ((k10 k u i).trans (g5.2.1 k u i q)), zEm1_tr (zRwM_m g5) (zEm1_tr k11 p13)⟩
  · unfold fX4_take
    rw [rm, zc_e, zc_bytes hV, zc_e, hV.1.2.1, c4, ← ha, zl_e]
    have := g1 (fun _ _ _ _ _ _ _ => none)
    rw [k1] at this
    refine Eq.trans this ?_
    unfold fX4_take_160 fX4_goOn
    have p1' : fX4_goOn_2 N N e 0 z3 = _ := p1
    rw [p1', zc_e]
  · unfold fX19_arriveBytes_33
    rw [rmM, zc_e, zm_sgN hVm, zc_e]
    have := g2 (fun _ _ _ _ _ _ _ _ => none)
    rw [k2] at this
    exact this.trans p2
  · refine zRi_b (st := st) (R := R1) ?_ ?_ ?_ ?_ ?_ ?_ ?_ hst p3 ?_ p4 ?_ ?_
    · rw [p5, p6]
    · rw [q45, p11 21 (by omega)]; exact k3
    · rw [q45, q46, p11 22 (by omega)]; exact k5
    · rw [C1 4 7 e (by omega), D1 23 (by omega)]; exact f7
    · rw [q45]; exact k4
    · rw [C1 4 7 e (by omega)]; exact h7
    · rw [D1 17 (by omega)]; exact h17
    · rw [C1 4 2 e (by omega)]; exact c2
    · rw [D1 18 (by omega)]; exact p5
    · rw [D1 18 (by omega)]; exact p7
