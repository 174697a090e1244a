/-! the model answers an error -/
theorem zsI_id (z : St) (k j o : Nat) : zsI z k j o (zgI z k j o) = z := by
  obtain ⟨a, b, c, d, e⟩ := z
  unfold zsI zgI
  congr 1
  funext k' j' o'
  unfold zup
  by_cases y : k' = k ∧ j' = j ∧ o' = o
  · obtain ⟨rfl, rfl, rfl⟩ := y; simp
  · simp [y]
def nGo (E : Ev) (b : Nat) (g : Sg) (D : Dg) : Option (Nat × Nat) → Sg
  | some v => nHand E b g v.1 v.2 D
  | none => g
def mMVx : Nat := mTM ||| (0x100000000000000000000000000000000000000000000000000000e0000000000000000000000000000000000000000000000000000000000000000000000000000000000000000000000000000000000000000000000000000000000000000000000000000000000000000000000000000000000000000000000000000000000000000000000000000000000000000000000000000000000000000 ||| (0x2000000000000000000000000000000000000000000000000000000000000000000000000000000800000000000000000000000000000000000000000000000000000000000000000000000000000000000000000000000000000000000000000000000000000000000000000000000000000000000000000000000000000000000000000000000000000000000000000000000000000000000000000000000000000000000000000 ||| (0x80000000000000000000000000000000000000000000000000001000000000000000000000000000000000000000000000000000000000000000080000000000000000000000000000000000000000000000000000000000000000000000000000000000000000000000000000000000000000000000000000000000000000000000000000000000000000000000000000000000000000000000000 ||| (0x30000000000000000000000000000000000000000000000200000000000000000000000000000000000000000000000000000000000000000000000000000000000000000000000000000000000000000000000000000000000000000000000000000000000000000000000000000000000000000000000000000000000000000000000000000000000000000000000000000000000000000000000000000000000000000000000000 ||| 0x8000000000000000000000000000000000000000000000000000000000000000000000000000000000000000000000000000000000000000000000000000000000000000000000000000000000000000000000000000000000000000000000000000000000000000000000000000000000000000000000000000000000000000000000000000000000000000000000000000000000000000000000000000000000000000000000000))))
theorem zMV_up {M : Nat} {w w' : St} {T : Tp} {E : Ev} {K : Int32 → Int32 → Int32 → Prop} {g : Sg} {X X' TS TA TB TS' TA' TB' : List Nat} (f : zFr M w w') (hm : mMVx &&& M = 0) (n : zNm w' T K g X' TS' TA' TB') (h : zMV w T E g K X TS TA TB) : zMV w' T E g K X' TS' TA' TB' := by
  obtain ⟨h1, h2, h3, h4, ⟨h5, h6, h7⟩, h8, h9⟩ := h
  obtain ⟨k1, r1⟩ := zmsk2 hm
  obtain ⟨k2, r2⟩ := zmsk2 r1
  obtain ⟨k3, r3⟩ := zmsk2 r2
  obtain ⟨k4, r4⟩ := zmsk2 r3
  obtain ⟨k6, k7⟩ := zmsk2 r4
  exact ⟨zTM_fr f k1 h1, h2, zEm_fr f k2 h3, h4, ⟨zTm_fr f k3 h5, zCm_fr f k4 h6, n⟩, zAm_fr f k6 h8, zHm_fr f k7 h9⟩
theorem zm_backL1 {w : St} {b d N : Nat} (hd : d < 2400) (h : ¬ md w d 2 = 1) : fX19_comeBack_L2 N 0 b (Int32.ofNat d) w = some (0, w) := by
  have o1 : fX19_of N 0 (Int32.ofNat d) 2 w = some (md w d 2, w) := zm_of (k := 2) hd (by omega)
  unfold fX19_comeBack_L2
  rw [o1, zc_e, if_pos h]
theorem zDw_err (q : Nat) (D : Dg) (num why : Int32) (old : Nat → Int32) : zDw (dErr q D num why old) := ⟨rfl, rfl, rfl, by show 0 + 36 ≤ 36; decide, by show 36 ≤ 1480; decide, by show 1 ≤ 36; decide⟩
theorem dErr_k (q : Nat) (D : Dg) (num why : Int32) (old : Nat → Int32) : ¬ (dErr q D num why old).1 2 = 5 ∧ ¬ (dErr q D num why old).1 2 = 6 := ⟨show ¬ (0 : Int32) = 5 by decide, show ¬ (0 : Int32) = 6 by decide⟩
theorem zm_back {w : St} {T : Tp} {E : Ev} {K : Int32 → Int32 → Int32 → Prop} {g : Sg} {Wy : Wyt} {X TS TA TB : List Nat} {b d i N : Nat} {D : Dg} {why num : Int32} {old : Nat → Int32} (h : zMV w T E g K X TS TA TB) (hW : zWym w T Wy) (hWw : zWyw T Wy) (hg : zGw T E g) (hl : ∀ q, tv T q → (gW g q).length ≤ 16) (hb : b < tb T) (hi : i < tp T b) (hd : d ∈ X) (hX : X.length < 98) (hD : zMD w T K d D) (hk : D.1 2 = 1) (hDw : zDw D) (hf : df D = 0) (hown : tha T b (D.1 0) = false) (h10 : D.1 10 = Int32.ofNat i) (hnum : zgI w 12 4 b = num) (hN : 1481 < N) :
    ∃ w', fX19_comeBack N 0 b (Int32.ofNat d) w = some (0, w') ∧ zMV w' T E (nGo E b g (dErr (tq T b i) D num why old) (rt T Wy b (D.1 0))) K X TS TA TB ∧ zKm X w w' ∧ zgI w' 12 4 b = num + 1 ∧ (∀ c, c ≠ b → zgI w' 12 4 c = zgI w 12 4 c) ∧ zFr (mX19_deliver ||| (mX19_drop ||| 0x100000000000000000000000000000000040000000000000000000000000000000000000000000000000000000000000000000000000000000000000000000000000000000000000010000000000000000000000000000000000000000000000000000000000000000000000000000000000000000000000000000000000000000000000000000000000000000000000000000000000000000000000000000000000000000000000000)) w w' := by
  have hc := h.2.1
  have hM := h.1
  have hd24 : d < 2400 := hD.1.1
  have hp6 := (hc.2.2.2.2.1 b hb).1
  obtain ⟨-, -, m1, m3, mq⟩ := hM.2.1.2 b hb
  obtain ⟨v1, v2, v3⟩ := hc.2.2.2.2.2.2.1 b i hb hi
  obtain ⟨⟨-, d0, d1, d2, -, -⟩, ⟨-, d6, -, -, d9, -⟩, dy, -⟩ := hD
  obtain ⟨s, s24, s10, -, s0, s1, -⟩ := dy hk
  have e6 : md w d 6 = 0 := by rw [d6, hDw.2.1, hf]; rfl
  obtain ⟨w1, d', r1, r2, r3, r4, r5, r6, r7, r9, r8⟩ := zm_makeN (N := N) (b := b) (kind := 0) (len := 36) (source := zad (tq T b i)) (goal := D.1 0) hc (by omega) h.2.2.2.2.1.2.2 (by omega)
  have n14 := zm_setN (k := 14) (v := D.1 0) hc r4 (by omega) (by omega) (by omega)
  have n15 := zm_setN (k := 15) (v := D.1 1) hc n14.1 (by omega) (by omega) (by omega)
  have n16 := zm_setN (k := 16) (v := g2 D.2 0) hc n15.1 (by omega) (by omega) (by omega)
  have n17 := zm_setN (k := 17) (v := g2 D.2 2) hc n16.1 (by omega) (by omega) (by omega)
  let w5 : St := zsA (zsA (zsA (zsA w1 172 0 (18 * d' + 14) (D.1 0)) 172 0 (18 * d' + 15) (D.1 1)) 172 0 (18 * d' + 16) (g2 D.2 0)) 172 0 (18 * d' + 17) (g2 D.2 2)
  have f5 : zFr 0x100000000000000000000000000000000040000000000000000000000000000000000000000000000000000000000000000000000000000000000000000000000000000000000000010000000000000000000000000000000000000000000000000000000000000000000000000000000000000000000000000000000000000000000000000000000000000000000000000000000000000000000000000000000000000000000000000 w w5 := zFr_A (zFr_A (zFr_A (zFr_A r7 (by decide)) (by decide)) (by decide)) (by decide)
  have k5 : zKm X w w5 := by
    have hd : ∀ {v : Int32} {j : Nat} {a : St}, j < 18 → zKm X a (zsA a 172 0 (18 * d' + j) v) := fun {v j a} hj => ⟨fun e k he hk => by rw [md_set hj hk, if_neg (fun y => r3 (by rw [← y.1]; exact he))], fun k i => by rw [zgA_sA, if_neg (fun y => absurd y.1 (by decide))], fun k i => by rw [zgA_sA, if_neg (fun y => absurd y.1 (by decide))], fun _ _ _ => rfl⟩
    exact zKm_tr (zKm_tr (zKm_tr (zKm_tr r6 (hd (by omega))) (hd (by omega))) (hd (by omega))) (hd (by omega))
  have M5 : zMV w5 T E g K (d' :: X) TS TA TB := zMV_up f5 (by decide) n17.1 h
  have md5 : ∀ k, k < 18 → md w5 d' k = if k = 17 then g2 D.2 2 else if k = 16 then g2 D.2 0 else if k = 15 then D.1 1 else if k = 14 then D.1 0 else md w1 d' k := fun k hk => by
    show md (zsA (zsA (zsA (zsA w1 172 0 (18 * d' + 14) (D.1 0)) 172 0 (18 * d' + 15) (D.1 1)) 172 0 (18 * d' + 16) (g2 D.2 0)) 172 0 (18 * d' + 17) (g2 D.2 2)) d' k = _
    rw [md_set (by omega) hk, md_set (by omega) hk, md_set (by omega) hk, md_set (by omega) hk]
    simp only [true_and]
  have DE : zMD w5 T K d' (dErr (tq T b i) D num why old) := by
    have E2 : (dErr (tq T b i) D num why old).2 = p2 (p2 (p2 (p4 (p4 old 0 (D.1 0)) 4 (D.1 1)) 8 (g2 D.2 0)) 10 (g2 D.2 2)) 12 why := rfl
    refine ⟨⟨r2, ?_, ?_, ?_, ?_, ?_⟩, ⟨?_, ?_, ?_, ?_, ?_, by show 36 ≤ 1480; decide⟩, fun y => absurd (show (0 : Int32) = 1 from y) (by decide), fun _ => ⟨?_, ?_, ?_, ?_, ?_, ?_⟩, fun y => absurd (show (0 : Int32) = 2 from y) (by decide), fun y => absurd (show (0 : Int32) = 3 from y) (by decide), fun y => absurd (show (0 : Int32) = 4 from y) (by decide)⟩
    · rw [md5 0 (by omega), r5 0 (by omega)]; rfl
    · rw [md5 1 (by omega), r5 1 (by omega)]; rfl
    · rw [md5 2 (by omega), r5 2 (by omega)]; rfl
    · rw [md5 3 (by omega), r5 3 (by omega)]; exact hnum
    · rw [md5 4 (by omega), r5 4 (by omega)]; rfl
    · rw [md5 5 (by omega), r5 5 (by omega)]; rfl
    · rw [md5 6 (by omega), r5 6 (by omega)]; rfl
    · rw [md5 7 (by omega), r5 7 (by omega)]; rfl
    · rw [md5 8 (by omega), r5 8 (by omega)]; rfl
    · rw [md5 9 (by omega), r5 9 (by omega)]; rfl
    · rw [md5 10 (by omega), r5 10 (by omega)]; rfl
    · rw [md5 11 (by omega), r5 11 (by omega)]; rfl
    · rw [md5 14 (by omega), E2, g4_o2 _ _ (by omega), g4_o2 _ _ (by omega), g4_o2 _ _ (by omega), g4_o4 _ _ (by omega), g4_p4]; rfl
    · rw [md5 15 (by omega), E2, g4_o2 _ _ (by omega), g4_o2 _ _ (by omega), g4_o2 _ _ (by omega), g4_p4]; rfl
    · rw [md5 16 (by omega), E2, g2_o2 _ _ (by omega), g2_o2 _ _ (by omega), g2_p2, g2_and]; rfl
    · rw [md5 17 (by omega), E2, g2_o2 _ _ (by omega), g2_p2, g2_and]; rfl
  have m2 : ¬ md w5 d' 2 = 1 := by rw [md5 2 (by omega), r5 2 (by omega)]; show ¬ (0 : Int32) = 1; decide
  have o : ∀ (j : Nat), j < 18 → fX19_of N 0 (Int32.ofNat d) (Int32.ofNat j) w = some (md w d j, w) := fun j hj => zm_of hd24 hj
  have o2 : fX19_of N 0 (Int32.ofNat d) 2 w = some (1, w) := by rw [← hk, ← d2]; exact o 2 (by omega)
  have o6 : fX19_of N 0 (Int32.ofNat d) 6 w = some (0, w) := by rw [← e6]; exact o 6 (by omega)
  have o0 : fX19_of N 0 (Int32.ofNat d) 0 w = some (D.1 0, w) := by rw [← d0]; exact o 0 (by omega)
  have o1 : fX19_of N 0 (Int32.ofNat d) 1 w = some (D.1 1, w) := by rw [← d1]; exact o 1 (by omega)
  have o10 : fX19_of N 0 (Int32.ofNat d) 10 w = some (Int32.ofNat s, w) := by rw [← s10]; exact o 10 (by omega)
  have o9 : fX19_of N 0 (Int32.ofNat d) 9 w = some (Int32.ofNat i, w) := by rw [← h10, ← d9]; exact o 9 (by omega)
  have g0 : fX19_seg N 0 (Int32.ofNat s) 0 w = some (g2 D.2 0, w) := by rw [← s0]; exact zm_seg (k := 0) s24 (by omega)
  have g1 : fX19_seg N 0 (Int32.ofNat s) 1 w = some (g2 D.2 2, w) := by rw [← s1]; exact zm_seg (k := 1) s24 (by omega)
  have run : ∀ w6, (zgI w 12 1 b = 0 → fX19_hostSends N 0 b (Int32.ofNat d') w5 = some (0, w6)) → (¬ zgI w 12 1 b = 0 → fX19_routerSends N 0 b (Int32.ofNat d') 0 w5 = some (0, w6)) → fX19_comeBack N 0 b (Int32.ofNat d) w = zc (fX19_drop N 0 (Int32.ofNat d') w6) fun _ z2 => some (0, z2) := by
    intro w6 hh hr
    unfold fX19_comeBack fX19_comeBack_186
    rw [o2, zc_e, if_neg (fun y => y rfl), o6, zc_e, if_pos rfl, o0, zc_e, o1, zc_e, o10, zc_e, g0, zc_e, o10, zc_e, g1, zc_e, zm_isOwn hM hc _ hb (by omega), zc_e, hown, show (zbi false : Int32) = 0 from rfl, if_pos rfl, o9, zc_e, zkk (by omega) (by omega), zl_e, zoC (by omega), mq i hi, zd_e, zm_address hM hc v1, zc_e, r1, zc_e]
    have t14 : ∀ {v : Int32} {a : St}, fX19_set N 0 (Int32.ofNat d') 14 v a = some (0, zsA a 172 0 (18 * d' + 14) v) := zm_set (k := 14) r2 (by omega)
    have t15 : ∀ {v : Int32} {a : St}, fX19_set N 0 (Int32.ofNat d') 15 v a = some (0, zsA a 172 0 (18 * d' + 15) v) := zm_set (k := 15) r2 (by omega)
    have t16 : ∀ {v : Int32} {a : St}, fX19_set N 0 (Int32.ofNat d') 16 v a = some (0, zsA a 172 0 (18 * d' + 16) v) := zm_set (k := 16) r2 (by omega)
    have t17 : ∀ {v : Int32} {a : St}, fX19_set N 0 (Int32.ofNat d') 17 v a = some (0, zsA a 172 0 (18 * d' + 17) v) := zm_set (k := 17) r2 (by omega)
    rw [t14, zc_e, t15, zc_e, t16, zc_e, t17, zc_e]
    have i1 : zgI w5 12 1 b = zgI w 12 1 b := zFr_gI f5 (by decide) (by decide) b
    show (if zgI w5 12 1 b = 0 then _ else _) = _
    rw [i1]
    by_cases c : zgI w 12 1 b = 0
    · rw [if_pos c]
      show zc (fX19_hostSends N 0 b (Int32.ofNat d') w5) _ = _
      rw [hh c, zc_e]
    · rw [if_neg c]
      show zc (fX19_routerSends N 0 b (Int32.ofNat d') 0 w5) _ = _
      rw [hr c, zc_e]
  have sent : ∃ w6, (zgI w 12 1 b = 0 → fX19_hostSends N 0 b (Int32.ofNat d') w5 = some (0, w6)) ∧ (¬ zgI w 12 1 b = 0 → fX19_routerSends N 0 b (Int32.ofNat d') 0 w5 = some (0, w6)) ∧ zMV w6 T E (nGo E b g (dErr (tq T b i) D num why old) (rt T Wy b (D.1 0))) K (d' :: X) TS TA TB ∧ zKm (d' :: X) w5 w6 ∧ zFr mX19_deliver w5 w6 := by
    have hW5 : zWym w5 T Wy := zWym_fr f5 (by decide) hW
    by_cases c : tr T b = true
    · have hne : ¬ zgI w 12 1 b = 0 := by rw [m1, c]; decide
      have := zm_routerSends (N := N) (f := 0) M5 hW5 hWw hg hl hb c List.mem_cons_self (by simp; omega) (zDw_err (tq T b i) D num why old) (dErr_k _ _ _ _ _) DE (by omega) hN
      have er : rt T Wy b (D.1 0) = rtR T Wy b (D.1 0) := by unfold rt; rw [if_pos c]
      rw [er]
      cases hrt : rtR T Wy b (D.1 0) with
      | none =>
        refine ⟨w5, fun y => absurd y hne, fun _ => ?_, M5, zKm_rf _ _, zFr_rf _ _⟩
        have t := this.2 hrt
        rw [zm_backL1 r2 m2, zc_e] at t
        exact t
      | some v =>
        obtain ⟨w6, t1, t2, t3, t4⟩ := this.1 v.1 v.2 hrt
        refine ⟨w6, fun y => absurd y hne, fun _ => t1, t2, t3, ?_⟩
        have : zgI w5 12 6 b + Int32.ofNat 0 = zgI w5 12 6 b := Int32.add_zero _
        rw [this, zsI_id] at t4
        exact t4
    · have c' : tr T b = false := by simpa using c
      have he : zgI w 12 1 b = 0 := by rw [m1, c']; rfl
      have := zm_hostSends (N := N) M5 hg hl hb List.mem_cons_self (by simp; omega) (zDw_err (tq T b i) D num why old) (dErr_k _ _ _ _ _) rfl DE hN
      have er : rt T Wy b (D.1 0) = rtH T b (D.1 0) := by unfold rt; rw [if_neg c]
      rw [er]
      cases hrt : rtH T b (D.1 0) with
      | none =>
        refine ⟨w5, fun _ => ?_, fun y => absurd he y, M5, zKm_rf _ _, zFr_rf _ _⟩
        have t := this.2 hrt
        rw [if_neg (by omega), zm_backL1 r2 m2, zc_e] at t
        exact t
      | some v =>
        obtain ⟨w6, t1, t2, t3, t4⟩ := this.1 v.1 v.2 hrt
        exact ⟨w6, fun _ => t1, fun y => absurd he y, t2, t3, t4⟩
  obtain ⟨w6, s1', s2', s3, s4, s5⟩ := sent
  obtain ⟨w7, u1, u2, u3, u4⟩ := zm_dropN (N := N) hc s3.2.2.2.2.1.2.2
  have f7 : zFr (mX19_deliver ||| (mX19_drop ||| 0x100000000000000000000000000000000040000000000000000000000000000000000000000000000000000000000000000000000000000000000000000000000000000000000000010000000000000000000000000000000000000000000000000000000000000000000000000000000000000000000000000000000000000000000000000000000000000000000000000000000000000000000000000000000000000000000000000)) w w7 := zFr_tr (zFr_w f5 (by decide)) (zFr_tr (zFr_w s5 (by decide)) (zFr_w u4 (by decide)))
  have i7 : ∀ c, zgI w7 12 4 c = zgI w5 12 4 c := fun c => (zFr_gI u4 (by decide) (by decide) c).trans (zFr_gI s5 (by decide) (by decide) c)
  have i5 : ∀ c, zgI w5 12 4 c = if c = b then zgI w 12 4 b + 1 else zgI w 12 4 c := fun c => by
    show zgI w1 12 4 c = _
    rw [r9 12 4 c (by simp)]
    simp only [true_and]
  refine ⟨w7, ?_, zMV_up u4 (by decide) u2 s3, zKm_tr k5 (zKm_tr (zKm_sub (fun e he => List.mem_cons_of_mem _ he) s4) (zKm_sub (fun e he => List.mem_cons_of_mem _ he) u3)), ?_, fun c hc' => ?_, f7⟩
  · rw [run w6 s1' s2', u1, zc_e]
  · rw [i7, i5, if_pos rfl, hnum]
  · rw [i7, i5, if_neg hc']
