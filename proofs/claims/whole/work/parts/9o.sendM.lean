/-! the model sends -/
theorem zsA_id (z : St) (k o i : Nat) : zsA z k o i (zgA z k o i) = z := by
  rw [zsA_asC]
  have : (fun j => if j = i then zgA z k o i else zgA z k o j) = zgA z k o := funext (fun j => by
    by_cases e : j = i
    · rw [if_pos e, e]
    · rw [if_neg e])
  rw [this]; exact zsC_id z k o
theorem zm_isOf {w : St} {n N : Nat} (x : Int32) (hn : n < 256) : fX19_isOf N x (Int32.ofNat n) w = some (zbi (decide (zhi x = 10) && decide (zan x = n)), w) := by
  have a1 := zhi_lt x
  have a2 := zan_lt x
  unfold fX19_isOf
  rw [zhi_e, zan_e2, show (10 : Int32) = Int32.ofNat 10 from rfl]
  simp (disch := omega) only [zo_eq]
  unfold zbi
  by_cases c1 : zhi x = 10
  · by_cases c2 : zan x = n
    · simp [c1, c2]
    · simp [c1, c2]
  · simp [c1]
theorem zsame {x : Int32} {q : Nat} (hq : q / 8 < 24) : zun x / 65536 = zun (zad q) / 65536 ↔ zhi x = 10 ∧ zan x = q / 8 := by
  have h1 := zad_hi hq
  have h2 := zad_an hq
  have := zun_lt x
  have := zun_lt (zad q)
  unfold zhi zan at *
  omega
theorem zm_hostSends {w : St} {T : Tp} {E : Ev} {K : Int32 → Int32 → Int32 → Prop} {g : Sg} {X TS TA TB : List Nat} {b d N : Nat} {D : Dg} (h : zMV w T E g K X TS TA TB) (hg : zGw T E g) (hl : ∀ q, tv T q → (gW g q).length ≤ 16) (hb : b < tb T) (hd : d ∈ X) (hX : X.length < 99) (hDw : zDw D) (hk : ¬ D.1 2 = 5 ∧ ¬ D.1 2 = 6) (h10 : D.1 10 = 0) (hD : zMD w T K d D) (hN : 1481 < N) :
    (∀ q s, rtH T b (D.1 1) = some (q, s) → ∃ w', fX19_hostSends N 0 b (Int32.ofNat d) w = some (0, w') ∧ zMV w' T E (nHand E b g q s D) K X TS TA TB ∧ zKm X w w' ∧ zFr mX19_deliver w w') ∧
    (rtH T b (D.1 1) = none → fX19_hostSends N 0 b (Int32.ofNat d) w = if tp T b = 0 then some (0, w) else zc (fX19_comeBack_L2 N 0 b (Int32.ofNat d) w) fun _ z => some (0, z)) := by
  have hc := h.2.1
  have h24 := hc.2.1
  have hM := h.1
  obtain ⟨-, -, -, m3, mq⟩ := hM.2.1.2 b hb
  have hd24 : d < 2400 := hD.1.1
  have hp6 := (hc.2.2.2.2.1 b hb).1
  by_cases c : tp T b = 0
  · refine ⟨fun q s e => ?_, fun _ => ?_⟩
    · unfold rtH at e; rw [if_pos c] at e; cases e
    · unfold fX19_hostSends
      rw [if_pos c, m3, if_neg (by rw [show (0 : Int32) = Int32.ofNat 0 from rfl, zo_eq (by omega) (by omega)]; omega)]
  obtain ⟨v1, v2, v3⟩ := hc.2.2.2.2.2.2.1 b 0 hb (by omega)
  obtain ⟨-, p2, -, -⟩ := hM.2.2.2 _ v1
  obtain ⟨-, n0, n5, nq⟩ := hM.2.1.1 _ v1.1
  have h8 := hc.2.2.1 _ v1.1
  have e9 : md w d 9 = 0 := by rw [hD.2.1.2.2.2.2.1]; exact h10
  have es : zsA w 172 0 (18 * d + 9) 0 = w := by
    have : zsA w 172 0 (18 * d + 9) (zgA w 172 0 (18 * d + 9)) = w := zsA_id w 172 0 _
    unfold md at e9
    rw [e9] at this
    exact this
  have e1 : md w d 1 = D.1 1 := hD.1.2.2.1
  have hrun : fX19_hostSends N 0 b (Int32.ofNat d) w = zc (fX19_isOf N (D.1 1) (Int32.ofNat (tq T b 0 / 8)) w) (fun r15 z16 => if r15 = 0 then (fX19_hostSends_82 N N 0 b (Int32.ofNat d) (tq T b 0) (0 : Int32) z16) else (zc (fX19_isAddress N 0 (D.1 1) z16) fun r20 z21 => if r20 = 0 then (zc (fX19_comeBack_L2 N 0 b (Int32.ofNat d) z21) fun _ z26 => some (0, z26)) else (zc (fX19_deliver N 0 (tq T b 0) (((D.1 1) &&& (65535 : Int32)) - (1 : Int32)) (Int32.ofNat d) z21) fun _ z30 => some (0, z30)))) := by
    unfold fX19_hostSends
    rw [m3, if_pos (by rw [show (0 : Int32) = Int32.ofNat 0 from rfl, zo_eq (by omega) (by omega)]; omega), zk_0 (by decide) (by decide), zl_e, show (Int32.toNatClampNeg (0 : Int32)) = 0 from rfl, mq 0 (by omega)]
    have s9 : fX19_set N 0 (Int32.ofNat d) 9 0 w = some (0, zsA w 172 0 (18 * d + 9) 0) := zm_set (k := 9) hd24 (by omega)
    have o1 : fX19_of N 0 (Int32.ofNat d) 1 w = some (md w d 1, w) := zm_of (k := 1) hd24 (by omega)
    rw [s9, zc_e, es, o1, zc_e, zd_e, zl_e, p2, zd_e, e1, n0]
  have hv8 := v1.2
  have hq24 : tq T b 0 / 8 < 24 := by have := v1.1; omega
  by_cases c1 : zun (D.1 1) / 65536 = zun (zad (tq T b 0)) / 65536
  · obtain ⟨c2, c3⟩ := (zsame hq24).mp c1
    by_cases c4 : zia T (D.1 1) = true
    · obtain ⟨z1, z2, z3, z4⟩ := zia_iff.mp c4
      have er : rtH T b (D.1 1) = some (tq T b 0, zal (D.1 1) - 1) := by
        unfold rtH; rw [if_neg c, if_pos c1, if_pos c4]
      refine ⟨fun q s e => ?_, fun e => by rw [er] at e; cases e⟩
      rw [er] at e
      obtain ⟨rfl, rfl⟩ : tq T b 0 = q ∧ zal (D.1 1) - 1 = s := by
        have := Option.some.inj e
        exact ⟨congrArg Prod.fst this, congrArg Prod.snd this⟩
      obtain ⟨w', r1, r2, r3⟩ := zm_deliver (N := N) (q := tq T b 0) (s := zal (D.1 1) - 1) h hg v1 (by omega) hd hX hDw hk (hl _ v1) hD hN
      rw [v2] at r2
      refine ⟨w', ?_, r2, r3, wX19_deliver (Nat.and_self _) (zFr_rf _ _) _ _ r1⟩
      rw [hrun, zm_isOf (n := tq T b 0 / 8) (D.1 1) (by omega), zc_e, c2, c3]
      simp only [decide_true, Bool.and_self]
      rw [show (zbi true : Int32) = 1 from rfl, if_neg (by decide), zm_isAddress hM hc, zc_e, c4, show (zbi true : Int32) = 1 from rfl, if_neg (by decide), zal_e, zo_s1 (by omega), r1, zc_e]
    · have er : rtH T b (D.1 1) = none := by
        unfold rtH; rw [if_neg c, if_pos c1, if_neg c4]
      refine ⟨fun q s e => (by rw [er] at e; cases e), fun _ => ?_⟩
      rw [if_neg c, hrun, zm_isOf (n := tq T b 0 / 8) (D.1 1) (by omega), zc_e, c2, c3]
      simp only [decide_true, Bool.and_self]
      have c4' : zia T (D.1 1) = false := by simpa using c4
      rw [show (zbi true : Int32) = 1 from rfl, if_neg (by decide), zm_isAddress hM hc, zc_e, c4', show (zbi false : Int32) = 0 from rfl, if_pos rfl]
  · have c2 : (decide (zhi (D.1 1) = 10) && decide (zan (D.1 1) = tq T b 0 / 8)) = false := by
      have := mt (zsame (x := D.1 1) (q := tq T b 0) hq24).mpr c1
      by_cases y : zhi (D.1 1) = 10
      · have : ¬ zan (D.1 1) = tq T b 0 / 8 := fun z => this ⟨y, z⟩
        simp [this]
      · simp [y]
    have er : rtH T b (D.1 1) = (tlr T (tq T b 0 / 8)).map (fun s => (tq T b 0, s)) := by
      unfold rtH; rw [if_neg c, if_neg c1]
    have hloop : fX19_hostSends N 0 b (Int32.ofNat d) w = (match tlr T (tq T b 0 / 8) with | some s => (zc (fX19_deliver N 0 (tq T b 0) (Int32.ofNat s) (Int32.ofNat d) w) fun _ z18 => some (0, z18)) | none => (zc (fX19_comeBack_L2 N 0 b (Int32.ofNat d) w) fun _ z5 => some (0, z5))) := by
      rw [hrun, zm_isOf (n := tq T b 0 / 8) (D.1 1) (by omega), zc_e, c2, show (zbi false : Int32) = 0 from rfl, if_pos rfl]
      refine zlf0 (G := fun n' i => fX19_hostSends_82 N n' 0 b (Int32.ofNat d) (tq T b 0) (Int32.ofNat i) w) (p := fun s => tr T (tw T (8 * (tq T b 0 / 8) + s))) (f := fun s => zc (fX19_deliver N 0 (tq T b 0) (Int32.ofNat s) (Int32.ofNat d) w) fun _ z18 => some (0, z18)) (r := (zc (fX19_comeBack_L2 N 0 b (Int32.ofNat d) w) fun _ z5 => some (0, z5))) (k := ts T (tq T b 0 / 8)) (by omega) ?_ ?_ ?_
      · intro n' i hi hp
        have hv := tv_of hc v1.1 hi
        obtain ⟨q0, -, -, -⟩ := hM.2.2.2 _ hv
        have e1 := (hM.2.1.2 _ (hc.2.2.2.2.2.1 _ hv).1).2.2.1
        show fX19_hostSends_82b N (fX19_hostSends_82 N n') 0 b (Int32.ofNat d) (tq T b 0) (Int32.ofNat i) w = _
        unfold fX19_hostSends_82b
        rw [zl_e, p2, zd_e, n5, if_neg (by rw [zo_le (by omega) (by omega)]; omega), zl_e, zd_e, zkk (by omega) (by omega), zl_e, zoC (by omega), nq i hi, zd_e, zl_e, q0, zd_e, e1, hp, if_pos (by rfl), zl_e, zo_i1]
      · intro n' i hi hp
        have hv := tv_of hc v1.1 hi
        obtain ⟨q0, -, -, -⟩ := hM.2.2.2 _ hv
        have e1 := (hM.2.1.2 _ (hc.2.2.2.2.2.1 _ hv).1).2.2.1
        show fX19_hostSends_82b N (fX19_hostSends_82 N n') 0 b (Int32.ofNat d) (tq T b 0) (Int32.ofNat i) w = _
        unfold fX19_hostSends_82b
        rw [zl_e, p2, zd_e, n5, if_neg (by rw [zo_le (by omega) (by omega)]; omega), zl_e, zd_e, zkk (by omega) (by omega), zl_e, zoC (by omega), nq i hi, zd_e, zl_e, q0, zd_e, e1, hp, if_neg (by decide)]
      · intro n'
        show fX19_hostSends_82b N (fX19_hostSends_82 N n') 0 b (Int32.ofNat d) (tq T b 0) (Int32.ofNat (ts T (tq T b 0 / 8))) w = _
        unfold fX19_hostSends_82b
        rw [zl_e, p2, zd_e, n5, if_pos (by rw [zo_le (by omega) (by omega)]; omega)]
    cases ht : tlr T (tq T b 0 / 8) with
    | none =>
      rw [ht] at er hloop
      refine ⟨fun q s e => (by rw [er] at e; cases e), fun _ => ?_⟩
      rw [if_neg c]; exact hloop
    | some s =>
      rw [ht] at er hloop
      refine ⟨fun q t e => ?_, fun e => by rw [er] at e; cases e⟩
      rw [er] at e
      obtain ⟨rfl, rfl⟩ : tq T b 0 = q ∧ s = t := by
        have := Option.some.inj e
        exact ⟨congrArg Prod.fst this, congrArg Prod.snd this⟩
      have hs := (zfst_some ht).2.1
      obtain ⟨w', r1, r2, r3⟩ := zm_deliver (N := N) (q := tq T b 0) (s := s) h hg v1 (by omega) hd hX hDw hk (hl _ v1) hD hN
      rw [v2] at r2
      refine ⟨w', ?_, r2, r3, wX19_deliver (Nat.and_self _) (zFr_rf _ _) _ _ r1⟩
      rw [hloop]
      show zc _ _ = _
      rw [r1, zc_e]
theorem zmsk2 {a b M : Nat} (h : (a ||| b) &&& M = 0) : a &&& M = 0 ∧ b &&& M = 0 := by
  constructor
  · apply Nat.eq_of_testBit_eq
    intro i
    have := congrArg (fun x => x.testBit i) h
    simp only [Nat.testBit_and, Nat.testBit_or, Nat.zero_testBit] at this ⊢
    revert this
    cases a.testBit i <;> cases b.testBit i <;> cases M.testBit i <;> simp
  · apply Nat.eq_of_testBit_eq
    intro i
    have := congrArg (fun x => x.testBit i) h
    simp only [Nat.testBit_and, Nat.testBit_or, Nat.zero_testBit] at this ⊢
    revert this
    cases a.testBit i <;> cases b.testBit i <;> cases M.testBit i <;> simp
/-- what the model's network reads -/
def mMV : Nat := mTM ||| (0x100000000000000000000000000000000000000000000000000000e0000000000000000000000000000000000000000000000000000000000000000000000000000000000000000000000000000000000000000000000000000000000000000000000000000000000000000000000000000000000000000000000000000000000000000000000000000000000000000000000000000000000000000 ||| (0x2000000000000000000000000000000000000000000000000000000000000000000000000000000800000000000000000000000000000000000000000000000000000000000000000000000000000000000000000000000000000000000000000000000000000000000000000000000000000000000000000000000000000000000000000000000000000000000000000000000000000000000000000000000000000000000000000 ||| (0x80000000000000000000000000000000000000000000000000001000000000000000000000000000000000000000000000000000000000000000080000000000000000000000000000000000000000000000000000000000000000000000000000000000000000000000000000000000000000000000000000000000000000000000000000000000000000000000000000000000000000000000000 ||| ((mMp ||| 0x10048c0000000000000000000000000008000000000000000001000000000000000000000000000000000000000000000000000000000000000000000000000000000000000000000000000000000000000000000000000000000000000000000000000000000000000000000000000000000000000000000000000000000000000000000000000000000000000000000000000000000000000000000000000000000000000000000000000) ||| (0x30000000000000000000000000000000000000000000000200000000000000000000000000000000000000000000000000000000000000000000000000000000000000000000000000000000000000000000000000000000000000000000000000000000000000000000000000000000000000000000000000000000000000000000000000000000000000000000000000000000000000000000000000000000000000000000000000 ||| 0x8000000000000000000000000000000000000000000000000000000000000000000000000000000000000000000000000000000000000000000000000000000000000000000000000000000000000000000000000000000000000000000000000000000000000000000000000000000000000000000000000000000000000000000000000000000000000000000000000000000000000000000000000000000000000000000000000)))))
theorem zMV_fr {M : Nat} {w w' : St} {T : Tp} {E : Ev} {K : Int32 → Int32 → Int32 → Prop} {g : Sg} {X TS TA TB : List Nat} (f : zFr M w w') (hm : mMV &&& M = 0) (hL : ∀ k o i, zgL w' k o i = zgL w k o i) (h : zMV w T E g K X TS TA TB) : zMV w' T E g K X TS TA TB := by
  obtain ⟨h1, h2, h3, h4, ⟨h5, h6, h7⟩, h8, h9⟩ := h
  obtain ⟨k1, r1⟩ := zmsk2 hm
  obtain ⟨k2, r2⟩ := zmsk2 r1
  obtain ⟨k3, r3⟩ := zmsk2 r2
  obtain ⟨k4, r4⟩ := zmsk2 r3
  obtain ⟨k5, r5⟩ := zmsk2 r4
  obtain ⟨k6, k7⟩ := zmsk2 r5
  exact ⟨zTM_fr f k1 h1, h2, zEm_fr f k2 h3, h4, ⟨zTm_fr f k3 h5, zCm_fr f k4 h6, zNm_fr f k5 h2 hL h7⟩, zAm_fr f k6 h8, zHm_fr f k7 h9⟩
/-- a router's -/
theorem zm_routerSends {w : St} {T : Tp} {E : Ev} {K : Int32 → Int32 → Int32 → Prop} {g : Sg} {Wy : Wyt} {X TS TA TB : List Nat} {b d f N : Nat} {D : Dg} (h : zMV w T E g K X TS TA TB) (hW : zWym w T Wy) (hWw : zWyw T Wy) (hg : zGw T E g) (hl : ∀ q, tv T q → (gW g q).length ≤ 16) (hb : b < tb T) (hr : tr T b = true) (hd : d ∈ X) (hX : X.length < 99) (hDw : zDw D) (hk : ¬ D.1 2 = 5 ∧ ¬ D.1 2 = 6) (hD : zMD w T K d D) (hf : f ≤ 1) (hN : 1481 < N) :
    (∀ q s, rtR T Wy b (D.1 1) = some (q, s) → ∃ w', fX19_routerSends N 0 b (Int32.ofNat d) (Int32.ofNat f) w = some (0, w') ∧ zMV w' T E (nHand E b g q s D) K X TS TA TB ∧ zKm X w w' ∧ zFr mX19_deliver (zsI w 12 6 b (zgI w 12 6 b + Int32.ofNat f)) w') ∧
    (rtR T Wy b (D.1 1) = none → fX19_routerSends N 0 b (Int32.ofNat d) (Int32.ofNat f) w = zc (fX19_comeBack_L2 N 0 b (Int32.ofNat d) w) fun _ z => some (0, z)) := by
  have hc := h.2.1
  have h24 := hc.2.1
  have h16 := hc.1
  have hM := h.1
  obtain ⟨-, m0, -, m3, mq⟩ := hM.2.1.2 b hb
  have hd24 : d < 2400 := hD.1.1
  have hp6 := (hc.2.2.2.2.1 b hb).1
  have e1 : md w d 1 = D.1 1 := hD.1.2.2.1
  have o1 : fX19_of N 0 (Int32.ofNat d) 1 w = some (md w d 1, w) := zm_of (k := 1) hd24 (by omega)
  unfold fX19_routerSends fX19_routerSends_39
  rw [o1, zc_e, zl_e, e1, zm_isAddress hM hc, zc_e, zan_e2]
  by_cases c : zia T (D.1 1) = false
  · have er : rtR T Wy b (D.1 1) = none := by unfold rtR; rw [if_pos c]
    refine ⟨fun q s e => (by rw [er] at e; cases e), fun _ => ?_⟩
    rw [c, show (zbi false : Int32) = 0 from rfl, if_pos rfl]
  have c' : zia T (D.1 1) = true := by simpa using c
  obtain ⟨z1, z2, z3, z4⟩ := zia_iff.mp c'
  have h24' : zan (D.1 1) < 24 := by omega
  rw [c', show (zbi true : Int32) = 1 from rfl, if_neg (by decide), zkk (by omega) (by omega), zoC (by omega)]
  obtain ⟨w1, w2, w3⟩ := hW b _ hb hr h24'
  rcases hWw b _ hb hr h24' with y | ⟨y1, o, q, y2, y3, y4, y5⟩
  · have er : rtR T Wy b (D.1 1) = none := by unfold rtR; rw [if_neg c, if_pos y.1]
    refine ⟨fun q s e => (by rw [er] at e; cases e), fun _ => ?_⟩
    rw [w1, if_neg (fun x => x y.1)]
  obtain ⟨v1, v2, v3, v4, v5⟩ := tpo_some hc hb y4
  have hv8 : q % 8 < 8 := Nat.mod_lt _ (by decide)
  -- the port
  have hloop : fX19_routerSends_52 N N 0 b (Int32.ofNat d) (Int32.ofNat f) (D.1 1) (Int32.ofNat (zan (D.1 1))) none (0 : Int32) w = fX19_routerSends_52b N (fun _ _ _ _ _ _ _ _ _ => none) 0 b (Int32.ofNat d) (Int32.ofNat f) (D.1 1) (Int32.ofNat (zan (D.1 1))) (some q) (Int32.ofNat (tp T b)) w := by
    refine zlp0 (G := fun n' i => fX19_routerSends_52 N n' 0 b (Int32.ofNat d) (Int32.ofNat f) (D.1 1) (Int32.ofNat (zan (D.1 1))) (if ti T q < i then some q else none) (Int32.ofNat i) w) (r := fX19_routerSends_52b N (fun _ _ _ _ _ _ _ _ _ => none) 0 b (Int32.ofNat d) (Int32.ofNat f) (D.1 1) (Int32.ofNat (zan (D.1 1))) (some q) (Int32.ofNat (tp T b)) w) (k := tp T b) (n := N) (by omega) ?_ ?_
    · intro n' i hi
      show fX19_routerSends_52b N (fX19_routerSends_52 N n') 0 b (Int32.ofNat d) (Int32.ofNat f) (D.1 1) (Int32.ofNat (zan (D.1 1))) (if ti T q < i then some q else none) (Int32.ofNat i) w = fX19_routerSends_52 N n' 0 b (Int32.ofNat d) (Int32.ofNat f) (D.1 1) (Int32.ofNat (zan (D.1 1))) (if ti T q < i + 1 then some q else none) (Int32.ofNat (i + 1)) w
      obtain ⟨u1, u2, u3⟩ := hc.2.2.2.2.2.2.1 b i hb hi
      obtain ⟨-, p2, -, -⟩ := hM.2.2.2 _ u1
      obtain ⟨-, n0, -, -⟩ := hM.2.1.1 _ u1.1
      have u8 := u1.1
      unfold fX19_routerSends_52b fX19_routerSends_96
      rw [m3, if_neg (by rw [zo_le (by omega) (by omega)]; omega), zkk (by omega) (by omega), zl_e, zoC (by omega), mq i hi, zd_e, zl_e, p2, zd_e, zkk (by omega) (by omega), zoC (by omega), n0, w3, y3]
      by_cases e : tq T b i / 8 = o
      · have : i = ti T q := by
          rw [← u3]
          have := tpo_of hc hb hi e
          rw [y4] at this
          rw [Option.some.inj this]
        rw [e, if_neg (fun y => y rfl), zkk (by omega) (by omega), zl_e, zl_e, zo_i1, if_pos (by omega)]
        have e3 : tq T b i = q := by rw [this, v5]
        rw [e3]
      · rw [if_pos (by rw [zo_eq (by omega) (by omega)]; exact e), zl_e, zo_i1]
        have : i ≠ ti T q := fun x => e (by rw [x, v5]; exact v3)
        by_cases e2 : ti T q < i
        · rw [if_pos e2, if_pos (show ti T q < i + 1 by omega)]
        · rw [if_neg e2, if_neg (show ¬ ti T q < i + 1 by omega)]
    · intro n'
      show fX19_routerSends_52b N (fX19_routerSends_52 N n') 0 b (Int32.ofNat d) (Int32.ofNat f) (D.1 1) (Int32.ofNat (zan (D.1 1))) (if ti T q < tp T b then some q else none) (Int32.ofNat (tp T b)) w = _
      rw [if_pos v4]
      unfold fX19_routerSends_52b
      rw [m3, if_pos (Int32.le_refl _), if_pos (Int32.le_refl _)]
  rw [w1, if_pos y1, hloop]
  have tail : ∀ s, s < 8 → rtR T Wy b (D.1 1) = some (q, s) → ∃ w', fX19_routerSends_150 N 0 b (Int32.ofNat d) (Int32.ofNat f) (some q) (Int32.ofNat s) w = some (0, w') ∧ zMV w' T E (nHand E b g q s D) K X TS TA TB ∧ zKm X w w' ∧ zFr mX19_deliver (zsI w 12 6 b (zgI w 12 6 b + Int32.ofNat f)) w' := by
    intro s hs er
    have fr : zFr 0x40000000000000000000000000000000000000000000000000000000000000000000000000000000000000000000000000000000000000000000000000000000000000000000000000000000000000000000000000000000000000000000000000 w (zsI w 12 6 b (zgI w 12 6 b + Int32.ofNat f)) := zFr_I (zFr_rf _ _) (by decide)
    have kk : zKm X w (zsI w 12 6 b (zgI w 12 6 b + Int32.ofNat f)) := zKm_fr fr (by decide) (fun _ _ _ => rfl)
    obtain ⟨w', r1, r2, r3⟩ := zm_deliver (N := N) (q := q) (s := s) (zMV_fr fr (by decide) (fun _ _ _ => rfl) h) hg v1 hs hd hX hDw hk (hl _ v1) (zKm_MD kk hd hD) hN
    rw [v2] at r2
    refine ⟨w', ?_, r2, zKm_tr kk r3, wX19_deliver (Nat.and_self _) (zFr_rf _ _) _ _ r1⟩
    unfold fX19_routerSends_150 fX19_routerSends_164
    rcases (by omega : f = 0 ∨ f = 1) with e | e
    · subst e
      rw [show (Int32.ofNat 0 : Int32) = 0 from rfl] at r1
      rw [if_pos (show Int32.ofNat 0 = 0 from rfl), zl_e, zd_e, r1, zc_e]
    · subst e
      rw [show (Int32.ofNat 1 : Int32) = 1 from rfl] at r1
      rw [if_neg (by decide), zl_e, zd_e, r1, zc_e]
  have hz16 := zal_lt (D.1 1)
  unfold fX19_routerSends_52b
  rw [m3, if_pos (Int32.le_refl _), zl_e, zal_e, zo_s1 (by omega), zkk (by omega) (by omega), zoC (by omega), w2, m0]
  rcases y5 with ⟨y5, y6⟩ | ⟨k, q2, k1, k2, k3, k4, k5⟩
  · have er : rtR T Wy b (D.1 1) = some (q, zal (D.1 1) - 1) := by
      unfold rtR; rw [if_neg c, if_neg y1, y3, zoC (by omega), y4]
      show (if _ then _ else _) = _
      rw [if_pos y5]
    rw [if_pos y5]
    refine ⟨fun q' s e => ?_, fun e => (by rw [er] at e; cases e)⟩
    rw [er] at e
    obtain ⟨rfl, rfl⟩ : q = q' ∧ zal (D.1 1) - 1 = s := by
      have := Option.some.inj e
      exact ⟨congrArg Prod.fst this, congrArg Prod.snd this⟩
    exact tail _ (by omega) er
  · have kb : ¬ Int32.ofNat k = Int32.ofNat b := by rw [zo_eq (by omega) (by omega)]; exact k2
    have k5' : tpo T k (q / 8) = some q2 := by rw [v3]; exact k5
    have er : rtR T Wy b (D.1 1) = some (q, q2 % 8) := by
      unfold rtR; rw [if_neg c, if_neg y1, y3, zoC (by omega), y4]
      show (if _ then _ else _) = _
      rw [k4, if_neg kb, zoC (by omega), k5']
    obtain ⟨-, p2, -, -⟩ := hM.2.2.2 _ v1
    have mk := (hM.2.1.2 k k1).1
    rw [k4, if_neg kb, zkk (by omega) (by omega), zkk (by omega) (by omega), zl_e, zoC (by omega), mk, zd_e, zl_e, zd_e, p2, zd_e, zm_stationOf hM hc k1 (by omega), zc_e, k5']
    refine ⟨fun q' s e => ?_, fun e => (by rw [er] at e; cases e)⟩
    rw [er] at e
    obtain ⟨rfl, rfl⟩ : q = q' ∧ q2 % 8 = s := by
      have := Option.some.inj e
      exact ⟨congrArg Prod.fst this, congrArg Prod.snd this⟩
    exact tail _ (by omega) er
