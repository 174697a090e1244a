/-! the same, one step further down -/
theorem zm_hostSends2 {w : St} {T : Tp} {E : Ev} {K : Int32 → Int32 → Int32 → Prop} {g : Sg} {X TS TA TB : List Nat} {b d N : Nat} {D : Dg} (h : zMV w T E g K X TS TA TB) (hg : zGw T E g) (hl : ∀ q, tv T q → (gW g q).length ≤ 16) (hb : b < tb T) (hd : d ∈ X) (hX : X.length < 99) (hDw : zDw D) (hk : ¬ D.1 2 = 5 ∧ ¬ D.1 2 = 6) (h10 : D.1 10 = 0) (hD : zMD w T K d D) (hN : 1481 < N) :
    (∀ q s, rtH T b (D.1 1) = some (q, s) → ∃ w', fX19_hostSends_L2 N 0 b (Int32.ofNat d) w = some (0, w') ∧ zMV w' T E (nHand E b g q s D) K X TS TA TB ∧ zKm X w w' ∧ zFr mX19_deliver w w') ∧
    (rtH T b (D.1 1) = none → fX19_hostSends_L2 N 0 b (Int32.ofNat d) w = if tp T b = 0 then some (0, w) else zc (fX19_comeBack_L1 N 0 b (Int32.ofNat d) w) fun _ z => some (0, z)) := by
  have hc := h.2.1
  have h24 := hc.2.1
  have hM := h.1
  obtain ⟨-, -, -, m3, mq⟩ := hM.2.1.2 b hb
  have hd24 : d < 2400 := hD.1.1
  have hp6 := (hc.2.2.2.2.1 b hb).1
  by_cases c : tp T b = 0
  · refine ⟨fun q s e => ?_, fun _ => ?_⟩
    · unfold rtH at e; rw [if_pos c] at e; cases e
    · unfold fX19_hostSends_L2
      rw [if_pos c, m3, if_neg (by rw [show (0 : Int32) = Int32.ofNat 0 from rfl, zo_eq (by omega) (by omega)]; omega)]
  obtain ⟨v1, v2, v3⟩ := hc.2.2.2.2.2.2.1 b 0 hb (by omega)
  obtain ⟨-, p2, -, -⟩ := hM.2.2.2 _ v1
  obtain ⟨-, n0, n5, nq⟩ := hM.2.1.1 _ v1.1
  have h8 := hc.2.2.1 _ v1.1
  have e9 : md w d 9 = 0 := by rw [hD.2.1.2.2.2.2.1]; exact h10
  have es : zsA w 172 0 (18 * d + 9) 0 = w := by
    have : zsA w 172 0 (18 * d + 9) (zgA w 172 0 (18 * d + 9)) = w := zsA_id w 172 0 _
    unfold md at e9
    rw [e9] at this
    exact this
  have e1 : md w d 1 = D.1 1 := hD.1.2.2.1
  have hrun : fX19_hostSends_L2 N 0 b (Int32.ofNat d) w = zc (fX19_isOf N (D.1 1) (Int32.ofNat (tq T b 0 / 8)) w) (fun r15 z16 => if r15 = 0 then (fX19_hostSends_L2_82 N N 0 b (Int32.ofNat d) (tq T b 0) (0 : Int32) z16) else (zc (fX19_isAddress N 0 (D.1 1) z16) fun r20 z21 => if r20 = 0 then (zc (fX19_comeBack_L1 N 0 b (Int32.ofNat d) z21) fun _ z26 => some (0, z26)) else (zc (fX19_deliver N 0 (tq T b 0) (((D.1 1) &&& (65535 : Int32)) - (1 : Int32)) (Int32.ofNat d) z21) fun _ z30 => some (0, z30)))) := by
    unfold fX19_hostSends_L2
    rw [m3, if_pos (by rw [show (0 : Int32) = Int32.ofNat 0 from rfl, zo_eq (by omega) (by omega)]; omega), zk_0 (by decide) (by decide), zl_e, show (Int32.toNatClampNeg (0 : Int32)) = 0 from rfl, mq 0 (by omega)]
    have s9 : fX19_set N 0 (Int32.ofNat d) 9 0 w = some (0, zsA w 172 0 (18 * d + 9) 0) := zm_set (k := 9) hd24 (by omega)
    have o1 : fX19_of N 0 (Int32.ofNat d) 1 w = some (md w d 1, w) := zm_of (k := 1) hd24 (by omega)
    rw [s9, zc_e, es, o1, zc_e, zd_e, zl_e, p2, zd_e, e1, n0]
  have hv8 := v1.2
  have hq24 : tq T b 0 / 8 < 24 := by have := v1.1; omega
  by_cases c1 : zun (D.1 1) / 65536 = zun (zad (tq T b 0)) / 65536
  · obtain ⟨c2, c3⟩ := (zsame hq24).mp c1
    by_cases c4 : zia T (D.1 1) = true
    · obtain ⟨z1, z2, z3, z4⟩ := zia_iff.mp c4
      have er : rtH T b (D.1 1) = some (tq T b 0, zal (D.1 1) - 1) := by
        unfold rtH; rw [if_neg c, if_pos c1, if_pos c4]
      refine ⟨fun q s e => ?_, fun e => by rw [er] at e; cases e⟩
      rw [er] at e
      obtain ⟨rfl, rfl⟩ : tq T b 0 = q ∧ zal (D.1 1) - 1 = s := by
        have := Option.some.inj e
        exact ⟨congrArg Prod.fst this, congrArg Prod.snd this⟩
      obtain ⟨w', r1, r2, r3⟩ := zm_deliver (N := N) (q := tq T b 0) (s := zal (D.1 1) - 1) h hg v1 (by omega) hd hX hDw hk (hl _ v1) hD hN
      rw [v2] at r2
      refine ⟨w', ?_, r2, r3, wX19_deliver (Nat.and_self _) (zFr_rf _ _) _ _ r1⟩
      rw [hrun, zm_isOf (n := tq T b 0 / 8) (D.1 1) (by omega), zc_e, c2, c3]
      simp only [decide_true, Bool.and_self]
      rw [show (zbi true : Int32) = 1 from rfl, if_neg (by decide), zm_isAddress hM hc, zc_e, c4, show (zbi true : Int32) = 1 from rfl, if_neg (by decide), zal_e, zo_s1 (by omega), r1, zc_e]
    · have er : rtH T b (D.1 1) = none := by
        unfold rtH; rw [if_neg c, if_pos c1, if_neg c4]
      refine ⟨fun q s e => (by rw [er] at e; cases e), fun _ => ?_⟩
      rw [if_neg c, hrun, zm_isOf (n := tq T b 0 / 8) (D.1 1) (by omega), zc_e, c2, c3]
      simp only [decide_true, Bool.and_self]
      have c4' : zia T (D.1 1) = false := by simpa using c4
      rw [show (zbi true : Int32) = 1 from rfl, if_neg (by decide), zm_isAddress hM hc, zc_e, c4', show (zbi false : Int32) = 0 from rfl, if_pos rfl]
  · have c2 : (decide (zhi (D.1 1) = 10) && decide (zan (D.1 1) = tq T b 0 / 8)) = false := by
      have := mt (zsame (x := D.1 1) (q := tq T b 0) hq24).mpr c1
      by_cases y : zhi (D.1 1) = 10
      · have : ¬ zan (D.1 1) = tq T b 0 / 8 := fun z => this ⟨y, z⟩
        simp [this]
      · simp [y]
    have er : rtH T b (D.1 1) = (tlr T (tq T b 0 / 8)).map (fun s => (tq T b 0, s)) := by
      unfold rtH; rw [if_neg c, if_neg c1]
    have hloop : fX19_hostSends_L2 N 0 b (Int32.ofNat d) w = (match tlr T (tq T b 0 / 8) with | some s => (zc (fX19_deliver N 0 (tq T b 0) (Int32.ofNat s) (Int32.ofNat d) w) fun _ z18 => some (0, z18)) | none => (zc (fX19_comeBack_L1 N 0 b (Int32.ofNat d) w) fun _ z5 => some (0, z5))) := by
      rw [hrun, zm_isOf (n := tq T b 0 / 8) (D.1 1) (by omega), zc_e, c2, show (zbi false : Int32) = 0 from rfl, if_pos rfl]
      refine zlf0 (G := fun n' i => fX19_hostSends_L2_82 N n' 0 b (Int32.ofNat d) (tq T b 0) (Int32.ofNat i) w) (p := fun s => tr T (tw T (8 * (tq T b 0 / 8) + s))) (f := fun s => zc (fX19_deliver N 0 (tq T b 0) (Int32.ofNat s) (Int32.ofNat d) w) fun _ z18 => some (0, z18)) (r := (zc (fX19_comeBack_L1 N 0 b (Int32.ofNat d) w) fun _ z5 => some (0, z5))) (k := ts T (tq T b 0 / 8)) (by omega) ?_ ?_ ?_
      · intro n' i hi hp
        have hv := tv_of hc v1.1 hi
        obtain ⟨q0, -, -, -⟩ := hM.2.2.2 _ hv
        have e1 := (hM.2.1.2 _ (hc.2.2.2.2.2.1 _ hv).1).2.2.1
        show fX19_hostSends_L2_82b N (fX19_hostSends_L2_82 N n') 0 b (Int32.ofNat d) (tq T b 0) (Int32.ofNat i) w = _
        unfold fX19_hostSends_L2_82b
        rw [zl_e, p2, zd_e, n5, if_neg (by rw [zo_le (by omega) (by omega)]; omega), zl_e, zd_e, zkk (by omega) (by omega), zl_e, zoC (by omega), nq i hi, zd_e, zl_e, q0, zd_e, e1, hp, if_pos (by rfl), zl_e, zo_i1]
      · intro n' i hi hp
        have hv := tv_of hc v1.1 hi
        obtain ⟨q0, -, -, -⟩ := hM.2.2.2 _ hv
        have e1 := (hM.2.1.2 _ (hc.2.2.2.2.2.1 _ hv).1).2.2.1
        show fX19_hostSends_L2_82b N (fX19_hostSends_L2_82 N n') 0 b (Int32.ofNat d) (tq T b 0) (Int32.ofNat i) w = _
        unfold fX19_hostSends_L2_82b
        rw [zl_e, p2, zd_e, n5, if_neg (by rw [zo_le (by omega) (by omega)]; omega), zl_e, zd_e, zkk (by omega) (by omega), zl_e, zoC (by omega), nq i hi, zd_e, zl_e, q0, zd_e, e1, hp, if_neg (by decide)]
      · intro n'
        show fX19_hostSends_L2_82b N (fX19_hostSends_L2_82 N n') 0 b (Int32.ofNat d) (tq T b 0) (Int32.ofNat (ts T (tq T b 0 / 8))) w = _
        unfold fX19_hostSends_L2_82b
        rw [zl_e, p2, zd_e, n5, if_pos (by rw [zo_le (by omega) (by omega)]; omega)]
    cases ht : tlr T (tq T b 0 / 8) with
    | none =>
      rw [ht] at er hloop
      refine ⟨fun q s e => (by rw [er] at e; cases e), fun _ => ?_⟩
      rw [if_neg c]; exact hloop
    | some s =>
      rw [ht] at er hloop
      refine ⟨fun q t e => ?_, fun e => by rw [er] at e; cases e⟩
      rw [er] at e
      obtain ⟨rfl, rfl⟩ : tq T b 0 = q ∧ s = t := by
        have := Option.some.inj e
        exact ⟨congrArg Prod.fst this, congrArg Prod.snd this⟩
      have hs := (zfst_some ht).2.1
      obtain ⟨w', r1, r2, r3⟩ := zm_deliver (N := N) (q := tq T b 0) (s := s) h hg v1 (by omega) hd hX hDw hk (hl _ v1) hD hN
      rw [v2] at r2
      refine ⟨w', ?_, r2, r3, wX19_deliver (Nat.and_self _) (zFr_rf _ _) _ _ r1⟩
      rw [hloop]
      show zc _ _ = _
      rw [r1, zc_e]
theorem zm_routerSends2 {w : St} {T : Tp} {E : Ev} {K : Int32 → Int32 → Int32 → Prop} {g : Sg} {Wy : Wyt} {X TS TA TB : List Nat} {b d f N : Nat} {D : Dg} (h : zMV w T E g K X TS TA TB) (hW : zWym w T Wy) (hWw : zWyw T Wy) (hg : zGw T E g) (hl : ∀ q, tv T q → (gW g q).length ≤ 16) (hb : b < tb T) (hr : tr T b = true) (hd : d ∈ X) (hX : X.length < 99) (hDw : zDw D) (hk : ¬ D.1 2 = 5 ∧ ¬ D.1 2 = 6) (hD : zMD w T K d D) (hf : f ≤ 1) (hN : 1481 < N) :
    (∀ q s, rtR T Wy b (D.1 1) = some (q, s) → ∃ w', fX19_routerSends_L2 N 0 b (Int32.ofNat d) (Int32.ofNat f) w = some (0, w') ∧ zMV w' T E (nHand E b g q s D) K X TS TA TB ∧ zKm X w w' ∧ zFr mX19_deliver (zsI w 12 6 b (zgI w 12 6 b + Int32.ofNat f)) w') ∧
    (rtR T Wy b (D.1 1) = none → fX19_routerSends_L2 N 0 b (Int32.ofNat d) (Int32.ofNat f) w = zc (fX19_comeBack_L1 N 0 b (Int32.ofNat d) w) fun _ z => some (0, z)) := by
  have hc := h.2.1
  have h24 := hc.2.1
  have h16 := hc.1
  have hM := h.1
  obtain ⟨-, m0, -, m3, mq⟩ := hM.2.1.2 b hb
  have hd24 : d < 2400 := hD.1.1
  have hp6 := (hc.2.2.2.2.1 b hb).1
  have e1 : md w d 1 = D.1 1 := hD.1.2.2.1
  have o1 : fX19_of N 0 (Int32.ofNat d) 1 w = some (md w d 1, w) := zm_of (k := 1) hd24 (by omega)
  unfold fX19_routerSends_L2 fX19_routerSends_L2_39
  rw [o1, zc_e, zl_e, e1, zm_isAddress hM hc, zc_e, zan_e2]
  by_cases c : zia T (D.1 1) = false
  · have er : rtR T Wy b (D.1 1) = none := by unfold rtR; rw [if_pos c]
    refine ⟨fun q s e => (by rw [er] at e; cases e), fun _ => ?_⟩
    rw [c, show (zbi false : Int32) = 0 from rfl, if_pos rfl]
  have c' : zia T (D.1 1) = true := by simpa using c
  obtain ⟨z1, z2, z3, z4⟩ := zia_iff.mp c'
  have h24' : zan (D.1 1) < 24 := by omega
  rw [c', show (zbi true : Int32) = 1 from rfl, if_neg (by decide), zkk (by omega) (by omega), zoC (by omega)]
  obtain ⟨w1, w2, w3⟩ := hW b _ hb hr h24'
  rcases hWw b _ hb hr h24' with y | ⟨y1, o, q, y2, y3, y4, y5⟩
  · have er : rtR T Wy b (D.1 1) = none := by unfold rtR; rw [if_neg c, if_pos y.1]
    refine ⟨fun q s e => (by rw [er] at e; cases e), fun _ => ?_⟩
    rw [w1, if_neg (fun x => x y.1)]
  obtain ⟨v1, v2, v3, v4, v5⟩ := tpo_some hc hb y4
  have hv8 : q % 8 < 8 := Nat.mod_lt _ (by decide)
  -- the port
  have hloop : fX19_routerSends_L2_52 N N 0 b (Int32.ofNat d) (Int32.ofNat f) (D.1 1) (Int32.ofNat (zan (D.1 1))) none (0 : Int32) w = fX19_routerSends_L2_52b N (fun _ _ _ _ _ _ _ _ _ => none) 0 b (Int32.ofNat d) (Int32.ofNat f) (D.1 1) (Int32.ofNat (zan (D.1 1))) (some q) (Int32.ofNat (tp T b)) w := by
    refine zlp0 (G := fun n' i => fX19_routerSends_L2_52 N n' 0 b (Int32.ofNat d) (Int32.ofNat f) (D.1 1) (Int32.ofNat (zan (D.1 1))) (if ti T q < i then some q else none) (Int32.ofNat i) w) (r := fX19_routerSends_L2_52b N (fun _ _ _ _ _ _ _ _ _ => none) 0 b (Int32.ofNat d) (Int32.ofNat f) (D.1 1) (Int32.ofNat (zan (D.1 1))) (some q) (Int32.ofNat (tp T b)) w) (k := tp T b) (n := N) (by omega) ?_ ?_
    · intro n' i hi
      show fX19_routerSends_L2_52b N (fX19_routerSends_L2_52 N n') 0 b (Int32.ofNat d) (Int32.ofNat f) (D.1 1) (Int32.ofNat (zan (D.1 1))) (if ti T q < i then some q else none) (Int32.ofNat i) w = fX19_routerSends_L2_52 N n' 0 b (Int32.ofNat d) (Int32.ofNat f) (D.1 1) (Int32.ofNat (zan (D.1 1))) (if ti T q < i + 1 then some q else none) (Int32.ofNat (i + 1)) w
      obtain ⟨u1, u2, u3⟩ := hc.2.2.2.2.2.2.1 b i hb hi
      obtain ⟨-, p2, -, -⟩ := hM.2.2.2 _ u1
      obtain ⟨-, n0, -, -⟩ := hM.2.1.1 _ u1.1
      have u8 := u1.1
      unfold fX19_routerSends_L2_52b fX19_routerSends_L2_96
      rw [m3, if_neg (by rw [zo_le (by omega) (by omega)]; omega), zkk (by omega) (by omega), zl_e, zoC (by omega), mq i hi, zd_e, zl_e, p2, zd_e, zkk (by omega) (by omega), zoC (by omega), n0, w3, y3]
      by_cases e : tq T b i / 8 = o
      · have : i = ti T q := by
          rw [← u3]
          have := tpo_of hc hb hi e
          rw [y4] at this
          rw [Option.some.inj this]
        rw [e, if_neg (fun y => y rfl), zkk (by omega) (by omega), zl_e, zl_e, zo_i1, if_pos (by omega)]
        have e3 : tq T b i = q := by rw [this, v5]
        rw [e3]
      · rw [if_pos (by rw [zo_eq (by omega) (by omega)]; exact e), zl_e, zo_i1]
        have : i ≠ ti T q := fun x => e (by rw [x, v5]; exact v3)
        by_cases e2 : ti T q < i
        · rw [if_pos e2, if_pos (show ti T q < i + 1 by omega)]
        · rw [if_neg e2, if_neg (show ¬ ti T q < i + 1 by omega)]
    · intro n'
      show fX19_routerSends_L2_52b N (fX19_routerSends_L2_52 N n') 0 b (Int32.ofNat d) (Int32.ofNat f) (D.1 1) (Int32.ofNat (zan (D.1 1))) (if ti T q < tp T b then some q else none) (Int32.ofNat (tp T b)) w = _
      rw [if_pos v4]
      unfold fX19_routerSends_L2_52b
      rw [m3, if_pos (Int32.le_refl _), if_pos (Int32.le_refl _)]
  rw [w1, if_pos y1, hloop]
  have tail : ∀ s, s < 8 → rtR T Wy b (D.1 1) = some (q, s) → ∃ w', fX19_routerSends_L2_150 N 0 b (Int32.ofNat d) (Int32.ofNat f) (some q) (Int32.ofNat s) w = some (0, w') ∧ zMV w' T E (nHand E b g q s D) K X TS TA TB ∧ zKm X w w' ∧ zFr mX19_deliver (zsI w 12 6 b (zgI w 12 6 b + Int32.ofNat f)) w' := by
    intro s hs er
    have fr : zFr 0x40000000000000000000000000000000000000000000000000000000000000000000000000000000000000000000000000000000000000000000000000000000000000000000000000000000000000000000000000000000000000000000000000 w (zsI w 12 6 b (zgI w 12 6 b + Int32.ofNat f)) := zFr_I (zFr_rf _ _) (by decide)
    have kk : zKm X w (zsI w 12 6 b (zgI w 12 6 b + Int32.ofNat f)) := zKm_fr fr (by decide) (fun _ _ _ => rfl)
    obtain ⟨w', r1, r2, r3⟩ := zm_deliver (N := N) (q := q) (s := s) (zMV_fr fr (by decide) (fun _ _ _ => rfl) h) hg v1 hs hd hX hDw hk (hl _ v1) (zKm_MD kk hd hD) hN
    rw [v2] at r2
    refine ⟨w', ?_, r2, zKm_tr kk r3, wX19_deliver (Nat.and_self _) (zFr_rf _ _) _ _ r1⟩
    unfold fX19_routerSends_L2_150 fX19_routerSends_L2_164
    rcases (by omega : f = 0 ∨ f = 1) with e | e
    · subst e
      rw [show (Int32.ofNat 0 : Int32) = 0 from rfl] at r1
      rw [if_pos (show Int32.ofNat 0 = 0 from rfl), zl_e, zd_e, r1, zc_e]
    · subst e
      rw [show (Int32.ofNat 1 : Int32) = 1 from rfl] at r1
      rw [if_neg (by decide), zl_e, zd_e, r1, zc_e]
  have hz16 := zal_lt (D.1 1)
  unfold fX19_routerSends_L2_52b
  rw [m3, if_pos (Int32.le_refl _), zl_e, zal_e, zo_s1 (by omega), zkk (by omega) (by omega), zoC (by omega), w2, m0]
  rcases y5 with ⟨y5, y6⟩ | ⟨k, q2, k1, k2, k3, k4, k5⟩
  · have er : rtR T Wy b (D.1 1) = some (q, zal (D.1 1) - 1) := by
      unfold rtR; rw [if_neg c, if_neg y1, y3, zoC (by omega), y4]
      show (if _ then _ else _) = _
      rw [if_pos y5]
    rw [if_pos y5]
    refine ⟨fun q' s e => ?_, fun e => (by rw [er] at e; cases e)⟩
    rw [er] at e
    obtain ⟨rfl, rfl⟩ : q = q' ∧ zal (D.1 1) - 1 = s := by
      have := Option.some.inj e
      exact ⟨congrArg Prod.fst this, congrArg Prod.snd this⟩
    exact tail _ (by omega) er
  · have kb : ¬ Int32.ofNat k = Int32.ofNat b := by rw [zo_eq (by omega) (by omega)]; exact k2
    have k5' : tpo T k (q / 8) = some q2 := by rw [v3]; exact k5
    have er : rtR T Wy b (D.1 1) = some (q, q2 % 8) := by
      unfold rtR; rw [if_neg c, if_neg y1, y3, zoC (by omega), y4]
      show (if _ then _ else _) = _
      rw [k4, if_neg kb, zoC (by omega), k5']
    obtain ⟨-, p2, -, -⟩ := hM.2.2.2 _ v1
    have mk := (hM.2.1.2 k k1).1
    rw [k4, if_neg kb, zkk (by omega) (by omega), zkk (by omega) (by omega), zl_e, zoC (by omega), mk, zd_e, zl_e, zd_e, p2, zd_e, zm_stationOf hM hc k1 (by omega), zc_e, k5']
    refine ⟨fun q' s e => ?_, fun e => (by rw [er] at e; cases e)⟩
    rw [er] at e
    obtain ⟨rfl, rfl⟩ : q = q' ∧ q2 % 8 = s := by
      have := Option.some.inj e
      exact ⟨congrArg Prod.fst this, congrArg Prod.snd this⟩
    exact tail _ (by omega) er
theorem zm_backL0 {w : St} {b d N : Nat} (hd : d < 2400) (h : ¬ md w d 2 = 1) : fX19_comeBack_L1 N 0 b (Int32.ofNat d) w = some (0, w) := by
  have o1 : fX19_of N 0 (Int32.ofNat d) 2 w = some (md w d 2, w) := zm_of (k := 2) hd (by omega)
  unfold fX19_comeBack_L1
  rw [o1, zc_e, if_pos h]
theorem zm_back2 {w : St} {T : Tp} {E : Ev} {K : Int32 → Int32 → Int32 → Prop} {g : Sg} {Wy : Wyt} {X TS TA TB : List Nat} {b d i N : Nat} {D : Dg} {why num : Int32} {old : Nat → Int32} (h : zMV w T E g K X TS TA TB) (hW : zWym w T Wy) (hWw : zWyw T Wy) (hg : zGw T E g) (hl : ∀ q, tv T q → (gW g q).length ≤ 16) (hb : b < tb T) (hi : i < tp T b) (hd : d ∈ X) (hX : X.length < 98) (hD : zMD w T K d D) (hk : D.1 2 = 1) (hDw : zDw D) (hf : df D = 0) (hown : tha T b (D.1 0) = false) (h10 : D.1 10 = Int32.ofNat i) (hnum : zgI w 12 4 b = num) (hN : 1481 < N) :
    ∃ w', fX19_comeBack_L2 N 0 b (Int32.ofNat d) w = some (0, w') ∧ zMV w' T E (nGo E b g (dErr (tq T b i) D num why old) (rt T Wy b (D.1 0))) K X TS TA TB ∧ zKm X w w' ∧ zgI w' 12 4 b = num + 1 ∧ (∀ c, c ≠ b → zgI w' 12 4 c = zgI w 12 4 c) ∧ zFr (mX19_deliver ||| (mX19_drop ||| 0x100000000000000000000000000000000040000000000000000000000000000000000000000000000000000000000000000000000000000000000000000000000000000000000000010000000000000000000000000000000000000000000000000000000000000000000000000000000000000000000000000000000000000000000000000000000000000000000000000000000000000000000000000000000000000000000000000)) w w' := by
  have hc := h.2.1
  have hM := h.1
  have hd24 : d < 2400 := hD.1.1
  have hp6 := (hc.2.2.2.2.1 b hb).1
  obtain ⟨-, -, m1, m3, mq⟩ := hM.2.1.2 b hb
  obtain ⟨v1, v2, v3⟩ := hc.2.2.2.2.2.2.1 b i hb hi
  obtain ⟨⟨-, d0, d1, d2, -, -⟩, ⟨-, d6, -, -, d9, -⟩, dy, -⟩ := hD
  obtain ⟨s, s24, s10, -, s0, s1, -⟩ := dy hk
  have e6 : md w d 6 = 0 := by rw [d6, hDw.2.1, hf]; rfl
  obtain ⟨w1, d', r1, r2, r3, r4, r5, r6, r7, r9, r8⟩ := zm_makeN (N := N) (b := b) (kind := 0) (len := 36) (source := zad (tq T b i)) (goal := D.1 0) hc (by omega) h.2.2.2.2.1.2.2 (by omega)
  have n14 := zm_setN (k := 14) (v := D.1 0) hc r4 (by omega) (by omega) (by omega)
  have n15 := zm_setN (k := 15) (v := D.1 1) hc n14.1 (by omega) (by omega) (by omega)
  have n16 := zm_setN (k := 16) (v := g2 D.2 0) hc n15.1 (by omega) (by omega) (by omega)
  have n17 := zm_setN (k := 17) (v := g2 D.2 2) hc n16.1 (by omega) (by omega) (by omega)
  let w5 : St := zsA (zsA (zsA (zsA w1 172 0 (18 * d' + 14) (D.1 0)) 172 0 (18 * d' + 15) (D.1 1)) 172 0 (18 * d' + 16) (g2 D.2 0)) 172 0 (18 * d' + 17) (g2 D.2 2)
  have f5 : zFr 0x100000000000000000000000000000000040000000000000000000000000000000000000000000000000000000000000000000000000000000000000000000000000000000000000010000000000000000000000000000000000000000000000000000000000000000000000000000000000000000000000000000000000000000000000000000000000000000000000000000000000000000000000000000000000000000000000000 w w5 := zFr_A (zFr_A (zFr_A (zFr_A r7 (by decide)) (by decide)) (by decide)) (by decide)
  have k5 : zKm X w w5 := by
    have hd : ∀ {v : Int32} {j : Nat} {a : St}, j < 18 → zKm X a (zsA a 172 0 (18 * d' + j) v) := fun {v j a} hj => ⟨fun e k he hk => by rw [md_set hj hk, if_neg (fun y => r3 (by rw [← y.1]; exact he))], fun k i => by rw [zgA_sA, if_neg (fun y => absurd y.1 (by decide))], fun k i => by rw [zgA_sA, if_neg (fun y => absurd y.1 (by decide))], fun _ _ _ => rfl⟩
    exact zKm_tr (zKm_tr (zKm_tr (zKm_tr r6 (hd (by omega))) (hd (by omega))) (hd (by omega))) (hd (by omega))
  have M5 : zMV w5 T E g K (d' :: X) TS TA TB := zMV_up f5 (by decide) n17.1 h
  have md5 : ∀ k, k < 18 → md w5 d' k = if k = 17 then g2 D.2 2 else if k = 16 then g2 D.2 0 else if k = 15 then D.1 1 else if k = 14 then D.1 0 else md w1 d' k := fun k hk => by
    show md (zsA (zsA (zsA (zsA w1 172 0 (18 * d' + 14) (D.1 0)) 172 0 (18 * d' + 15) (D.1 1)) 172 0 (18 * d' + 16) (g2 D.2 0)) 172 0 (18 * d' + 17) (g2 D.2 2)) d' k = _
    rw [md_set (by omega) hk, md_set (by omega) hk, md_set (by omega) hk, md_set (by omega) hk]
    simp only [true_and]
  have DE : zMD w5 T K d' (dErr (tq T b i) D num why old) := by
    have E2 : (dErr (tq T b i) D num why old).2 = p2 (p2 (p2 (p4 (p4 old 0 (D.1 0)) 4 (D.1 1)) 8 (g2 D.2 0)) 10 (g2 D.2 2)) 12 why := rfl
    refine ⟨⟨r2, ?_, ?_, ?_, ?_, ?_⟩, ⟨?_, ?_, ?_, ?_, ?_, by show 36 ≤ 1480; decide⟩, fun y => absurd (show (0 : Int32) = 1 from y) (by decide), fun _ => ⟨?_, ?_, ?_, ?_, ?_, ?_⟩, fun y => absurd (show (0 : Int32) = 2 from y) (by decide), fun y => absurd (show (0 : Int32) = 3 from y) (by decide), fun y => absurd (show (0 : Int32) = 4 from y) (by decide)⟩
    · rw [md5 0 (by omega), r5 0 (by omega)]; rfl
    · rw [md5 1 (by omega), r5 1 (by omega)]; rfl
    · rw [md5 2 (by omega), r5 2 (by omega)]; rfl
    · rw [md5 3 (by omega), r5 3 (by omega)]; exact hnum
    · rw [md5 4 (by omega), r5 4 (by omega)]; rfl
    · rw [md5 5 (by omega), r5 5 (by omega)]; rfl
    · rw [md5 6 (by omega), r5 6 (by omega)]; rfl
    · rw [md5 7 (by omega), r5 7 (by omega)]; rfl
    · rw [md5 8 (by omega), r5 8 (by omega)]; rfl
    · rw [md5 9 (by omega), r5 9 (by omega)]; rfl
    · rw [md5 10 (by omega), r5 10 (by omega)]; rfl
    · rw [md5 11 (by omega), r5 11 (by omega)]; rfl
    · rw [md5 14 (by omega), E2, g4_o2 _ _ (by omega), g4_o2 _ _ (by omega), g4_o2 _ _ (by omega), g4_o4 _ _ (by omega), g4_p4]; rfl
    · rw [md5 15 (by omega), E2, g4_o2 _ _ (by omega), g4_o2 _ _ (by omega), g4_o2 _ _ (by omega), g4_p4]; rfl
    · rw [md5 16 (by omega), E2, g2_o2 _ _ (by omega), g2_o2 _ _ (by omega), g2_p2, g2_and]; rfl
    · rw [md5 17 (by omega), E2, g2_o2 _ _ (by omega), g2_p2, g2_and]; rfl
  have m2 : ¬ md w5 d' 2 = 1 := by rw [md5 2 (by omega), r5 2 (by omega)]; show ¬ (0 : Int32) = 1; decide
  have o : ∀ (j : Nat), j < 18 → fX19_of N 0 (Int32.ofNat d) (Int32.ofNat j) w = some (md w d j, w) := fun j hj => zm_of hd24 hj
  have o2 : fX19_of N 0 (Int32.ofNat d) 2 w = some (1, w) := by rw [← hk, ← d2]; exact o 2 (by omega)
  have o6 : fX19_of N 0 (Int32.ofNat d) 6 w = some (0, w) := by rw [← e6]; exact o 6 (by omega)
  have o0 : fX19_of N 0 (Int32.ofNat d) 0 w = some (D.1 0, w) := by rw [← d0]; exact o 0 (by omega)
  have o1 : fX19_of N 0 (Int32.ofNat d) 1 w = some (D.1 1, w) := by rw [← d1]; exact o 1 (by omega)
  have o10 : fX19_of N 0 (Int32.ofNat d) 10 w = some (Int32.ofNat s, w) := by rw [← s10]; exact o 10 (by omega)
  have o9 : fX19_of N 0 (Int32.ofNat d) 9 w = some (Int32.ofNat i, w) := by rw [← h10, ← d9]; exact o 9 (by omega)
  have g0 : fX19_seg N 0 (Int32.ofNat s) 0 w = some (g2 D.2 0, w) := by rw [← s0]; exact zm_seg (k := 0) s24 (by omega)
  have g1 : fX19_seg N 0 (Int32.ofNat s) 1 w = some (g2 D.2 2, w) := by rw [← s1]; exact zm_seg (k := 1) s24 (by omega)
  have run : ∀ w6, (zgI w 12 1 b = 0 → fX19_hostSends_L2 N 0 b (Int32.ofNat d') w5 = some (0, w6)) → (¬ zgI w 12 1 b = 0 → fX19_routerSends_L2 N 0 b (Int32.ofNat d') 0 w5 = some (0, w6)) → fX19_comeBack_L2 N 0 b (Int32.ofNat d) w = zc (fX19_drop N 0 (Int32.ofNat d') w6) fun _ z2 => some (0, z2) := by
    intro w6 hh hr
    unfold fX19_comeBack_L2 fX19_comeBack_L2_186
    rw [o2, zc_e, if_neg (fun y => y rfl), o6, zc_e, if_pos rfl, o0, zc_e, o1, zc_e, o10, zc_e, g0, zc_e, o10, zc_e, g1, zc_e, zm_isOwn hM hc _ hb (by omega), zc_e, hown, show (zbi false : Int32) = 0 from rfl, if_pos rfl, o9, zc_e, zkk (by omega) (by omega), zl_e, zoC (by omega), mq i hi, zd_e, zm_address hM hc v1, zc_e, r1, zc_e]
    have t14 : ∀ {v : Int32} {a : St}, fX19_set N 0 (Int32.ofNat d') 14 v a = some (0, zsA a 172 0 (18 * d' + 14) v) := zm_set (k := 14) r2 (by omega)
    have t15 : ∀ {v : Int32} {a : St}, fX19_set N 0 (Int32.ofNat d') 15 v a = some (0, zsA a 172 0 (18 * d' + 15) v) := zm_set (k := 15) r2 (by omega)
    have t16 : ∀ {v : Int32} {a : St}, fX19_set N 0 (Int32.ofNat d') 16 v a = some (0, zsA a 172 0 (18 * d' + 16) v) := zm_set (k := 16) r2 (by omega)
    have t17 : ∀ {v : Int32} {a : St}, fX19_set N 0 (Int32.ofNat d') 17 v a = some (0, zsA a 172 0 (18 * d' + 17) v) := zm_set (k := 17) r2 (by omega)
    rw [t14, zc_e, t15, zc_e, t16, zc_e, t17, zc_e]
    have i1 : zgI w5 12 1 b = zgI w 12 1 b := zFr_gI f5 (by decide) (by decide) b
    show (if zgI w5 12 1 b = 0 then _ else _) = _
    rw [i1]
    by_cases c : zgI w 12 1 b = 0
    · rw [if_pos c]
      show zc (fX19_hostSends_L2 N 0 b (Int32.ofNat d') w5) _ = _
      rw [hh c, zc_e]
    · rw [if_neg c]
      show zc (fX19_routerSends_L2 N 0 b (Int32.ofNat d') 0 w5) _ = _
      rw [hr c, zc_e]
  have sent : ∃ w6, (zgI w 12 1 b = 0 → fX19_hostSends_L2 N 0 b (Int32.ofNat d') w5 = some (0, w6)) ∧ (¬ zgI w 12 1 b = 0 → fX19_routerSends_L2 N 0 b (Int32.ofNat d') 0 w5 = some (0, w6)) ∧ zMV w6 T E (nGo E b g (dErr (tq T b i) D num why old) (rt T Wy b (D.1 0))) K (d' :: X) TS TA TB ∧ zKm (d' :: X) w5 w6 ∧ zFr mX19_deliver w5 w6 := by
    have hW5 : zWym w5 T Wy := zWym_fr f5 (by decide) hW
    by_cases c : tr T b = true
    · have hne : ¬ zgI w 12 1 b = 0 := by rw [m1, c]; decide
      have := zm_routerSends2 (N := N) (f := 0) M5 hW5 hWw hg hl hb c List.mem_cons_self (by simp; omega) (zDw_err (tq T b i) D num why old) (dErr_k _ _ _ _ _) DE (by omega) hN
      have er : rt T Wy b (D.1 0) = rtR T Wy b (D.1 0) := by unfold rt; rw [if_pos c]
      rw [er]
      cases hrt : rtR T Wy b (D.1 0) with
      | none =>
        refine ⟨w5, fun y => absurd y hne, fun _ => ?_, M5, zKm_rf _ _, zFr_rf _ _⟩
        have t := this.2 hrt
        rw [zm_backL0 r2 m2, zc_e] at t
        exact t
      | some v =>
        obtain ⟨w6, t1, t2, t3, t4⟩ := this.1 v.1 v.2 hrt
        refine ⟨w6, fun y => absurd y hne, fun _ => t1, t2, t3, ?_⟩
        have : zgI w5 12 6 b + Int32.ofNat 0 = zgI w5 12 6 b := Int32.add_zero _
        rw [this, zsI_id] at t4
        exact t4
    · have c' : tr T b = false := by simpa using c
      have he : zgI w 12 1 b = 0 := by rw [m1, c']; rfl
      have := zm_hostSends2 (N := N) M5 hg hl hb List.mem_cons_self (by simp; omega) (zDw_err (tq T b i) D num why old) (dErr_k _ _ _ _ _) rfl DE hN
      have er : rt T Wy b (D.1 0) = rtH T b (D.1 0) := by unfold rt; rw [if_neg c]
      rw [er]
      cases hrt : rtH T b (D.1 0) with
      | none =>
        refine ⟨w5, fun _ => ?_, fun y => absurd he y, M5, zKm_rf _ _, zFr_rf _ _⟩
        have t := this.2 hrt
        rw [if_neg (by omega), zm_backL0 r2 m2, zc_e] at t
        exact t
      | some v =>
        obtain ⟨w6, t1, t2, t3, t4⟩ := this.1 v.1 v.2 hrt
        exact ⟨w6, fun _ => t1, fun y => absurd he y, t2, t3, t4⟩
  obtain ⟨w6, s1', s2', s3, s4, s5⟩ := sent
  obtain ⟨w7, u1, u2, u3, u4⟩ := zm_dropN (N := N) hc s3.2.2.2.2.1.2.2
  have f7 : zFr (mX19_deliver ||| (mX19_drop ||| 0x100000000000000000000000000000000040000000000000000000000000000000000000000000000000000000000000000000000000000000000000000000000000000000000000010000000000000000000000000000000000000000000000000000000000000000000000000000000000000000000000000000000000000000000000000000000000000000000000000000000000000000000000000000000000000000000000000)) w w7 := zFr_tr (zFr_w f5 (by decide)) (zFr_tr (zFr_w s5 (by decide)) (zFr_w u4 (by decide)))
  have i7 : ∀ c, zgI w7 12 4 c = zgI w5 12 4 c := fun c => (zFr_gI u4 (by decide) (by decide) c).trans (zFr_gI s5 (by decide) (by decide) c)
  have i5 : ∀ c, zgI w5 12 4 c = if c = b then zgI w 12 4 b + 1 else zgI w 12 4 c := fun c => by
    show zgI w1 12 4 c = _
    rw [r9 12 4 c (by simp)]
    simp only [true_and]
  refine ⟨w7, ?_, zMV_up u4 (by decide) u2 s3, zKm_tr k5 (zKm_tr (zKm_sub (fun e he => List.mem_cons_of_mem _ he) s4) (zKm_sub (fun e he => List.mem_cons_of_mem _ he) u3)), ?_, fun c hc' => ?_, f7⟩
  · rw [run w6 s1' s2', u1, zc_e]
  · rw [i7, i5, if_pos rfl, hnum]
  · rw [i7, i5, if_neg hc']
theorem zp_back2 {z w : St} {T : Tp} {E : Ev} {gc gm : Sg} {Wy : Wyt} {P : Dg → Prop} {K : Int32 → Int32 → Int32 → Prop} {X XM TS TA TB : List Nat} {b x d N : Nat} {D : Dg} {why : Int32} (hp : zPai2 z w T E gc gm Wy P K X XM TS TA TB) (hP : zPcl P) (hb : b < tb T) (hx : D.1 2 = 1 → df D = 0 → tha T b (D.1 0) = false → x ≠ 0) (hDc : zPC 11 z x D) (hDw : zDw D) (hd : d ∈ XM) (hX : XM.length < 98) (hDm : zMD w T K d D) (h4 : D.1 2 = 1 → df D = 0 → 4 ≤ dl D) (h10 : D.1 2 = 1 → df D = 0 → tha T b (D.1 0) = false → ∃ i, i < tp T b ∧ D.1 10 = Int32.ofNat i ∧ P (dErr (tq T b i) D (zgA z 113 b 2) why (zgA z 125 0))) (hN : 1481 < N) :
    ∃ z1 z2 w' F, fX11_comeBack N 0 b x why z = some (0, z1) ∧ ((zgI z1 11 15 0 = 0 ∧ z2 = z1) ∨ (¬ zgI z1 11 15 0 = 0 ∧ fX11_sendOff N 0 b 0 (zsI z1 11 15 0 0) = some (0, z2))) ∧ fX19_comeBack_L2 N 0 b (Int32.ofNat d) w = some (0, w') ∧ zPai2 z2 w' T E (F gc) (F gm) Wy P K X XM TS TA TB ∧ zKe X z z2 ∧ zKm XM w w' ∧ ((D.1 2 = 1 → df D = 0 → tha T b (D.1 0) = true) → z2 = z1) ∧ zMu z z2 b ∧ ((D.1 2 = 1 → df D = 0 → tha T b (D.1 0) = true) → ∀ c, zgA z2 113 c 2 = zgA z 113 c 2) ∧ (D.1 2 = 1 → df D = 0 → tha T b (D.1 0) = false → zgA z2 113 b 2 = zgA z 113 b 2 + 1) ∧ (F = id ∨ ∃ i, i < tp T b ∧ F = fun g => nGo E b g (dErr (tq T b i) D (zgA z 113 b 2) why (zgA z 125 0)) (rt T Wy b (D.1 0))) := by
  obtain ⟨pC, pM, pI, pJ, ⟨pWc, pWm, pWw⟩, pE, pU, p15⟩ := hp
  have hT := pC.1
  have hc := pC.2.1
  have hM := pM.1
  have hd24 : d < 2400 := hDm.1.1
  have e2 : zgI z 7 2 x = D.1 2 := hDc.1 2 (by omega) (by omega)
  have e5 : zgI z 7 5 x = Int32.ofNat (df D) := (hDc.1 5 (by omega) (by omega)).trans hDw.2.1
  have o2 : fX19_of N 0 (Int32.ofNat d) 2 w = some (D.1 2, w) := by
    have := zm_of (w := w) (N := N) (k := 2) hd24 (by omega)
    rw [hDm.1.2.2.2.1] at this; exact this
  have o6 : fX19_of N 0 (Int32.ofNat d) 6 w = some (Int32.ofNat (df D), w) := by
    have := zm_of (w := w) (N := N) (k := 6) hd24 (by omega)
    rw [hDm.2.1.2.1, hDw.2.1] at this; exact this
  by_cases k1 : D.1 2 = 1
  · have hdf : df D ≤ 1480 := by have := hDw.2.2.2.1; have := hDw.2.2.2.2.1; omega
    by_cases k5 : df D = 0
    · by_cases ko : tha T b (D.1 0) = true
      · -- its own: the asking is aborted
        have e0 : zgI z 7 0 x = D.1 0 := hDc.1 0 (by omega) (by omega)
        have e1 : zgI z 7 1 x = D.1 1 := hDc.1 1 (by omega) (by omega)
        have hdl := h4 k1 k5
        have c0 : g2 (zgA z 125 x) 0 = g2 D.2 0 := by
          have a0 := hDc.2 0 (by omega); have a1 := hDc.2 1 (by omega)
          rw [k5] at a0 a1
          unfold g2; rw [a0, a1]
        have c2 : g2 (zgA z 125 x) 2 = g2 D.2 2 := by
          have a0 := hDc.2 2 (by omega); have a1 := hDc.2 3 (by omega)
          rw [k5] at a0 a1
          unfold g2; rw [a0, a1]
        obtain ⟨s, s24, s10, -, s0, s1, -⟩ := hDm.2.2.1 k1
        let za : St := zsA z 113 b 7 (zgA z 113 b 7 + 1)
        let wa : St := zsI w 12 9 b (zgI w 12 9 b + 1)
        have fa : zFr 0x200000000000000000000000000000000000000000000000000000000000000000000000000000000000000000000000000000000000000000000000000000000000000000000000000000000000000000000000000000000000000000000000000000000000000000000000000000000000000000000000000000000000000000000000000000000000000000000000000000000000000000000000000000000000 z za := zFr_A (zFr_rf _ _) (by decide)
        have fb : zFr 0x200000000000000000000000000000000000000000000000000000000000000000000000000000000000000000000000000000000000000000000000000000000000000000000000000000000000000000000000000000000000000000000000000 w wa := zFr_I (zFr_rf _ _) (by decide)
        have pE2 : zRE za wa T := zRE_fr fa (by decide) fb (by decide) pE
        obtain ⟨z1, w1, r1, r2, r3, r4, r5, r6, r7⟩ := za_abort (N := N) (own := g2 D.2 0) (peer := D.1 1) (pport := g2 D.2 2) hc hb ko (by omega) 6 0 N N za wa rfl (by omega) (by omega) (zTC_fr fa (by decide) hT) (zTM_fr fb (by decide) hM) pE2
        have pa : zNC za T E gc X := zNC_cg fa (by decide) (fun u _ _ _ => ⟨fun _ => rfl, fun i => by rw [zgA_sA, if_neg (by simp)]⟩) (fun c => by rw [zgA_sA, if_neg (by simp)]) pC
        have p1 : zNC z1 T E gc X := zNC_cg r4 (by decide) (fun u _ _ _ => ⟨fun j => r7 j u, fun i => zFr_gA r4 (by decide) u i⟩) (fun c => zFr_gA r4 (by decide) c 5) pa
        have rc : fX11_comeBack N 0 b x why z = some (0, z1) := by
          unfold fX11_comeBack
          have e7 : ∀ {β : Type} (k : Option β), zk (7 : Int32) 8 k = k := fun k => zkk (i := 7) (by decide) (by decide) k
          have q0 : fX7_get2 N x (0 : Int32) za = some (g2 (zgA za 125 x) 0, za) := zc_get2 (i := 0) (by decide)
          have q2 : fX7_get2 N x (2 : Int32) za = some (g2 (zgA za 125 x) 2, za) := zc_get2 (i := 2) (by decide)
          have qa : zgA za 125 x = zgA z 125 x := by
            show zgA (zsA z 113 b 7 _) 125 x = _
            rw [zA_n (by decide)]
          rw [e2, if_neg (fun y => y k1), e5, k5, if_pos (show Int32.ofNat 0 = 0 from rfl), e0, zc_hasAddress hT hc _ hb (by omega), zc_e, ko, show (zbi true : Int32) = 1 from rfl, if_neg (by decide), e7, e7, zl_e]
          show zc (fX7_get2 N x (0 : Int32) za) _ = _
          rw [q0, zc_e, q2, zc_e, qa, c0, c2]
          show zc (fX11_abortAsking_3 N N b (zgI z 7 1 x) (g2 D.2 0) (g2 D.2 2) (Int32.ofNat 0) za) _ = _
          rw [e1, r1, zc_e]
        have rm : fX19_comeBack_L2 N 0 b (Int32.ofNat d) w = some (0, w1) := by
          unfold fX19_comeBack_L2
          have o : ∀ (j : Nat), j < 18 → fX19_of N 0 (Int32.ofNat d) (Int32.ofNat j) w = some (md w d j, w) := fun j hj => zm_of hd24 hj
          have o0 : fX19_of N 0 (Int32.ofNat d) 0 w = some (D.1 0, w) := by rw [← hDm.1.2.1]; exact o 0 (by omega)
          have o1 : fX19_of N 0 (Int32.ofNat d) 1 w = some (D.1 1, w) := by rw [← hDm.1.2.2.1]; exact o 1 (by omega)
          have o10 : fX19_of N 0 (Int32.ofNat d) 10 w = some (Int32.ofNat s, w) := by rw [← s10]; exact o 10 (by omega)
          have g0 : fX19_seg N 0 (Int32.ofNat s) 0 w = some (g2 D.2 0, w) := by rw [← s0]; exact zm_seg (k := 0) s24 (by omega)
          have g1 : fX19_seg N 0 (Int32.ofNat s) 1 w = some (g2 D.2 2, w) := by rw [← s1]; exact zm_seg (k := 1) s24 (by omega)
          rw [o2, zc_e, if_neg (fun y => y k1), o6, zc_e, k5, if_pos (show Int32.ofNat 0 = 0 from rfl), o0, zc_e, o1, zc_e, o10, zc_e, g0, zc_e, o10, zc_e, g1, zc_e, zm_isOwn hM hc _ hb (by omega), zc_e, ko, show (zbi true : Int32) = 1 from rfl, if_neg (by decide), zl_e]
          show zc (fX19_act_3 N N 0 b (D.1 0) (D.1 1) (g2 D.2 0) (g2 D.2 2) (Int32.ofNat 0) wa) _ = _
          rw [r2, zc_e]
        have i15 : zgI z1 11 15 0 = 0 := (zFr_gI r4 (by decide) (by decide) 0).trans p15
        refine ⟨z1, z1, w1, id, rc, Or.inl ⟨i15, rfl⟩, rm, ⟨p1, ?_, pI, pJ, ⟨?_, ?_, pWw⟩, r3, ?_, i15⟩, ?_, ?_, fun _ => rfl, zMu_eq (fun c => (zFr_gA r4 (by decide) c 2).trans (by rw [zgA_sA, if_neg (by simp)])), fun _ c => (zFr_gA r4 (by decide) c 2).trans (by rw [zgA_sA, if_neg (by simp)]), (fun _ _ y => by rw [ko] at y; cases y), Or.inl rfl⟩
        · exact zMV_fr r5 (by decide) r6 (zMV_fr fb (by decide) (fun _ _ _ => rfl) pM)
        · exact zWyc_fr r4 (by decide) (zWyc_fr fa (by decide) pWc)
        · exact zWym_fr r5 (by decide) (zWym_fr fb (by decide) pWm)
        · refine zUt_keep (z5_fr r4 (by decide)) r5 (by decide) (fun c hc' => ?_)
          obtain ⟨a2, a3, a4, a6, a7⟩ := pU c hc'
          have A : ∀ k, zgA za 113 c k = if c = b ∧ k = 7 then zgA z 113 b 7 + 1 else zgA z 113 c k := fun k => by
            show zgA (zsA z 113 b 7 _) 113 c k = _
            rw [zgA_sA]; simp only [true_and]
          have I : ∀ j, zgI wa 12 j c = if j = 9 ∧ c = b then zgI w 12 9 b + 1 else zgI w 12 j c := fun j => by
            show zgI (zsI w 12 9 b _) 12 j c = _
            rw [zgI_sI]; simp only [true_and]
          rw [A, A, A, A, A, I, I, I, I, I, if_neg (by omega), if_neg (by omega), if_neg (by omega), if_neg (by omega), if_neg (by omega), if_neg (by omega), if_neg (by omega), if_neg (by omega)]
          refine ⟨a2, a3, a4, a6, ?_⟩
          by_cases y : c = b
          · subst y; rw [if_pos ⟨rfl, rfl⟩, if_pos ⟨rfl, rfl⟩, a7]
          · rw [if_neg (fun t => y t.1), if_neg (fun t => y t.2)]; exact a7
        · intro u hu
          refine ⟨fun j => ?_, fun i => (zFr_gA r4 (by decide) u i).trans ?_⟩
          · exact r7 j u
          · show zgA (zsA z 113 b 7 _) 125 u i = _
            rw [zgA_sA, if_neg (by simp)]
        · exact zKm_tr (zKm_fr fb (by decide) (fun _ _ _ => rfl)) (zKm_fr r5 (by decide) r6)
      · -- another's: an error is sent
        have ko' : tha T b (D.1 0) = false := by simpa using ko
        obtain ⟨i, hi, h10', hPe⟩ := h10 k1 k5 ko'
        obtain ⟨z1, c1, c2, c3, c4, c5, c6, c7⟩ := zc_back (N := N) (why := why) pC hb hi (hx k1 k5 ko') hDc k1 hDw k5 (h4 k1 k5) ko' h10' (by omega)
        let z1' : St := zsI z1 11 15 0 0
        have fz : zFr 0x800000000000000000000000000000000000000000000000000000000000000000000000000000000000000000000000000000000000000000000000000000000000000000000000000000000000000000000000000000000000 z1 z1' := zFr_I (zFr_rf _ _) (by decide)
        have i7 : ∀ j u, zgI z1' 7 j u = zgI z1 7 j u := fun j u => by
          show zgI (zsI z1 11 15 0 0) 7 j u = _
          rw [zgI_sI, if_neg (by simp)]
        have C1 : zNC z1' T E gc X := zNC_cg fz (by decide) (fun u _ _ _ => ⟨fun j => i7 j u, fun _ => rfl⟩) (fun _ => rfl) c2
        have P1 : zPC 11 z1' 0 (dErr (tq T b i) D (zgA z 113 b 2) why (zgA z 125 0)) := zPC_cg (fun j _ => i7 j 0) (fun _ => rfl) c3
        have W1 : zWyc z1' T Wy := zWyc_fr fz (by decide) (zWyc_fr c7 (by decide) pWc)
        have i150 : zgI z1' 11 15 0 = 0 := by
          show zgI (zsI z1 11 15 0 0) 11 15 0 = 0
          rw [zgI_sI, if_pos ⟨rfl, rfl, rfl⟩]
        have hDE := zDw_err (tq T b i) D (zgA z 113 b 2) why (zgA z 125 0)
        have so := zc_sendOff (N := N) (Wy := Wy) (b := b) C1 W1 pWw pI hb (Or.inl rfl) P1 hDE hN
        have sent : ∃ z2, fX11_sendOff N 0 b 0 z1' = some (0, z2) ∧ zNC z2 T E (nGo E b gc (dErr (tq T b i) D (zgA z 113 b 2) why (zgA z 125 0)) (rt T Wy b (D.1 0))) X ∧ zKe X z1' z2 ∧ zFr mX11_hand z1' z2 ∧ z5 z1' z2 := by
          cases e : rt T Wy b (D.1 0) with
          | none =>
            refine ⟨z1', ?_, C1, zKe_rf _ _, zFr_rf _ _, z5_rf _⟩
            rw [so.2 e]
            have k0 : zgI z1' 7 2 0 = 0 := P1.1 2 (by omega) (by omega)
            unfold fX11_comeBack
            rw [k0, if_pos (by decide), zc_e]
          | some v =>
            obtain ⟨z2, t1, t2, t3, t4, t5⟩ := so.1 v.1 v.2 e
            exact ⟨z2, t1, t2, zKe_h t3, t4, z5_hand (z5_rf _) _ _ t5⟩
        obtain ⟨z2, t1, t2, t3, t4, t5⟩ := sent
        obtain ⟨w', u1, u2, u3, u4, u5, u6⟩ := zm_back2 (N := N) (why := why) (num := zgA z 113 b 2) (old := zgA z 125 0) pM pWm pWw pJ.1 pJ.2.2.1 hb hi hd hX hDm k1 hDw k5 ko' h10' (pU b hb).1.symm hN
        have fC : zFr (mX11_hand ||| 0x200200000000000000000000000000000000000000000000000000000000000000000000000000000000000000000000000000000000000000000000000000000000000000000000000800000000000000000000000000000000000000000000000000000000000000006ff0000000000000000000000000000000000000000000000000000000000000000000000000000000000000000000000000000000000000000) z z2 := zFr_tr (zFr_w c7 (by decide)) (zFr_tr (zFr_w fz (by decide)) (zFr_w t4 (by decide)))
        have i15 : zgI z2 11 15 0 = 0 := (zFr_gI t4 (by decide) (by decide) 0).trans i150
        refine ⟨z1, z2, w', fun g => nGo E b g (dErr (tq T b i) D (zgA z 113 b 2) why (zgA z 125 0)) (rt T Wy b (D.1 0)), c1, Or.inr ⟨by rw [c4]; decide, t1⟩, u1, ⟨t2, u2, nGo_c hc pWw hb hDE pI, nGo_I pC.2.2.2.1 hc pWw hP hb hDE (dErr_k _ _ _ _ _) hPe pJ, ⟨zWyc_fr t4 (by decide) W1, zWym_fr u6 (by decide) pWm, pWw⟩, zRE_fr fC (by decide) u6 (by decide) pE, ?_, i15⟩, ?_, u3, fun y => absurd (y k1 k5) ko, ⟨fun c hc' => ((t5 c 2 (by decide)).trans (c6 c 2)).trans (if_neg (fun y => hc' y.1)), Or.inr (((t5 b 2 (by decide)).trans (c6 b 2)).trans (if_pos ⟨rfl, rfl⟩))⟩, fun y => absurd (y k1 k5) ko, fun _ _ _ => (((t5 b 2 (by decide)).trans (c6 b 2)).trans (if_pos ⟨rfl, rfl⟩)), Or.inr ⟨i, hi, rfl⟩⟩
        · intro c hc'
          obtain ⟨a2, a3, a4, a6, a7⟩ := pU c hc'
          have A : ∀ k, k ≠ 5 → zgA z2 113 c k = if c = b ∧ k = 2 then zgA z 113 b 2 + 1 else zgA z 113 c k := fun k hk => (t5 c k hk).trans (c6 c k)
          rw [A 2 (by decide), A 3 (by decide), A 4 (by decide), A 6 (by decide), A 7 (by decide), if_neg (by omega : ¬ (c = b ∧ 3 = 2)), if_neg (by omega : ¬ (c = b ∧ 4 = 2)), if_neg (by omega : ¬ (c = b ∧ 6 = 2)), if_neg (by omega : ¬ (c = b ∧ 7 = 2)), zFr_gI u6 (by decide) (by decide) (j := 5), zFr_gI u6 (by decide) (by decide) (j := 6), zFr_gI u6 (by decide) (by decide) (j := 8), zFr_gI u6 (by decide) (by decide) (j := 9)]
          refine ⟨?_, a3, a4, a6, a7⟩
          by_cases y : c = b
          · subst y; rw [if_pos ⟨rfl, rfl⟩, u4]
          · rw [if_neg (fun t => y t.1), u5 c y]; exact a2
        · exact zKe_tr (fun u hu => c5 u (by
            rcases hu with hu | hu
            · omega
            · have := (zX1 pC.2.2.2.2.1.2.2 u hu).1; omega)) (zKe_tr (fun u _ => ⟨fun j => i7 j u, fun _ => rfl⟩) t3)
    · refine ⟨z, z, w, id, ?_, Or.inl ⟨p15, rfl⟩, ?_, ⟨pC, pM, pI, pJ, ⟨pWc, pWm, pWw⟩, pE, pU, p15⟩, zKe_rf _ _, zKm_rf _ _, fun _ => rfl, zMu_eq (fun _ => rfl), fun _ _ => rfl, fun _ y => absurd y k5, Or.inl rfl⟩
      · unfold fX11_comeBack
        rw [e2, if_neg (fun y => y k1), e5, if_neg (by rw [show (0 : Int32) = Int32.ofNat 0 from rfl, zo_eq (by omega) (by omega)]; exact k5)]
      · unfold fX19_comeBack_L2
        rw [o2, zc_e, if_neg (fun y => y k1), o6, zc_e, if_neg (by rw [show (0 : Int32) = Int32.ofNat 0 from rfl, zo_eq (by omega) (by omega)]; exact k5)]
  · refine ⟨z, z, w, id, ?_, Or.inl ⟨p15, rfl⟩, ?_, ⟨pC, pM, pI, pJ, ⟨pWc, pWm, pWw⟩, pE, pU, p15⟩, zKe_rf _ _, zKm_rf _ _, fun _ => rfl, zMu_eq (fun _ => rfl), fun _ _ => rfl, fun y => absurd y k1, Or.inl rfl⟩
    · unfold fX11_comeBack
      rw [e2, if_pos k1]
    · unfold fX19_comeBack_L2
      rw [o2, zc_e, if_pos k1]
