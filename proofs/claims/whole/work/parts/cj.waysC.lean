/-! ways: the class, all nets -/
/-- only the ways of router b change (and what is reckoned for them) -/
def zYv (b : Nat) (z z' : St) : Prop := (∀ k j o, zgI z' k j o = zgI z k j o) ∧ (∀ k o i, ¬ (o = b ∧ 106 ≤ k ∧ k ≤ 111) → zgA z' k o i = zgA z k o i) ∧ (∀ k o i, zgL z' k o i = zgL z k o i) ∧ (∀ k o i, zgQ z' k o i = zgQ z k o i) ∧ ∀ k o i, zgR z' k o i = zgR z k o i
theorem zYv_rf (b : Nat) (z : St) : zYv b z z := ⟨fun _ _ _ => rfl, fun _ _ _ _ => rfl, fun _ _ _ => rfl, fun _ _ _ => rfl, fun _ _ _ => rfl⟩
theorem zYv_tr {b : Nat} {x y z : St} (h1 : zYv b x y) (h2 : zYv b y z) : zYv b x z := ⟨fun k j o => (h2.1 k j o).trans (h1.1 k j o), fun k o i n => (h2.2.1 k o i n).trans (h1.2.1 k o i n), fun k o i => (h2.2.2.1 k o i).trans (h1.2.2.1 k o i), fun k o i => (h2.2.2.2.1 k o i).trans (h1.2.2.2.1 k o i), fun k o i => (h2.2.2.2.2 k o i).trans (h1.2.2.2.2 k o i)⟩
theorem zYv_k {b : Nat} {z z' : St} (f : zYk b z z') : zYv b z z' := ⟨f.1, fun k o i n => f.2.1 k o i (by omega), f.2.2⟩
theorem zYv_n {b n : Nat} {z z' : St} (f : zYn b n z z') : zYv b z z' := ⟨f.1, fun k o i m => f.2.1 k o i (by omega), f.2.2⟩
theorem zYv_b {b : Nat} {z z' : St} {Ba : Nat → Option Ad} (f : zYv b z z') (h : zRCb z b Ba) : zRCb z' b Ba := zRCb_cg (fun k i hk => f.2.1 k b i (by omega)) (fun o i _ _ => f.2.1 104 o i (by omega)) h
theorem zYv_m : ∀ k, k < 112 → 106 ≤ k → mX0_findWays.testBit (1180 + k) = true := by decide +kernel
theorem zYv_fr {b : Nat} {z z' : St} (f : zYv b z z') : zFr mX0_findWays z z' := ⟨fun k j o _ _ => ⟨f.1 k j o, f.2.2.2.2 k j o⟩, fun k o i hm => ⟨f.2.1 k o i (fun y => by rw [zYv_m k (by omega) y.2.1] at hm; cases hm), f.2.2.1 k o i, f.2.2.2.1 k o i⟩⟩
theorem zYv_T {b : Nat} {z z' : St} {T : Tp} (f : zFr mX0_findWays z z') (h : zTC z T) : zTC z' T := zTC_fr f (by decide) h
theorem zc_findWays {z : St} {T : Tp} {E : Ev} {tl : Nat → Nat} {b N : Nat} {Ba : Nat → Option Ad} (hT : zTC z T) (hc : zTc T) (hE : zEc z T E) (hTl : zTlC z T tl) (hb : b < tb T) (hr : tr T b = true) (hB : zRCb z b Ba) (hBn : zBn Ba) (hN : 24 < N) :
    ∃ z', fX0_findWays N b b (Int32.ofNat (tn T)) z = some (0, z') ∧ (∀ n, n < tn T → zYw z' b n (cWay T E tl b Ba n)) ∧ zYv b (zsI z 0 9 b (0 : Int32)) z' ∧ zFr mX0_findWays z z' ∧ (∀ k i, 106 ≤ k → k ≤ 108 → tn T ≤ i → zgA z' k b i = zgA z k b i) := by
  have n24 := hc.2.1
  have b16 : b < 16 := Nat.lt_of_lt_of_le hb hc.1
  have k0 : zgI z 0 0 b = Int32.ofNat b := (hT.2.2.1.1 b hb hr).2.2
  obtain ⟨z1, hz1⟩ : ∃ u, u = zsI z 0 9 b (0 : Int32) := ⟨_, rfl⟩
  have I1 : ∀ k j o, ¬ (k = 0 ∧ j = 9 ∧ o = b) → zgI z1 k j o = zgI z k j o := fun k j o h => by rw [hz1, zgI_sI, if_neg h]
  have A1 : ∀ k o i, zgA z1 k o i = zgA z k o i := fun k o i => by rw [hz1]; rfl
  have Q1 : ∀ k o i, zgQ z1 k o i = zgQ z k o i := fun k o i => by rw [hz1]; rfl
  have R1 : ∀ k o i, zgR z1 k o i = zgR z k o i := fun k o i => by rw [hz1]; rfl
  obtain ⟨z2, f1, f2, f3, f4⟩ := zc_findDistances (z := z1) (Ba := Ba) (N := N) (zRCb_cg (fun k i _ => A1 k b i) (fun o i _ _ => A1 104 o i) hB) hBn ((I1 0 0 b (by omega)).trans k0) b16 hN
  have hS := zDn_dij (Ba := Ba) b16 (zBn_b hBn)
  obtain ⟨s, hs⟩ : ∃ s, s = dij Ba b 16 (dij0 b) := ⟨_, rfl⟩
  rw [← hs] at f2 f3 hS
  have cw : ∀ n, cWay T E tl b Ba n = rWay T E tl b (fun n => wFar s.2.1 s.2.2 (fun t => pTl (bE Ba t) n)) n := fun n => by rw [hs]; rfl
  have hB1 : zRCb z1 b Ba := zRCb_cg (fun k i _ => A1 k b i) (fun o i _ _ => A1 104 o i) hB
  have hF1 : zFr mX0_findWays z z1 := by rw [hz1]; exact zFr_I (zFr_rf _ _) (by decide)
  have eW : ∀ y : St, fX0_findWays N b b (Int32.ofNat (tn T)) z = fX0_findWays_11 N N b b (Int32.ofNat (tn T)) (Int32.ofNat 0) z2 := fun _ => by
    unfold fX0_findWays
    rw [zl_e, ← hz1, f1, zc_e]; rfl
  have hFr : ∀ z', fX0_findWays N b b (Int32.ofNat (tn T)) z = some (0, z') → zFr mX0_findWays z z' := fun z' e => by
    have := wX0_findWays (M := mX0_findWays) (N := N) (x0 := b) (x1 := b) (x2 := Int32.ofNat (tn T)) (z0 := z) (z := z) (Nat.and_self _) (zFr_rf _ _)
    exact this _ _ e
  have loop : ∀ (m n nn : Nat) (y : St), n + m = tn T → m < nn → (∀ k, k < n → zYw y b k (cWay T E tl b Ba k)) → zYd y b s.1 s.2 → zYv b z1 y → (∀ k i, 106 ≤ k → k ≤ 108 → tn T ≤ i → zgA y k b i = zgA z k b i) → ∃ z', fX0_findWays_11 N nn b b (Int32.ofNat (tn T)) (Int32.ofNat n) y = some (0, z') ∧ (∀ k, k < tn T → zYw z' b k (cWay T E tl b Ba k)) ∧ zYv b z1 z' ∧ (∀ k i, 106 ≤ k → k ≤ 108 → tn T ≤ i → zgA z' k b i = zgA z k b i) := by
    intro m
    induction m with
    | zero =>
      intro n nn y hi hm hw hd hv hx
      obtain ⟨nn, rfl⟩ : ∃ k, nn = k + 1 := ⟨nn - 1, by omega⟩
      have hi : n = tn T := by omega
      subst hi
      refine ⟨y, ?_, hw, hv, hx⟩
      show fX0_findWays_11b N (fX0_findWays_11 N nn) b b (Int32.ofNat (tn T)) (Int32.ofNat (tn T)) y = _
      unfold fX0_findWays_11b
      rw [if_pos (Int32.le_refl _)]
    | succ m ih =>
      intro n nn y hi hm hw hd hv hx
      obtain ⟨nn, rfl⟩ : ∃ k, nn = k + 1 := ⟨nn - 1, by omega⟩
      have hn : n < tn T := by omega
      have n24' : n < 24 := by omega
      have Iy : ∀ k j o, ¬ (k = 0 ∧ j = 9 ∧ o = b) → zgI y k j o = zgI z k j o := fun k j o h => (hv.1 k j o).trans (I1 k j o h)
      have hTy : zTC y T := by
        refine zTC_fr (M := mX0_findWays) ?_ (by decide) hT
        refine zFr_tr hF1 ?_
        exact zYv_fr hv
      have go : ∀ y', zYw y' b n (cWay T E tl b Ba n) → zYn b n y y' → ∃ z', fX0_findWays_62 N (fX0_findWays_11 N nn) b b (Int32.ofNat (tn T)) (Int32.ofNat n) y' = some (0, z') ∧ (∀ k, k < tn T → zYw z' b k (cWay T E tl b Ba k)) ∧ zYv b z1 z' ∧ (∀ k i, 106 ≤ k → k ≤ 108 → tn T ≤ i → zgA z' k b i = zgA z k b i) := fun y' g1 g2 => by
        unfold fX0_findWays_62
        rw [zo_i1, zl_e]
        refine ih (n + 1) nn y' (by omega) (by omega) (fun k hk => ?_) (zYn_d g2 hd) (zYv_tr hv (zYv_n g2)) (fun k i h1 h2 h3 => (g2.2.1 k b i (by omega)).trans (hx k i h1 h2 h3))
        by_cases c : k = n
        · rw [c]; exact g1
        · exact zYn_w g2 c (hw k (by omega))
      have far : cWay T E tl b Ba n = wFar s.2.1 s.2.2 (fun t => pTl (bE Ba t) n) → ∃ z', fX0_findWays_57 N (fX0_findWays_11 N nn) b b (Int32.ofNat (tn T)) (Int32.ofNat n) y = some (0, z') ∧ (∀ k, k < tn T → zYw z' b k (cWay T E tl b Ba k)) ∧ zYv b z1 z' ∧ (∀ k i, 106 ≤ k → k ≤ 108 → tn T ≤ i → zgA z' k b i = zgA z k b i) := fun e => by
        obtain ⟨y', g1, g2, g3⟩ := zc_findFarWay (z := y) (n := n) (N := N) (zYv_b hv hB1) hBn n24' hS.df f3 hd hN
        unfold fX0_findWays_57
        rw [g1, zc_e]
        exact go y' (by rw [e]; exact g2) g3
      show ∃ z', fX0_findWays_11b N (fX0_findWays_11 N nn) b b (Int32.ofNat (tn T)) (Int32.ofNat n) y = some (0, z') ∧ _
      unfold fX0_findWays_11b
      rw [if_neg (by rw [zo_le (by omega) (by omega)]; omega), zc_portOn hTy hc hb n24' (by omega), zc_e]
      cases e : tpo T b n with
      | none =>
        rw [zo_0]
        exact far (by rw [cw]; unfold rWay; rw [e])
      | some p =>
        obtain ⟨p1, p2, p3, p4, p5⟩ := tpo_some hc hb e
        obtain ⟨-, q1, -, -, -⟩ := hTy.2.2.2 p p1
        have hu := (hE.2 n hn).2.2
        rw [zo_e, zl_e, q1, zd_e, p3, Iy 5 3 n (by omega), hu]
        by_cases c : eU E n = true
        · obtain ⟨y', g1, g2, g3⟩ := zc_setWay (z := y) (b := b) (n := n) (N := N) (c := Int32.ofNat (tl p)) (x := Int32.ofNat b) (y := Int32.ofNat n) n24'
          rw [if_neg (by rw [c]; decide), Iy 8 5 p (by omega), (hTl p p1).1, Iy 0 0 b (by omega), k0, g1, zc_e]
          refine go y' ?_ g3
          rw [cw]; unfold rWay; rw [e]
          show zYw y' b n (if eU E n = true then _ else _)
          rw [if_pos c]; exact g2
        · have c' : eU E n = false := by simpa using c
          rw [if_pos (by rw [c']; rfl)]
          refine far ?_
          rw [cw]; unfold rWay; rw [e]
          show (if eU E n = true then _ else _) = _
          rw [if_neg c]
  obtain ⟨z', g1, g2, g3, g4⟩ := loop (tn T) 0 N z2 (by omega) (by omega) (fun k hk => absurd hk (Nat.not_lt_zero _)) f2 (zYv_k f4) (fun k i h1 h2 _ => (f4.2.1 k b i (by omega)).trans (A1 k b i))
  have eF := (eW z).trans g1
  exact ⟨z', eF, g2, by rw [← hz1]; exact g3, hFr z' eF, g4⟩
