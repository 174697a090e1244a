/-! ways: the class finds the ways to all nets -/
theorem zYd_re {z : St} {b t : Nat} {re : Nat → Bool} {s : Dh} (h : zYd z b re s) : zYd (zsA z 110 b t (zbi true)) b (zupd re t true) s := fun u hu => by
  obtain ⟨a, b', c⟩ := h u hu
  rw [zgA_sA, zgA_sA, zgA_sA, if_neg (show ¬ (109 = 110 ∧ b = b ∧ u = t) from by omega), if_neg (show ¬ (111 = 110 ∧ b = b ∧ u = t) from by omega)]
  refine ⟨a, ?_, c⟩
  by_cases e : u = t
  · subst e; rw [if_pos ⟨rfl, rfl, rfl⟩, zupd_s]
  · rw [if_neg (fun y => e y.2.2), zupd_n e]; exact b'
theorem butN_0 (o : Option Nat) (h : ∀ k, o = some k → k < 2147483648) : (butN o < 0 ↔ o = none) := by
  cases o with
  | none => exact ⟨fun _ => rfl, fun _ => by decide⟩
  | some k => exact ⟨fun y => absurd y (zo_nn (h k rfl)), fun y => by cases y⟩
theorem zc_findDistances {z : St} {b N : Nat} {Ba : Nat → Option Ad} (hB : zRCb z b Ba) (hBn : zBn Ba) (h0 : zgI z 0 0 b = Int32.ofNat b) (hb : b < 16) (hN : 24 < N) : ∃ z', fX0_findDistances N b z = some (0, z') ∧ zYd z' b (dij Ba b 16 (dij0 b)).1 (dij Ba b 16 (dij0 b)).2 ∧ zHb (dij Ba b 16 (dij0 b)).2 ∧ zYk b z z' := by
  have F9 : FARn = 1000000000 := rfl
  have hBe := zBn_b hBn
  -- the nearest one
  have near : ∀ (m i nn : Nat) (K : Nat → Int32 → St → Option (Int32 × St)) (c : Int32) (y : St) (re : Nat → Bool) (s : Dh), i + m = 16 → m < nn → zYd y b re s → zHb s → fX0_findDistances_58 N K nn b c (butN (nstk re s.1 i)) (Int32.ofNat i) y = (match nstk re s.1 16 with | none => some (0, y) | some x => zl (zsA y 110 b x (zbi true)) fun z4 => zc (fX0_goOnFrom N b (Int32.ofNat x) z4) fun _ z6 => zl (c + 1) fun v9 => K b v9 z6) := by
    intro m
    induction m with
    | zero =>
      intro i nn K c y re s hi hn hY hH
      obtain ⟨nn, rfl⟩ : ∃ k, nn = k + 1 := ⟨nn - 1, by omega⟩
      have hi : i = 16 := by omega
      subst hi
      show fX0_findDistances_58b N K (fX0_findDistances_58 N K nn) b c (butN (nstk re s.1 16)) (Int32.ofNat 16) y = _
      unfold fX0_findDistances_58b
      rw [if_pos (by decide)]
      cases e : nstk re s.1 16 with
      | none => rfl
      | some x =>
        have x16 := (nstk_some e).1
        show (if 0 ≤ Int32.ofNat x then _ else _) = _
        rw [if_pos (zo_ge (by omega))]
        show zk (Int32.ofNat x) 16 _ = _
        rw [zkk x16 (by omega)]
        show (zl (zsA y 110 b (Int32.ofNat x).toNatClampNeg (vp_nar .boolean (1 : Int32))) fun z4 => zc (fX0_goOnFrom N b (Int32.ofNat x) z4) fun _ z6 => zl (c + 1) fun v9 => K b v9 z6) = _
        rw [zoC (by omega), znar1]
    | succ m ih =>
      intro i nn K c y re s hi hn hY hH
      obtain ⟨nn, rfl⟩ : ∃ k, nn = k + 1 := ⟨nn - 1, by omega⟩
      have i16 : i < 16 := by omega
      obtain ⟨y1, y2, y3⟩ := hY i i16
      have go := ih (i + 1) nn K c y re s (by omega) (by omega) hY hH
      have hi9 := (hH i).1
      show fX0_findDistances_58b N K (fX0_findDistances_58 N K nn) b c (butN (nstk re s.1 i)) (Int32.ofNat i) y = _
      unfold fX0_findDistances_58b
      rw [if_neg (by rw [show (16 : Int32) = Int32.ofNat 16 from rfl, zo_le (by omega) (by omega)]; omega), zkk i16 (by omega), zoC (by omega), y2]
      have g108 : ∀ x2 : Int32, x2 = butN (nstk re s.1 (i + 1)) → fX0_findDistances_108 N K (fX0_findDistances_58 N K nn) b c x2 (Int32.ofNat i) y = (match nstk re s.1 16 with | none => some (0, y) | some x => zl (zsA y 110 b x (zbi true)) fun z4 => zc (fX0_goOnFrom N b (Int32.ofNat x) z4) fun _ z6 => zl (c + 1) fun v9 => K b v9 z6) := fun x2 e => by
        unfold fX0_findDistances_108
        rw [zo_i1, zl_e, e]; exact go
      by_cases k1 : re i = true
      · rw [if_pos (by rw [k1]; decide)]
        exact g108 _ (by rw [show nstk re s.1 (i + 1) = nstk re s.1 i from if_pos (Or.inl k1)])
      · have k1' : re i = false := by simpa using k1
        rw [if_neg (by rw [k1']; decide), zkk i16 (by omega), y1]
        by_cases k2 : s.1 i = FARn
        · rw [if_neg (fun q => q (by rw [k2]; rfl))]
          exact g108 _ (by rw [show nstk re s.1 (i + 1) = nstk re s.1 i from if_pos (Or.inr k2)])
        · rw [if_pos (show ¬ Int32.ofNat (s.1 i) = (1000000000 : Int32) from fun q => k2 ((zo_eq (a := s.1 i) (b := 1000000000) (by omega) (by omega)).mp q))]
          have e1 : nstk re s.1 (i + 1) = match nstk re s.1 i with | none => some i | some j => if s.1 i < s.1 j then some i else some j := if_neg (fun q => q.elim k1 k2)
          cases e : nstk re s.1 i with
          | none =>
            rw [e] at e1
            rw [if_pos (show butN none < 0 from by decide)]
            unfold fX0_findDistances_106
            exact g108 _ (by rw [e1]; rfl)
          | some j =>
            rw [e] at e1
            have j16 := (nstk_some e).1
            have hj9 := (hH j).1
            rw [if_neg (show ¬ butN (some j) < 0 from zo_nn (by omega)), show butN (some j) = Int32.ofNat j from rfl, zkk i16 (by omega), zkk (show j < 16 by omega) (by omega), zoC (by omega), (hY j (by omega)).1]
            by_cases k3 : s.1 i < s.1 j
            · rw [if_neg (by rw [zo_le (by omega) (by omega)]; omega)]
              unfold fX0_findDistances_106
              exact g108 _ (by rw [e1]; show _ = butN (if s.1 i < s.1 j then some i else some j); rw [if_pos k3]; rfl)
            · rw [if_pos (by rw [zo_le (by omega) (by omega)]; omega)]
              exact g108 _ (by rw [e1]; show _ = butN (if s.1 i < s.1 j then some i else some j); rw [if_neg k3]; rfl)
  -- round by round
  have rounds : ∀ (m k nn : Nat) (y : St) (s : Rdh), k + m = 16 → m < nn → zYd y b s.1 s.2 → zHb s.2 → zDi Ba b k s → zYk b z y → ∃ z', fX0_findDistances_48 N nn b (Int32.ofNat k) y = some (0, z') ∧ zYd z' b (dij Ba b m s).1 (dij Ba b m s).2 ∧ zHb (dij Ba b m s).2 ∧ zYk b z z' := by
    intro m
    induction m with
    | zero =>
      intro k nn y s hi hn hY hH hD hk
      obtain ⟨nn, rfl⟩ : ∃ k, nn = k + 1 := ⟨nn - 1, by omega⟩
      have hi : k = 16 := by omega
      subst hi
      refine ⟨y, ?_, hY, hH, hk⟩
      show fX0_findDistances_48b N (fX0_findDistances_48 N nn) b (Int32.ofNat 16) y = _
      unfold fX0_findDistances_48b
      rw [if_pos (by decide)]
    | succ m ih =>
      intro k nn y s hi hn hY hH hD hk
      obtain ⟨nn, rfl⟩ : ∃ k, nn = k + 1 := ⟨nn - 1, by omega⟩
      have e0 : fX0_findDistances_48 N (nn + 1) b (Int32.ofNat k) y = (match nstk s.1 s.2.1 16 with | none => some (0, y) | some x => zl (zsA y 110 b x (zbi true)) fun z4 => zc (fX0_goOnFrom N b (Int32.ofNat x) z4) fun _ z6 => zl (Int32.ofNat k + 1) fun v9 => fX0_findDistances_48 N nn b v9 z6) := by
        show fX0_findDistances_48b N (fX0_findDistances_48 N nn) b (Int32.ofNat k) y = _
        unfold fX0_findDistances_48b
        rw [if_neg (by rw [show (16 : Int32) = Int32.ofNat 16 from rfl, zo_le (by omega) (by omega)]; omega)]
        exact near 16 0 N (fX0_findDistances_48 N nn) (Int32.ofNat k) y s.1 s.2 rfl (by omega) hY hH
      rw [e0]
      unfold dij
      cases e : nstk s.1 s.2.1 16 with
      | none => exact ⟨y, rfl, hY, hH, hk⟩
      | some x =>
        obtain ⟨x16, xr, xf, -⟩ := nstk_some e
        have hd : s.2.1 x ≤ 16000 := by
          rcases hD.1.2.2.1 x with q | q
          · exact absurd q xf
          · omega
        have k1 : zYk b z (zsA y 110 b x (zbi true)) := zYk_tr hk (zYk_A (Or.inr (Or.inl rfl)))
        obtain ⟨z', g1, g2, g3, g4⟩ := zc_goOnFrom (z := zsA y 110 b x (zbi true)) (re := zupd s.1 x true) (s := s.2) (zYk_b k1 hB) hBn ((k1.1 0 0 b).trans h0) hb x16 (zupd_s _ _ _) hd hH (zYd_re hY) hN
        obtain ⟨z2, f1, f2, f3, f4⟩ := ih (k + 1) nn z' (zupd s.1 x true, gon Ba b x (zupd s.1 x true) s.2) (by omega) (by omega) g2 g3 (zDi_1 (by omega) hBe e hD) (zYk_tr k1 g4)
        refine ⟨z2, ?_, f2, f3, f4⟩
        show (zl (zsA y 110 b x (zbi true)) fun z4 => zc (fX0_goOnFrom N b (Int32.ofNat x) z4) fun _ z6 => zl (Int32.ofNat k + 1) fun v9 => fX0_findDistances_48 N nn b v9 z6) = _
        rw [zl_e, g1, zc_e, zo_i1, zl_e]; exact f1
  -- at first
  have init : ∀ (m i nn : Nat) (y : St), i + m = 16 → m < nn → (∀ t, t < i → zgA y 109 b t = Int32.ofNat FARn ∧ zgA y 110 b t = zbi false ∧ zgA y 111 b t = Int32.ofNat 0 - 1) → zYk b z y → ∃ z', fX0_findDistances_2 N nn b (Int32.ofNat i) y = some (0, z') ∧ zYd z' b (dij Ba b 16 (dij0 b)).1 (dij Ba b 16 (dij0 b)).2 ∧ zHb (dij Ba b 16 (dij0 b)).2 ∧ zYk b z z' := by
    intro m
    induction m with
    | zero =>
      intro i nn y hi hn hA hk
      obtain ⟨nn, rfl⟩ : ∃ k, nn = k + 1 := ⟨nn - 1, by omega⟩
      have hi : i = 16 := by omega
      subst hi
      have e : fX0_findDistances_2 N (nn + 1) b (Int32.ofNat 16) y = fX0_findDistances_48 N N b (Int32.ofNat 0) (zsA y 109 b b (Int32.ofNat 0)) := by
        show fX0_findDistances_2b N (fX0_findDistances_2 N nn) b (Int32.ofNat 16) y = _
        unfold fX0_findDistances_2b
        rw [if_pos (by decide), hk.1 0 0 b, h0, zkk hb (by omega), zoC (by omega), zl_e]
        rfl
      rw [e]
      have d : ∀ t, (dij0 b).2.1 t = if t = b then 0 else FARn := fun t => rfl
      refine rounds 16 0 N _ (dij0 b) rfl (by omega) (fun t ht => ?_) (fun t => ⟨?_, Nat.zero_le _⟩) (zDi_0 hb) (zYk_tr hk (zYk_A (Or.inl rfl)))
      · obtain ⟨a1, a2, a3⟩ := hA t ht
        rw [zgA_sA, zgA_sA, zgA_sA, if_neg (show ¬ (110 = 109 ∧ b = b ∧ t = b) from by omega), if_neg (show ¬ (111 = 109 ∧ b = b ∧ t = b) from by omega), d]
        refine ⟨?_, a2, a3⟩
        by_cases c : t = b
        · rw [if_pos ⟨rfl, rfl, c⟩, if_pos c]
        · rw [if_neg (fun q => c q.2.2), if_neg c]; exact a1
      · rw [d]; by_cases c : t = b
        · rw [if_pos c]; exact Nat.zero_le _
        · rw [if_neg c]; exact Nat.le_refl _
    | succ m ih =>
      intro i nn y hi hn hA hk
      obtain ⟨nn, rfl⟩ : ∃ k, nn = k + 1 := ⟨nn - 1, by omega⟩
      have i16 : i < 16 := by omega
      have e : fX0_findDistances_2 N (nn + 1) b (Int32.ofNat i) y = fX0_findDistances_2 N nn b (Int32.ofNat (i + 1)) (zsA (zsA (zsA y 109 b i (Int32.ofNat FARn)) 110 b i (zbi false)) 111 b i (Int32.ofNat 0 - 1)) := by
        show fX0_findDistances_2b N (fX0_findDistances_2 N nn) b (Int32.ofNat i) y = _
        unfold fX0_findDistances_2b
        rw [if_neg (by rw [show (16 : Int32) = Int32.ofNat 16 from rfl, zo_le (by omega) (by omega)]; omega), zkk i16 (by omega), zoC (by omega), zl_e, zkk i16 (by omega), zl_e, zkk i16 (by omega), zl_e, zo_i1, zl_e, znar0]
        rfl
      rw [e]
      refine ih (i + 1) nn _ (by omega) (by omega) (fun t ht => ?_) (zYk_tr hk (zYk_tr (zYk_A (Or.inl rfl)) (zYk_tr (zYk_A (Or.inr (Or.inl rfl))) (zYk_A (Or.inr (Or.inr rfl))))))
      have A : ∀ k, zgA (zsA (zsA (zsA y 109 b i (Int32.ofNat FARn)) 110 b i (zbi false)) 111 b i (Int32.ofNat 0 - 1)) k b t = if k = 111 ∧ t = i then Int32.ofNat 0 - 1 else if k = 110 ∧ t = i then zbi false else if k = 109 ∧ t = i then Int32.ofNat FARn else zgA y k b t := fun k => by
        rw [zgA_sA, zgA_sA, zgA_sA]
        simp only [true_and]
      rw [A, A, A]
      by_cases c : t = i
      · subst c
        rw [if_neg (by omega), if_neg (by omega), if_pos ⟨rfl, rfl⟩, if_neg (by omega), if_pos ⟨rfl, rfl⟩, if_pos ⟨rfl, rfl⟩]
        exact ⟨rfl, rfl, rfl⟩
      · rw [if_neg (fun q => c q.2), if_neg (fun q => c q.2), if_neg (fun q => c q.2), if_neg (fun q => c q.2), if_neg (fun q => c q.2), if_neg (fun q => c q.2), if_neg (fun q => c q.2), if_neg (fun q => c q.2), if_neg (fun q => c q.2)]
        exact hA t (by omega)
  unfold fX0_findDistances
  exact init 16 0 N z rfl (by omega) (fun t ht => absurd ht (Nat.not_lt_zero _)) (zYk_rf _ _)
