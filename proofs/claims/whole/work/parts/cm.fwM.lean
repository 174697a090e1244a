/-! ways, the model: all sums -/
theorem zE0_cg {Ba : Nat → Option Ad} {P Q : Nat → En → Prop} {D : Nat → Nat → Nat} (h : ∀ k e, k < 16 → Q k e → P k e) (hE : zE0 Ba P D) : zE0 Ba Q D := ⟨hE.1, hE.2.1, fun k e hk he => hE.2.2.1 k e hk (h k e hk he), hE.2.2.2⟩
theorem zE0_fw {Ba : Nat → Option Ad} {D : Nat → Nat → Nat} (h : zE0 Ba (fun k e => e ∈ bE Ba k) D) : zFW Ba 0 D := by
  obtain ⟨h1, h2, h3, h4⟩ := h
  refine ⟨h1, h2, fun x t n c hx _ hE => h3 x (t + 1, n, c) hx hE.1 (Nat.succ_ne_zero t) hE.2, fun x m y _ _ hm => absurd hm (Nat.not_lt_zero _), fun x y hx hy hne hlt => ?_⟩
  obtain ⟨n, hn⟩ := h4 x y hx hy hne hlt
  exact ⟨y, n, _, hy, hn, by rw [h1 y hy]; exact Nat.le_refl _⟩
/-- one middle more -/
theorem zm_middle {w0 : St} {k N : Nat} {K173 : Nat → Int32 → St → Option (Int32 × St)} {w : St} {D : Nat → Nat → Nat} (hk : k < 16) (hD : zY9 w D) (hb : ∀ x y, x < 16 → y < 16 → D x y ≤ FARn) (h0 : D k k = 0) (hF : zYm w0 w) (hN : 24 < N) :
    ∃ w', fX19_leastSums_181 N K173 N 0 (Int32.ofNat k) (Int32.ofNat 0) w = K173 0 (Int32.ofNat (k + 1)) w' ∧ zY9 w' (fwS k D) ∧ zYm w0 w' := by
  have F9 : FARn = 1000000000 := rfl
  have inner : ∀ (m i j nn : Nat) (K181 : Nat → Int32 → Int32 → St → Option (Int32 × St)) (v : St), i < 16 → j + m = 16 → m < nn → zY9 v (fun x y => if x < i ∨ (x = i ∧ y < j) then fwS k D x y else D x y) → zYm w0 v → ∃ w', fX19_leastSums_190 N K173 K181 nn 0 (Int32.ofNat k) (Int32.ofNat i) (Int32.ofNat j) v = K181 0 (Int32.ofNat k) (Int32.ofNat (i + 1)) w' ∧ zY9 w' (fun x y => if x < i + 1 then fwS k D x y else D x y) ∧ zYm w0 w' := by
    intro m
    induction m with
    | zero =>
      intro i j nn K181 v hi hj hn hY hv
      obtain ⟨nn, rfl⟩ : ∃ k, nn = k + 1 := ⟨nn - 1, by omega⟩
      have hj : j = 16 := by omega
      subst hj
      refine ⟨v, ?_, fun x y hx hy => ?_, hv⟩
      · show fX19_leastSums_190b N K173 K181 (fX19_leastSums_190 N K173 K181 nn) 0 (Int32.ofNat k) (Int32.ofNat i) (Int32.ofNat 16) v = _
        unfold fX19_leastSums_190b
        rw [if_pos (by decide), zo_i1, zl_e]
      · rw [hY x y hx hy]
        dsimp only
        by_cases c : x < i + 1
        · rw [if_pos c, if_pos (by omega)]
        · rw [if_neg c, if_neg (by omega)]
    | succ m ih =>
      intro i j nn K181 v hi hj hn hY hv
      obtain ⟨nn, rfl⟩ : ∃ k, nn = k + 1 := ⟨nn - 1, by omega⟩
      have j16 : j < 16 := by omega
      have f1 := fwS_k h0 i
      have f2 := fwS_k h0 j
      have e1 : zgA v 190 0 (16 * i + k) = Int32.ofNat (D i k) := by
        rw [hY i k hi hk]
        dsimp only
        by_cases c : i < i ∨ (i = i ∧ k < j)
        · rw [if_pos c, f1.1]
        · rw [if_neg c]
      have e2 : zgA v 190 0 (16 * k + j) = Int32.ofNat (D k j) := by
        rw [hY k j hk j16]
        dsimp only
        by_cases c : k < i ∨ (k = i ∧ j < j)
        · rw [if_pos c, f2.2]
        · rw [if_neg c]
      have e3 : zgA v 190 0 (16 * i + j) = Int32.ofNat (D i j) := by
        rw [hY i j hi j16]
        dsimp only
        rw [if_neg (by omega)]
      have b1 := hb i k hi hk
      have b2 := hb k j hk j16
      have b3 := hb i j hi j16
      have go : ∀ x : Nat, x = fwS k D i j → ∃ w', fX19_leastSums_268 N K173 K181 (fX19_leastSums_190 N K173 K181 nn) 0 (Int32.ofNat k) (Int32.ofNat i) (Int32.ofNat j) 0 (Int32.ofNat (16 * i + j)) (Int32.ofNat x) v = K181 0 (Int32.ofNat k) (Int32.ofNat (i + 1)) w' ∧ zY9 w' (fun x y => if x < i + 1 then fwS k D x y else D x y) ∧ zYm w0 w' := fun x hx => by
        unfold fX19_leastSums_268
        rw [zkk (by omega) (by omega), zoC (by omega), zl_e, zo_i1, zl_e]
        refine ih i (j + 1) nn K181 _ hi (by omega) (by omega) (fun a c ha hc => ?_) (zYm_tr hv zYm_A)
        rw [zY9_set (v := x) hi j16 hY a c ha hc]
        dsimp only
        by_cases q : a = i ∧ c = j
        · rw [q.1, q.2, upd2_s, if_pos (by omega), hx]
        · rw [upd2_n q]
          by_cases q2 : a < i ∨ (a = i ∧ c < j)
          · rw [if_pos q2, if_pos (by omega)]
          · rw [if_neg q2, if_neg (by omega)]
      show ∃ w', fX19_leastSums_190b N K173 K181 (fX19_leastSums_190 N K173 K181 nn) 0 (Int32.ofNat k) (Int32.ofNat i) (Int32.ofNat j) v = _ ∧ _
      unfold fX19_leastSums_190b
      rw [if_neg (by rw [show (16 : Int32) = Int32.ofNat 16 from rfl, zo_le (by omega) (by omega)]; omega), zI16, zI16, zI16, zkk (by omega) (by omega), zkk (by omega) (by omega), zoC (by omega), zoC (by omega), e1, e2, zo_add, zl_e, zkk (by omega) (by omega), zoC (by omega), e3]
      by_cases c : D i j ≤ D i k + D k j
      · rw [if_pos ((zo_le (by omega) (by omega)).mpr c), zkk (by omega) (by omega)]
        exact go _ (if_pos c).symm
      · rw [if_neg (fun q => c ((zo_le (by omega) (by omega)).mp q))]
        exact go _ (if_neg c).symm
  have outer : ∀ (m i nn : Nat) (v : St), i + m = 16 → m < nn → zY9 v (fun x y => if x < i then fwS k D x y else D x y) → zYm w0 v → ∃ w', fX19_leastSums_181 N K173 nn 0 (Int32.ofNat k) (Int32.ofNat i) v = K173 0 (Int32.ofNat (k + 1)) w' ∧ zY9 w' (fwS k D) ∧ zYm w0 w' := by
    intro m
    induction m with
    | zero =>
      intro i nn v hi hn hY hv
      obtain ⟨nn, rfl⟩ : ∃ k, nn = k + 1 := ⟨nn - 1, by omega⟩
      have hi : i = 16 := by omega
      subst hi
      refine ⟨v, ?_, fun x y hx hy => ?_, hv⟩
      · show fX19_leastSums_181b N K173 (fX19_leastSums_181 N K173 nn) 0 (Int32.ofNat k) (Int32.ofNat 16) v = _
        unfold fX19_leastSums_181b
        rw [if_pos (by decide), zo_i1, zl_e]
      · rw [hY x y hx hy]
        dsimp only
        rw [if_pos hx]
    | succ m ih =>
      intro i nn v hi hn hY hv
      obtain ⟨nn, rfl⟩ : ∃ k, nn = k + 1 := ⟨nn - 1, by omega⟩
      obtain ⟨v', g1, g2, g3⟩ := inner 16 i 0 N (fX19_leastSums_181 N K173 nn) v (by omega) rfl (by omega) (fun x y hx hy => by
        rw [hY x y hx hy]
        dsimp only
        by_cases c : x < i
        · rw [if_pos c, if_pos (Or.inl c)]
        · rw [if_neg c, if_neg (by omega)]) hv
      obtain ⟨w', q1, q2, q3⟩ := ih (i + 1) nn v' (by omega) (by omega) g2 g3
      refine ⟨w', ?_, q2, q3⟩
      show fX19_leastSums_181b N K173 (fX19_leastSums_181 N K173 nn) 0 (Int32.ofNat k) (Int32.ofNat i) v = _
      unfold fX19_leastSums_181b
      rw [if_neg (by rw [show (16 : Int32) = Int32.ofNat 16 from rfl, zo_le (by omega) (by omega)]; omega)]
      exact g1.trans q1
  exact outer 16 0 N w rfl (by omega) (fun x y hx hy => by
    rw [hD x y hx hy]
    dsimp only
    rw [if_neg (Nat.not_lt_zero _)]) hF
theorem zm_leastSums {w : St} {b N : Nat} {Ba : Nat → Option Ad} (hB : zRmB w b Ba) (hBn : zBn Ba) (hN : 256 < N) : ∃ w' D, fX19_leastSums N 0 b w = some (0, w') ∧ zY9 w' D ∧ zFW Ba 16 D ∧ zYm w w' := by
  have F9 : FARn = 1000000000 := rfl
  have mids : ∀ (m k nn : Nat) (v : St) (D : Nat → Nat → Nat), k + m = 16 → m < nn → zY9 v D → zFW Ba k D → zYm w v → ∃ w' D, fX19_leastSums_173 N nn 0 (Int32.ofNat k) v = some (0, w') ∧ zY9 w' D ∧ zFW Ba 16 D ∧ zYm w w' := by
    intro m
    induction m with
    | zero =>
      intro k nn v D hi hn hY hW hv
      obtain ⟨nn, rfl⟩ : ∃ k, nn = k + 1 := ⟨nn - 1, by omega⟩
      have hi : k = 16 := by omega
      subst hi
      refine ⟨v, D, ?_, hY, hW, hv⟩
      show fX19_leastSums_173b N (fX19_leastSums_173 N nn) 0 (Int32.ofNat 16) v = _
      unfold fX19_leastSums_173b
      rw [if_pos (by decide)]
    | succ m ih =>
      intro k nn v D hi hn hY hW hv
      obtain ⟨nn, rfl⟩ : ∃ k, nn = k + 1 := ⟨nn - 1, by omega⟩
      obtain ⟨v', g1, g2, g3⟩ := zm_middle (k := k) (K173 := fX19_leastSums_173 N nn) (by omega) hY hW.2.1 (hW.1 k (by omega)) hv (show 24 < N by omega)
      obtain ⟨w', D', q1, q2, q3, q4⟩ := ih (k + 1) nn v' (fwS k D) (by omega) (by omega) g2 (zFW_1 (by omega) hW) g3
      refine ⟨w', D', ?_, q2, q3, q4⟩
      show fX19_leastSums_173b N (fX19_leastSums_173 N nn) 0 (Int32.ofNat k) v = _
      unfold fX19_leastSums_173b
      rw [if_neg (by rw [show (16 : Int32) = Int32.ofNat 16 from rfl, zo_le (by omega) (by omega)]; omega)]
      exact g1.trans q1
  have ads : ∀ (m x nn : Nat) (v : St) (D : Nat → Nat → Nat), x + m = 16 → m < nn → zY9 v D → zE0 Ba (fun k e => k < x ∧ e ∈ bE Ba k) D → zYm w v → ∃ w' D, fX19_leastSums_41 N nn 0 b (Int32.ofNat x) v = some (0, w') ∧ zY9 w' D ∧ zFW Ba 16 D ∧ zYm w w' := by
    intro m
    induction m with
    | zero =>
      intro x nn v D hi hn hY hW hv
      obtain ⟨nn, rfl⟩ : ∃ k, nn = k + 1 := ⟨nn - 1, by omega⟩
      have hi : x = 16 := by omega
      subst hi
      have := mids 16 0 N v D rfl (by omega) hY (zE0_fw (zE0_cg (fun k e hk he => ⟨hk, he⟩) hW)) hv
      obtain ⟨w', D', q1, q2⟩ := this
      refine ⟨w', D', ?_, q2⟩
      show fX19_leastSums_41b N (fX19_leastSums_41 N nn) 0 b (Int32.ofNat 16) v = _
      unfold fX19_leastSums_41b
      rw [if_pos (by decide)]
      exact q1
    | succ m ih =>
      intro x nn v D hi hn hY hW hv
      obtain ⟨nn, rfl⟩ : ∃ k, nn = k + 1 := ⟨nn - 1, by omega⟩
      have x16 : x < 16 := by omega
      have hBv := zYm_b hv hB x x16
      have e0 : fX19_leastSums_41 N (nn + 1) 0 b (Int32.ofNat x) v = fX19_leastSums_57 N (fX19_leastSums_41 N nn) N 0 b (Int32.ofNat x) (zgA v 150 b x) (Int32.ofNat 0) v := by
        show fX19_leastSums_41b N (fX19_leastSums_41 N nn) 0 b (Int32.ofNat x) v = _
        unfold fX19_leastSums_41b
        rw [if_neg (by rw [show (16 : Int32) = Int32.ofNat 16 from rfl, zo_le (by omega) (by omega)]; omega), zkk x16 (by omega), zoC (by omega), zl_e]
        rfl
      rw [e0]
      cases q : Ba x with
      | none =>
        rw [q] at hBv
        have hBv : zgA v 150 b x = -1 := hBv
        obtain ⟨M, hM⟩ : ∃ k, N = k + 1 := ⟨N - 1, by omega⟩
        have e1 : fX19_leastSums_57 N (fX19_leastSums_41 N nn) N 0 b (Int32.ofNat x) (-1) (Int32.ofNat 0) v = fX19_leastSums_41 N nn 0 b (Int32.ofNat (x + 1)) v := by
          have : fX19_leastSums_57 N (fX19_leastSums_41 N nn) N = fX19_leastSums_57 N (fX19_leastSums_41 N nn) (M + 1) := by rw [← hM]
          rw [this]
          show fX19_leastSums_57b N (fX19_leastSums_41 N nn) (fX19_leastSums_57 N (fX19_leastSums_41 N nn) M) 0 b (Int32.ofNat x) (-1) (Int32.ofNat 0) v = _
          unfold fX19_leastSums_57b fX19_leastSums_165
          rw [if_pos rfl, zo_i1, zl_e]
        rw [hBv, e1]
        refine ih (x + 1) nn v D (by omega) (by omega) hY (zE0_cg (fun k e hk he => ?_) hW) hv
        by_cases c : k = x
        · exfalso
          have := he.2
          rw [c] at this; unfold bE at this; rw [q] at this; cases this
        · exact ⟨by omega, he.2⟩
      | some a =>
        rw [q] at hBv
        obtain ⟨y, y1, y2, -, y3⟩ := hBv
        have eb : bE Ba x = a.2.2 := by unfold bE; rw [q]
        rw [y2]
        obtain ⟨w', D', g1, g2, g3, g4⟩ := zm_sumRows (w0 := v) (N := N) (num := a.1) (K41 := fX19_leastSums_41 N nn) (zYm_b hv hB) hBn x16 y1 (by rw [eb]; exact y3) (by omega) hY hW (zYm_rf v)
        rw [g1]
        refine ih (x + 1) nn w' D' (by omega) (by omega) g2 (zE0_cg (fun k e hk he => ?_) g3) (zYm_tr hv g4)
        by_cases c : k = x
        · exact Or.inr ⟨c, by rw [← c]; exact he.2⟩
        · exact Or.inl ⟨by omega, he.2⟩
  have init : ∀ (m p nn : Nat) (v : St), p + m = 256 → m < nn → (∀ i, i < p → zgA v 190 0 i = Int32.ofNat (if i / 16 = i % 16 then 0 else FARn)) → zYm w v → ∃ w' D, fX19_leastSums_2 N nn 0 b (Int32.ofNat p) v = some (0, w') ∧ zY9 w' D ∧ zFW Ba 16 D ∧ zYm w w' := by
    intro m
    induction m with
    | zero =>
      intro p nn v hi hn hA hv
      obtain ⟨nn, rfl⟩ : ∃ k, nn = k + 1 := ⟨nn - 1, by omega⟩
      have hi : p = 256 := by omega
      subst hi
      obtain ⟨w', D', q1, q2⟩ := ads 16 0 N v (fun x y => if x = y then 0 else FARn) rfl (by omega) (fun x y hx hy => by
        rw [hA (16 * x + y) (by omega), show (16 * x + y) / 16 = x from by omega, show (16 * x + y) % 16 = y from by omega]) ⟨fun x _ => if_pos rfl, fun x y _ _ => by
          show (if x = y then 0 else FARn) ≤ FARn
          by_cases c : x = y
          · rw [if_pos c]; exact Nat.zero_le _
          · rw [if_neg c]; exact Nat.le_refl _, fun k e _ he => absurd he.1 (Nat.not_lt_zero _), fun x y _ _ hne hlt => by
          have hlt : (if x = y then 0 else FARn) < FARn := hlt
          rw [if_neg hne] at hlt
          exact absurd hlt (Nat.lt_irrefl _)⟩ hv
      refine ⟨w', D', ?_, q2⟩
      show fX19_leastSums_2b N (fX19_leastSums_2 N nn) 0 b (Int32.ofNat 256) v = _
      unfold fX19_leastSums_2b
      rw [if_pos (by decide)]
      exact q1
    | succ m ih =>
      intro p nn v hi hn hA hv
      obtain ⟨nn, rfl⟩ : ∃ k, nn = k + 1 := ⟨nn - 1, by omega⟩
      have p256 : p < 256 := by omega
      obtain ⟨dm1, dm2⟩ := zdm16 p (by omega)
      have e0 : fX19_leastSums_2 N (nn + 1) 0 b (Int32.ofNat p) v = fX19_leastSums_2 N nn 0 b (Int32.ofNat (p + 1)) (zsA v 190 0 p (Int32.ofNat (if p / 16 = p % 16 then 0 else FARn))) := by
        show fX19_leastSums_2b N (fX19_leastSums_2 N nn) 0 b (Int32.ofNat p) v = _
        unfold fX19_leastSums_2b fX19_leastSums_32
        rw [if_neg (by rw [show (256 : Int32) = Int32.ofNat 256 from rfl, zo_le (by omega) (by omega)]; omega), dm1, dm2]
        by_cases c : p / 16 = p % 16
        · rw [if_neg (fun q => q (by rw [c])), if_pos c, zkk p256 (by omega), zoC (by omega), zl_e, zo_i1, zl_e]; rfl
        · rw [if_pos (fun q => c ((zo_eq (by omega) (by omega)).mp q)), if_neg c, zkk p256 (by omega), zoC (by omega), zl_e, zo_i1, zl_e]; rfl
      rw [e0]
      refine ih (p + 1) nn _ (by omega) (by omega) (fun i hi => ?_) (zYm_tr hv zYm_A)
      rw [zgA_sA]
      by_cases c : i = p
      · rw [if_pos ⟨rfl, rfl, c⟩, c]
      · rw [if_neg (fun q => c q.2.2)]; exact hA i (by omega)
  unfold fX19_leastSums
  exact init 256 0 N w rfl (by omega) (fun i hi => absurd hi (Nat.not_lt_zero _)) (zYm_rf w)
