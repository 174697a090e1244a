/-! ways, the model: the way to a net that is far -/
def zYx (w : St) (b n : Nat) (W : Wy) : Prop := match W with
  | none => zgA w 155 b n = -1 ∧ zgA w 156 b n = -1 ∧ zgA w 157 b n = -1
  | some (c, x, m) => zgA w 155 b n = Int32.ofNat c ∧ zgA w 156 b n = Int32.ofNat x ∧ zgA w 157 b n = Int32.ofNat m
/-- only the way to net n changes -/
def zYp (b n : Nat) (w w' : St) : Prop := (∀ k j o, zgI w' k j o = zgI w k j o) ∧ (∀ k o i, ¬ (o = b ∧ i = n ∧ (k = 155 ∨ k = 156 ∨ k = 157)) → zgA w' k o i = zgA w k o i) ∧ (∀ k o i, zgL w' k o i = zgL w k o i) ∧ (∀ k o i, zgQ w' k o i = zgQ w k o i) ∧ ∀ k o i, zgR w' k o i = zgR w k o i
theorem zYp_rf (b n : Nat) (w : St) : zYp b n w w := ⟨fun _ _ _ => rfl, fun _ _ _ _ => rfl, fun _ _ _ => rfl, fun _ _ _ => rfl, fun _ _ _ => rfl⟩
theorem zYp_tr {b n : Nat} {x y z : St} (h1 : zYp b n x y) (h2 : zYp b n y z) : zYp b n x z := ⟨fun k j o => (h2.1 k j o).trans (h1.1 k j o), fun k o i n => (h2.2.1 k o i n).trans (h1.2.1 k o i n), fun k o i => (h2.2.2.1 k o i).trans (h1.2.2.1 k o i), fun k o i => (h2.2.2.2.1 k o i).trans (h1.2.2.2.1 k o i), fun k o i => (h2.2.2.2.2 k o i).trans (h1.2.2.2.2 k o i)⟩
def wST (w : St) (b n : Nat) (c x m : Int32) : St := zsA (zsA (zsA w 155 b n c) 156 b n x) 157 b n m
theorem wST_A (w : St) (b n : Nat) (c x m : Int32) (k o i : Nat) : zgA (wST w b n c x m) k o i = if k = 157 ∧ o = b ∧ i = n then m else if k = 156 ∧ o = b ∧ i = n then x else if k = 155 ∧ o = b ∧ i = n then c else zgA w k o i := by
  unfold wST
  rw [zgA_sA, zgA_sA, zgA_sA]
theorem wST_g (w : St) (b n : Nat) (c x m : Int32) : zgA (wST w b n c x m) 155 b n = c ∧ zgA (wST w b n c x m) 156 b n = x ∧ zgA (wST w b n c x m) 157 b n = m := by
  refine ⟨?_, ?_, ?_⟩
  · rw [wST_A, if_neg (by omega), if_neg (by omega), if_pos ⟨rfl, rfl, rfl⟩]
  · rw [wST_A, if_neg (by omega), if_pos ⟨rfl, rfl, rfl⟩]
  · rw [wST_A, if_pos ⟨rfl, rfl, rfl⟩]
theorem wST_p (w : St) (b n : Nat) (c x m : Int32) : zYp b n w (wST w b n c x m) := ⟨fun _ _ _ => rfl, fun k o i h => by rw [wST_A, if_neg (by omega), if_neg (by omega), if_neg (by omega)], fun _ _ _ => rfl, fun _ _ _ => rfl, fun _ _ _ => rfl⟩
theorem mFar_1 {d q : Nat → Nat} : ∀ k, 1 ≤ mFar d q k ∧ mFar d q k ≤ FARn := by
  intro k
  induction k with
  | zero => exact ⟨show 1 ≤ FARn from by decide, Nat.le_refl _⟩
  | succ k ih =>
    unfold mFar
    by_cases c : q k = 0 ∨ mFar d q k ≤ d k + q k
    · rw [if_pos c]; exact ih
    · rw [if_neg c]; omega
theorem mFar_no {d q : Nat → Nat} : ∀ {k : Nat}, (∀ t, t < k → q t = 0 ∨ FARn ≤ d t) → mFar d q k = FARn := by
  intro k
  induction k with
  | zero => intro _; rfl
  | succ k ih =>
    intro h
    unfold mFar
    rw [ih (fun t ht => h t (by omega))]
    have := h k (by omega)
    rw [if_pos (by omega)]
theorem cqI_n1 {q : Nat} (h : q ≤ 1000) : cqI q = -1 ↔ q = 0 := by
  unfold cqI
  by_cases c : q = 0
  · rw [if_pos c]; exact ⟨fun _ => c, fun _ => rfl⟩
  · rw [if_neg c]; exact ⟨fun y => absurd y (zo_ne1 (by omega)), fun y => absurd y c⟩
/-- one row: whether it begins a least way -/
theorem zm_farRow {w : St} {b n best adv nN i r net c N : Nat} {Ba : Nat → Option Ad} {D : Nat → Nat → Nat} {q : Nat → Nat} {K121 : Nat → Nat → Int32 → Int32 → Int32 → Int32 → St → Option (Int32 × St)} (hB : zRmB w b Ba) (hBn : zBn Ba) (h0 : zgI w 12 0 b = Int32.ofNat b) (hb : b < 16) (hn : n < 24) (hr : r < 16) (hc : c ≤ 1000) (hbe : best ≤ FARn) (ha : adv < 2400) (h2 : mad w adv 2 = Int32.ofNat nN) (hi : 3 * (nN + i) + 2 < 72) (hcc : mad w adv (4 + 3 * (nN + i) + 2) = Int32.ofNat c) (hD : zY9 w D) (hDb : ∀ x y, x < 16 → y < 16 → D x y ≤ FARn) (hq : ∀ t, q t = pTl (bE Ba t) n) (h155 : zgA w 155 b n = -1) (hN : 24 < N) :
    ((∀ x, x < 16 → ¬ (x ≠ b ∧ q x ≠ 0 ∧ c + D r x + q x = best)) → fX19_farWay_202 N K121 0 b (Int32.ofNat n) (Int32.ofNat best) (Int32.ofNat adv) (Int32.ofNat i) (Int32.ofNat r) (Int32.ofNat net) 1 w = K121 0 b (Int32.ofNat n) (Int32.ofNat best) (Int32.ofNat adv) (Int32.ofNat (i + 1)) w) ∧
    ((∃ x, x < 16 ∧ x ≠ b ∧ q x ≠ 0 ∧ c + D r x + q x = best) → fX19_farWay_202 N K121 0 b (Int32.ofNat n) (Int32.ofNat best) (Int32.ofNat adv) (Int32.ofNat i) (Int32.ofNat r) (Int32.ofNat net) 1 w = K121 0 b (Int32.ofNat n) (Int32.ofNat best) (Int32.ofNat adv) (Int32.ofNat (i + 1)) (wST w b n (Int32.ofNat best) (Int32.ofNat r) (Int32.ofNat net))) := by
  have F9 : FARn = 1000000000 := rfl
  have hq1 : ∀ t, q t ≤ 1000 := fun t => by rw [hq]; exact pTl_le (hBn t) n
  have done : ∀ (nn x : Nat), 0 < nn → fX19_farWay_207 N K121 nn 0 b (Int32.ofNat n) (Int32.ofNat best) (Int32.ofNat adv) (Int32.ofNat i) (Int32.ofNat r) (Int32.ofNat net) 1 (Int32.ofNat x) (wST w b n (Int32.ofNat best) (Int32.ofNat r) (Int32.ofNat net)) = K121 0 b (Int32.ofNat n) (Int32.ofNat best) (Int32.ofNat adv) (Int32.ofNat (i + 1)) (wST w b n (Int32.ofNat best) (Int32.ofNat r) (Int32.ofNat net)) := fun nn x hnn => by
    obtain ⟨nn, rfl⟩ : ∃ k, nn = k + 1 := ⟨nn - 1, by omega⟩
    show fX19_farWay_207b N K121 (fX19_farWay_207 N K121 nn) 0 b (Int32.ofNat n) (Int32.ofNat best) (Int32.ofNat adv) (Int32.ofNat i) (Int32.ofNat r) (Int32.ofNat net) 1 (Int32.ofNat x) _ = _
    unfold fX19_farWay_207b fX19_farWay_317
    rw [if_neg (show ¬ (1 : Int32) = 0 from by decide), zo_i1, zl_e]
    by_cases k : (16 : Int32) ≤ Int32.ofNat x
    · rw [if_pos k]
    · rw [if_neg k, zkk hn (by omega), zoC (by omega), (wST_g w b n _ _ _).1, if_pos (zo_ne1 (by omega))]
  have loop : ∀ (m x nn : Nat), x + m = 16 → m + 1 < nn → ((∀ k, x ≤ k → k < 16 → ¬ (k ≠ b ∧ q k ≠ 0 ∧ c + D r k + q k = best)) → fX19_farWay_207 N K121 nn 0 b (Int32.ofNat n) (Int32.ofNat best) (Int32.ofNat adv) (Int32.ofNat i) (Int32.ofNat r) (Int32.ofNat net) 1 (Int32.ofNat x) w = K121 0 b (Int32.ofNat n) (Int32.ofNat best) (Int32.ofNat adv) (Int32.ofNat (i + 1)) w) ∧ ((∃ k, x ≤ k ∧ k < 16 ∧ k ≠ b ∧ q k ≠ 0 ∧ c + D r k + q k = best) → fX19_farWay_207 N K121 nn 0 b (Int32.ofNat n) (Int32.ofNat best) (Int32.ofNat adv) (Int32.ofNat i) (Int32.ofNat r) (Int32.ofNat net) 1 (Int32.ofNat x) w = K121 0 b (Int32.ofNat n) (Int32.ofNat best) (Int32.ofNat adv) (Int32.ofNat (i + 1)) (wST w b n (Int32.ofNat best) (Int32.ofNat r) (Int32.ofNat net))) := by
    intro m
    induction m with
    | zero =>
      intro x nn hx hnn
      obtain ⟨nn, rfl⟩ : ∃ k, nn = k + 1 := ⟨nn - 1, by omega⟩
      have hx : x = 16 := by omega
      subst hx
      refine ⟨fun _ => ?_, fun ⟨k, k1, k2, _⟩ => by omega⟩
      show fX19_farWay_207b N K121 (fX19_farWay_207 N K121 nn) 0 b (Int32.ofNat n) (Int32.ofNat best) (Int32.ofNat adv) (Int32.ofNat i) (Int32.ofNat r) (Int32.ofNat net) 1 (Int32.ofNat 16) w = _
      unfold fX19_farWay_207b fX19_farWay_317
      rw [if_neg (show ¬ (1 : Int32) = 0 from by decide), zo_i1, zl_e, if_pos (by decide)]
    | succ m ih =>
      intro x nn hx hnn
      obtain ⟨nn, rfl⟩ : ∃ k, nn = k + 1 := ⟨nn - 1, by omega⟩
      have x16 : x < 16 := by omega
      obtain ⟨i1, i2⟩ := ih (x + 1) nn (by omega) (by omega)
      have qx := hq1 x
      have dx := hDb r x hr x16
      have e0 : fX19_farWay_207 N K121 (nn + 1) 0 b (Int32.ofNat n) (Int32.ofNat best) (Int32.ofNat adv) (Int32.ofNat i) (Int32.ofNat r) (Int32.ofNat net) 1 (Int32.ofNat x) w = if x ≠ b ∧ q x ≠ 0 ∧ c + D r x + q x = best then fX19_farWay_207 N K121 nn 0 b (Int32.ofNat n) (Int32.ofNat best) (Int32.ofNat adv) (Int32.ofNat i) (Int32.ofNat r) (Int32.ofNat net) 1 (Int32.ofNat (x + 1)) (wST w b n (Int32.ofNat best) (Int32.ofNat r) (Int32.ofNat net)) else fX19_farWay_207 N K121 nn 0 b (Int32.ofNat n) (Int32.ofNat best) (Int32.ofNat adv) (Int32.ofNat i) (Int32.ofNat r) (Int32.ofNat net) 1 (Int32.ofNat (x + 1)) w := by
        show fX19_farWay_207b N K121 (fX19_farWay_207 N K121 nn) 0 b (Int32.ofNat n) (Int32.ofNat best) (Int32.ofNat adv) (Int32.ofNat i) (Int32.ofNat r) (Int32.ofNat net) 1 (Int32.ofNat x) w = _
        unfold fX19_farWay_207b fX19_farWay_311
        rw [if_neg (show ¬ (1 : Int32) = 0 from by decide), if_neg (by rw [show (16 : Int32) = Int32.ofNat 16 from rfl, zo_le (by omega) (by omega)]; omega), zkk hn (by omega), zoC (by omega), h155, if_neg (fun y => y rfl), zkk x16 (by omega), zoC (by omega), zm_costOn hB hBn x16 hn hN, zc_e, ← hq, h0]
        by_cases k1 : q x = 0
        · rw [if_pos ((cqI_n1 qx).mpr k1), if_neg (fun y => y.2.1 k1), zo_i1, zl_e]
        · rw [if_neg (fun y => k1 ((cqI_n1 qx).mp y))]
          have cq : cqI (q x) = Int32.ofNat (q x) := if_neg k1
          by_cases k2 : x = b
          · rw [if_pos (by rw [k2]), if_neg (fun y => y.1 k2), zo_i1, zl_e]
          · rw [if_neg (fun y => k2 ((zo_eq (by omega) (by omega)).mp y)), show (2 : Int32) = Int32.ofNat 2 from rfl, zm_friendRow ha h2 hi, zc_e, hcc, zI16, zkk (by omega) (by omega), zoC (by omega), hD r x hr x16, zo_add, cq, zo_add]
            by_cases k3 : c + D r x + q x = best
            · rw [if_neg (fun y => y (by rw [k3])), if_pos ⟨k2, k1, k3⟩, zkk hn (by omega), zl_e, zkk hn (by omega), zl_e, zkk hn (by omega), zl_e, zo_i1, zl_e]
              rfl
            · rw [if_pos (fun y => k3 ((zo_eq (by omega) (by omega)).mp y)), if_neg (fun y => k3 y.2.2), zo_i1, zl_e]
      by_cases k : x ≠ b ∧ q x ≠ 0 ∧ c + D r x + q x = best
      · rw [if_pos k] at e0
        refine ⟨fun h => absurd k (h x (Nat.le_refl _) x16), fun _ => e0.trans (done nn (x + 1) (by omega))⟩
      · rw [if_neg k] at e0
        refine ⟨fun h => e0.trans (i1 (fun k' h1 h2 => h k' (by omega) h2)), fun ⟨k', h1, h2, h3⟩ => e0.trans (i2 ⟨k', ?_, h2, h3⟩)⟩
        by_cases y : k' = x
        · exact absurd (y ▸ h3) k
        · omega
  obtain ⟨l1, l2⟩ := loop 16 0 N rfl (by omega)
  unfold fX19_farWay_202
  exact ⟨fun h => l1 (fun k _ h2 => h k h2), fun ⟨x, h1, h2⟩ => l2 ⟨x, Nat.zero_le _, h1, h2⟩⟩
