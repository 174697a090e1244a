/-! the model: a router's own advert -/
theorem zAdw_nN {L L' : List En} {n n' : Nat} (h : L = L') (hn : n ≤ L.length) (hn' : n' ≤ L'.length) (h1 : ∀ i e, L[i]? = some e → (e.1 = 0 ↔ i < n)) (h2 : ∀ i e, L'[i]? = some e → (e.1 = 0 ↔ i < n')) : n = n' := by
  subst h
  rcases Nat.lt_trichotomy n n' with c | c | c
  · have g : L[n]? = some L[n] := List.getElem?_eq_getElem (by omega)
    have a := (h2 n _ g).mpr c
    have := (h1 n _ g).mp a
    omega
  · exact c
  · have g : L[n']? = some L[n'] := List.getElem?_eq_getElem (by omega)
    have a := (h1 n' _ g).mpr c
    have := (h2 n' _ g).mp a
    omega
theorem zm_tellAlike {w : St} {x a r num r' num' N : Nat} {L0 D : List En} (hx : x < 2400) (ha : a < 2400) (h0 : zAdw w x r num L0) (h1 : zAdw w a r' num' D) (hL0 : zEn L0) (hD : zEn D) (hN : 77 < N) : fX19_tellAlike N 0 (Int32.ofNat x) (Int32.ofNat a) w = some (zbi (decide (L0 = D)), w) := by
  have n39 : ∀ nn i, 1 ≤ nn → i ≤ 76 → fX19_tellAlike_39 N nn 0 (Int32.ofNat x) (Int32.ofNat a) (0 : Int32) (Int32.ofNat i) w = some (0, w) := fun nn i h _ => by
    obtain ⟨nn, rfl⟩ : ∃ k, nn = k + 1 := ⟨nn - 1, by omega⟩
    show fX19_tellAlike_39b N (fX19_tellAlike_39 N nn) 0 (Int32.ofNat x) (Int32.ofNat a) (0 : Int32) (Int32.ofNat i) w = _
    unfold fX19_tellAlike_39b
    rw [zq_e (Or.inl rfl), if_pos (show (0 : Int32) = 0 from rfl)]
    split <;> rfl
  have step : ∀ nn i, i < 76 → fX19_tellAlike_39 N (nn + 1) 0 (Int32.ofNat x) (Int32.ofNat a) (1 : Int32) (Int32.ofNat i) w = (if ¬ mad w x i = mad w a i then fX19_tellAlike_39 N nn 0 (Int32.ofNat x) (Int32.ofNat a) (0 : Int32) (Int32.ofNat (i + 1)) w else fX19_tellAlike_39 N nn 0 (Int32.ofNat x) (Int32.ofNat a) (1 : Int32) (Int32.ofNat (i + 1)) w) := fun nn i hi => by
    show fX19_tellAlike_39b N (fX19_tellAlike_39 N nn) 0 (Int32.ofNat x) (Int32.ofNat a) (1 : Int32) (Int32.ofNat i) w = _
    unfold fX19_tellAlike_39b fX19_tellAlike_82
    rw [zmu76, zmu76, if_neg (by rw [show (76 : Int32) = Int32.ofNat 76 from rfl, zo_le (by omega) (by omega)]; omega), if_neg (by decide), zo_add, zo_add, zkk (by omega) (by omega), zkk (by omega) (by omega), zoC (by omega), zoC (by omega), zo_i1, zl_e, zl_e]
    rfl
  have all1 : ∀ (m i nn : Nat), i + m = 76 → m < nn → (∀ k, i ≤ k → k < 76 → mad w x k = mad w a k) → fX19_tellAlike_39 N nn 0 (Int32.ofNat x) (Int32.ofNat a) (1 : Int32) (Int32.ofNat i) w = some (1, w) := by
    intro m
    induction m with
    | zero =>
      intro i nn hi hn _
      obtain ⟨nn, rfl⟩ : ∃ k, nn = k + 1 := ⟨nn - 1, by omega⟩
      have : i = 76 := by omega
      subst this
      show fX19_tellAlike_39b N (fX19_tellAlike_39 N nn) 0 (Int32.ofNat x) (Int32.ofNat a) (1 : Int32) (Int32.ofNat 76) w = _
      unfold fX19_tellAlike_39b
      rw [if_pos (by decide), zq_e (Or.inr rfl)]
    | succ m ih =>
      intro i nn hi hn he
      obtain ⟨nn, rfl⟩ : ∃ k, nn = k + 1 := ⟨nn - 1, by omega⟩
      rw [step nn i (by omega), if_neg (fun y => y (he i (Nat.le_refl _) (by omega)))]
      exact ih (i + 1) nn (by omega) (by omega) (fun k k1 k2 => he k (by omega) k2)
  have some0 : ∀ (m i nn : Nat), i + m = 76 → m + 1 < nn → (∃ k, i ≤ k ∧ k < 76 ∧ mad w x k ≠ mad w a k) → fX19_tellAlike_39 N nn 0 (Int32.ofNat x) (Int32.ofNat a) (1 : Int32) (Int32.ofNat i) w = some (0, w) := by
    intro m
    induction m with
    | zero => rintro i nn hi hn ⟨k, k1, k2, -⟩; omega
    | succ m ih =>
      rintro i nn hi hn ⟨k, k1, k2, k3⟩
      obtain ⟨nn, rfl⟩ : ∃ k, nn = k + 1 := ⟨nn - 1, by omega⟩
      rw [step nn i (by omega)]
      by_cases c : mad w x i = mad w a i
      · rw [if_neg (fun y => y c)]
        refine ih (i + 1) nn (by omega) (by omega) ⟨k, ?_, k2, k3⟩
        by_cases e : k = i
        · rw [e] at k3; exact absurd c k3
        · omega
      · rw [if_pos c]; exact n39 nn (i + 1) (by omega) (by omega)
  obtain ⟨-, nX, ⟨n1, n2⟩, x2, x3, x4, x5⟩ := h0
  obtain ⟨-, nA, ⟨m1, m2⟩, y2, y3, y4, y5⟩ := h1
  have a2x : fX19_ad N 0 (Int32.ofNat x) (2 : Int32) w = some (mad w x 2, w) := zm_ad (k := 2) hx (by omega)
  have a2a : fX19_ad N 0 (Int32.ofNat a) (2 : Int32) w = some (mad w a 2, w) := zm_ad (k := 2) ha (by omega)
  have a3x : fX19_ad N 0 (Int32.ofNat x) (3 : Int32) w = some (mad w x 3, w) := zm_ad (k := 3) hx (by omega)
  have a3a : fX19_ad N 0 (Int32.ofNat a) (3 : Int32) w = some (mad w a 3, w) := zm_ad (k := 3) ha (by omega)
  -- alike
  have bwd : L0 = D → mad w x 2 = mad w a 2 ∧ mad w x 3 = mad w a 3 ∧ ∀ k, 4 ≤ k → k < 76 → mad w x k = mad w a k := fun e => by
    have en : nX = nA := zAdw_nN e n1 m1 (fun i e h => (x4 i e h).2.2.2) (fun i e h => (y4 i e h).2.2.2)
    refine ⟨by rw [x2, y2, en], by rw [x3, y3, en, e], fun k k1 k2 => ?_⟩
    by_cases c : k < 4 + 3 * L0.length
    · have hi : (k - 4) / 3 < L0.length := by omega
      have g : L0[(k - 4) / 3]? = some L0[(k - 4) / 3] := List.getElem?_eq_getElem hi
      have g' : D[(k - 4) / 3]? = some L0[(k - 4) / 3] := by rw [← e]; exact g
      obtain ⟨p0, p1, p2, -⟩ := x4 _ _ g
      obtain ⟨r0, r1, r2, -⟩ := y4 _ _ g'
      have c3 : k = 4 + 3 * ((k - 4) / 3) ∨ k = 4 + 3 * ((k - 4) / 3) + 1 ∨ k = 4 + 3 * ((k - 4) / 3) + 2 := by omega
      rcases c3 with c3 | c3 | c3
      · rw [c3, p0, r0]
      · rw [c3, p1, r1]
      · rw [c3, p2, r2]
    · rw [x5 k (by omega) k2, y5 k (by rw [← e]; omega) k2]
  have fwd : mad w x 2 = mad w a 2 → mad w x 3 = mad w a 3 → (∀ k, 4 ≤ k → k < 76 → mad w x k = mad w a k) → L0 = D := fun e2 e3 ek => by
    rw [x2, y2] at e2
    rw [x3, y3] at e3
    have q2 := (zo_eq (by omega) (by omega)).mp e2
    have q3 := (zo_eq (by omega) (by omega)).mp e3
    refine List.ext_getElem? (fun i => ?_)
    by_cases c : i < L0.length
    · have g : L0[i]? = some L0[i] := List.getElem?_eq_getElem c
      have g' : D[i]? = some D[i] := List.getElem?_eq_getElem (by omega)
      obtain ⟨p0, p1, p2, -⟩ := x4 _ _ g
      obtain ⟨r0, r1, r2, -⟩ := y4 _ _ g'
      have b0 := hL0.2 _ (List.mem_of_getElem? g)
      have b1 := hD.2 _ (List.mem_of_getElem? g')
      rw [ek _ (by omega) (by omega), r0] at p0
      rw [ek _ (by omega) (by omega), r1] at p1
      rw [ek _ (by omega) (by omega), r2] at p2
      have u0 : D[i].1 = L0[i].1 := by
        have s1 := (zsub1_le D[i].1 (by omega) L0[i].1 (by omega)).mp (by rw [p0]; exact Int32.le_refl _)
        have s2 := (zsub1_le L0[i].1 (by omega) D[i].1 (by omega)).mp (by rw [p0]; exact Int32.le_refl _)
        omega
      have u1 := (zo_eq (by omega) (by omega)).mp p1
      have u2 := (zo_eq (by omega) (by omega)).mp p2
      rw [g, g', Prod.ext u0 (Prod.ext u1 u2)]
    · rw [List.getElem?_eq_none (by omega), List.getElem?_eq_none (by omega)]
  unfold fX19_tellAlike fX19_tellAlike_34 fX19_tellAlike_35
  rw [a2x, zc_e, a2a, zc_e]
  by_cases c2 : mad w x 2 = mad w a 2
  · rw [if_neg (fun y => y c2), a3x, zc_e, a3a, zc_e]
    by_cases c3 : mad w x 3 = mad w a 3
    · rw [if_neg (fun y => y c3)]
      by_cases ck : ∀ k, 4 ≤ k → k < 76 → mad w x k = mad w a k
      · rw [decide_eq_true (fwd c2 c3 ck)]
        exact all1 72 4 N (by omega) (by omega) (fun k k1 k2 => ck k k1 k2)
      · rw [decide_eq_false (fun e => ck (bwd e).2.2)]
        refine some0 72 4 N (by omega) (by omega) (Classical.byContradiction (fun q => ck (fun k k1 k2 => Classical.byContradiction (fun y => q ⟨k, k1, k2, y⟩))))
    · rw [if_pos c3, decide_eq_false (fun e => c3 (bwd e).2.1)]
      exact n39 N 4 (by omega) (by omega)
  · rw [if_pos c2, decide_eq_false (fun e => c2 (bwd e).1)]
    exact n39 N 4 (by omega) (by omega)
theorem zTA_mem {w : St} {T : Tp} {c r x : Nat} (hc : zTc T) (hb : c < tb T) (hr : tr T c = true) (hr16 : r < 16) (hx : x < 2400) (h : zgA w 150 c r = Int32.ofNat x) : x ∈ zTA w T := by
  have := hc.1
  refine List.mem_filterMap.mpr ⟨16 * c + r, List.mem_range.mpr (by omega), ?_⟩
  unfold bi
  rw [show (16 * c + r) / 16 = c from by omega, show (16 * c + r) % 16 = r from by omega, h, if_pos ⟨hb, hr, zo_ne1 (by omega)⟩, zoC (by omega)]
/-- another router is left alone -/
theorem zRml_mr {w w' : St} {T : Tp} {b c : Nat} {s : Rs} (h : zMr b w w') (hcb : c ≠ b) (hc : zTc T) (hb : c < tb T) (hr : tr T c = true) (hm : ∀ x, x ∈ zTA w T → x < 2400 → ∀ k, k < 76 → mad w' x k = mad w x k) (hR : zRml w T c s) : zRml w' T c s := by
  obtain ⟨⟨ids, a1⟩, a2, a3, a4, a5, a6⟩ := hR
  have I : ∀ j, zgI w' 12 j c = zgI w 12 j c := fun j => h.1 12 j c (fun y => hcb y.2.1) (fun y => by omega) (fun y => by omega)
  refine ⟨⟨ids, zRmI_cg (I 13) (fun i => h.2.2.2.1 149 c i (fun y => hcb y.2)) (fun x x1 x2 => ⟨fun j _ => h.1 15 j x (fun y => by omega) (fun y => by omega) (fun y => by omega), fun k i hk => h.2.1 k x i (fun y => by omega) (fun y => by omega) (fun y => by omega)⟩) a1⟩, zRmT_cg (I 22) (fun k i hk => h.2.1 k c i (fun y => hcb y.1) (fun y => by omega) (fun y => by omega)) a2, zRmB_cg (fun k i hk => h.2.1 k c i (fun y => hcb y.1) (fun y => by omega) (fun y => by omega)) (fun x r r16 hx e k hk => hm x (zTA_mem hc hb hr r16 hx e) hx k hk) a3, (I 16).trans a4, (I 17).trans a5, (I 18).trans a6⟩
