/-! datagrams that are put together, the model: a piece is added -/
theorem zmu8 {a : Nat} : (8 : Int32) * Int32.ofNat a = Int32.ofNat (8 * a) := (Int32.ofNat_mul 8 a).symm
theorem zm_get275 {b d N t p : Nat} {x3 : Int32} (ht : t ≤ 1480) : ∀ (m k n : Nat) (w : St) (V : Nat → Bool), (t - 8 * k + 7) / 8 = m → k ≤ 186 → m < n → (∀ u, u < 192 → zgA w 166 p u = zbi (V u)) →
    ∃ w', fX19_get_275 N n 0 b (Int32.ofNat d) x3 (some p) (Int32.ofNat t) (Int32.ofNat k) w = (zc (fX19_of N 0 (Int32.ofNat d) (7 : Int32) w') fun r2 z3 => if ¬ r2 = 0 then (fX19_get_317 N 0 b (Int32.ofNat d) x3 (some p) z3) else (zl (zsI z3 17 5 p (Int32.ofNat t)) fun z8 => fX19_get_317 N 0 b (Int32.ofNat d) x3 (some p) z8)) ∧ (∀ u, u < 192 → zgA w' 166 p u = zbi (V u || (decide (k ≤ u) && decide (8 * u < t)))) ∧ (∀ k o i, ¬ (k = 166 ∧ o = p) → zgA w' k o i = zgA w k o i) ∧ (∀ k j o, zgI w' k j o = zgI w k j o) ∧ (∀ k o i, zgL w' k o i = zgL w k o i) ∧ (∀ k o i, zgQ w' k o i = zgQ w k o i) ∧ (∀ k o i, zgR w' k o i = zgR w k o i) := by
  intro m
  induction m with
  | zero =>
    intro k n w V hm hk hn hV
    obtain ⟨n, rfl⟩ : ∃ k, n = k + 1 := ⟨n - 1, by omega⟩
    refine ⟨w, ?_, fun u hu => ?_, fun _ _ _ _ => rfl, fun _ _ _ => rfl, fun _ _ _ => rfl, fun _ _ _ => rfl, fun _ _ _ => rfl⟩
    · show fX19_get_275b N (fX19_get_275 N n) 0 b (Int32.ofNat d) x3 (some p) (Int32.ofNat t) (Int32.ofNat k) w = _
      unfold fX19_get_275b
      rw [zmu8, if_pos (by rw [zo_le (by omega) (by omega)]; omega)]
      rfl
    · have : (decide (k ≤ u) && decide (8 * u < t)) = false := by
        rw [Bool.and_eq_false_iff, decide_eq_false_iff_not, decide_eq_false_iff_not]; omega
      rw [this, Bool.or_false]; exact hV u hu
  | succ m ih =>
    intro k n w V hm hk hn hV
    obtain ⟨n, rfl⟩ : ∃ k, n = k + 1 := ⟨n - 1, by omega⟩
    have hkt : 8 * k < t := by omega
    obtain ⟨w', r1, r2, r3, r4, r5, r6, r7⟩ := ih (k + 1) n (zsA w 166 p k 1) (fun u => V u || decide (u = k)) (by omega) (by omega) (by omega) (fun u hu => by
      rw [zgA_sA]
      by_cases c : u = k
      · rw [if_pos ⟨rfl, rfl, c⟩]; simp [c, zbi]
      · rw [if_neg (fun y => c y.2.2)]; simp [c, hV u hu])
    refine ⟨w', ?_, fun u hu => ?_, fun k' o i h => ?_, r4, r5, r6, r7⟩
    · show fX19_get_275b N (fX19_get_275 N n) 0 b (Int32.ofNat d) x3 (some p) (Int32.ofNat t) (Int32.ofNat k) w = _
      unfold fX19_get_275b
      rw [zmu8, if_neg (by rw [zo_le (by omega) (by omega)]; omega), zd_e, zkk (by omega) (by omega), zoC (by omega), zl_e, zl_e, zo_i1]
      exact r1
    · rw [r2 u hu]
      congr 1
      by_cases c : u = k
      · have h1 : k ≤ u := by omega
        have h2 : 8 * u < t := by omega
        simp [c, h1, h2]
        rw [← c]; simp [h2]
      · have h1 : k ≤ u ↔ k + 1 ≤ u := by omega
        simp only [c, h1, decide_false, Bool.or_false]
    · rw [r3 k' o i h, zgA_sA, if_neg (fun y => h ⟨y.1, y.2.1⟩)]
theorem zPmS_at {w : St} {b : Nat} {A B : List Pe} {e : Pe} (h : zPmS w b (A ++ e :: B)) : zgQ w 148 b A.length = some (pep e) := by
  obtain ⟨-, ⟨rest, -, -, -, p4⟩, -⟩ := h
  exact p4 A.length (pep e) (by simp)
theorem zPmS_ne {w : St} {b : Nat} {A B : List Pe} {e e2 : Pe} (h : zPmS w b (A ++ e :: B)) (h2 : e2 ∈ A ++ B) : pep e2 ≠ pep e := by
  obtain ⟨-, ⟨rest, -, p2, -, -⟩, -⟩ := h
  have hn : ((A ++ e :: B).map pep).Nodup := p2.sublist (List.sublist_append_left _ _)
  intro y
  rw [List.map_append, List.map_cons] at hn
  have h1' := (List.perm_middle (a := pep e) (l₁ := A.map pep) (l₂ := B.map pep)).nodup_iff.mp hn
  rw [List.nodup_cons, ← List.map_append] at h1'
  exact h1'.1 (List.mem_map.mpr ⟨e2, h2, y⟩)
theorem zPmS_upd {w w' : St} {b : Nat} {A B : List Pe} {e e' : Pe} (h : zPmS w b (A ++ e :: B)) (he : pep e' = pep e) (h11 : zgI w' 12 11 b = zgI w 12 11 b) (hQ : ∀ k, zgQ w' 148 b k = zgQ w 148 b k) (hk : ∀ e2, e2 ∈ A ++ B → pep e2 ≠ pep e → zPem w e2 → zPem w' e2) (hn : zPem w' e') : zPmS w' b (A ++ e' :: B) := by
  have ne := fun e2 (h2 : e2 ∈ A ++ B) => zPmS_ne h h2
  obtain ⟨⟨h1, h2⟩, ⟨rest, p1, p2, p3, p4⟩, h5⟩ := h
  have hm : (A ++ e' :: B).map pep = (A ++ e :: B).map pep := by simp [he]
  have hl : (A ++ e' :: B).length = (A ++ e :: B).length := by simp
  refine ⟨⟨by rw [hl]; exact h1, by rw [hl, h11]; exact h2⟩, ⟨rest, by rw [hm]; exact p1, by rw [hm]; exact p2, by rw [hm]; exact p3, fun k x hx => by rw [hQ]; exact p4 k x (by rw [← hm]; exact hx)⟩, fun e2 he2 => ?_⟩
  rcases List.mem_append.mp he2 with c | c
  · have m : e2 ∈ A ++ B := List.mem_append.mpr (Or.inl c)
    exact hk e2 m (ne e2 m) (h5 e2 (List.mem_append.mpr (Or.inl c)))
  · rcases List.mem_cons.mp c with c | c
    · rw [c]; exact hn
    · have m : e2 ∈ A ++ B := List.mem_append.mpr (Or.inr c)
      exact hk e2 m (ne e2 m) (h5 e2 (List.mem_append.mpr (Or.inr (List.mem_cons_of_mem _ c))))
/-- a piece goes to its place: whole then, or not -/
theorem zm_get239 {w : St} {b d N : Nat} {A B : List Pe} {e : Pe} {D : Dg} (h : zPmS w b (A ++ e :: B)) (hd : d < 2400) (hDw : zDw D) (h8 : df D % 8 = 0) (hB8 : (df D + dl D) % 8 = 0 ∨ df D + dl D = dw D) (m5 : md w d 5 = D.1 6) (m6 : md w d 6 = D.1 5) (m7 : md w d 7 = zbi (decide (df D + dl D < dw D))) (hew : dw (peD e) = dw D) (hN : 192 < N) :
    ∃ w', ((zAll (pUn D (peU e)) (dw D) = true ∧ fX19_get_239 N 0 b (Int32.ofNat d) (Int32.ofNat A.length) w = (zc (fX19_handle N 0 b (Int32.ofNat d) w') fun _ z13 => some (0, z13)) ∧ zPmS w' b (A ++ B) ∧ zgI w' 12 8 b = zgI w 12 8 b + 1) ∨ (zAll (pUn D (peU e)) (dw D) = false ∧ fX19_get_239 N 0 b (Int32.ofNat d) (Int32.ofNat A.length) w = some (0, w') ∧ zPmS w' b (A ++ (e.1, peD e, pet e, pUn D (peU e)) :: B) ∧ zgI w' 12 8 b = zgI w 12 8 b)) ∧ (∀ k j o, ¬ (k = 12 ∧ j = 11 ∧ o = b) → ¬ (k = 12 ∧ j = 8 ∧ o = b) → ¬ (k = 17 ∧ j < 6 ∧ 4 * b ≤ o ∧ o < 4 * b + 4) → zgI w' k j o = zgI w k j o) ∧ (∀ k o i, ¬ (k = 166 ∧ 4 * b ≤ o ∧ o < 4 * b + 4) → zgA w' k o i = zgA w k o i) ∧ (∀ k o i, zgL w' k o i = zgL w k o i) ∧ (∀ k o j, ¬ (k = 148 ∧ o = b) → zgQ w' k o j = zgQ w k o j) ∧ (∀ k o i, zgR w' k o i = zgR w k o i) := by
  obtain ⟨d6, d5, d7, dd, d14, d1⟩ := hDw
  have hpe := h.2.2 e (by simp)
  have q := zPmS_at h
  have hl4 := h.1.1
  have hAl : A.length < 4 := by simp at hl4; omega
  have prange : 4 * b ≤ pep e ∧ pep e < 4 * b + 4 := by
    obtain ⟨-, ⟨rest, -, -, p3, -⟩, -⟩ := h
    exact p3 (pep e) (by simp)
  have o6 : fX19_of N 0 (Int32.ofNat d) 6 w = some (Int32.ofNat (df D), w) := by rw [← d5, ← m6]; exact zm_of (k := 6) hd (by omega)
  have o5 : fX19_of N 0 (Int32.ofNat d) 5 w = some (Int32.ofNat (dl D), w) := by rw [← d6, ← m5]; exact zm_of (k := 5) hd (by omega)
  obtain ⟨w1, r1, r2, r3, r4, r5, r6, r7⟩ := zm_get275 (b := b) (d := d) (N := N) (t := df D + dl D) (p := pep e) (x3 := Int32.ofNat A.length) (by omega) ((df D + dl D - 8 * (df D / 8) + 7) / 8) (df D / 8) N w (peU e) rfl (by omega) (by omega) hpe.2.2.2
  have hU : ∀ u, (peU e u || (decide (df D / 8 ≤ u) && decide (8 * u < df D + dl D))) = pUn D (peU e) u := fun u => by
    unfold pUn
    have : df D / 8 ≤ u ↔ df D ≤ 8 * u := by omega
    simp only [this]
  have run : fX19_get_239 N 0 b (Int32.ofNat d) (Int32.ofNat A.length) w = (zc (fX19_of N 0 (Int32.ofNat d) (7 : Int32) w1) fun r2 z3 => if ¬ r2 = 0 then (fX19_get_317 N 0 b (Int32.ofNat d) (Int32.ofNat A.length) (some (pep e)) z3) else (zl (zsI z3 17 5 (pep e) (Int32.ofNat (df D + dl D))) fun z8 => fX19_get_317 N 0 b (Int32.ofNat d) (Int32.ofNat A.length) (some (pep e)) z8)) := by
    unfold fX19_get_239
    rw [zkk hAl (by omega), zl_e, zoC (by omega), q, o6, zc_e, o5, zc_e, zo_add, zl_e, o6, zc_e, zdv8 _ (by omega), zl_e]
    exact r1
  have o7 : fX19_of N 0 (Int32.ofNat d) 7 w1 = some (zbi (decide (df D + dl D < dw D)), w1) := by
    have : md w1 d 7 = md w d 7 := r3 172 0 _ (by omega)
    rw [← m7, ← this]; exact zm_of (k := 7) hd (by omega)
  rw [o7, zc_e] at run
  -- the state behind the sum
  let w2 : St := if df D + dl D < dw D then w1 else zsI w1 17 5 (pep e) (Int32.ofNat (df D + dl D))
  have run2 : fX19_get_239 N 0 b (Int32.ofNat d) (Int32.ofNat A.length) w = fX19_get_317 N 0 b (Int32.ofNat d) (Int32.ofNat A.length) (some (pep e)) w2 := by
    rw [run]
    by_cases c : df D + dl D < dw D
    · rw [if_pos (by rw [show decide (df D + dl D < dw D) = true by simpa using c]; decide)]
      show _ = fX19_get_317 N 0 b (Int32.ofNat d) (Int32.ofNat A.length) (some (pep e)) (if df D + dl D < dw D then w1 else _)
      rw [if_pos c]
    · rw [if_neg (by rw [show decide (df D + dl D < dw D) = false by simpa using c]; decide), zl_e]
      show _ = fX19_get_317 N 0 b (Int32.ofNat d) (Int32.ofNat A.length) (some (pep e)) (if df D + dl D < dw D then w1 else _)
      rw [if_neg c]
  have I2 : ∀ k j o, ¬ (k = 17 ∧ j = 5 ∧ o = pep e) → zgI w2 k j o = zgI w k j o := fun k j o n => by
    show zgI (if df D + dl D < dw D then w1 else _) k j o = _
    by_cases c : df D + dl D < dw D
    · rw [if_pos c]; exact r4 k j o
    · rw [if_neg c, zgI_sI, if_neg n]; exact r4 k j o
  have A2 : ∀ k o i, zgA w2 k o i = zgA w1 k o i := fun k o i => by
    show zgA (if df D + dl D < dw D then w1 else _) k o i = _
    by_cases c : df D + dl D < dw D
    · rw [if_pos c]
    · rw [if_neg c]; rfl
  have L2 : ∀ k o i, zgL w2 k o i = zgL w k o i := fun k o i => by
    show zgL (if df D + dl D < dw D then w1 else _) k o i = _
    by_cases c : df D + dl D < dw D
    · rw [if_pos c]; exact r5 k o i
    · rw [if_neg c]; exact r5 k o i
  have Q2 : ∀ k o i, zgQ w2 k o i = zgQ w k o i := fun k o i => by
    show zgQ (if df D + dl D < dw D then w1 else _) k o i = _
    by_cases c : df D + dl D < dw D
    · rw [if_pos c]; exact r6 k o i
    · rw [if_neg c]; exact r6 k o i
  have R2 : ∀ k o i, zgR w2 k o i = zgR w k o i := fun k o i => by
    show zgR (if df D + dl D < dw D then w1 else _) k o i = _
    by_cases c : df D + dl D < dw D
    · rw [if_pos c]; exact r7 k o i
    · rw [if_neg c]; exact r7 k o i
  have U2 : ∀ u, u < 192 → zgA w2 166 (pep e) u = zbi (pUn D (peU e) u) := fun u hu => by rw [A2, r2 u hu, hU]
  have t2 : zgI w2 17 5 (pep e) = (if pUn D (peU e) ((dw D - 1) / 8) = true then Int32.ofNat (dw D) else (-1 : Int32)) := by
    have h3 := hpe.2.2.1
    rw [hew] at h3
    show zgI (if df D + dl D < dw D then w1 else _) 17 5 (pep e) = _
    by_cases c : df D + dl D < dw D
    · rw [if_pos c, r4, h3]
      have : pUn D (peU e) ((dw D - 1) / 8) = peU e ((dw D - 1) / 8) := by
        unfold pUn
        have : ¬ 8 * ((dw D - 1) / 8) < df D + dl D := by omega
        simp [this]
      rw [this]
    · rw [if_neg c, zgI_sI, if_pos ⟨rfl, rfl, rfl⟩]
      have : pUn D (peU e) ((dw D - 1) / 8) = true := by
        unfold pUn
        have a1 : df D ≤ 8 * ((dw D - 1) / 8) := by omega
        have a2 : 8 * ((dw D - 1) / 8) < df D + dl D := by omega
        simp [a1, a2]
      rw [if_pos this]
      congr 1
      omega
  have P2 : zPmS w2 b (A ++ (e.1, peD e, pet e, pUn D (peU e)) :: B) := zPmS_upd (e' := (e.1, peD e, pet e, pUn D (peU e))) h rfl (I2 12 11 b (by omega)) (fun k => Q2 148 b k) (fun e2 _ hne hp2 => zPem_keep (fun j => I2 17 j _ (fun y => hne y.2.2)) (fun u => (A2 166 _ u).trans (r3 166 _ u (fun y => hne y.2))) hp2) ⟨fun j hj => (I2 17 j _ (by omega)).trans (hpe.1 j hj), (I2 17 4 _ (by omega)).trans hpe.2.1, by show zgI w2 17 5 (pep e) = _; rw [t2]; show _ = (if pUn D (peU e) ((dw (peD e) - 1) / 8) = true then Int32.ofNat (dw (peD e)) else (-1 : Int32)); rw [hew], U2⟩
  have iw := zm_isWhole (N := N) d14 (by omega) t2 U2 hN
  have FA : ∀ k o i, ¬ (k = 166 ∧ 4 * b ≤ o ∧ o < 4 * b + 4) → zgA w2 k o i = zgA w k o i := fun k o i n => (A2 k o i).trans (r3 k o i (fun y => n ⟨y.1, by omega, by omega⟩))
  have FI : ∀ k j o, ¬ (k = 17 ∧ j < 6 ∧ 4 * b ≤ o ∧ o < 4 * b + 4) → zgI w2 k j o = zgI w k j o := fun k j o n => I2 k j o (fun y => n ⟨y.1, by omega, by omega, by omega⟩)
  cases c : zAll (pUn D (peU e)) (dw D) with
  | false =>
    rw [c] at iw
    refine ⟨w2, Or.inr ⟨rfl, ?_, P2, FI 12 8 b (by omega)⟩, fun k j o _ _ n => FI k j o n, FA, L2, fun k o j _ => Q2 k o j, R2⟩
    rw [run2]
    unfold fX19_get_317
    rw [zd_e, iw, zc_e, if_pos (show zbi false = 0 from rfl)]
  | true =>
    rw [c] at iw
    obtain ⟨w3, s1, s2, s3, s4, s5, s6, s7⟩ := zm_endPieces (N := N) P2 (by omega)
    let w4 : St := zsI w3 12 8 b (zgI w3 12 8 b + 1)
    have I4 : ∀ k j o, ¬ (k = 12 ∧ j = 8 ∧ o = b) → zgI w4 k j o = zgI w3 k j o := fun k j o n => by
      show zgI (zsI w3 12 8 b _) k j o = _
      rw [zgI_sI, if_neg n]
    refine ⟨w4, Or.inl ⟨rfl, ?_, ⟨⟨s2.1.1, (I4 12 11 b (by omega)).trans s2.1.2⟩, s2.2.1, fun e2 he2 => zPem_keep (fun j => I4 17 j _ (by omega)) (fun _ => rfl) (s2.2.2 e2 he2)⟩, ?_⟩, fun k j o n1 n2 n3 => (I4 k j o n2).trans ((s3 k j o n1).trans (FI k j o n3)), fun k o i n => (s4 k o i).trans (FA k o i n), fun k o i => (s5 k o i).trans (L2 k o i), fun k o j n => (s6 k o j n).trans (Q2 k o j), fun k o i => (s7 k o i).trans (R2 k o i)⟩
    · rw [run2]
      unfold fX19_get_317
      rw [zd_e, iw, zc_e, if_neg (show ¬ zbi true = 0 by decide), s1, zc_e, zl_e]
    · show zgI (zsI w3 12 8 b _) 12 8 b = _
      rw [zgI_sI, if_pos ⟨rfl, rfl, rfl⟩, s3 12 8 b (by omega), FI 12 8 b (by omega)]
/-- the place of a datagram among those that wait is looked for -/
theorem zm_get22 {w : St} {b d N : Nat} {L : List Pe} {D : Dg} (h : zPmS w b L) (hd : d < 2400) (hm : ∀ j, j < 4 → md w d j = D.1 j) : ∀ (m i n : Nat) (at_ : Int32), i + m = L.length → m < n → ∃ r : Int32, (r = at_ ∨ ∃ k, i ≤ k ∧ k < L.length ∧ r = Int32.ofNat k) ∧ (∀ k e, i ≤ k → L[k]? = some e → dSb (peD e) D = true → (∀ k2 e2, i ≤ k2 → L[k2]? = some e2 → dSb (peD e2) D = true → k2 = k) → r = Int32.ofNat k) ∧ ((∀ k e, i ≤ k → L[k]? = some e → dSb (peD e) D = false) → r = at_) ∧ fX19_get_22 N n 0 b (Int32.ofNat d) at_ (Int32.ofNat i) w = (if ¬ r = (-1 : Int32) then (fX19_get_239 N 0 b (Int32.ofNat d) r w) else (if ¬ (zgI w 12 11 b) = (4 : Int32) then (fX19_get_131 N 0 b (Int32.ofNat d) w) else (zc (fX19_endPieces N b (0 : Int32) w) fun _ z5 => zc (fX19_stir N 0 z5) fun _ z9 => fX19_get_131 N 0 b (Int32.ofNat d) z9))) := by
  have hl4 := h.1.1
  have h11 := h.1.2
  intro m
  induction m with
  | zero =>
    intro i n at_ hi hn
    obtain ⟨n, rfl⟩ : ∃ k, n = k + 1 := ⟨n - 1, by omega⟩
    refine ⟨at_, Or.inl rfl, fun k e hk he _ _ => ?_, fun _ => rfl, ?_⟩
    · have := (List.getElem?_eq_some_iff.mp he).1
      omega
    · show fX19_get_22b N (fX19_get_22 N n) 0 b (Int32.ofNat d) at_ (Int32.ofNat i) w = _
      unfold fX19_get_22b
      rw [if_pos (by rw [h11, zo_le (by omega) (by omega)]; omega)]
  | succ m ih =>
    intro i n at_ hi hn
    obtain ⟨n, rfl⟩ : ∃ k, n = k + 1 := ⟨n - 1, by omega⟩
    have hil : i < L.length := by omega
    have hei : L[i]? = some L[i] := List.getElem?_eq_getElem hil
    have hL : L = L.take i ++ L[i] :: L.drop (i + 1) := by rw [← List.drop_eq_getElem_cons hil, List.take_append_drop]
    have htl : (L.take i).length = i := by rw [List.length_take]; omega
    have hq : zgQ w 148 b i = some (pep L[i]) := by
      have := zPmS_at (A := L.take i) (e := L[i]) (B := L.drop (i + 1)) (by rw [← hL]; exact h)
      rw [htl] at this; exact this
    have hpe := h.2.2 L[i] (List.getElem_mem hil)
    have o : ∀ j, j < 4 → fX19_of N 0 (Int32.ofNat d) (Int32.ofNat j) w = some (D.1 j, w) := fun j hj => by
      rw [← hm j hj]; exact zm_of hd (by omega)
    have st : fX19_get_22 N (n + 1) 0 b (Int32.ofNat d) at_ (Int32.ofNat i) w = fX19_get_22 N n 0 b (Int32.ofNat d) (if dSb (peD L[i]) D = true then Int32.ofNat i else at_) (Int32.ofNat (i + 1)) w := by
      have nx : ∀ a, fX19_get_102 N (fX19_get_22 N n) 0 b (Int32.ofNat d) (Int32.ofNat i) a w = fX19_get_22 N n 0 b (Int32.ofNat d) a (Int32.ofNat (i + 1)) w := fun a => by
        unfold fX19_get_102
        rw [zl_e, zo_i1]
      have nx1 : fX19_get_101 N (fX19_get_22 N n) 0 b (Int32.ofNat d) at_ (Int32.ofNat i) w = fX19_get_22 N n 0 b (Int32.ofNat d) at_ (Int32.ofNat (i + 1)) w := by
        unfold fX19_get_101
        exact nx at_
      show fX19_get_22b N (fX19_get_22 N n) 0 b (Int32.ofNat d) at_ (Int32.ofNat i) w = _
      have o0 := o 0 (by omega)
      have o1 := o 1 (by omega)
      have o2 := o 2 (by omega)
      have o3 := o 3 (by omega)
      have o0 : fX19_of N 0 (Int32.ofNat d) 0 w = some (D.1 0, w) := o0
      have o1 : fX19_of N 0 (Int32.ofNat d) 1 w = some (D.1 1, w) := o1
      have o2 : fX19_of N 0 (Int32.ofNat d) 2 w = some (D.1 2, w) := o2
      have o3 : fX19_of N 0 (Int32.ofNat d) 3 w = some (D.1 3, w) := o3
      unfold fX19_get_22b
      rw [if_neg (by rw [h11, zo_le (by omega) (by omega)]; omega), zkk (by omega) (by omega), zl_e, zoC (by omega), hq, zd_e, o0, zc_e, hpe.1 0 (by omega), o1]
      by_cases c0 : (peD L[i]).1 0 = D.1 0
      · rw [if_neg (fun y => y c0), zc_e, hpe.1 1 (by omega), o2]
        by_cases c1 : (peD L[i]).1 1 = D.1 1
        · rw [if_neg (fun y => y c1), zc_e, hpe.1 2 (by omega), o3]
          by_cases c2 : (peD L[i]).1 2 = D.1 2
          · rw [if_neg (fun y => y c2), zc_e, hpe.1 3 (by omega)]
            by_cases c3 : (peD L[i]).1 3 = D.1 3
            · rw [if_neg (fun y => y c3), nx, if_pos (dSb_iff.mpr ⟨c0, c1, c2, c3⟩)]
            · rw [if_pos c3, nx1, if_neg (fun y => c3 (dSb_iff.mp y).2.2.2)]
          · rw [if_pos c2, nx1, if_neg (fun y => c2 (dSb_iff.mp y).2.2.1)]
        · rw [if_pos c1, nx1, if_neg (fun y => c1 (dSb_iff.mp y).2.1)]
      · rw [if_pos c0, nx1, if_neg (fun y => c0 (dSb_iff.mp y).1)]
    obtain ⟨r, r1, r2, r3, r4⟩ := ih (i + 1) n (if dSb (peD L[i]) D = true then Int32.ofNat i else at_) (by omega) (by omega)
    refine ⟨r, ?_, fun k e hk he hde hu => ?_, fun hno => ?_, by rw [st]; exact r4⟩
    · rcases r1 with r1 | ⟨k, k1, k2, k3⟩
      · by_cases c : dSb (peD L[i]) D = true
        · rw [if_pos c] at r1; exact Or.inr ⟨i, Nat.le_refl _, hil, r1⟩
        · rw [if_neg c] at r1; exact Or.inl r1
      · exact Or.inr ⟨k, by omega, k2, k3⟩
    · by_cases ck : k = i
      · subst ck
        rw [hei] at he
        have hee : L[k] = e := Option.some.inj he
        rw [hee, if_pos hde] at r3
        refine r3 (fun k2 e2 hk2 he2 => ?_)
        cases cd : dSb (peD e2) D with
        | false => rfl
        | true => have := hu k2 e2 (by omega) he2 cd; omega
      · exact r2 k e (by omega) he hde (fun k2 e2 hk2 => hu k2 e2 (by omega))
    · rw [hno i _ (Nat.le_refl _) hei, if_neg (by decide)] at r3
      exact r3 (fun k e hk => hno k e (by omega))
