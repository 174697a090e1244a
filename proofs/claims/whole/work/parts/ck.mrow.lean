/-! ways, the model: what adverts tell -/
theorem zI_ad (x i c : Nat) : (((76 : Int32) * Int32.ofNat x) + (4 : Int32)) + ((3 : Int32) * Int32.ofNat i) + Int32.ofNat c = Int32.ofNat (76 * x + 4 + 3 * i + c) := by
  rw [show (76 : Int32) = Int32.ofNat 76 from rfl, show (3 : Int32) = Int32.ofNat 3 from rfl, show (4 : Int32) = Int32.ofNat 4 from rfl, ← Int32.ofNat_mul, ← Int32.ofNat_mul, zo_add, zo_add, zo_add]
theorem zm_netRow {w : St} {x i c N : Nat} (hx : x < 2400) (hi : 3 * i + c < 72) : fX19_netRow N 0 (Int32.ofNat x) (Int32.ofNat i) (Int32.ofNat c) w = some (mad w x (4 + 3 * i + c), w) := by
  unfold fX19_netRow mad
  rw [zI_ad, zkk (by omega) (by omega), zoC (by omega), show 76 * x + 4 + 3 * i + c = 76 * x + (4 + 3 * i + c) from by omega]
theorem zm_friendRow {w : St} {x nN i c N : Nat} (hx : x < 2400) (h2 : mad w x 2 = Int32.ofNat nN) (hi : 3 * (nN + i) + c < 72) : fX19_friendRow N 0 (Int32.ofNat x) (Int32.ofNat i) (Int32.ofNat c) w = some (mad w x (4 + 3 * (nN + i) + c), w) := by
  unfold fX19_friendRow
  rw [show (2 : Int32) = Int32.ofNat 2 from rfl, zm_ad hx (by omega), zc_e, h2, zo_add, zm_netRow hx hi, zc_e]
theorem find_drop {P : En → Bool} {L : List En} {n : Nat} (h : ∀ i e, i < n → L[i]? = some e → P e = false) : (L.drop n).find? P = L.find? P := by
  conv => rhs; rw [← List.take_append_drop n L]
  rw [List.find?_append]
  have : (L.take n).find? P = none := by
    rw [List.find?_eq_none]
    intro e he y
    obtain ⟨i, hi⟩ := List.getElem?_of_mem he
    have hl := (List.getElem?_eq_some_iff.mp hi).1
    rw [List.length_take] at hl
    rw [List.getElem?_take_of_lt (by omega)] at hi
    rw [h i e (by omega) hi] at y; cases y
  rw [this]; rfl
theorem find_take {P : En → Bool} {L : List En} {n : Nat} (h : ∀ i e, n ≤ i → L[i]? = some e → P e = false) : (L.take n).find? P = L.find? P := by
  conv => rhs; rw [← List.take_append_drop n L]
  rw [List.find?_append]
  have : (L.drop n).find? P = none := by
    rw [List.find?_eq_none]
    intro e he y
    obtain ⟨i, hi⟩ := List.getElem?_of_mem he
    rw [List.getElem?_drop] at hi
    rw [h (n + i) e (by omega) hi] at y; cases y
  rw [this, Option.or_none]
/-- what costTo tells -/
def cTo (L : List En) (x n : Nat) : Int32 := match L.find? (fun e => e.1 == x + 1 && e.2.1 == n) with | some e => Int32.ofNat e.2.2 | none => -1
theorem cTo_any {L : List En} (h : zEn L) (x n : Nat) : cTo L x n = -1 ↔ L.any (fun e => e.1 == x + 1 && e.2.1 == n) = false := by
  unfold cTo
  cases e : L.find? (fun e => e.1 == x + 1 && e.2.1 == n) with
  | none =>
    refine ⟨fun _ => ?_, fun _ => rfl⟩
    rw [List.find?_eq_none] at e
    rw [List.any_eq_false]; exact e
  | some a =>
    have ha := List.mem_of_find?_eq_some e
    have a3 := h.2 a ha
    refine ⟨fun y => absurd y (zo_ne1 (by omega)), fun y => ?_⟩
    rw [List.any_eq_false] at y
    exact absurd (List.find?_some e) (y a ha)
theorem zm_costTo {w : St} {y t num x n N : Nat} {L : List En} (hy : y < 2400) (h : zAdw w y t num L) (hL : zEn L) (hx : x < 16) (hn : n < 24) (hN : 24 < N) : fX19_costTo N 0 (Int32.ofNat y) (Int32.ofNat x) (Int32.ofNat n) w = some (cTo L x n, w) := by
  obtain ⟨-, nN, ⟨n1, n2⟩, m2, m3, mr, -⟩ := h
  have loop : ∀ (C A : List En) (i nn : Nat), A ++ C = L → A.length = nN + i → C.length < nn → fX19_costTo_3 N nn 0 (Int32.ofNat y) (Int32.ofNat x) (Int32.ofNat n) (Int32.ofNat i) w = some (cTo C x n, w) := by
    intro C
    induction C with
    | nil =>
      intro A i nn e hA hn'
      obtain ⟨nn, rfl⟩ : ∃ k, nn = k + 1 := ⟨nn - 1, by omega⟩
      rw [List.append_nil] at e
      rw [e] at hA
      show fX19_costTo_3b N (fX19_costTo_3 N nn) 0 (Int32.ofNat y) (Int32.ofNat x) (Int32.ofNat n) (Int32.ofNat i) w = _
      unfold fX19_costTo_3b
      rw [show (3 : Int32) = Int32.ofNat 3 from rfl, zm_ad hy (by omega), zc_e, m3, if_pos (by rw [zo_le (by omega) (by omega)]; omega)]
      rfl
    | cons a C ih =>
      intro A i nn e hA hn'
      obtain ⟨nn, rfl⟩ : ∃ k, nn = k + 1 := ⟨nn - 1, by omega⟩
      have hlen : A.length < L.length := by rw [← e, List.length_append, List.length_cons]; omega
      have hget : L[nN + i]? = some a := by rw [← hA, ← e, List.getElem?_append_right (Nat.le_refl _), Nat.sub_self]; rfl
      obtain ⟨a1, a2, a3, a4⟩ := hL.2 a (List.mem_of_getElem? hget)
      obtain ⟨d1, d2, d3, -⟩ := mr _ _ hget
      have go := ih (A ++ [a]) (i + 1) nn (by rw [List.append_assoc]; exact e) (by rw [List.length_append, show [a].length = 1 from rfl]; omega) (by simp at hn'; omega)
      have g47 : (a.1 == x + 1 && a.2.1 == n) = false → fX19_costTo_47 N (fX19_costTo_3 N nn) 0 (Int32.ofNat y) (Int32.ofNat x) (Int32.ofNat n) (Int32.ofNat i) w = some (cTo (a :: C) x n, w) := fun q => by
        unfold fX19_costTo_47
        rw [zo_i1, zl_e, go]
        unfold cTo
        rw [List.find?_cons, q]
      show fX19_costTo_3b N (fX19_costTo_3 N nn) 0 (Int32.ofNat y) (Int32.ofNat x) (Int32.ofNat n) (Int32.ofNat i) w = _
      unfold fX19_costTo_3b
      rw [show (3 : Int32) = Int32.ofNat 3 from rfl, zm_ad hy (by omega), zc_e, m3, if_neg (by rw [zo_le (by omega) (by omega)]; omega), show (0 : Int32) = Int32.ofNat 0 from rfl, zm_friendRow hy m2 (by omega), zc_e, show 4 + 3 * (nN + i) + 0 = 4 + 3 * (nN + i) from rfl, d1]
      by_cases k1 : a.1 = x + 1
      · rw [if_neg (fun q => q ((zom_eq (by omega) (by omega)).mpr k1)), show (1 : Int32) = Int32.ofNat 1 from rfl, zm_friendRow hy m2 (by omega), zc_e, d2]
        by_cases k2 : a.2.1 = n
        · rw [if_neg (fun q => q (by rw [k2])), show (2 : Int32) = Int32.ofNat 2 from rfl, zm_friendRow hy m2 (by omega), zc_e, d3]
          unfold cTo
          rw [List.find?_cons, k1, k2, beq_self_eq_true, beq_self_eq_true]; rfl
        · rw [if_pos (fun q => k2 ((zo_eq (by omega) (by omega)).mp q))]
          exact g47 (by rw [show (a.2.1 == n) = false from by simpa using k2, Bool.and_false])
      · rw [if_pos (fun q => k1 ((zom_eq (by omega) (by omega)).mp q))]
        exact g47 (by rw [show (a.1 == x + 1) = false from by simpa using k1, Bool.false_and])
  have := loop (L.drop nN) (L.take nN) 0 N (List.take_append_drop _ _) (by rw [List.length_take]; omega) (by rw [List.length_drop]; omega)
  unfold fX19_costTo
  rw [show (0 : Int32) = Int32.ofNat 0 from rfl, this]
  unfold cTo
  rw [find_drop (fun i e hi he => by
    have := (mr i e he).2.2.2.mpr hi
    rw [this]; rfl)]
def cqI (q : Nat) : Int32 := if q = 0 then -1 else Int32.ofNat q
theorem pTl_0 {L : List En} (h : zEn L) (n : Nat) : pTl L n = 0 ↔ L.find? (fun e => e.1 == 0 && e.2.1 == n) = none := by
  unfold pTl
  cases e : L.find? (fun e => e.1 == 0 && e.2.1 == n) with
  | none => simp
  | some a =>
    have := (h.2 a (List.mem_of_find?_eq_some e)).2.2.1
    simp only [reduceCtorEq, iff_false]; omega
theorem cqI_cons {a : En} {C : List En} (n : Nat) : pTl (a :: C) n = if a.1 = 0 ∧ a.2.1 = n then a.2.2 else pTl C n := by
  unfold pTl
  rw [List.find?_cons]
  by_cases k : a.1 = 0 ∧ a.2.1 = n
  · rw [if_pos k, k.1, k.2, beq_self_eq_true, beq_self_eq_true]; rfl
  · rw [if_neg k, show (a.1 == 0 && a.2.1 == n) = false from by
      rw [Bool.eq_false_iff]; intro y; rw [Bool.and_eq_true] at y; exact k ⟨by simpa using y.1, by simpa using y.2⟩]
theorem zm_costOn {w : St} {b r n N : Nat} {Ba : Nat → Option Ad} (h : zRmB w b Ba) (hBn : zBn Ba) (hr : r < 16) (hn : n < 24) (hN : 24 < N) : fX19_costOn N 0 (zgA w 150 b r) (Int32.ofNat n) w = some (cqI (pTl (bE Ba r) n), w) := by
  have hL := hBn r
  have h := h r hr
  unfold bE at hL ⊢
  cases q : Ba r with
  | none =>
    rw [q] at h
    have h : zgA w 150 b r = -1 := h
    rw [h]
    obtain ⟨N, rfl⟩ : ∃ k, N = k + 1 := ⟨N - 1, by omega⟩
    unfold fX19_costOn
    show fX19_costOn_2b (N + 1) (fX19_costOn_2 (N + 1) N) 0 (-1) (Int32.ofNat n) (0 : Int32) w = _
    unfold fX19_costOn_2b
    rw [if_pos rfl]; rfl
  | some a0 =>
    rw [q] at h hL
    obtain ⟨y, hy, e0, -, hA⟩ := h
    obtain ⟨-, nN, ⟨n1, n2⟩, m2, m3, mr, -⟩ := hA
    rw [e0]
    have hL : zEn a0.2.2 := hL
    show _ = some (cqI (pTl a0.2.2 n), w)
    generalize a0.2.2 = L at *
    have loop : ∀ (C A : List En) (nn : Nat), A ++ C = L.take nN → C.length < nn → fX19_costOn_2 N nn 0 (Int32.ofNat y) (Int32.ofNat n) (Int32.ofNat A.length) w = some (cqI (pTl C n), w) := by
      intro C
      induction C with
      | nil =>
        intro A nn e hn'
        obtain ⟨nn, rfl⟩ : ∃ k, nn = k + 1 := ⟨nn - 1, by omega⟩
        rw [List.append_nil] at e
        have hA : A.length = nN := by rw [e, List.length_take]; omega
        show fX19_costOn_2b N (fX19_costOn_2 N nn) 0 (Int32.ofNat y) (Int32.ofNat n) (Int32.ofNat A.length) w = _
        unfold fX19_costOn_2b
        rw [if_neg (zo_ne1 (by omega)), show (2 : Int32) = Int32.ofNat 2 from rfl, zm_ad hy (by omega), zc_e, m2, hA, if_pos (Int32.le_refl _)]
        rfl
      | cons a C ih =>
        intro A nn e hn'
        obtain ⟨nn, rfl⟩ : ∃ k, nn = k + 1 := ⟨nn - 1, by omega⟩
        have hlen : A.length < nN := by
          have : (A ++ a :: C).length = (L.take nN).length := by rw [e]
          rw [List.length_append, List.length_cons, List.length_take] at this; omega
        have hget : L[A.length]? = some a := by
          have : (L.take nN)[A.length]? = some a := by rw [← e, List.getElem?_append_right (Nat.le_refl _), Nat.sub_self]; rfl
          rwa [List.getElem?_take_of_lt hlen] at this
        obtain ⟨a1, a2, a3, a4⟩ := hL.2 a (List.mem_of_getElem? hget)
        obtain ⟨d1, d2, d3, d4⟩ := mr _ _ hget
        have a0' := d4.mpr hlen
        have go := ih (A ++ [a]) nn (by rw [List.append_assoc]; exact e) (by simp at hn'; omega)
        rw [List.length_append, show [a].length = 1 from rfl] at go
        show fX19_costOn_2b N (fX19_costOn_2 N nn) 0 (Int32.ofNat y) (Int32.ofNat n) (Int32.ofNat A.length) w = _
        unfold fX19_costOn_2b
        rw [if_neg (zo_ne1 (by omega)), show (2 : Int32) = Int32.ofNat 2 from rfl, zm_ad hy (by omega), zc_e, m2, if_neg (by rw [zo_le (by omega) (by omega)]; omega), show (1 : Int32) = Int32.ofNat 1 from rfl, zm_netRow hy (by omega), zc_e, d2, cqI_cons]
        by_cases k2 : a.2.1 = n
        · rw [if_neg (fun q => q (by rw [k2])), zm_netRow hy (by omega), zc_e, d3, if_pos ⟨a0', k2⟩]
          unfold cqI
          rw [if_neg (by omega)]
        · rw [if_pos (fun q => k2 ((zo_eq (by omega) (by omega)).mp q)), if_neg (fun q => k2 q.2), zo_add, zl_e]
          exact go
    have := loop (L.take nN) [] N rfl (by rw [List.length_take]; omega)
    unfold fX19_costOn
    rw [show (0 : Int32) = Int32.ofNat ([] : List En).length from rfl, this]
    have eP : pTl (L.take nN) n = pTl L n := by
      unfold pTl
      rw [find_take (fun i e hi he => by
        have : ¬ e.1 = 0 := fun q => by have := (mr i e he).2.2.2.mp q; omega
        rw [show (e.1 == 0) = false from by simpa using this, Bool.false_and])]
    rw [eP]
