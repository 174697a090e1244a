/-! the model: what waits at a port, and its askings -/
theorem zm_endAsking12 {q N L : Nat} (hL : L < 8) : ∀ (m i n : Nat) (w : St), i + m = L → m < n → zgI w 18 9 q = Int32.ofNat L →
    ∃ w', fX18_endAsking_12 N n q (Int32.ofNat i) w = some (0, w') ∧ (∀ j, zgA w' 168 q j = if i ≤ j ∧ j < L then zgA w 168 q (j + 1) else zgA w 168 q j) ∧ (∀ j, zgA w' 169 q j = if i ≤ j ∧ j < L then zgA w 169 q (j + 1) else zgA w 169 q j) ∧ (∀ k j o, zgI w' k j o = zgI w k j o) ∧ (∀ k o j, ¬ ((k = 168 ∨ k = 169) ∧ o = q) → zgA w' k o j = zgA w k o j) ∧ (∀ k o j, zgL w' k o j = zgL w k o j) := by
  intro m
  induction m with
  | zero =>
    intro i n w hi hn h12
    obtain ⟨n, rfl⟩ : ∃ n', n = n' + 1 := ⟨n - 1, by omega⟩
    obtain rfl : i = L := by omega
    refine ⟨w, ?_, fun j => by rw [if_neg (by omega)], fun j => by rw [if_neg (by omega)], fun _ _ _ => rfl, fun _ _ _ _ => rfl, fun _ _ _ => rfl⟩
    show fX18_endAsking_12b N (fX18_endAsking_12 N n) q (Int32.ofNat i) w = _
    unfold fX18_endAsking_12b
    rw [h12, if_pos (Int32.le_refl _)]
  | succ m ih =>
    intro i n w hi hn h12
    obtain ⟨n, rfl⟩ : ∃ n', n = n' + 1 := ⟨n - 1, by omega⟩
    let w1 : St := zsA w 168 q i (zgA w 168 q (i + 1))
    have e2 : ∀ j, zgA w1 169 q j = zgA w 169 q j := fun j => by
      show zgA (zsA w 168 q i _) 169 q j = _
      rw [zgA_sA, if_neg (by simp)]
    obtain ⟨w', r1, r2, r3, r4, r5, r6⟩ := ih (i + 1) n (zsA w1 169 q i (zgA w 169 q (i + 1))) (by omega) (by omega) h12
    refine ⟨w', ?_, fun j => ?_, fun j => ?_, r4, fun k o j h => ?_, r6⟩
    · show fX18_endAsking_12b N (fX18_endAsking_12 N n) q (Int32.ofNat i) w = _
      unfold fX18_endAsking_12b
      rw [h12, if_neg (by rw [zo_le (by omega) (by omega)]; omega), zo_i1, zkk (by omega) (by omega), zkk (by omega) (by omega), zl_e, zoC (by omega), zoC (by omega), zkk (by omega) (by omega), zkk (by omega) (by omega), zl_e, zl_e]
      have : zgA (zsA w 168 q i (zgA w 168 q (i + 1))) 169 q (i + 1) = zgA w 169 q (i + 1) := e2 (i + 1)
      rw [this]
      exact r1
    · rw [r2 j]
      by_cases c : i + 1 ≤ j ∧ j < L
      · rw [if_pos c, if_pos (by omega), zgA_sA, if_neg (by simp)]
        show zgA (zsA w 168 q i _) 168 q (j + 1) = _
        rw [zgA_sA, if_neg (fun y => by have := y.2.2; omega)]
      · rw [if_neg c, zgA_sA, if_neg (by simp)]
        show zgA (zsA w 168 q i _) 168 q j = _
        rw [zgA_sA]
        by_cases c2 : j = i
        · rw [if_pos ⟨rfl, rfl, c2⟩, if_pos (by omega), c2]
        · rw [if_neg (fun y => c2 y.2.2), if_neg (by omega)]
    · rw [r3 j]
      by_cases c : i + 1 ≤ j ∧ j < L
      · rw [if_pos c, if_pos (by omega), zgA_sA, if_neg (fun y => by have := y.2.2; omega)]
        exact e2 (j + 1)
      · rw [if_neg c, zgA_sA]
        by_cases c2 : j = i
        · rw [if_pos ⟨rfl, rfl, c2⟩, if_pos (by omega), c2]
        · rw [if_neg (fun y => c2 y.2.2), if_neg (by omega)]
          exact e2 j
    · rw [r5 k o j h, zgA_sA, if_neg (fun y => h ⟨Or.inr y.1, y.2.1⟩)]
      show zgA (zsA w 168 q i _) k o j = _
      rw [zgA_sA, if_neg (fun y => h ⟨Or.inl y.1, y.2.1⟩)]
theorem zm_takeWaiting19 {q N L : Nat} (hL : L < 17) {v : Int32} : ∀ (m i n : Nat) (w : St), i + m = L → m < n → zgI w 18 12 q = Int32.ofNat L →
    ∃ w', fX18_takeWaiting_19 N n q v (Int32.ofNat i) w = some (v, w') ∧ (∀ j, zgA w' 170 q j = if i ≤ j ∧ j < L then zgA w 170 q (j + 1) else zgA w 170 q j) ∧ (∀ j, zgA w' 171 q j = if i ≤ j ∧ j < L then zgA w 171 q (j + 1) else zgA w 171 q j) ∧ (∀ k j o, zgI w' k j o = zgI w k j o) ∧ (∀ k o j, ¬ ((k = 170 ∨ k = 171) ∧ o = q) → zgA w' k o j = zgA w k o j) ∧ (∀ k o j, zgL w' k o j = zgL w k o j) := by
  intro m
  induction m with
  | zero =>
    intro i n w hi hn h12
    obtain ⟨n, rfl⟩ : ∃ n', n = n' + 1 := ⟨n - 1, by omega⟩
    obtain rfl : i = L := by omega
    refine ⟨w, ?_, fun j => by rw [if_neg (by omega)], fun j => by rw [if_neg (by omega)], fun _ _ _ => rfl, fun _ _ _ _ => rfl, fun _ _ _ => rfl⟩
    show fX18_takeWaiting_19b N (fX18_takeWaiting_19 N n) q v (Int32.ofNat i) w = _
    unfold fX18_takeWaiting_19b
    rw [h12, if_pos (Int32.le_refl _)]
  | succ m ih =>
    intro i n w hi hn h12
    obtain ⟨n, rfl⟩ : ∃ n', n = n' + 1 := ⟨n - 1, by omega⟩
    let w1 : St := zsA w 170 q i (zgA w 170 q (i + 1))
    have e2 : ∀ j, zgA w1 171 q j = zgA w 171 q j := fun j => by
      show zgA (zsA w 170 q i _) 171 q j = _
      rw [zgA_sA, if_neg (by simp)]
    obtain ⟨w', r1, r2, r3, r4, r5, r6⟩ := ih (i + 1) n (zsA w1 171 q i (zgA w 171 q (i + 1))) (by omega) (by omega) h12
    refine ⟨w', ?_, fun j => ?_, fun j => ?_, r4, fun k o j h => ?_, r6⟩
    · show fX18_takeWaiting_19b N (fX18_takeWaiting_19 N n) q v (Int32.ofNat i) w = _
      unfold fX18_takeWaiting_19b
      rw [h12, if_neg (by rw [zo_le (by omega) (by omega)]; omega), zo_i1, zkk (by omega) (by omega), zkk (by omega) (by omega), zl_e, zoC (by omega), zoC (by omega), zkk (by omega) (by omega), zkk (by omega) (by omega), zl_e, zl_e]
      have : zgA (zsA w 170 q i (zgA w 170 q (i + 1))) 171 q (i + 1) = zgA w 171 q (i + 1) := e2 (i + 1)
      rw [this]
      exact r1
    · rw [r2 j]
      by_cases c : i + 1 ≤ j ∧ j < L
      · rw [if_pos c, if_pos (by omega), zgA_sA, if_neg (by simp)]
        show zgA (zsA w 170 q i _) 170 q (j + 1) = _
        rw [zgA_sA, if_neg (fun y => by have := y.2.2; omega)]
      · rw [if_neg c, zgA_sA, if_neg (by simp)]
        show zgA (zsA w 170 q i _) 170 q j = _
        rw [zgA_sA]
        by_cases c2 : j = i
        · rw [if_pos ⟨rfl, rfl, c2⟩, if_pos (by omega), c2]
        · rw [if_neg (fun y => c2 y.2.2), if_neg (by omega)]
    · rw [r3 j]
      by_cases c : i + 1 ≤ j ∧ j < L
      · rw [if_pos c, if_pos (by omega), zgA_sA, if_neg (fun y => by have := y.2.2; omega)]
        exact e2 (j + 1)
      · rw [if_neg c, zgA_sA]
        by_cases c2 : j = i
        · rw [if_pos ⟨rfl, rfl, c2⟩, if_pos (by omega), c2]
        · rw [if_neg (fun y => c2 y.2.2), if_neg (by omega)]
          exact e2 j
    · rw [r5 k o j h, zgA_sA, if_neg (fun y => h ⟨Or.inr y.1, y.2.1⟩)]
      show zgA (zsA w 170 q i _) k o j = _
      rw [zgA_sA, if_neg (fun y => h ⟨Or.inl y.1, y.2.1⟩)]
/-- the place of a station in a row of askings -/
def aix (A : List (Nat × Nat)) (s : Nat) : Option Nat := zfst (fun i => match A[i]? with | some a => a.1 == s | none => false) A.length 0
theorem aix_none {A : List (Nat × Nat)} {s : Nat} (h : aix A s = none) : A.any (fun a => a.1 == s) = false := by
  rw [List.any_eq_false]
  intro a ha
  obtain ⟨i, hi, e⟩ := List.mem_iff_getElem.mp ha
  have := zfst_none h i (by omega) (by omega)
  rw [List.getElem?_eq_getElem hi, e] at this
  simpa using this
theorem aix_some {A : List (Nat × Nat)} {s k : Nat} (hn : (A.map (fun a => a.1)).Nodup) (h : aix A s = some k) : k < A.length ∧ A.any (fun a => a.1 == s) = true ∧ A.eraseIdx k = A.filter (fun a => a.1 != s) := by
  obtain ⟨-, h2, h3, h4⟩ := zfst_some h
  rw [Nat.zero_add] at h2
  rw [List.getElem?_eq_getElem h2] at h3
  have h3 : A[k].1 = s := by simpa using h3
  refine ⟨h2, List.any_eq_true.mpr ⟨A[k], List.getElem_mem h2, by simp [h3]⟩, ?_⟩
  have hsp : A = A.take k ++ A[k] :: A.drop (k + 1) := by rw [List.getElem_cons_drop, List.take_append_drop]
  have hn2 : ((A.take k ++ A[k] :: A.drop (k + 1)).map (fun a => a.1)).Nodup := by rw [← hsp]; exact hn
  rw [List.map_append, List.map_cons] at hn2
  have hA : ∀ a, a ∈ A.take k → (a.1 != s) = true := fun a ha => by
    simp only [bne_iff_ne]
    intro e
    exact (List.nodup_append.mp hn2).2.2 a.1 (List.mem_map.mpr ⟨a, ha, rfl⟩) A[k].1 List.mem_cons_self (by rw [e, h3])
  have hB : ∀ a, a ∈ A.drop (k + 1) → (a.1 != s) = true := fun a ha => by
    simp only [bne_iff_ne]
    intro e
    exact (List.nodup_cons.mp (List.nodup_append.mp hn2).2.1).1 (List.mem_map.mpr ⟨a, ha, by rw [e, h3]⟩)
  rw [List.eraseIdx_eq_take_drop_succ]
  conv => rhs; rw [hsp]
  rw [List.filter_append, List.filter_cons, if_neg (by simp [h3]), List.filter_eq_self.mpr hA, List.filter_eq_self.mpr hB]
theorem zm_askingOf {w : St} {T : Tp} {E : Ev} {g : Sg} {q s N : Nat} (hA : zAm w T g) (hAw : zAw T E g) (hq : tv T q) (hs : s < 8) (hN : 8 < N) : fX18_askingOf N q (Int32.ofNat s) w = some ((match aix (gA g q) s with | some k => Int32.ofNat k | none => (-1 : Int32)), w) := by
  obtain ⟨h9, hr⟩ := hA q hq
  have hl := zAw_len hAw hq
  have h8 := (hAw q hq).2
  unfold fX18_askingOf aix
  refine (zlf0 (G := fun n' i => fX18_askingOf_2 N n' q (Int32.ofNat s) (Int32.ofNat i) w) (p := fun i => match (gA g q)[i]? with | some a => a.1 == s | none => false) (f := fun i => some (Int32.ofNat i, w)) (r := some ((-1 : Int32), w)) (k := (gA g q).length) (by omega) ?_ ?_ ?_).trans ?_
  · intro n' i hi hp
    rw [List.getElem?_eq_getElem hi] at hp
    have hp : ¬ (gA g q)[i].1 = s := by simpa using hp
    have e := hr i _ (List.getElem?_eq_getElem hi)
    have b := h8 _ (List.getElem_mem hi)
    show fX18_askingOf_2b N (fX18_askingOf_2 N n') q (Int32.ofNat s) (Int32.ofNat i) w = _
    unfold fX18_askingOf_2b
    rw [h9, if_neg (by rw [zo_le (by omega) (by omega)]; omega), zkk (by omega) (by omega), zoC (by omega), e.1, if_pos (by rw [zo_eq (by omega) (by omega)]; exact hp), zl_e, zo_i1]
  · intro n' i hi hp
    rw [List.getElem?_eq_getElem hi] at hp
    have hp : (gA g q)[i].1 = s := by simpa using hp
    have e := hr i _ (List.getElem?_eq_getElem hi)
    show fX18_askingOf_2b N (fX18_askingOf_2 N n') q (Int32.ofNat s) (Int32.ofNat i) w = _
    unfold fX18_askingOf_2b
    rw [h9, if_neg (by rw [zo_le (by omega) (by omega)]; omega), zkk (by omega) (by omega), zoC (by omega), e.1, if_neg (fun y => y (by rw [hp]))]
  · intro n'
    show fX18_askingOf_2b N (fX18_askingOf_2 N n') q (Int32.ofNat s) (Int32.ofNat (gA g q).length) w = _
    unfold fX18_askingOf_2b
    rw [h9, if_pos (Int32.le_refl _)]
  · cases zfst (fun i => match (gA g q)[i]? with | some a => a.1 == s | none => false) (gA g q).length 0 <;> rfl
theorem zm_endAsking {w : St} {T : Tp} {E : Ev} {g : Sg} {q s k N : Nat} (hA : zAm w T g) (hAw : zAw T E g) (hq : tv T q) (hk : aix (gA g q) s = some k) (hN : 8 < N) : ∃ w', fX18_endAsking N q (Int32.ofNat k) w = some (0, w') ∧ zAm w' T (sA g (zupd (gA g) q ((gA g q).filter (fun a => a.1 != s)))) ∧ (∀ k j o, ¬ (k = 18 ∧ j = 9) → zgI w' k j o = zgI w k j o) ∧ (∀ k o j, k ≠ 168 → k ≠ 169 → zgA w' k o j = zgA w k o j) ∧ (∀ k o j, zgL w' k o j = zgL w k o j) := by
  obtain ⟨h9, hr⟩ := hA q hq
  have hl := zAw_len hAw hq
  obtain ⟨k1, k2, k3⟩ := aix_some (hAw q hq).1 hk
  let w1 : St := zsI w 18 9 q (Int32.ofNat ((gA g q).length - 1))
  obtain ⟨w', r1, r2, r3, r4, r5, r6⟩ := zm_endAsking12 (N := N) (q := q) (L := (gA g q).length - 1) (by omega) ((gA g q).length - 1 - k) k N w1 (by omega) (by omega) (by
    show zgI (zsI w 18 9 q _) 18 9 q = _
    rw [zgI_sI, if_pos ⟨rfl, rfl, rfl⟩])
  refine ⟨w', ?_, fun p hp => ?_, fun k' j o h => ?_, fun k' o j n1 n2 => ?_, fun k' o j => ?_⟩
  · unfold fX18_endAsking
    rw [h9, zo_s1 (by omega), zl_e]
    exact r1
  · by_cases e : p = q
    · subst e
      have e1 : gA (sA g (zupd (gA g) p ((gA g p).filter (fun a => a.1 != s)))) p = (gA g p).eraseIdx k := (zupd_s _ _ _).trans k3.symm
      rw [e1]
      refine ⟨?_, fun i a hi => ?_⟩
      · rw [r4, List.length_eraseIdx_of_lt k1]
        show zgI (zsI w 18 9 p _) 18 9 p = _
        rw [zgI_sI, if_pos ⟨rfl, rfl, rfl⟩]
      · have hil := (List.getElem?_eq_some_iff.mp hi).1
        rw [List.length_eraseIdx_of_lt k1] at hil
        rw [List.getElem?_eraseIdx] at hi
        rw [r2, r3]
        by_cases c : i < k
        · rw [if_pos c] at hi
          rw [if_neg (by omega), if_neg (by omega)]
          exact hr i a hi
        · rw [if_neg c] at hi
          rw [if_pos (by omega), if_pos (by omega)]
          exact hr (i + 1) a hi
    · have e1 : gA (sA g (zupd (gA g) q ((gA g q).filter (fun a => a.1 != s)))) p = gA g p := zupd_n e
      rw [e1]
      obtain ⟨b9, br⟩ := hA p hp
      refine ⟨?_, fun i a hi => ?_⟩
      · rw [r4]
        show zgI (zsI w 18 9 q _) 18 9 p = _
        rw [zgI_sI, if_neg (fun y => e y.2.2)]
        exact b9
      · rw [r5 168 p i (fun y => e y.2), r5 169 p i (fun y => e y.2)]
        exact br i a hi
  · rw [r4]
    show zgI (zsI w 18 9 q _) k' j o = _
    rw [zgI_sI, if_neg (fun y => h ⟨y.1, y.2.1⟩)]
  · exact r5 k' o j (fun y => by rcases y.1 with z | z; exact n1 z; exact n2 z)
  · exact r6 k' o j
theorem zm_someWaitFor {w : St} {T : Tp} {K : Int32 → Int32 → Int32 → Prop} {q s N : Nat} {W : List Dg} {l : List Nat} (h : zWqm w T K q W l) (hw : ∀ D, D ∈ W → wTo D < 8 ∧ D.1 11 = Int32.ofNat (wTo D)) (hs : s < 8) (hN : 17 < N) : fX18_someWaitFor N q (Int32.ofNat s) w = some (zbi (W.any (fun x => wTo x == s)), w) := by
  obtain ⟨h1, h2, h3, h4⟩ := h
  rw [← wfi_any]
  unfold fX18_someWaitFor wfi
  refine (zlf0 (G := fun n' i => fX18_someWaitFor_2 N n' q (Int32.ofNat s) (Int32.ofNat i) w) (p := fun i => match W[i]? with | some D => wTo D == s | none => false) (f := fun i => some ((1 : Int32), w)) (r := some ((0 : Int32), w)) (k := W.length) (by omega) ?_ ?_ ?_).trans ?_
  · intro n' i hi hp
    have hD := h4 i W[i] l[i] (List.getElem?_eq_getElem hi) (List.getElem?_eq_getElem (by omega))
    have hwD := hw W[i] (List.getElem_mem hi)
    rw [List.getElem?_eq_getElem hi] at hp
    have hp : ¬ wTo W[i] = s := by simpa using hp
    show fX18_someWaitFor_2b N (fX18_someWaitFor_2 N n') q (Int32.ofNat s) (Int32.ofNat i) w = _
    unfold fX18_someWaitFor_2b
    rw [h3, if_neg (by rw [zo_le (by omega) (by omega)]; omega), zkk (by omega) (by omega), zoC (by omega), hD.2.1, hwD.2, if_pos (by rw [zo_eq (by omega) (by omega)]; exact hp), zl_e, zo_i1]
  · intro n' i hi hp
    have hD := h4 i W[i] l[i] (List.getElem?_eq_getElem hi) (List.getElem?_eq_getElem (by omega))
    have hwD := hw W[i] (List.getElem_mem hi)
    rw [List.getElem?_eq_getElem hi] at hp
    have hp : wTo W[i] = s := by simpa using hp
    show fX18_someWaitFor_2b N (fX18_someWaitFor_2 N n') q (Int32.ofNat s) (Int32.ofNat i) w = _
    unfold fX18_someWaitFor_2b
    rw [h3, if_neg (by rw [zo_le (by omega) (by omega)]; omega), zkk (by omega) (by omega), zoC (by omega), hD.2.1, hwD.2, if_neg (fun y => y (by rw [hp]))]
  · intro n'
    show fX18_someWaitFor_2b N (fX18_someWaitFor_2 N n') q (Int32.ofNat s) (Int32.ofNat W.length) w = _
    unfold fX18_someWaitFor_2b
    rw [h3, if_pos (Int32.le_refl _)]
  · cases zfst (fun i => match W[i]? with | some D => wTo D == s | none => false) W.length 0 <;> rfl
theorem zm_takeWaiting {w : St} {T : Tp} {K : Int32 → Int32 → Int32 → Prop} {q k N : Nat} {W : List Dg} {l : List Nat} (h : zWqm w T K q W l) (hk : k < W.length) (hN : 17 < N) : ∃ w' d, fX18_takeWaiting N q (Int32.ofNat k) w = some (Int32.ofNat d, w') ∧ l[k]? = some d ∧ zMD w T K d W[k] ∧ zWqm w' T K q (W.eraseIdx k) (l.eraseIdx k) ∧ (∀ k j o, ¬ (k = 18 ∧ j = 12 ∧ o = q) → zgI w' k j o = zgI w k j o) ∧ (∀ k o j, ¬ ((k = 170 ∨ k = 171) ∧ o = q) → zgA w' k o j = zgA w k o j) ∧ (∀ k o j, zgL w' k o j = zgL w k o j) := by
  obtain ⟨h1, h2, h3, h4⟩ := h
  have hkl : k < l.length := by omega
  obtain ⟨a1, a2, a3⟩ := h4 k W[k] l[k] (List.getElem?_eq_getElem hk) (List.getElem?_eq_getElem hkl)
  let w1 : St := zsI w 18 12 q (Int32.ofNat (W.length - 1))
  obtain ⟨w', r1, r2, r3, r4, r5, r6⟩ := zm_takeWaiting19 (N := N) (q := q) (v := Int32.ofNat l[k]) (L := W.length - 1) (by omega) (W.length - 1 - k) k N w1 (by omega) (by omega) (by
    show zgI (zsI w 18 12 q _) 18 12 q = _
    rw [zgI_sI, if_pos ⟨rfl, rfl, rfl⟩])
  have I1 : ∀ k j o, ¬ (k = 18 ∧ j = 12 ∧ o = q) → zgI w' k j o = zgI w k j o := fun k' j o h => by
    rw [r4]
    show zgI (zsI w 18 12 q _) k' j o = _
    rw [zgI_sI, if_neg h]
  have kk : zKm l w w' := ⟨fun e j _ _ => r5 172 0 _ (by simp), fun k i => r5 174 k i (by simp), fun k i => r5 178 k i (by simp), r6⟩
  refine ⟨w', l[k], ?_, List.getElem?_eq_getElem hkl, a3, ⟨?_, ?_, ?_, fun i D d hD hd => ?_⟩, I1, r5, r6⟩
  · unfold fX18_takeWaiting
    rw [zkk (by omega) (by omega), zl_e, zoC (by omega), a1, h3, zo_s1 (by omega), zl_e]
    exact r1
  · rw [List.length_eraseIdx_of_lt hkl, List.length_eraseIdx_of_lt hk, h1]
  · rw [List.length_eraseIdx_of_lt hk]; omega
  · rw [r4, List.length_eraseIdx_of_lt hk]
    show zgI (zsI w 18 12 q _) 18 12 q = _
    rw [zgI_sI, if_pos ⟨rfl, rfl, rfl⟩]
  · have hil := (List.getElem?_eq_some_iff.mp hD).1
    rw [List.length_eraseIdx_of_lt hk] at hil
    rw [List.getElem?_eraseIdx] at hD hd
    rw [r2, r3]
    by_cases c : i < k
    · rw [if_pos c] at hD hd
      rw [if_neg (by omega), if_neg (by omega)]
      obtain ⟨b1, b2, b3⟩ := h4 i D d hD hd
      exact ⟨b1, b2, zKm_MD kk (List.mem_of_getElem? hd) b3⟩
    · rw [if_neg c] at hD hd
      rw [if_pos (by omega), if_pos (by omega)]
      obtain ⟨b1, b2, b3⟩ := h4 (i + 1) D d hD hd
      exact ⟨b1, b2, zKm_MD kk (List.mem_of_getElem? hd) b3⟩
/-- one that waits goes into the model's hands, or the other way -/
theorem flat_upd {mw mw' : Nat → List Nat} {q d : Nat} (hq : q < 192) (hp : ∀ p, p ≠ q → mw' p = mw p) (h : (mw q).Perm (d :: mw' q)) : ((List.range 192).flatMap mw).Perm (d :: (List.range 192).flatMap mw') := by
  obtain ⟨A, B, hAB⟩ := List.append_of_mem (List.mem_range.mpr hq)
  have hnd : (A ++ q :: B).Nodup := by rw [← hAB]; exact List.nodup_range
  have hA : q ∉ A := fun m => (List.nodup_append.mp hnd).2.2 q m q (by simp) rfl
  have hB : q ∉ B := (List.nodup_cons.mp (List.nodup_append.mp hnd).2.1).1
  have cg : ∀ (L : List Nat), q ∉ L → L.flatMap mw' = L.flatMap mw := by
    intro L
    induction L with
    | nil => intro _; rfl
    | cons a L ih =>
      intro hL
      rw [List.flatMap_cons, List.flatMap_cons, hp a (fun e => hL (by rw [e]; simp)), ih (fun m => hL (List.mem_cons_of_mem _ m))]
  rw [hAB, List.flatMap_append, List.flatMap_append, List.flatMap_cons, List.flatMap_cons, cg A hA, cg B hB]
  have p1 : (A.flatMap mw ++ (mw q ++ B.flatMap mw)).Perm (A.flatMap mw ++ ((d :: mw' q) ++ B.flatMap mw)) := List.Perm.append_left _ (h.append_right _)
  refine p1.trans ?_
  rw [List.cons_append]
  exact List.perm_middle
theorem hold_upd {X : List Nat} {ms : List (Option Nat)} {mw mw' : Nat → List Nat} {q d : Nat} (hq : q < 192) (hp : ∀ p, p ≠ q → mw' p = mw p) (h : (mw q).Perm (d :: mw' q)) : (hold X ms mw).Perm (hold (d :: X) ms mw') := by
  unfold hold
  have p1 : (X ++ (ms.filterMap id ++ (List.range 192).flatMap mw)).Perm (X ++ (ms.filterMap id ++ d :: (List.range 192).flatMap mw')) := List.Perm.append_left _ (List.Perm.append_left _ (flat_upd hq hp h))
  refine p1.trans ?_
  have p2 : (X ++ (ms.filterMap id ++ d :: (List.range 192).flatMap mw')).Perm (X ++ d :: (ms.filterMap id ++ (List.range 192).flatMap mw')) := List.Perm.append_left _ List.perm_middle
  exact p2.trans List.perm_middle
