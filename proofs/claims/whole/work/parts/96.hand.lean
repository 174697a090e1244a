/-! the class: to wait, to be sent when a station is known -/
/-- the first of those that wait for a station -/
def wfi (W : List Dg) (s : Nat) : Option Nat := zfst (fun i => match W[i]? with | some D => wTo D == s | none => false) W.length 0
theorem wfi_none {W : List Dg} {s : Nat} (h : wfi W s = none) : W.filter (fun x => wTo x == s) = [] ∧ W.filter (fun x => wTo x != s) = W := by
  have hh : ∀ D, D ∈ W → (wTo D == s) = false := by
    intro D hD
    obtain ⟨i, hi, e⟩ := List.mem_iff_getElem.mp hD
    have := zfst_none h i (by omega) (by omega)
    rw [List.getElem?_eq_getElem hi, e] at this
    exact this
  refine ⟨List.filter_eq_nil_iff.mpr (fun D hD => by rw [hh D hD]; simp), List.filter_eq_self.mpr (fun D hD => ?_)⟩
  rw [bne, hh D hD]; rfl
theorem wfi_some {W : List Dg} {s j : Nat} (h : wfi W s = some j) : ∃ A D B, W = A ++ D :: B ∧ A.length = j ∧ wTo D = s ∧ A.filter (fun x => wTo x == s) = [] ∧ A.filter (fun x => wTo x != s) = A ∧ W.eraseIdx j = A ++ B := by
  obtain ⟨-, h2, h3, h4⟩ := zfst_some h
  rw [Nat.zero_add] at h2
  rw [List.getElem?_eq_getElem h2] at h3
  have hh : ∀ D, D ∈ W.take j → (wTo D == s) = false := by
    intro D hD
    obtain ⟨i, hi, e⟩ := List.mem_iff_getElem.mp hD
    rw [List.length_take] at hi
    have := h4 i (by omega) (by omega)
    rw [List.getElem?_eq_getElem (by omega)] at this
    rw [List.getElem_take] at e
    rw [e] at this
    exact this
  refine ⟨W.take j, W[j], W.drop (j + 1), ?_, by rw [List.length_take]; omega, by simpa using h3, List.filter_eq_nil_iff.mpr (fun D hD => by rw [hh D hD]; simp), List.filter_eq_self.mpr (fun D hD => by rw [bne, hh D hD]; rfl), List.eraseIdx_eq_take_drop_succ W j⟩
  rw [List.getElem_cons_drop, List.take_append_drop]
theorem wfi_any {W : List Dg} {s : Nat} : (wfi W s).isSome = W.any (fun x => wTo x == s) := by
  cases h : wfi W s with
  | none =>
    have := (wfi_none h).1
    symm
    rw [Option.isSome_none, List.any_eq_false]
    intro x hx
    exact (List.filter_eq_nil_iff.mp this) x hx
  | some j =>
    obtain ⟨A, D, B, e1, -, e3, -⟩ := wfi_some h
    rw [Option.isSome_some]
    symm
    rw [List.any_eq_true]
    exact ⟨D, by rw [e1]; simp, by simp [e3]⟩
theorem zc_firstWaitingFor {z : St} {q s N : Nat} {W : List Dg} (h : zWq z q W) (hw : ∀ D, D ∈ W → wTo D < 8 ∧ D.1 11 = Int32.ofNat (wTo D)) (hs : s < 8) (hN : 17 < N) : fX8_firstWaitingFor N q (Int32.ofNat s) z = some ((match wfi W s with | some j => Int32.ofNat j | none => (-1 : Int32)), z) := by
  obtain ⟨h1, h2, pw, h3, h4, h5⟩ := h
  unfold fX8_firstWaitingFor wfi
  refine (zlf0 (G := fun n' i => fX8_firstWaitingFor_2 N n' q (Int32.ofNat s) (Int32.ofNat i) z) (p := fun i => match W[i]? with | some D => wTo D == s | none => false) (f := fun i => some (Int32.ofNat i, z)) (r := some ((-1 : Int32), z)) (k := W.length) (by omega) ?_ ?_ ?_).trans ?_
  · intro n' i hi hp
    have hD := h5 i W[i] (List.getElem?_eq_getElem hi)
    have hwD := hw W[i] (List.getElem_mem hi)
    rw [List.getElem?_eq_getElem hi] at hp
    have hp : ¬ wTo W[i] = s := by simpa using hp
    show fX8_firstWaitingFor_2b N (fX8_firstWaitingFor_2 N n') q (Int32.ofNat s) (Int32.ofNat i) z = _
    unfold fX8_firstWaitingFor_2b
    rw [h2, if_neg (by rw [zo_le (by omega) (by omega)]; omega), zkk (by omega) (by omega), zl_e, zoC (by omega), (h3 i (by omega)).1, zd_e, hD.1 11 (by omega) (by omega), hwD.2, if_pos (by rw [zo_eq (by omega) (by omega)]; exact hp), zl_e, zo_i1]
  · intro n' i hi hp
    have hD := h5 i W[i] (List.getElem?_eq_getElem hi)
    have hwD := hw W[i] (List.getElem_mem hi)
    rw [List.getElem?_eq_getElem hi] at hp
    have hp : wTo W[i] = s := by simpa using hp
    show fX8_firstWaitingFor_2b N (fX8_firstWaitingFor_2 N n') q (Int32.ofNat s) (Int32.ofNat i) z = _
    unfold fX8_firstWaitingFor_2b
    rw [h2, if_neg (by rw [zo_le (by omega) (by omega)]; omega), zkk (by omega) (by omega), zl_e, zoC (by omega), (h3 i (by omega)).1, zd_e, hD.1 11 (by omega) (by omega), hwD.2, if_neg (fun y => y (by rw [hp]))]
  · intro n'
    show fX8_firstWaitingFor_2b N (fX8_firstWaitingFor_2 N n') q (Int32.ofNat s) (Int32.ofNat W.length) z = _
    unfold fX8_firstWaitingFor_2b
    rw [h2, if_pos (Int32.le_refl _)]
  · cases zfst (fun i => match W[i]? with | some D => wTo D == s | none => false) W.length 0 <;> rfl
/-- one out of the row -/
theorem zc_takeWaiting9 {q N L : Nat} {tk : Option Nat} (hL : L < 17) : ∀ (m i n : Nat) (z : St), i + m = L → m < n → zgI z 8 12 q = Int32.ofNat (L + 1) →
    ∃ z', fX8_takeWaiting_9 N n q tk (Int32.ofNat i) z = some (tk, z') ∧ zgI z' 8 12 q = Int32.ofNat L ∧ (∀ j, zgQ z' 130 q j = if i ≤ j ∧ j < L then zgQ z 130 q (j + 1) else if j = L then tk else zgQ z 130 q j) ∧ (∀ k j o, ¬ (k = 8 ∧ j = 12 ∧ o = q) → zgI z' k j o = zgI z k j o) ∧ (∀ k o j, ¬ (k = 130 ∧ o = q) → zgQ z' k o j = zgQ z k o j) ∧ (∀ k o j, zgA z' k o j = zgA z k o j) := by
  intro m
  induction m with
  | zero =>
    intro i n z hi hn h12
    obtain ⟨n, rfl⟩ : ∃ n', n = n' + 1 := ⟨n - 1, by omega⟩
    obtain rfl : i = L := by omega
    refine ⟨zsQ (zsI z 8 12 q (Int32.ofNat i)) 130 q i tk, ?_, ?_, fun j => ?_, fun k j o h => ?_, fun k o j h => ?_, fun _ _ _ => rfl⟩
    · show fX8_takeWaiting_9b N (fX8_takeWaiting_9 N n) q tk (Int32.ofNat i) z = _
      unfold fX8_takeWaiting_9b
      rw [h12, zo_i1, if_pos (Int32.le_refl _), zo_s1 (by omega), zl_e, show i + 1 - 1 = i by omega]
      have e : zgI (zsI z 8 12 q (Int32.ofNat i)) 8 12 q = Int32.ofNat i := by rw [zgI_sI, if_pos ⟨rfl, rfl, rfl⟩]
      rw [e, zkk (by omega) (by omega), zoC (by omega)]
      rfl
    · show zgI (zsI z 8 12 q (Int32.ofNat i)) 8 12 q = _
      rw [zgI_sI, if_pos ⟨rfl, rfl, rfl⟩]
    · rw [zgQ_sQ]
      by_cases c : j = i
      · rw [if_pos ⟨rfl, rfl, c⟩, if_neg (by omega), if_pos c]
      · rw [if_neg (fun y => c y.2.2), if_neg (by omega), if_neg c]; rfl
    · show zgI (zsI z 8 12 q (Int32.ofNat i)) k j o = _
      rw [zgI_sI, if_neg h]
    · rw [zgQ_sQ, if_neg (fun y => h ⟨y.1, y.2.1⟩)]; rfl
  | succ m ih =>
    intro i n z hi hn h12
    obtain ⟨n, rfl⟩ : ∃ n', n = n' + 1 := ⟨n - 1, by omega⟩
    obtain ⟨z', r1, r2, r3, r4, r5, r6⟩ := ih (i + 1) n (zsQ z 130 q i (zgQ z 130 q (i + 1))) (by omega) (by omega) h12
    refine ⟨z', ?_, r2, fun j => ?_, r4, fun k o j h => ?_, r6⟩
    · show fX8_takeWaiting_9b N (fX8_takeWaiting_9 N n) q tk (Int32.ofNat i) z = _
      unfold fX8_takeWaiting_9b
      rw [h12, zo_i1, if_neg (by rw [zo_le (by omega) (by omega)]; omega), zkk (by omega) (by omega), zl_e, zoC (by omega), zkk (by omega) (by omega), zl_e, zoC (by omega), zl_e]
      exact r1
    · rw [r3 j]
      by_cases c : i + 1 ≤ j ∧ j < L
      · rw [if_pos c, if_pos (by omega), zgQ_sQ, if_neg (fun y => by have := y.2.2; omega)]
      · rw [if_neg c]
        by_cases c2 : j = L
        · rw [if_pos c2, if_neg (by omega), if_pos c2]
        · rw [if_neg c2, zgQ_sQ]
          by_cases c3 : j = i
          · rw [if_pos ⟨rfl, rfl, c3⟩, if_pos (by omega), c3]
          · rw [if_neg (fun y => c3 y.2.2), if_neg (by omega), if_neg c2]
    · rw [r5 k o j h, zgQ_sQ, if_neg (fun y => h ⟨y.1, y.2.1⟩)]
theorem zc_takeWaiting {z : St} {q k N : Nat} {W : List Dg} (h : zWq z q W) (hk : k < W.length) (hN : 17 < N) : ∃ z' x, fX8_takeWaiting N q (Int32.ofNat k) z = some (some x, z') ∧ 579 + 17 * q ≤ x ∧ x < 596 + 17 * q ∧ zPC 12 z x W[k] ∧ zWq z' q (W.eraseIdx k) ∧ (∀ k j o, ¬ (k = 8 ∧ j = 12 ∧ o = q) → zgI z' k j o = zgI z k j o) ∧ (∀ k o j, ¬ (k = 130 ∧ o = q) → zgQ z' k o j = zgQ z k o j) ∧ (∀ k o j, zgA z' k o j = zgA z k o j) := by
  obtain ⟨h1, h2, pw, h3, h4, h5⟩ := h
  obtain ⟨z', r1, r2, r3, r4, r5, r6⟩ := zc_takeWaiting9 (N := N) (q := q) (tk := some (pw k)) (L := W.length - 1) (by omega) (W.length - 1 - k) k N z (by omega) (by omega) (by rw [h2]; congr 1; omega)
  refine ⟨z', pw k, ?_, (h3 k (by omega)).2.1, (h3 k (by omega)).2.2, h5 k W[k] (List.getElem?_eq_getElem hk), ?_, r4, r5, r6⟩
  · unfold fX8_takeWaiting
    rw [zkk (by omega) (by omega), zl_e, zoC (by omega), (h3 k (by omega)).1]
    exact r1
  · have hl : (W.eraseIdx k).length = W.length - 1 := List.length_eraseIdx_of_lt hk
    refine ⟨by omega, by rw [hl]; exact r2, fun j => if k ≤ j ∧ j < W.length - 1 then pw (j + 1) else if j = W.length - 1 then pw k else pw j, fun j hj => ?_, fun i j hi hj e => ?_, fun i D hD => ?_⟩
    · rw [r3 j]
      by_cases c : k ≤ j ∧ j < W.length - 1
      · simp only [if_pos c]
        exact h3 (j + 1) (by omega)
      · simp only [if_neg c]
        by_cases c2 : j = W.length - 1
        · simp only [if_pos c2]
          exact ⟨trivial, (h3 k (by omega)).2⟩
        · simp only [if_neg c2]
          exact h3 j hj
    · simp only at e
      by_cases c : k ≤ i ∧ i < W.length - 1
      · rw [if_pos c] at e
        by_cases d : k ≤ j ∧ j < W.length - 1
        · rw [if_pos d] at e
          have := h4 _ _ (by omega) (by omega) e
          omega
        · rw [if_neg d] at e
          by_cases d2 : j = W.length - 1
          · rw [if_pos d2] at e
            have := h4 _ _ (by omega) (by omega) e
            omega
          · rw [if_neg d2] at e
            have := h4 _ _ (by omega) (by omega) e
            omega
      · rw [if_neg c] at e
        by_cases c2 : i = W.length - 1
        · rw [if_pos c2] at e
          by_cases d : k ≤ j ∧ j < W.length - 1
          · rw [if_pos d] at e
            have := h4 _ _ (by omega) (by omega) e
            omega
          · rw [if_neg d] at e
            by_cases d2 : j = W.length - 1
            · omega
            · rw [if_neg d2] at e
              have := h4 _ _ (by omega) (by omega) e
              omega
        · rw [if_neg c2] at e
          by_cases d : k ≤ j ∧ j < W.length - 1
          · rw [if_pos d] at e
            have := h4 _ _ (by omega) (by omega) e
            omega
          · rw [if_neg d] at e
            by_cases d2 : j = W.length - 1
            · rw [if_pos d2] at e
              have := h4 _ _ (by omega) (by omega) e
              omega
            · rw [if_neg d2] at e
              exact h4 _ _ (by omega) (by omega) e
    · have hi : i < W.length - 1 := by
        have := (List.getElem?_eq_some_iff.mp hD).1
        omega
      have hcg : ∀ u, zPC 12 z u D → zPC 12 z' u D := fun u hu => zPC_cg (fun j _ => r4 7 j u (by simp)) (fun i => r6 125 u i) hu
      rw [List.getElem?_eraseIdx] at hD
      simp only
      by_cases c : k ≤ i
      · rw [if_pos ⟨c, hi⟩]
        rw [if_neg (by omega)] at hD
        exact hcg _ (h5 (i + 1) D hD)
      · rw [if_neg (by omega), if_neg (by omega)]
        rw [if_pos (by omega)] at hD
        exact hcg _ (h5 i D hD)
/-- one more in the row -/
theorem zc_letWait {z : St} {q s x N : Nat} {W : List Dg} {D : Dg} (h : zWq z q W) (hl : W.length < 17) (hx : x < 579) (hD : zPC 11 z x D) (hDw : zDw D) : ∃ z', fX8_letWait N q x (Int32.ofNat s) z = some (0, z') ∧ zWq z' q (W ++ [dWait D s]) ∧ (∀ k j o, ¬ (k = 8 ∧ j = 12 ∧ o = q) → ¬ (k = 7 ∧ 579 + 17 * q ≤ o ∧ o < 596 + 17 * q) → zgI z' k j o = zgI z k j o) ∧ (∀ o i, ¬ (579 + 17 * q ≤ o ∧ o < 596 + 17 * q) → zgA z' 125 o i = zgA z 125 o i) := by
  obtain ⟨h1, h2, pw, h3, h4, h5⟩ := h
  have h6 := hDw.1
  have hw := h3 W.length hl
  obtain ⟨z1, c1, c2, c3, c4, c5, c6⟩ := zc_copyPart (N := N) (z := z) (x := x) (y := pw W.length) (a := 0) (b := dl D) (Int32.ofNat s) 0 0 (by omega) hD hDw (by omega) hDw.2.2.2.2.2
  have c1 : fX7_copyPart N (pw W.length) x (0 : Int32) (Int32.ofNat (dl D)) z = some (0, z1) := c1
  have f1 : zFr mX7_copyPart z z1 := wX7_copyPart (Nat.and_self _) (zFr_rf _ _) _ _ c1
  let z2 : St := zsI z1 7 11 (pw W.length) (Int32.ofNat s)
  let z3 : St := zsI z2 8 12 q (Int32.ofNat (W.length + 1))
  have e12 : zgI z2 8 12 q = Int32.ofNat W.length := by
    show zgI (zsI z1 7 11 (pw W.length) (Int32.ofNat s)) 8 12 q = _
    rw [zgI_sI, if_neg (by simp), zFr_gI f1 (by decide) (by decide)]; exact h2
  have i7 : ∀ j u, u ≠ pw W.length → zgI z3 7 j u = zgI z 7 j u := fun j u hu => by
    show zgI (zsI (zsI z1 7 11 (pw W.length) (Int32.ofNat s)) 8 12 q (Int32.ofNat (W.length + 1))) 7 j u = _
    rw [zgI_sI, if_neg (by simp), zgI_sI, if_neg (fun y => hu y.2.2)]
    exact c2 u j hu
  have a125 : ∀ u i, u ≠ pw W.length → zgA z3 125 u i = zgA z 125 u i := fun u i hu => c3 u i hu
  refine ⟨z3, ?_, ⟨by simp; omega, ?_, pw, fun i hi => ?_, h4, fun i G hG => ?_⟩, fun k j o n1 n2 => ?_, fun o i n2 => ?_⟩
  · unfold fX8_letWait
    rw [h2, if_pos (by rw [show (17 : Int32) = Int32.ofNat 17 from rfl, zo_lt (by omega) (by omega)]; exact hl), zkk (by omega) (by omega), zl_e, zoC (by omega), hw.1, zd_e, hD.1 6 (by omega) (by omega), h6, c1, zc_e, zl_e]
    show zl (zsI z2 8 12 q (zgI z2 8 12 q + 1)) _ = _
    rw [e12, zo_i1]
    rfl
  · show zgI (zsI z2 8 12 q _) 8 12 q = _
    rw [zgI_sI, if_pos ⟨rfl, rfl, rfl⟩, List.length_append]; rfl
  · show zgQ z1 130 q i = _ ∧ _
    rw [zFr_gQ f1 (by decide)]
    exact h3 i hi
  · rw [List.getElem?_append] at hG
    by_cases c : i < W.length
    · rw [if_pos c] at hG
      have hne : pw i ≠ pw W.length := fun y => by have := h4 _ _ (by omega) (by omega) y; omega
      exact zPC_cg (fun j _ => i7 j _ hne) (fun i => a125 _ i hne) (h5 i G hG)
    · rw [if_neg c] at hG
      have hi0 : i - W.length = 0 := by
        have := (List.getElem?_eq_some_iff.mp hG).1
        simpa using this
      rw [hi0] at hG
      obtain rfl : dWait D s = G := by simpa using hG
      obtain rfl : i = W.length := by omega
      refine ⟨fun j hj h8 => ?_, c5.2⟩
      show zgI (zsI (zsI z1 7 11 (pw W.length) (Int32.ofNat s)) 8 12 q (Int32.ofNat (W.length + 1))) 7 j (pw W.length) = _
      rw [zgI_sI, if_neg (by simp), zgI_sI]
      by_cases c11 : j = 11
      · rw [if_pos ⟨rfl, c11, rfl⟩, c11]; rfl
      · rw [if_neg (fun y => c11 y.2.1)]
        exact c5.1 j (by omega) h8
  · show zgI (zsI (zsI z1 7 11 (pw W.length) (Int32.ofNat s)) 8 12 q (Int32.ofNat (W.length + 1))) k j o = _
    rw [zgI_sI, if_neg n1, zgI_sI, if_neg (fun y => n2 ⟨y.1, by rw [y.2.2]; exact hw.2⟩)]
    by_cases k7 : k = 7
    · subst k7
      exact c2 o j (fun y => n2 ⟨rfl, by rw [y]; exact hw.2⟩)
    · exact c6 k j o k7
  · exact a125 o i (fun y => n2 (by rw [y]; exact hw.2))
