/-! the place of an asking in its row -/
theorem aix_of {A : List (Nat × Nat)} {k : Nat} (hn : (A.map (fun a => a.1)).Nodup) (hk : k < A.length) : aix A A[k].1 = some k := by
  cases e : aix A A[k].1 with
  | none =>
    have := aix_none e
    rw [List.any_eq_false] at this
    exact absurd (by simp) (this A[k] (List.getElem_mem hk))
  | some j =>
    obtain ⟨-, h2, h3, h4⟩ := zfst_some e
    rw [Nat.zero_add] at h2
    rw [List.getElem?_eq_getElem h2] at h3
    have h3 : A[j].1 = A[k].1 := by simpa using h3
    have hj : j < (A.map (fun a => a.1)).length := by simpa using h2
    have hk' : k < (A.map (fun a => a.1)).length := by simpa using hk
    have : (A.map (fun a => a.1))[j] = (A.map (fun a => a.1))[k] := by simpa using h3
    have pw := List.pairwise_iff_getElem.mp hn
    have : j = k := by
      rcases Nat.lt_trichotomy j k with c | c | c
      · exact absurd this (pw j k hj hk' c)
      · exact c
      · exact absurd this.symm (pw k j hk' hj c)
    rw [this]
theorem zm_endAt {w : St} {T : Tp} {E : Ev} {g : Sg} {q k N : Nat} (hA : zAm w T g) (hAw : zAw T E g) (hq : tv T q) (hk : k < (gA g q).length) (hN : 8 < N) : ∃ w', fX18_endAsking N q (Int32.ofNat k) w = some (0, w') ∧ zAm w' T (sA g (zupd (gA g) q ((gA g q).filter (fun a => a.1 != (gA g q)[k].1)))) ∧ (gA g q).eraseIdx k = (gA g q).filter (fun a => a.1 != (gA g q)[k].1) ∧ (∀ k j o, ¬ (k = 18 ∧ j = 9) → zgI w' k j o = zgI w k j o) ∧ (∀ k o j, k ≠ 168 → k ≠ 169 → zgA w' k o j = zgA w k o j) ∧ (∀ k o j, zgL w' k o j = zgL w k o j) := by
  have hx := aix_of (hAw q hq).1 hk
  obtain ⟨w', r1, r2, r3, r4, r5⟩ := zm_endAsking (N := N) hA hAw hq hx hN
  exact ⟨w', r1, r2, (aix_some (hAw q hq).1 hx).2.2, r3, r4, r5⟩
