/-! the class remembers its askings -/
theorem zc_remember {z : St} {T : Tp} {E : Ev} {g : Sg} {X : List Nat} {q N : Nat} (h : zNC z T E g X) (hg : zGc T E g) (hq : tv T q) (hN : 8 < N) : ∃ z', fX8_rememberAsked N q z = some (Int32.ofNat (gA g q).length, z') ∧ zNC z' T E g X ∧ (∀ i a, (gA g q)[i]? = some a → zgA z' 129 q i = Int32.ofNat a.1) ∧ zFr 0x2000000000000000000000000000000000000000000000000000000000000000000000000000000000000000000000000000000000000000000000000000000000000000000000000000000000000000000000000000000000000000000000000000000000000000000000000000000000000000000000000000000000000000000000000000000000000000000000000000000000000000000000000000000000000000 z z' ∧ ∀ k j o, zgI z' k j o = zgI z k j o := by
  have hl := zAw_len hg.2.1 hq
  obtain ⟨b9, br, -⟩ := h.2.2.2.2.2.2.1 q hq
  have loop : ∀ (m i n : Nat) (z' : St), i + m = (gA g q).length → m < n → zFr 0x2000000000000000000000000000000000000000000000000000000000000000000000000000000000000000000000000000000000000000000000000000000000000000000000000000000000000000000000000000000000000000000000000000000000000000000000000000000000000000000000000000000000000000000000000000000000000000000000000000000000000000000000000000000000000000 z z' → (∀ k j o, zgI z' k j o = zgI z k j o) → (∀ k a, k < i → (gA g q)[k]? = some a → zgA z' 129 q k = Int32.ofNat a.1) → ∃ z2, fX8_rememberAsked_2 N n q (Int32.ofNat i) z' = some (Int32.ofNat (gA g q).length, z2) ∧ zFr 0x2000000000000000000000000000000000000000000000000000000000000000000000000000000000000000000000000000000000000000000000000000000000000000000000000000000000000000000000000000000000000000000000000000000000000000000000000000000000000000000000000000000000000000000000000000000000000000000000000000000000000000000000000000000000000000 z z2 ∧ (∀ k j o, zgI z2 k j o = zgI z k j o) ∧ ∀ k a, (gA g q)[k]? = some a → zgA z2 129 q k = Int32.ofNat a.1 := by
    intro m
    induction m with
    | zero =>
      intro i n z' hi hn f hI hk
      obtain ⟨n, rfl⟩ : ∃ k, n = k + 1 := ⟨n - 1, by omega⟩
      have c9 : zgI z' 8 9 q = Int32.ofNat (gA g q).length := (zFr_gI f (by decide) (by decide) q).trans b9
      refine ⟨z', ?_, f, hI, fun k a ha => hk k a (by have := (List.getElem?_eq_some_iff.mp ha).1; omega) ha⟩
      show fX8_rememberAsked_2b N (fX8_rememberAsked_2 N n) q (Int32.ofNat i) z' = _
      unfold fX8_rememberAsked_2b
      rw [c9, if_pos (by rw [zo_le (by omega) (by omega)]; omega)]
    | succ m ih =>
      intro i n z' hi hn f hI hk
      obtain ⟨n, rfl⟩ : ∃ k, n = k + 1 := ⟨n - 1, by omega⟩
      have c9 : zgI z' 8 9 q = Int32.ofNat (gA g q).length := (zFr_gI f (by decide) (by decide) q).trans b9
      have ha : (gA g q)[i]? = some (gA g q)[i] := List.getElem?_eq_getElem (by omega)
      have c128 : zgA z' 128 q i = Int32.ofNat (gA g q)[i].1 := (zFr_gA f (by decide) q i).trans (br i _ ha)
      obtain ⟨z2, r1, r2, rI, r3⟩ := ih (i + 1) n (zsA z' 129 q i (Int32.ofNat (gA g q)[i].1)) (by omega) (by omega) (zFr_A f (by decide)) hI (fun k a hk' ha' => by
        rw [zgA_sA]
        by_cases e : k = i
        · subst e
          rw [if_pos ⟨rfl, rfl, rfl⟩]
          rw [ha] at ha'
          rw [Option.some.inj ha']
        · rw [if_neg (fun y => e y.2.2)]; exact hk k a (by omega) ha')
      refine ⟨z2, ?_, r2, rI, r3⟩
      show fX8_rememberAsked_2b N (fX8_rememberAsked_2 N n) q (Int32.ofNat i) z' = _
      unfold fX8_rememberAsked_2b
      rw [c9, if_neg (by rw [zo_le (by omega) (by omega)]; omega), zkk (by omega) (by omega), zkk (by omega) (by omega), zoC (by omega), c128, zl_e, zl_e, zo_i1]
      exact r1
  obtain ⟨z2, r1, r2, rI, r3⟩ := loop (gA g q).length 0 N z (by omega) (by omega) (zFr_rf _ _) (fun _ _ _ => rfl) (fun k a hk => by omega)
  refine ⟨z2, r1, zNC_cg r2 (by decide) (fun u _ _ _ => ⟨fun j => rI 7 j u, fun i => zFr_gA r2 (by decide) u i⟩) (fun c => zFr_gA r2 (by decide) c 5) h, r3, r2, rI⟩
