/-! the model's pools: what is held how often, what is free -/
/-- a stack of free numbers: those below n of which p is so -/
def zFs (free : Nat → Int32) (fc : Int32) (n : Nat) (p : Nat → Prop) : Prop := ∃ F : List Nat, F.Nodup ∧ fc = Int32.ofNat F.length ∧ (∀ i x, F[i]? = some x → free i = Int32.ofNat x) ∧ ∀ x, x ∈ F ↔ x < n ∧ p x
theorem zFs_le {free : Nat → Int32} {fc : Int32} {n : Nat} {p : Nat → Prop} {F : List Nat} (h1 : F.Nodup) (h2 : ∀ x, x ∈ F ↔ x < n ∧ p x) : F.length ≤ n := by
  have : F ⊆ List.range n := fun x hx => List.mem_range.mpr ((h2 x).mp hx).1
  have := zlen_sub h1 (fun x hx => this hx)
  simpa using this
/-- one is taken -/
theorem zFs_pop {free : Nat → Int32} {fc : Int32} {n : Nat} {p : Nat → Prop} (h : zFs free fc n p) (hne : ∃ x, x < n ∧ p x) (hn : n < 2147483648) : ∃ k x, k < n ∧ fc - 1 = Int32.ofNat k ∧ free k = Int32.ofNat x ∧ x < n ∧ p x ∧ ∀ (p' : Nat → Prop), (∀ y, p' y ↔ p y ∧ y ≠ x) → zFs free (Int32.ofNat k) n p' := by
  obtain ⟨F, h1, h2, h3, h4⟩ := h
  obtain ⟨y, hy, hp⟩ := hne
  have hF : F ≠ [] := by
    intro e
    have := (h4 y).mpr ⟨hy, hp⟩
    rw [e] at this; cases this
  obtain ⟨F', x, rfl⟩ : ∃ F' x, F = F' ++ [x] := ⟨F.dropLast, F.getLast hF, (List.dropLast_concat_getLast hF).symm⟩
  have hl := zFs_le (free := free) (fc := fc) h1 h4
  simp only [List.length_append, List.length_cons, List.length_nil] at hl h2
  have hx := (h4 x).mp (by simp)
  refine ⟨F'.length, x, by omega, ?_, h3 F'.length x (by simp), hx.1, hx.2, fun p' hp' => ⟨F', (List.nodup_append.mp h1).1, rfl, fun i y hi => h3 i y (by rw [List.getElem?_append_left (List.getElem?_eq_some_iff.mp hi).1]; exact hi), fun y => ?_⟩⟩
  · rw [h2, zo_s1 (by omega)]; rfl
  · rw [hp' y]
    have hxF : x ∉ F' := fun m => (List.nodup_append.mp h1).2.2 x m x (by simp) rfl
    constructor
    · intro hm
      have := (h4 y).mp (List.mem_append_left _ hm)
      exact ⟨this.1, this.2, fun e => hxF (by rw [← e]; exact hm)⟩
    · rintro ⟨a, b, c⟩
      have := (h4 y).mpr ⟨a, b⟩
      rcases List.mem_append.mp this with m | m
      · exact m
      · exact absurd (by simpa using m) c
/-- one is given back -/
theorem zFs_push {free free' : Nat → Int32} {fc : Int32} {n x : Nat} {p p' : Nat → Prop} (h : zFs free fc n p) (hx : x < n) (hnp : ¬ p x) (hp' : ∀ y, p' y ↔ p y ∨ y = x) (hf : ∀ k, fc = Int32.ofNat k → k < n → ∀ i, free' i = if i = k then Int32.ofNat x else free i) (hn : n < 2147483648) : ∃ k, k < n ∧ fc = Int32.ofNat k ∧ zFs free' (Int32.ofNat (k + 1)) n p' := by
  obtain ⟨F, h1, h2, h3, h4⟩ := h
  have hxF : x ∉ F := fun m => hnp ((h4 x).mp m).2
  have hnd : (F ++ [x]).Nodup := List.nodup_append.mpr ⟨h1, by simp, fun a ha b hb e => by
    obtain rfl : b = x := by simpa using hb
    exact hxF (by rw [← e]; exact ha)⟩
  have hm : ∀ y, y ∈ F ++ [x] ↔ y < n ∧ p' y := by
    intro y
    rw [hp' y, List.mem_append, h4 y, List.mem_singleton]
    constructor
    · rintro (⟨a, b⟩ | rfl)
      · exact ⟨a, Or.inl b⟩
      · exact ⟨hx, Or.inr rfl⟩
    · rintro ⟨a, b | rfl⟩
      · exact Or.inl ⟨a, b⟩
      · exact Or.inr rfl
  have hl := zFs_le (free := free) (fc := fc) hnd hm
  simp only [List.length_append, List.length_cons, List.length_nil] at hl
  refine ⟨F.length, by omega, h2, F ++ [x], hnd, by simp, fun i y hi => ?_, hm⟩
  rw [hf F.length h2 (by omega) i]
  rw [List.getElem?_append] at hi
  by_cases c : i < F.length
  · rw [if_pos c] at hi
    rw [if_neg (by omega)]
    exact h3 i y hi
  · rw [if_neg c] at hi
    have hi0 : i - F.length = 0 := by
      have := (List.getElem?_eq_some_iff.mp hi).1
      simpa using this
    rw [hi0] at hi
    obtain rfl : x = y := by simpa using hi
    rw [if_pos (by omega)]
/-- a pool whose places are held some times -/
def zRc (held free : Nat → Int32) (fc : Int32) (n : Nat) (L : List Nat) : Prop := (∀ x, x ∈ L → x < n) ∧ (∀ x, x < n → held x = Int32.ofNat (L.count x)) ∧ zFs free fc n (fun x => L.count x = 0)
theorem zRc_perm {held free : Nat → Int32} {fc : Int32} {n : Nat} {L L' : List Nat} (hp : L.Perm L') (h : zRc held free fc n L) : zRc held free fc n L' := by
  obtain ⟨h1, h2, h3⟩ := h
  refine ⟨fun x hx => h1 x (hp.mem_iff.mpr hx), fun x hx => by rw [h2 x hx, hp.count_eq], ?_⟩
  obtain ⟨F, a, b, c, d⟩ := h3
  exact ⟨F, a, b, c, fun x => by rw [d x]; dsimp only; rw [hp.count_eq]⟩
theorem zRc_free {held free : Nat → Int32} {fc : Int32} {n : Nat} {L : List Nat} (h : zRc held free fc n L) (hl : L.length < n) : ∃ x, x < n ∧ L.count x = 0 := by
  apply Classical.byContradiction
  intro hn
  have hs : List.range n ⊆ L := by
    intro x hx
    apply Classical.byContradiction
    intro hx2
    exact hn ⟨x, List.mem_range.mp hx, List.count_eq_zero.mpr hx2⟩
  have := zlen_sub List.nodup_range (fun x hx => hs hx)
  simp at this
  omega
/-- held once more -/
theorem zRc_hold {held held' free : Nat → Int32} {fc : Int32} {n x : Nat} {L : List Nat} (h : zRc held free fc n L) (hx : x ∈ L) (hh : ∀ y, held' y = if y = x then held x + 1 else held y) : zRc held' free fc n (x :: L) := by
  obtain ⟨h1, h2, h3⟩ := h
  refine ⟨fun y hy => ?_, fun y hy => ?_, ?_⟩
  · rcases List.mem_cons.mp hy with rfl | hy
    · exact h1 _ hx
    · exact h1 y hy
  · rw [hh y]
    by_cases c : y = x
    · subst c
      rw [if_pos rfl, h2 y hy, zo_i1, List.count_cons_self]
    · rw [if_neg c, h2 y hy, List.count_cons_of_ne (fun e => c e.symm)]
  · obtain ⟨F, a, b, d, e⟩ := h3
    refine ⟨F, a, b, d, fun y => ?_⟩
    rw [e y]
    dsimp only
    by_cases c : y = x
    · subst c
      rw [List.count_cons_self]
      have : 0 < L.count y := List.count_pos_iff.mpr hx
      constructor
      · rintro ⟨-, q⟩; omega
      · rintro ⟨-, q⟩; omega
    · rw [List.count_cons_of_ne (fun e => c e.symm)]
/-- held once less, and not for the last time -/
theorem zRc_drop {held held' free : Nat → Int32} {fc : Int32} {n x : Nat} {L : List Nat} (h : zRc held free fc n (x :: L)) (hx : x ∈ L) (hh : ∀ y, held' y = if y = x then held x - 1 else held y) : zRc held' free fc n L := by
  obtain ⟨h1, h2, h3⟩ := h
  refine ⟨fun y hy => h1 y (List.mem_cons_of_mem _ hy), fun y hy => ?_, ?_⟩
  · rw [hh y]
    by_cases c : y = x
    · subst c
      rw [if_pos rfl, h2 y hy, List.count_cons_self, zo_s1 (by omega)]; rfl
    · rw [if_neg c, h2 y hy, List.count_cons_of_ne (fun e => c e.symm)]
  · obtain ⟨F, a, b, d, e⟩ := h3
    refine ⟨F, a, b, d, fun y => ?_⟩
    rw [e y]
    dsimp only
    by_cases c : y = x
    · subst c
      rw [List.count_cons_self]
      have : 0 < L.count y := List.count_pos_iff.mpr hx
      constructor
      · rintro ⟨-, q⟩; omega
      · rintro ⟨-, q⟩; omega
    · rw [List.count_cons_of_ne (fun e => c e.symm)]
/-- held no more: free again -/
theorem zRc_free1 {held held' free free' : Nat → Int32} {fc : Int32} {n x : Nat} {L : List Nat} (h : zRc held free fc n (x :: L)) (hx : x ∉ L) (hh : ∀ y, held' y = if y = x then held x - 1 else held y) (hn : n < 2147483648) (hf : ∀ k, fc = Int32.ofNat k → k < n → ∀ i, free' i = if i = k then Int32.ofNat x else free i) : ∃ k, k < n ∧ fc = Int32.ofNat k ∧ zRc held' free' (Int32.ofNat (k + 1)) n L := by
  obtain ⟨h1, h2, h3⟩ := h
  have hxn := h1 x List.mem_cons_self
  obtain ⟨k, k1, k2, k3⟩ := zFs_push (p' := fun y => L.count y = 0) h3 hxn (by rw [List.count_cons_self]; omega) (fun y => by
    by_cases c : y = x
    · subst c
      have : L.count y = 0 := List.count_eq_zero.mpr hx
      constructor
      · intro _; exact Or.inr rfl
      · intro _; exact this
    · rw [List.count_cons_of_ne (fun e => c e.symm)]
      constructor
      · intro q; exact Or.inl q
      · rintro (q | q)
        · exact q
        · exact absurd q c) hf hn
  refine ⟨k, k1, k2, fun y hy => h1 y (List.mem_cons_of_mem _ hy), fun y hy => ?_, k3⟩
  rw [hh y]
  by_cases c : y = x
  · subst c
    rw [if_pos rfl, h2 y hy, List.count_cons_self, zo_s1 (by omega)]; rfl
  · rw [if_neg c, h2 y hy, List.count_cons_of_ne (fun e => c e.symm)]
/-- a new one, held once -/
theorem zRc_new {held free : Nat → Int32} {fc : Int32} {n : Nat} {L : List Nat} (h : zRc held free fc n L) (hl : L.length < n) (hn : n < 2147483648) : ∃ k x, k < n ∧ fc - 1 = Int32.ofNat k ∧ free k = Int32.ofNat x ∧ x < n ∧ x ∉ L ∧ ∀ held' : Nat → Int32, (∀ y, held' y = if y = x then 1 else held y) → zRc held' free (Int32.ofNat k) n (x :: L) := by
  have hne := zRc_free h hl
  obtain ⟨h1, h2, h3⟩ := h
  obtain ⟨k, x, k1, k2, k3, k4, k5, k6⟩ := zFs_pop h3 hne hn
  have hxL : x ∉ L := List.count_eq_zero.mp k5
  refine ⟨k, x, k1, k2, k3, k4, hxL, fun held' hh => ⟨fun y hy => ?_, fun y hy => ?_, k6 _ (fun y => ?_)⟩⟩
  · rcases List.mem_cons.mp hy with rfl | hy
    · exact k4
    · exact h1 y hy
  · rw [hh y]
    by_cases c : y = x
    · subst c
      rw [if_pos rfl, List.count_cons_self, k5]; rfl
    · rw [if_neg c, h2 y hy, List.count_cons_of_ne (fun e => c e.symm)]
  · by_cases c : y = x
    · subst c
      rw [List.count_cons_self]
      constructor
      · intro q; omega
      · rintro ⟨-, q⟩; exact absurd rfl q
    · rw [List.count_cons_of_ne (fun e => c e.symm)]
      exact ⟨fun q => ⟨q, c⟩, fun q => q.1⟩
