/-! what a router would tell, as a list -/
def eMs (e : En) : Nat := e.2.1 * 32 + e.1
/-- the keys of friends, rising -/
def fks (H : List Nb) : List Nat := (H.filter (fun n => n.2.2.1)).map (fun n => n.1)
def dN (T : Tp) (E : Ev) (tl : Nat → Nat) (b k : Nat) : List En := (List.range k).flatMap (fun n => match tpo T b n with | some p => if eU E n = true then [(0, n, tl p)] else [] | none => [])
def dFr (T : Tp) (tl : Nat → Nat) (F : List Nat) (p : Nat) : List En := (F.filter (fun x => x / 16 == ti T p)).map (fun x => (x % 16 + 1, p / 8, tl p))
def dF (T : Tp) (tl : Nat → Nat) (b : Nat) (F : List Nat) (k : Nat) : List En := (List.range k).flatMap (fun n => match tpo T b n with | some p => dFr T tl F p | none => [])
def rDr (T : Tp) (E : Ev) (tl : Nat → Nat) (b : Nat) (F : List Nat) : List En := dN T E tl b (tn T) ++ dF T tl b F (tn T)
theorem dN_s (T : Tp) (E : Ev) (tl : Nat → Nat) (b k : Nat) : dN T E tl b (k + 1) = dN T E tl b k ++ (match tpo T b k with | some p => if eU E k = true then [(0, k, tl p)] else [] | none => []) := by
  unfold dN
  rw [List.range_succ, List.flatMap_append, List.flatMap_cons, List.flatMap_nil, List.append_nil]
theorem dF_s (T : Tp) (tl : Nat → Nat) (b : Nat) (F : List Nat) (k : Nat) : dF T tl b F (k + 1) = dF T tl b F k ++ (match tpo T b k with | some p => dFr T tl F p | none => []) := by
  unfold dF
  rw [List.range_succ, List.flatMap_append, List.flatMap_cons, List.flatMap_nil, List.append_nil]
theorem dN_mem {T : Tp} {E : Ev} {tl : Nat → Nat} {b : Nat} {e : En} {k : Nat} : e ∈ dN T E tl b k ↔ ∃ n p, n < k ∧ tpo T b n = some p ∧ eU E n = true ∧ e = (0, n, tl p) := by
  unfold dN
  rw [List.mem_flatMap]
  constructor
  · rintro ⟨n, hn, h⟩
    cases e1 : tpo T b n with
    | none => rw [e1] at h; cases h
    | some p =>
      rw [e1] at h
      have h : e ∈ (if eU E n = true then [((0, n, tl p) : En)] else []) := h
      by_cases c : eU E n = true
      · rw [if_pos c] at h
        exact ⟨n, p, List.mem_range.mp hn, e1, c, by simpa using h⟩
      · rw [if_neg c] at h; cases h
  · rintro ⟨n, p, h1, h2, h3, h4⟩
    refine ⟨n, List.mem_range.mpr h1, ?_⟩
    rw [h2]
    show e ∈ (if eU E n = true then [((0, n, tl p) : En)] else [])
    rw [if_pos h3, h4]; exact List.mem_singleton.mpr rfl
theorem dFr_mem {T : Tp} {tl : Nat → Nat} {F : List Nat} {p : Nat} {e : En} : e ∈ dFr T tl F p ↔ ∃ x, x ∈ F ∧ x / 16 = ti T p ∧ e = (x % 16 + 1, p / 8, tl p) := by
  unfold dFr
  rw [List.mem_map]
  constructor
  · rintro ⟨x, hx, h⟩
    obtain ⟨h1, h2⟩ := List.mem_filter.mp hx
    exact ⟨x, h1, by simpa using h2, h.symm⟩
  · rintro ⟨x, h1, h2, h3⟩
    exact ⟨x, List.mem_filter.mpr ⟨h1, by simpa using h2⟩, h3.symm⟩
theorem dF_mem {T : Tp} {tl : Nat → Nat} {b : Nat} {F : List Nat} {e : En} {k : Nat} : e ∈ dF T tl b F k ↔ ∃ n p x, n < k ∧ tpo T b n = some p ∧ x ∈ F ∧ x / 16 = ti T p ∧ e = (x % 16 + 1, p / 8, tl p) := by
  unfold dF
  rw [List.mem_flatMap]
  constructor
  · rintro ⟨n, hn, h⟩
    cases e1 : tpo T b n with
    | none => rw [e1] at h; cases h
    | some p =>
      rw [e1] at h
      obtain ⟨x, x1, x2, x3⟩ := dFr_mem.mp (show e ∈ dFr T tl F p from h)
      exact ⟨n, p, x, List.mem_range.mp hn, e1, x1, x2, x3⟩
  · rintro ⟨n, p, x, h1, h2, h3, h4, h5⟩
    refine ⟨n, List.mem_range.mpr h1, ?_⟩
    rw [h2]
    exact dFr_mem.mpr ⟨x, h3, h4, h5⟩
theorem dN_pw (T : Tp) (E : Ev) (tl : Nat → Nat) (b : Nat) : ∀ k, (dN T E tl b k).Pairwise (fun x y => eMs x < eMs y) := by
  intro k
  induction k with
  | zero => exact List.Pairwise.nil
  | succ k ih =>
    rw [dN_s]
    cases e1 : tpo T b k with
    | none => show (dN T E tl b k ++ []).Pairwise _; rw [List.append_nil]; exact ih
    | some p =>
      show (dN T E tl b k ++ (if eU E k = true then [((0, k, tl p) : En)] else [])).Pairwise _
      by_cases c : eU E k = true
      · rw [if_pos c]
        refine List.pairwise_append.mpr ⟨ih, List.pairwise_singleton _ _, fun x hx y hy => ?_⟩
        obtain ⟨n, q, n1, -, -, n4⟩ := dN_mem.mp hx
        rw [List.mem_singleton.mp hy, n4]
        show n * 32 + 0 < k * 32 + 0
        omega
      · rw [if_neg c, List.append_nil]; exact ih
theorem dFr_pw {T : Tp} {tl : Nat → Nat} {F : List Nat} {p : Nat} (hF : F.Pairwise (fun x y => x < y)) : (dFr T tl F p).Pairwise (fun x y => eMs x < eMs y) := by
  unfold dFr
  rw [List.pairwise_map]
  have h : (F.filter (fun x => x / 16 == ti T p)).Pairwise (fun x y => x < y) := List.Pairwise.filter _ hF
  refine List.Pairwise.imp_of_mem (fun {x y} hx hy hxy => ?_) h
  have h1 : x / 16 = ti T p := by simpa using (List.mem_filter.mp hx).2
  have h2 : y / 16 = ti T p := by simpa using (List.mem_filter.mp hy).2
  show p / 8 * 32 + (x % 16 + 1) < p / 8 * 32 + (y % 16 + 1)
  omega
theorem dF_pw {T : Tp} {tl : Nat → Nat} {b : Nat} {F : List Nat} (hc : zTc T) (hb : b < tb T) (hF : F.Pairwise (fun x y => x < y)) : ∀ k, (dF T tl b F k).Pairwise (fun x y => eMs x < eMs y) := by
  intro k
  induction k with
  | zero => exact List.Pairwise.nil
  | succ k ih =>
    rw [dF_s]
    cases e1 : tpo T b k with
    | none => show (dF T tl b F k ++ []).Pairwise _; rw [List.append_nil]; exact ih
    | some p =>
      refine List.pairwise_append.mpr ⟨ih, dFr_pw hF, fun x hx y hy => ?_⟩
      obtain ⟨n, q, u, n1, n2, -, -, n5⟩ := dF_mem.mp hx
      obtain ⟨v, -, -, v3⟩ := dFr_mem.mp (show y ∈ dFr T tl F p from hy)
      have a1 := (tpo_some hc hb n2).2.2.1
      have a2 := (tpo_some hc hb e1).2.2.1
      rw [n5, v3]
      show q / 8 * 32 + (u % 16 + 1) < p / 8 * 32 + (v % 16 + 1)
      omega
/-- what is sorted and has the same members is the same -/
theorem eMs_ext : ∀ {A B : List En}, A.Pairwise (fun x y => eMs x < eMs y) → B.Pairwise (fun x y => eMs x < eMs y) → (∀ e, e ∈ A ↔ e ∈ B) → A = B := by
  intro A
  induction A with
  | nil =>
    intro B _ _ h
    cases B with
    | nil => rfl
    | cons b B => exact absurd ((h b).mpr List.mem_cons_self) (by simp)
  | cons a A ih =>
    intro B hA hB h
    cases B with
    | nil => exact absurd ((h a).mp List.mem_cons_self) (by simp)
    | cons b B =>
      obtain ⟨a1, a2⟩ := List.pairwise_cons.mp hA
      obtain ⟨b1, b2⟩ := List.pairwise_cons.mp hB
      have e : a = b := by
        rcases List.mem_cons.mp ((h a).mp List.mem_cons_self) with y | y
        · exact y
        · rcases List.mem_cons.mp ((h b).mpr List.mem_cons_self) with x | x
          · exact x.symm
          · have := a1 b x
            have := b1 a y
            omega
      subst e
      rw [ih a2 b2 (fun e => ?_)]
      constructor
      · intro y
        rcases List.mem_cons.mp ((h e).mp (List.mem_cons_of_mem _ y)) with x | x
        · rw [x] at y; exact absurd (a1 a y) (Nat.lt_irrefl _)
        · exact x
      · intro y
        rcases List.mem_cons.mp ((h e).mpr (List.mem_cons_of_mem _ y)) with x | x
        · rw [x] at y; exact absurd (b1 a y) (Nat.lt_irrefl _)
        · exact x
theorem nat_ext : ∀ {A B : List Nat}, A.Pairwise (fun x y => x < y) → B.Pairwise (fun x y => x < y) → (∀ e, e ∈ A ↔ e ∈ B) → A = B := by
  intro A
  induction A with
  | nil =>
    intro B _ _ h
    cases B with
    | nil => rfl
    | cons b B => exact absurd ((h b).mpr List.mem_cons_self) (by simp)
  | cons a A ih =>
    intro B hA hB h
    cases B with
    | nil => exact absurd ((h a).mp List.mem_cons_self) (by simp)
    | cons b B =>
      obtain ⟨a1, a2⟩ := List.pairwise_cons.mp hA
      obtain ⟨b1, b2⟩ := List.pairwise_cons.mp hB
      have e : a = b := by
        rcases List.mem_cons.mp ((h a).mp List.mem_cons_self) with y | y
        · exact y
        · rcases List.mem_cons.mp ((h b).mpr List.mem_cons_self) with x | x
          · exact x.symm
          · have := a1 b x
            have := b1 a y
            omega
      subst e
      rw [ih a2 b2 (fun e => ?_)]
      constructor
      · intro y
        rcases List.mem_cons.mp ((h e).mp (List.mem_cons_of_mem _ y)) with x | x
        · rw [x] at y; exact absurd (a1 a y) (Nat.lt_irrefl _)
        · exact x
      · intro y
        rcases List.mem_cons.mp ((h e).mpr (List.mem_cons_of_mem _ y)) with x | x
        · rw [x] at y; exact absurd (b1 a y) (Nat.lt_irrefl _)
        · exact x
theorem fks_pw {H : List Nb} (hp : H.Pairwise (fun a b => a.1 < b.1)) : (fks H).Pairwise (fun x y => x < y) := by
  unfold fks
  rw [List.pairwise_map]
  exact List.Pairwise.filter _ hp
theorem fks_mem {H : List Nb} (hp : H.Pairwise (fun a b => a.1 < b.1)) {key : Nat} : key ∈ fks H ↔ fn H key = true := by
  unfold fks
  rw [List.mem_map]
  constructor
  · rintro ⟨n, hn, e⟩
    obtain ⟨h1, h2⟩ := List.mem_filter.mp hn
    rw [← e, fn_mem hp h1]; exact h2
  · intro h
    unfold fn at h
    cases e : hAt H key with
    | none => rw [e] at h; cases h
    | some n =>
      rw [e] at h
      obtain ⟨h1, h2⟩ := hAt_some e
      exact ⟨n, List.mem_filter.mpr ⟨h1, h⟩, h2⟩
theorem fks_cg {H H' : List Nb} (hp : H.Pairwise (fun a b => a.1 < b.1)) (hp' : H'.Pairwise (fun a b => a.1 < b.1)) (h : ∀ key, fn H' key = fn H key) : fks H' = fks H := nat_ext (fks_pw hp') (fks_pw hp) (fun key => by rw [fks_mem hp', fks_mem hp, h key])
theorem fks_sub {H : List Nb} {x : Nat} (h : x ∈ fks H) : ∃ n, n ∈ H ∧ n.1 = x ∧ n.2.2.1 = true := by
  unfold fks at h
  obtain ⟨n, hn, e⟩ := List.mem_map.mp h
  obtain ⟨h1, h2⟩ := List.mem_filter.mp hn
  exact ⟨n, h1, e, h2⟩
theorem fks_len (H : List Nb) : (fks H).length ≤ H.length := by
  unfold fks
  rw [List.length_map]
  exact List.length_filter_le _ _
theorem fks_app (A B : List Nb) : fks (A ++ B) = fks A ++ fks B := by
  unfold fks
  rw [List.filter_append, List.map_append]
theorem dFr_app (T : Tp) (tl : Nat → Nat) (A B : List Nat) (p : Nat) : dFr T tl (A ++ B) p = dFr T tl A p ++ dFr T tl B p := by
  unfold dFr
  rw [List.filter_append, List.map_append]
theorem eMs_nd {A : List En} (h : A.Pairwise (fun x y => eMs x < eMs y)) : A.Nodup := h.imp (fun {a b} hab e => by rw [e] at hab; exact Nat.lt_irrefl _ hab)
theorem dN_len {T : Tp} {E : Ev} {tl : Nat → Nat} {b : Nat} (hc : zTc T) (hb : b < tb T) (k : Nat) : (dN T E tl b k).length ≤ 6 := by
  have hn : ((dN T E tl b k).map (fun e => e.2.1)).Nodup := by
    have : ((dN T E tl b k).map (fun e => e.2.1)).Pairwise (fun x y => x < y) := by
      rw [List.pairwise_map]
      refine List.Pairwise.imp_of_mem (fun {x y} hx hy hxy => ?_) (dN_pw T E tl b k)
      obtain ⟨n, q, -, -, -, n4⟩ := dN_mem.mp hx
      obtain ⟨n', q', -, -, -, n4'⟩ := dN_mem.mp hy
      rw [n4, n4'] at hxy ⊢
      have hxy : n * 32 + 0 < n' * 32 + 0 := hxy
      show n < n'
      omega
    exact this.imp (fun {a b} hab e => by omega)
  have hs : ∀ x, x ∈ (dN T E tl b k).map (fun e => e.2.1) → x ∈ (List.range (tp T b)).map (fun i => tq T b i / 8) := fun x hx => by
    obtain ⟨e, he, ex⟩ := List.mem_map.mp hx
    obtain ⟨n, q, -, n2, -, n4⟩ := dN_mem.mp he
    obtain ⟨-, -, a3, a4, a5⟩ := tpo_some hc hb n2
    rw [← ex, n4]
    exact List.mem_map.mpr ⟨ti T q, List.mem_range.mpr a4, by rw [a5]; exact a3⟩
  have := zlen_sub hn hs
  rw [List.length_map, List.length_map, List.length_range] at this
  exact Nat.le_trans this (tp_le hc hb)
theorem dF_len {T : Tp} {tl : Nat → Nat} {b : Nat} {F : List Nat} (hc : zTc T) (hb : b < tb T) (hF : F.Pairwise (fun x y => x < y)) (k : Nat) : (dF T tl b F k).length ≤ F.length := by
  let f : En → Nat := fun e => match tpo T b e.2.1 with | some p => 16 * ti T p + (e.1 - 1) | none => 0
  have hf : ∀ e, e ∈ dF T tl b F k → ∃ p x, x ∈ F ∧ x / 16 = ti T p ∧ e = (x % 16 + 1, p / 8, tl p) ∧ tq T b (ti T p) = p ∧ f e = x := fun e he => by
    obtain ⟨n, p, x, h1, h2, h3, h4, h5⟩ := dF_mem.mp he
    obtain ⟨-, -, a3, a4, a5⟩ := tpo_some hc hb h2
    refine ⟨p, x, h3, h4, h5, a5, ?_⟩
    have e1 : tpo T b e.2.1 = some p := by rw [h5]; show tpo T b (p / 8) = some p; rw [a3]; exact h2
    show (match tpo T b e.2.1 with | some p => 16 * ti T p + (e.1 - 1) | none => 0) = x
    rw [e1]
    show 16 * ti T p + (e.1 - 1) = x
    rw [h5]
    show 16 * ti T p + (x % 16 + 1 - 1) = x
    omega
  have hn : ((dF T tl b F k).map f).Nodup := by
    have nd := eMs_nd (dF_pw (tl := tl) hc hb hF k)
    rw [List.nodup_iff_pairwise_ne] at nd
    rw [List.nodup_iff_pairwise_ne, List.pairwise_map]
    refine List.Pairwise.imp_of_mem (fun {x y} hx hy hxy e => hxy ?_) nd
    obtain ⟨p, u, -, u2, u3, u4, u5⟩ := hf x hx
    obtain ⟨q, v, -, v2, v3, v4, v5⟩ := hf y hy
    have e : u = v := by rw [← u5, ← v5]; exact e
    have e2 : p = q := by rw [← u4, ← v4, ← u2, ← v2, e]
    rw [u3, v3, e, e2]
  have hs : ∀ x, x ∈ (dF T tl b F k).map f → x ∈ F := fun x hx => by
    obtain ⟨e, he, ex⟩ := List.mem_map.mp hx
    obtain ⟨p, u, u1, -, -, -, u5⟩ := hf e he
    rw [← ex, u5]; exact u1
  have := zlen_sub hn hs
  rw [List.length_map] at this
  exact this
theorem rDr_en {T : Tp} {E : Ev} {tl : Nat → Nat} {b : Nat} {H : List Nb} (hc : zTc T) (hb : b < tb T) (htl : ∀ p, tv T p → 1 ≤ tl p ∧ tl p ≤ 1000) (hp : H.Pairwise (fun a b => a.1 < b.1)) (hl : H.length ≤ 16) : zEn (rDr T E tl b (fks H)) ∧ (rDr T E tl b (fks H)).length ≤ 22 := by
  have h1 := dN_len (E := E) (tl := tl) hc hb (tn T)
  have h2 := dF_len (tl := tl) (b := b) (k := tn T) hc hb (fks_pw hp)
  have h3 := fks_len H
  have hl2 : (rDr T E tl b (fks H)).length ≤ 22 := by
    unfold rDr
    rw [List.length_append]; omega
  refine ⟨⟨by omega, fun e he => ?_⟩, hl2⟩
  have hn24 := hc.2.1
  unfold rDr at he
  rcases List.mem_append.mp he with y | y
  · obtain ⟨n, p, n1, n2, -, n4⟩ := dN_mem.mp y
    have := htl p (tpo_some hc hb n2).1
    rw [n4]
    exact ⟨Nat.zero_le _, Nat.lt_of_lt_of_le n1 hn24, this.1, this.2⟩
  · obtain ⟨n, p, x, n1, n2, -, -, n5⟩ := dF_mem.mp y
    obtain ⟨v, -, v3, -⟩ := tpo_some hc hb n2
    have := htl p v
    rw [n5]
    refine ⟨?_, ?_, this.1, this.2⟩
    · show x % 16 + 1 ≤ 16; omega
    · show p / 8 < 24; omega
