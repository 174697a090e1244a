/-! ways: least sums with least first steps, as the class finds them (pure) -/
def FARn : Nat := 1000000000
def bE (Ba : Nat → Option Ad) (x : Nat) : List En := match Ba x with | some a => a.2.2 | none => []
def tellB (Ba : Nat → Option Ad) (t x n : Nat) : Bool := (bE Ba t).any (fun e => e.1 == x + 1 && e.2.1 == n)
/-- x tells of a friend t on net n at cost c, and t of x there -/
def Ed (Ba : Nat → Option Ad) (x t n c : Nat) : Prop := (t + 1, n, c) ∈ bE Ba x ∧ tellB Ba t x n = true
abbrev Dh : Type := (Nat → Nat) × (Nat → Nat)
def beg (S x : Nat) (h : Nat → Nat) (t n : Nat) : Nat := if x = S then 16 * n + t + 1 else h x
def rlx (t far bg : Nat) (s : Dh) : Dh := if s.1 t < far ∨ (s.1 t = far ∧ s.2 t ≤ bg) then s else (zupd s.1 t far, zupd s.2 t bg)
def gstep (Ba : Nat → Option Ad) (S x : Nat) (re : Nat → Bool) (s : Dh) (e : En) : Dh := if e.1 = 0 ∨ re (e.1 - 1) = true ∨ tellB Ba (e.1 - 1) x e.2.1 = false then s else rlx (e.1 - 1) (s.1 x + e.2.2) (beg S x s.2 (e.1 - 1) e.2.1) s
def gon (Ba : Nat → Option Ad) (S x : Nat) (re : Nat → Bool) (s : Dh) : Dh := (bE Ba x).foldl (gstep Ba S x re) s
/-- lexicographically not more -/
def lle (s' s : Dh) (t : Nat) : Prop := s'.1 t < s.1 t ∨ (s'.1 t = s.1 t ∧ s'.2 t ≤ s.2 t)
theorem lle_rf (s : Dh) (t : Nat) : lle s s t := Or.inr ⟨rfl, Nat.le_refl _⟩
theorem lle_tr {a b c : Dh} {t : Nat} (h1 : lle b a t) (h2 : lle c b t) : lle c a t := by
  rcases h1 with h1 | ⟨h1, h1'⟩ <;> rcases h2 with h2 | ⟨h2, h2'⟩
  · exact Or.inl (by omega)
  · exact Or.inl (by omega)
  · exact Or.inl (by omega)
  · exact Or.inr ⟨by omega, by omega⟩
theorem rlx_at {t far bg : Nat} {s : Dh} : (rlx t far bg s).1 t < far ∨ ((rlx t far bg s).1 t = far ∧ (rlx t far bg s).2 t ≤ bg) := by
  unfold rlx
  by_cases c : s.1 t < far ∨ (s.1 t = far ∧ s.2 t ≤ bg)
  · rw [if_pos c]; exact c
  · rw [if_neg c]
    exact Or.inr ⟨zupd_s _ _ _, by rw [show (zupd s.1 t far, zupd s.2 t bg).2 t = zupd s.2 t bg t from rfl, zupd_s]; exact Nat.le_refl _⟩
theorem rlx_lle {t far bg : Nat} {s : Dh} (u : Nat) : lle (rlx t far bg s) s u := by
  unfold rlx
  by_cases c : s.1 t < far ∨ (s.1 t = far ∧ s.2 t ≤ bg)
  · rw [if_pos c]; exact lle_rf _ _
  · rw [if_neg c]
    by_cases e : u = t
    · subst e
      show zupd s.1 u far u < s.1 u ∨ (zupd s.1 u far u = s.1 u ∧ zupd s.2 u bg u ≤ s.2 u)
      rw [zupd_s, zupd_s]
      omega
    · refine Or.inr ⟨?_, ?_⟩
      · show zupd s.1 t far u = s.1 u; exact zupd_n e
      · show zupd s.2 t bg u ≤ s.2 u; rw [zupd_n e]; exact Nat.le_refl _
theorem rlx_o {t far bg : Nat} {s : Dh} {u : Nat} (h : u ≠ t) : (rlx t far bg s).1 u = s.1 u ∧ (rlx t far bg s).2 u = s.2 u := by
  unfold rlx
  by_cases c : s.1 t < far ∨ (s.1 t = far ∧ s.2 t ≤ bg)
  · rw [if_pos c]; exact ⟨rfl, rfl⟩
  · rw [if_neg c]; exact ⟨zupd_n h, zupd_n h⟩
theorem rlx_c {t far bg : Nat} {s : Dh} : ((rlx t far bg s).1 t = s.1 t ∧ (rlx t far bg s).2 t = s.2 t) ∨ ((rlx t far bg s).1 t = far ∧ (rlx t far bg s).2 t = bg) := by
  unfold rlx
  by_cases c : s.1 t < far ∨ (s.1 t = far ∧ s.2 t ≤ bg)
  · rw [if_pos c]; exact Or.inl ⟨rfl, rfl⟩
  · rw [if_neg c]; exact Or.inr ⟨zupd_s _ _ _, zupd_s _ _ _⟩
/-- what going on from x does -/
theorem gon_all {Ba : Nat → Option Ad} {S x : Nat} {re : Nat → Bool} (hx : re x = true) : ∀ (L : List En) (s : Dh), (∀ e, e ∈ L → e ∈ bE Ba x) → (∀ u, lle (L.foldl (gstep Ba S x re) s) s u) ∧ (∀ u, re u = true → (L.foldl (gstep Ba S x re) s).1 u = s.1 u ∧ (L.foldl (gstep Ba S x re) s).2 u = s.2 u) ∧ (∀ e, e ∈ L → e.1 ≠ 0 → re (e.1 - 1) = false → tellB Ba (e.1 - 1) x e.2.1 = true → (L.foldl (gstep Ba S x re) s).1 (e.1 - 1) < s.1 x + e.2.2 ∨ ((L.foldl (gstep Ba S x re) s).1 (e.1 - 1) = s.1 x + e.2.2 ∧ (L.foldl (gstep Ba S x re) s).2 (e.1 - 1) ≤ beg S x s.2 (e.1 - 1) e.2.1)) ∧ ∀ u, ((L.foldl (gstep Ba S x re) s).1 u = s.1 u ∧ (L.foldl (gstep Ba S x re) s).2 u = s.2 u) ∨ ∃ n c, Ed Ba x u n c ∧ (L.foldl (gstep Ba S x re) s).1 u = s.1 x + c ∧ (L.foldl (gstep Ba S x re) s).2 u = beg S x s.2 u n := by
  intro L
  induction L with
  | nil => intro s _; exact ⟨fun u => lle_rf _ _, fun u _ => ⟨rfl, rfl⟩, fun e he => (by cases he), fun u => Or.inl ⟨rfl, rfl⟩⟩
  | cons e L ih =>
    intro s hL
    have eq : (e :: L).foldl (gstep Ba S x re) s = L.foldl (gstep Ba S x re) (gstep Ba S x re s e) := rfl
    rw [eq]
    obtain ⟨i1, i2, i3, i4⟩ := ih (gstep Ba S x re s e) (fun e' he' => hL e' (List.mem_cons_of_mem _ he'))
    by_cases c : e.1 = 0 ∨ re (e.1 - 1) = true ∨ tellB Ba (e.1 - 1) x e.2.1 = false
    · have es : gstep Ba S x re s e = s := if_pos c
      rw [es] at i1 i2 i3 i4 ⊢
      refine ⟨i1, i2, fun e' he' h1 h2 h3 => ?_, i4⟩
      rcases List.mem_cons.mp he' with y | y
      · rw [y] at h1 h2 h3
        rcases c with c | c | c
        · exact absurd c h1
        · rw [h2] at c; cases c
        · rw [h3] at c; cases c
      · exact i3 e' y h1 h2 h3
    · have es : gstep Ba S x re s e = rlx (e.1 - 1) (s.1 x + e.2.2) (beg S x s.2 (e.1 - 1) e.2.1) s := if_neg c
      have c1 : e.1 ≠ 0 := fun y => c (Or.inl y)
      have c2 : re (e.1 - 1) = false := by
        cases q : re (e.1 - 1) with
        | false => rfl
        | true => exact absurd (Or.inr (Or.inl q)) c
      have c3 : tellB Ba (e.1 - 1) x e.2.1 = true := by
        cases q : tellB Ba (e.1 - 1) x e.2.1 with
        | true => rfl
        | false => exact absurd (Or.inr (Or.inr q)) c
      have hne : ∀ u, re u = true → u ≠ e.1 - 1 := fun u hu y => by rw [y, c2] at hu; cases hu
      rw [es] at i1 i2 i3 i4 ⊢
      generalize hs1 : rlx (e.1 - 1) (s.1 x + e.2.2) (beg S x s.2 (e.1 - 1) e.2.1) s = s1 at *
      have ox : s1.1 x = s.1 x ∧ s1.2 x = s.2 x := by rw [← hs1]; exact rlx_o (hne x hx)
      have eb : ∀ t n, beg S x s1.2 t n = beg S x s.2 t n := fun t n => by unfold beg; rw [ox.2]
      refine ⟨fun u => lle_tr (by rw [← hs1]; exact rlx_lle u) (i1 u), fun u hu => ?_, fun e' he' h1 h2 h3 => ?_, fun u => ?_⟩
      · obtain ⟨a1, a2⟩ := i2 u hu
        have o : s1.1 u = s.1 u ∧ s1.2 u = s.2 u := by rw [← hs1]; exact rlx_o (hne u hu)
        exact ⟨a1.trans o.1, a2.trans o.2⟩
      · rcases List.mem_cons.mp he' with y | y
        · rw [y]
          have at1 : s1.1 (e.1 - 1) < s.1 x + e.2.2 ∨ (s1.1 (e.1 - 1) = s.1 x + e.2.2 ∧ s1.2 (e.1 - 1) ≤ beg S x s.2 (e.1 - 1) e.2.1) := by rw [← hs1]; exact rlx_at
          rcases i1 (e.1 - 1) with q | ⟨q1, q2⟩
          · left; omega
          · rcases at1 with r | ⟨r1, r2⟩
            · left; omega
            · right; exact ⟨by omega, by omega⟩
        · have := i3 e' y h1 h2 h3
          rw [ox.1, eb] at this; exact this
      · rcases i4 u with ⟨q1, q2⟩ | ⟨n, k, q1, q2, q3⟩
        · by_cases eu : u = e.1 - 1
          · have cc : (s1.1 (e.1 - 1) = s.1 (e.1 - 1) ∧ s1.2 (e.1 - 1) = s.2 (e.1 - 1)) ∨ (s1.1 (e.1 - 1) = s.1 x + e.2.2 ∧ s1.2 (e.1 - 1) = beg S x s.2 (e.1 - 1) e.2.1) := by rw [← hs1]; exact rlx_c
            rcases cc with ⟨r1, r2⟩ | ⟨r1, r2⟩
            · left; rw [q1, q2, eu]; exact ⟨r1, r2⟩
            · right
              refine ⟨e.2.1, e.2.2, ⟨?_, ?_⟩, ?_, ?_⟩
              · have : (u + 1, e.2.1, e.2.2) = e := by rw [eu, show e.1 - 1 + 1 = e.1 from by omega]
                rw [this]; exact hL e List.mem_cons_self
              · rw [eu]; exact c3
              · rw [q1, eu]; exact r1
              · rw [q2, eu]; exact r2
          · have o : s1.1 u = s.1 u ∧ s1.2 u = s.2 u := by rw [← hs1]; exact rlx_o eu
            left; exact ⟨q1.trans o.1, q2.trans o.2⟩
        · right
          exact ⟨n, k, q1, by rw [q2, ox.1], by rw [q3, eb]⟩
/-- of those not yet reached, the first of the nearest -/
def nstk (re : Nat → Bool) (d : Nat → Nat) : Nat → Option Nat
  | 0 => none
  | k + 1 => if re k = true ∨ d k = FARn then nstk re d k else match nstk re d k with | none => some k | some j => if d k < d j then some k else some j
theorem nstk_some {re : Nat → Bool} {d : Nat → Nat} : ∀ {k x : Nat}, nstk re d k = some x → x < k ∧ re x = false ∧ d x ≠ FARn ∧ ∀ t, t < k → re t = false → d t ≠ FARn → d x ≤ d t := by
  intro k
  induction k with
  | zero => intro x h; cases h
  | succ k ih =>
    intro x h
    unfold nstk at h
    by_cases c : re k = true ∨ d k = FARn
    · rw [if_pos c] at h
      obtain ⟨a, b, e, f⟩ := ih h
      refine ⟨by omega, b, e, fun t ht h1 h2 => ?_⟩
      by_cases y : t = k
      · subst y
        rcases c with c | c
        · rw [h1] at c; cases c
        · exact absurd c h2
      · exact f t (by omega) h1 h2
    · rw [if_neg c] at h
      have ck : re k = false := by
        cases q : re k with
        | false => rfl
        | true => exact absurd (Or.inl q) c
      have dk : d k ≠ FARn := fun q => c (Or.inr q)
      cases e : nstk re d k with
      | none =>
        rw [e] at h
        have : k = x := Option.some.inj h
        subst this
        refine ⟨by omega, ck, dk, fun t ht h1 h2 => ?_⟩
        by_cases y : t = k
        · rw [y]; exact Nat.le_refl _
        · exfalso
          have : ∀ m, nstk re d m = none → ∀ t, t < m → re t = false → d t ≠ FARn → False := by
            intro m
            induction m with
            | zero => intro _ t ht; omega
            | succ m ihm =>
              intro hm t ht h1 h2
              unfold nstk at hm
              by_cases c2 : re m = true ∨ d m = FARn
              · rw [if_pos c2] at hm
                by_cases y : t = m
                · subst y
                  rcases c2 with c2 | c2
                  · rw [h1] at c2; cases c2
                  · exact h2 c2
                · exact ihm hm t (by omega) h1 h2
              · rw [if_neg c2] at hm
                cases e2 : nstk re d m with
                | none => rw [e2] at hm; cases hm
                | some j =>
                  rw [e2] at hm
                  dsimp only at hm
                  by_cases c3 : d m < d j
                  · rw [if_pos c3] at hm; cases hm
                  · rw [if_neg c3] at hm; cases hm
          exact this k e t (by omega) h1 h2
      | some j =>
        rw [e] at h
        obtain ⟨a, b, f, g⟩ := ih e
        dsimp only at h
        by_cases c3 : d k < d j
        · rw [if_pos c3] at h
          have : k = x := Option.some.inj h
          subst this
          refine ⟨by omega, ck, dk, fun t ht h1 h2 => ?_⟩
          by_cases y : t = k
          · rw [y]; exact Nat.le_refl _
          · have := g t (by omega) h1 h2; omega
        · rw [if_neg c3] at h
          have : j = x := Option.some.inj h
          subst this
          refine ⟨by omega, b, f, fun t ht h1 h2 => ?_⟩
          by_cases y : t = k
          · rw [y]; omega
          · exact g t (by omega) h1 h2
theorem nstk_none {re : Nat → Bool} {d : Nat → Nat} : ∀ {m : Nat}, nstk re d m = none → ∀ t, t < m → re t = true ∨ d t = FARn := by
  intro m
  induction m with
  | zero => intro _ t ht; omega
  | succ m ihm =>
    intro hm t ht
    unfold nstk at hm
    by_cases c2 : re m = true ∨ d m = FARn
    · rw [if_pos c2] at hm
      by_cases y : t = m
      · rw [y]; exact c2
      · exact ihm hm t (by omega)
    · rw [if_neg c2] at hm
      cases e2 : nstk re d m with
      | none => rw [e2] at hm; cases hm
      | some j =>
        rw [e2] at hm
        dsimp only at hm
        by_cases c3 : d m < d j
        · rw [if_pos c3] at hm; cases hm
        · rw [if_neg c3] at hm; cases hm
abbrev Rdh : Type := (Nat → Bool) × Dh
def dij (Ba : Nat → Option Ad) (S : Nat) : Nat → Rdh → Rdh
  | 0, s => s
  | k + 1, s => match nstk s.1 s.2.1 16 with
    | none => s
    | some x => dij Ba S k (zupd s.1 x true, gon Ba S x (zupd s.1 x true) s.2)
def dij0 (S : Nat) : Rdh := (fun _ => false, zupd (fun _ => FARn) S 0, fun _ => 0)
/-- what is so at each round -/
def zDi (Ba : Nat → Option Ad) (S : Nat) (k : Nat) (s : Rdh) : Prop :=
  (s.2.1 S = 0 ∧ s.2.2 S = 0 ∧ (∀ t, s.2.1 t = FARn ∨ s.2.1 t ≤ 1000 * k) ∧ ∀ t, 16 ≤ t → s.2.1 t = FARn) ∧
  (∀ x, s.1 x = true → x < 16 ∧ s.2.1 x < FARn) ∧
  (∀ x t n c, s.1 x = true → Ed Ba x t n c → s.2.1 t ≤ s.2.1 x + c ∧ (t ≠ S → s.2.1 t = s.2.1 x + c → s.2.2 t ≤ beg S x s.2.2 t n)) ∧
  (∀ t, t ≠ S → s.2.1 t < FARn → ∃ x n c, s.1 x = true ∧ Ed Ba x t n c ∧ s.2.1 t = s.2.1 x + c ∧ s.2.2 t = beg S x s.2.2 t n) ∧
  ∀ x t, s.1 x = true → s.1 t = false → s.2.1 x ≤ s.2.1 t
theorem zDi_0 {Ba : Nat → Option Ad} {S : Nat} (hS : S < 16) : zDi Ba S 0 (dij0 S) := by
  have d : ∀ t, (dij0 S).2.1 t = if t = S then 0 else FARn := fun t => rfl
  refine ⟨⟨by rw [d, if_pos rfl], rfl, fun t => ?_, fun t ht => by rw [d, if_neg (by omega)]⟩, fun x hx => (by cases hx), fun x t n c hx => (by cases hx), fun t ht hlt => ?_, fun x t hx => (by cases hx)⟩
  · rw [d]
    by_cases c : t = S
    · rw [if_pos c]; exact Or.inr (Nat.zero_le _)
    · rw [if_neg c]; exact Or.inl rfl
  · rw [d, if_neg ht] at hlt; exact absurd hlt (Nat.lt_irrefl _)
theorem zDi_1 {Ba : Nat → Option Ad} {S k x : Nat} {s : Rdh} (hk : k < 16) (hBe : ∀ r, ∀ e, e ∈ bE Ba r → e.1 ≤ 16 ∧ 1 ≤ e.2.2 ∧ e.2.2 ≤ 1000) (hx : nstk s.1 s.2.1 16 = some x) (h : zDi Ba S k s) : zDi Ba S (k + 1) (zupd s.1 x true, gon Ba S x (zupd s.1 x true) s.2) := by
  obtain ⟨x16, xr, xf, xm⟩ := nstk_some hx
  obtain ⟨⟨a1, a2, a3, a4⟩, b, c, e, f⟩ := h
  let re' : Nat → Bool := zupd s.1 x true
  have rx : re' x = true := zupd_s _ _ _
  have ro : ∀ t, t ≠ x → re' t = s.1 t := fun t ht => zupd_n ht
  obtain ⟨g1, g2, g3, g4⟩ := gon_all (Ba := Ba) (S := S) (re := re') rx (bE Ba x) s.2 (fun e he => he)
  have hg : gon Ba S x re' s.2 = (bE Ba x).foldl (gstep Ba S x re') s.2 := rfl
  rw [← hg] at g1 g2 g3 g4
  generalize gon Ba S x re' s.2 = s' at *
  have dx : s.2.1 x < FARn ∧ s.2.1 x ≤ 1000 * k := by
    rcases a3 x with y | y
    · exact absurd y xf
    · exact ⟨by unfold FARn; omega, y⟩
  have keepd : ∀ t, re' t = true → s'.1 t = s.2.1 t ∧ s'.2 t = s.2.2 t := g2
  have reS : ∀ t, s.1 t = true → re' t = true := fun t ht => by
    by_cases y : t = x
    · rw [y]; exact rx
    · rw [ro t y]; exact ht
  have dge : ∀ t, re' t = false → s.2.1 x ≤ s'.1 t := fun t ht => by
    have tx : t ≠ x := fun y => by rw [y, rx] at ht; cases ht
    have ts : s.1 t = false := by rw [← ro t tx]; exact ht
    rcases g4 t with ⟨q, -⟩ | ⟨n, w, -, q, -⟩
    · rw [q]
      by_cases t16 : t < 16
      · by_cases tf : s.2.1 t = FARn
        · rw [tf]; exact Nat.le_of_lt dx.1
        · exact xm t t16 ts tf
      · rw [a4 t (by omega)]; exact Nat.le_of_lt dx.1
    · omega
  have Sd : s'.1 S = 0 ∧ s'.2 S = 0 := by
    rcases g1 S with q | ⟨q1, q2⟩
    · rw [a1] at q; omega
    · rw [a1] at q1; rw [a2] at q2; exact ⟨q1, by omega⟩
  refine ⟨⟨Sd.1, Sd.2, fun t => ?_, fun t ht => ?_⟩, fun y hy => ?_, fun y t n w hy hE => ?_, fun t ht hlt => ?_, fun y t hy ht => ?_⟩
  · rcases g4 t with ⟨q, -⟩ | ⟨n, w, q0, q, -⟩
    · show s'.1 t = FARn ∨ _
      rw [q]
      rcases a3 t with y | y
      · exact Or.inl y
      · exact Or.inr (by omega)
    · have := (hBe x _ q0.1).2.2
      have this : w ≤ 1000 := this
      exact Or.inr (by show s'.1 t ≤ _; omega)
  · rcases g4 t with ⟨q, -⟩ | ⟨n, w, q0, -, -⟩
    · exact q.trans (a4 t ht)
    · have := (hBe x _ q0.1).1
      have this : t + 1 ≤ 16 := this
      omega
  · have hy : re' y = true := hy
    show y < 16 ∧ s'.1 y < FARn
    rw [(keepd y hy).1]
    by_cases e : y = x
    · rw [e]; exact ⟨x16, dx.1⟩
    · rw [ro y e] at hy; exact b y hy
  · have hy : re' y = true := hy
    show s'.1 t ≤ s'.1 y + w ∧ (t ≠ S → s'.1 t = s'.1 y + w → s'.2 t ≤ beg S y s'.2 t n)
    have ky := keepd y hy
    have eb : beg S y s'.2 t n = beg S y s.2.2 t n := by unfold beg; rw [ky.2]
    rw [ky.1, eb]
    have w1 := (hBe y _ hE.1).2.1
    have w1 : 1 ≤ w := w1
    by_cases exy : y = x
    · subst exy
      by_cases rt : re' t = true
      · have dle : s.2.1 t ≤ s.2.1 y := by
          by_cases q : t = y
          · rw [q]; exact Nat.le_refl _
          · rw [ro t q] at rt; exact f t y rt xr
        rw [(keepd t rt).1]
        exact ⟨by omega, fun _ q => by omega⟩
      · have rt : re' t = false := by simpa using rt
        have := g3 _ hE.1 (Nat.succ_ne_zero _) (by rw [show (t + 1, n, w).1 - 1 = t from rfl]; exact rt) (by rw [show (t + 1, n, w).1 - 1 = t from rfl]; exact hE.2)
        have this : s'.1 t < s.2.1 y + w ∨ (s'.1 t = s.2.1 y + w ∧ s'.2 t ≤ beg S y s.2.2 t n) := this
        rcases this with q | ⟨q1, q2⟩
        · exact ⟨by omega, fun _ r => by omega⟩
        · exact ⟨by omega, fun _ _ => q2⟩
    · have hys : s.1 y = true := by rw [← ro y exy]; exact hy
      obtain ⟨c1, c2⟩ := c y t n w hys hE
      rcases g1 t with q | ⟨q1, q2⟩
      · exact ⟨by omega, fun _ r => by omega⟩
      · exact ⟨by omega, fun tS r => by have := c2 tS (by omega); omega⟩
  · have hlt : s'.1 t < FARn := hlt
    rcases g4 t with ⟨q1, q2⟩ | ⟨n, w, q0, q1, q2⟩
    · obtain ⟨y, n, w, y1, y2, y3, y4⟩ := e t ht (by rw [← q1]; exact hlt)
      have ky := keepd y (reS y y1)
      refine ⟨y, n, w, reS y y1, y2, ?_, ?_⟩
      · show s'.1 t = s'.1 y + w; rw [q1, ky.1]; exact y3
      · show s'.2 t = beg S y s'.2 t n
        have eb : beg S y s'.2 t n = beg S y s.2.2 t n := by unfold beg; rw [ky.2]
        rw [q2, eb]; exact y4
    · have kx := keepd x rx
      refine ⟨x, n, w, rx, q0, ?_, ?_⟩
      · show s'.1 t = s'.1 x + w; rw [kx.1]; exact q1
      · show s'.2 t = beg S x s'.2 t n
        have eb : beg S x s'.2 t n = beg S x s.2.2 t n := by unfold beg; rw [kx.2]
        rw [eb]; exact q2
  · have hy : re' y = true := hy
    have ht : re' t = false := ht
    show s'.1 y ≤ s'.1 t
    rw [(keepd y hy).1]
    have := dge t ht
    by_cases q : y = x
    · rw [q]; exact this
    · rw [ro y q] at hy
      have := f y x hy xr
      omega
