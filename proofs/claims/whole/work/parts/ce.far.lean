/-! ways: the way to a net that is far, as both find it (pure) -/
def pTl (L : List En) (n : Nat) : Nat := match L.find? (fun e => e.1 == 0 && e.2.1 == n) with | some e => e.2.2 | none => 0
def cFar (d h q : Nat → Nat) : Nat → Nat × Nat
  | 0 => (FARn, 0)
  | k + 1 => if d k = FARn ∨ q k = 0 then cFar d h q k else if d k + q k ≤ (cFar d h q k).1 then (d k + q k, if (cFar d h q k).1 ≤ d k + q k then (if h k < (cFar d h q k).2 then h k else (cFar d h q k).2) else h k) else cFar d h q k
def mFar (d q : Nat → Nat) : Nat → Nat
  | 0 => FARn
  | k + 1 => if q k = 0 ∨ mFar d q k ≤ d k + q k then mFar d q k else d k + q k
abbrev Wy : Type := Option (Nat × Nat × Nat)
def wFar (d h q : Nat → Nat) : Wy := if (cFar d h q 16).2 = 0 then none else some ((cFar d h q 16).1, ((cFar d h q 16).2 - 1) % 16, ((cFar d h q 16).2 - 1) / 16)
def mHit (D : Nat → Nat → Nat) (q : Nat → Nat) (S best : Nat) (e : En) : Bool := (List.range 16).any (fun x => decide (x ≠ S ∧ q x ≠ 0 ∧ e.2.2 + D (e.1 - 1) x + q x = best))
def mPh (Ba : Nat → Option Ad) (D : Nat → Nat → Nat) (q : Nat → Nat) (S best : Nat) (e : En) : Bool := decide (e.1 ≠ 0) && (tellB Ba (e.1 - 1) S e.2.1 && mHit D q S best e)
def wMod (Ba : Nat → Option Ad) (D : Nat → Nat → Nat) (q : Nat → Nat) (S : Nat) : Wy :=
  if mFar (D S) q 16 = FARn then none else if q S = mFar (D S) q 16 then none else match (bE Ba S).find? (mPh Ba D q S (mFar (D S) q 16)) with | some e => some (mFar (D S) q 16, e.1 - 1, e.2.1) | none => none
/-- friends told in their order -/
def zEs (L : List En) : Prop := L.Pairwise (fun x y => x.1 ≠ 0 → y.1 ≠ 0 → eMs x < eMs y)
theorem find_first {P : En → Bool} : ∀ {L : List En} {e : En}, zEs L → (∀ x, P x = true → x.1 ≠ 0) → L.find? P = some e → e ∈ L ∧ P e = true ∧ ∀ x, x ∈ L → P x = true → eMs e ≤ eMs x := by
  intro L
  induction L with
  | nil => intro e _ _ h; cases h
  | cons a L ih =>
    intro e hs hp h
    have h0 : a.1 ≠ 0 → ∀ x, x ∈ L → x.1 ≠ 0 → eMs a < eMs x := fun ha x hx hx0 => (List.pairwise_cons.mp hs).1 x hx ha hx0
    rw [List.find?_cons] at h
    cases c : P a with
    | true =>
      rw [c] at h
      have : a = e := Option.some.inj h
      subst this
      refine ⟨List.mem_cons_self, c, fun x hx hP => ?_⟩
      rcases List.mem_cons.mp hx with y | y
      · rw [y]; exact Nat.le_refl _
      · exact Nat.le_of_lt (h0 (hp a c) x y (hp x hP))
    | false =>
      rw [c] at h
      obtain ⟨i1, i2, i3⟩ := ih (List.pairwise_cons.mp hs).2 hp h
      refine ⟨List.mem_cons_of_mem _ i1, i2, fun x hx hP => ?_⟩
      rcases List.mem_cons.mp hx with y | y
      · rw [y, c] at hP; cases hP
      · exact i3 x y hP
theorem cFar_all {d h q : Nat → Nat} (hd : ∀ t, d t = FARn ∨ d t ≤ 16000) (hq : ∀ t, q t ≤ 1000) : ∀ k, (cFar d h q k).1 ≤ FARn ∧ (∀ t, t < k → d t < FARn → q t ≠ 0 → (cFar d h q k).1 < d t + q t ∨ ((cFar d h q k).1 = d t + q t ∧ (cFar d h q k).2 ≤ h t)) ∧ (cFar d h q k = (FARn, 0) ∨ ∃ t, t < k ∧ d t < FARn ∧ q t ≠ 0 ∧ (cFar d h q k).1 = d t + q t ∧ (cFar d h q k).2 = h t) ∧ mFar d q k = (cFar d h q k).1 := by
  intro k
  induction k with
  | zero => exact ⟨Nat.le_refl _, fun t ht => absurd ht (Nat.not_lt_zero _), Or.inl rfl, rfl⟩
  | succ k ih =>
    obtain ⟨a, b, c, e⟩ := ih
    have F : FARn = 1000000000 := rfl
    have dk := hd k
    have qk := hq k
    unfold cFar mFar
    rw [e]
    by_cases c1 : d k = FARn ∨ q k = 0
    · rw [if_pos c1, if_pos (by omega)]
      refine ⟨a, fun t ht h1 h2 => ?_, ?_, rfl⟩
      · by_cases y : t = k
        · subst y; omega
        · exact b t (by omega) h1 h2
      · exact c.imp id (fun ⟨t, h1, h2⟩ => ⟨t, by omega, h2⟩)
    · rw [if_neg c1]
      by_cases c2 : d k + q k ≤ (cFar d h q k).1
      · rw [if_pos c2]
        have em : (if q k = 0 ∨ (cFar d h q k).1 ≤ d k + q k then (cFar d h q k).1 else d k + q k) = d k + q k := by
          by_cases c3 : (cFar d h q k).1 ≤ d k + q k
          · rw [if_pos (Or.inr c3)]; omega
          · rw [if_neg (by omega)]
        refine ⟨by show d k + q k ≤ FARn; omega, fun t ht h1 h2 => ?_, Or.inr ?_, em⟩
        · show d k + q k < d t + q t ∨ (d k + q k = d t + q t ∧ (if (cFar d h q k).1 ≤ d k + q k then (if h k < (cFar d h q k).2 then h k else (cFar d h q k).2) else h k) ≤ h t)
          by_cases y : t = k
          · subst y
            refine Or.inr ⟨rfl, ?_⟩
            by_cases c3 : (cFar d h q t).1 ≤ d t + q t
            · rw [if_pos c3]; by_cases c4 : h t < (cFar d h q t).2
              · rw [if_pos c4]; omega
              · rw [if_neg c4]; omega
            · rw [if_neg c3]; omega
          · have := b t (by omega) h1 h2
            by_cases c3 : (cFar d h q k).1 ≤ d k + q k
            · rw [if_pos c3]
              by_cases c4 : h k < (cFar d h q k).2
              · rw [if_pos c4]; omega
              · rw [if_neg c4]; omega
            · rw [if_neg c3]; left; omega
        · show ∃ t, t < k + 1 ∧ d t < FARn ∧ q t ≠ 0 ∧ d k + q k = d t + q t ∧ (if (cFar d h q k).1 ≤ d k + q k then (if h k < (cFar d h q k).2 then h k else (cFar d h q k).2) else h k) = h t
          by_cases c3 : (cFar d h q k).1 ≤ d k + q k
          · rw [if_pos c3]
            by_cases c4 : h k < (cFar d h q k).2
            · rw [if_pos c4]; exact ⟨k, by omega, by omega, by omega, rfl, rfl⟩
            · rw [if_neg c4]
              rcases c with y | ⟨t, h1, h2, h3, h4, h5⟩
              · rw [y] at c3; exact absurd c3 (by show ¬ FARn ≤ _; omega)
              · exact ⟨t, by omega, h2, h3, by omega, h5⟩
          · rw [if_neg c3]; exact ⟨k, by omega, by omega, by omega, rfl, rfl⟩
      · rw [if_neg c2, if_pos (by omega)]
        refine ⟨a, fun t ht h1 h2 => ?_, ?_, rfl⟩
        · by_cases y : t = k
          · subst y; omega
          · exact b t (by omega) h1 h2
        · exact c.imp id (fun ⟨t, h1, h2⟩ => ⟨t, by omega, h2⟩)
theorem mFar_cg {d d' q : Nat → Nat} : ∀ {k : Nat}, (∀ t, t < k → d t = d' t) → mFar d q k = mFar d' q k := by
  intro k
  induction k with
  | zero => intro _; rfl
  | succ k ih =>
    intro h
    unfold mFar
    rw [ih (fun t ht => h t (by omega)), h k (by omega)]
/-- both find the same way -/
theorem wFar_eq {Ba : Nat → Option Ad} {S : Nat} {d h q : Nat → Nat} {D : Nat → Nat → Nat} (hS : S < 16) (hBe : ∀ r, ∀ e, e ∈ bE Ba r → e.1 ≤ 16 ∧ 1 ≤ e.2.2 ∧ e.2.2 ≤ 1000) (H : zDn Ba S d h) (F : zFW Ba 16 D) (hs : zEs (bE Ba S)) (hq : ∀ t, q t ≤ 1000) : wMod Ba D q S = wFar d h q := by
  have ed : ∀ t, t < 16 → d t = D S t := fun t ht => zDn_eq hS hBe H F ht
  obtain ⟨a, b, c, e⟩ := cFar_all (d := d) (h := h) (q := q) H.df hq 16
  have em : mFar (D S) q 16 = (cFar d h q 16).1 := by rw [← e]; exact (mFar_cg ed).symm
  have F9 : FARn = 1000000000 := rfl
  have dS := H.d0
  have hS0 := H.1.2
  have h1 : ∀ t, t < 16 → t ≠ S → d t < FARn → h t ≠ 0 := fun t ht tS hf y => by
    obtain ⟨⟨r, n, w, -, -, -, g⟩, -⟩ := zDn_h hS hBe H F (d t) t (Nat.le_refl _) ht tS hf
    omega
  unfold wMod wFar
  rw [em]
  generalize cFar d h q 16 = s at *
  rcases c with c | ⟨t, t1, t2, t3, t4, t5⟩
  · rw [if_pos (by rw [c]), if_pos (by rw [c])]
  · have dt := (zDn_lt H t2).1
    have qt := hq t
    rw [if_neg (show ¬ s.1 = FARn from by omega)]
    by_cases qS : q S = s.1
    · rw [if_pos qS]
      have := b S hS (by omega) (by omega)
      rw [if_pos (by omega)]
    · rw [if_neg qS]
      have tS : t ≠ S := fun y => by rw [y, dS] at t4; omega
      have ht0 := h1 t t1 tS t2
      rw [if_neg (show ¬ s.2 = 0 from by rw [t5]; exact ht0)]
      obtain ⟨⟨r, n, w, r16, g1, g2, g3⟩, -⟩ := zDn_h hS hBe H F (d t) t (Nat.le_refl _) t1 tS t2
      have et := ed t t1
      have hr : mPh Ba D q S s.1 (r + 1, n, w) = true := by
        unfold mPh mHit
        rw [Bool.and_eq_true, Bool.and_eq_true]
        refine ⟨by simp, g1.2, List.any_eq_true.mpr ⟨t, List.mem_range.mpr t1, decide_eq_true ⟨tS, t3, ?_⟩⟩⟩
        show w + D r t + q t = s.1
        omega
      cases ef : (bE Ba S).find? (mPh Ba D q S s.1) with
      | none =>
        rw [List.find?_eq_none] at ef
        exact absurd hr (ef _ g1.1)
      | some e0 =>
        obtain ⟨i1, i2, i3⟩ := find_first hs (fun x hx => by
          unfold mPh at hx
          rw [Bool.and_eq_true] at hx
          exact of_decide_eq_true hx.1) ef
        have k1 := i3 _ g1.1 hr
        unfold mPh mHit at i2
        rw [Bool.and_eq_true, Bool.and_eq_true] at i2
        obtain ⟨j1, j2, j3⟩ := i2
        have j1 : e0.1 ≠ 0 := of_decide_eq_true j1
        obtain ⟨x, x16, jx⟩ := List.any_eq_true.mp j3
        have x16 := List.mem_range.mp x16
        obtain ⟨jx1, jx2, jx3⟩ := of_decide_eq_true jx
        have be := hBe S _ i1
        have Ee : Ed Ba S (e0.1 - 1) e0.2.1 e0.2.2 := ⟨by rw [show e0.1 - 1 + 1 = e0.1 from by omega]; exact i1, j2⟩
        have r0 : e0.1 - 1 < 16 := by omega
        obtain ⟨Fa, Fb, Fc, Ftr, Fe⟩ := F
        have f1 := Fc S _ _ _ hS r0 Ee
        have f2 := Ftr S (e0.1 - 1) x hS r0 r0 x16
        have ex := ed x x16
        have dx : d x < FARn := by omega
        have bx := b x x16 dx jx2
        have hx := (zDn_h hS hBe H ⟨Fa, Fb, Fc, Ftr, Fe⟩ (d x) x (Nat.le_refl _) x16 jx1 dx).2 _ _ _ Ee (by omega)
        have k1 : e0.2.1 * 32 + e0.1 ≤ n * 32 + (r + 1) := k1
        have key : s.2 = 16 * e0.2.1 + (e0.1 - 1) + 1 := by omega
        show some (s.1, e0.1 - 1, e0.2.1) = _
        rw [key]
        rw [show (16 * e0.2.1 + (e0.1 - 1) + 1 - 1) % 16 = e0.1 - 1 from by omega, show (16 * e0.2.1 + (e0.1 - 1) + 1 - 1) / 16 = e0.2.1 from by omega]
