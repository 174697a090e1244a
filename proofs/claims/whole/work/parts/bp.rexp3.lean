/-! routers: old adverts are taken out, both loops -/
theorem rEx_old {E : Ev} {now i : Nat} {s : Rs} (h : ∀ r a, rB s r = some a → a.2.1 ≤ eN E) : ∀ r a, rB (rEx now i s) r = some a → a.2.1 ≤ eN E := fun r a ha => by
  unfold rEx at ha
  cases e : rB s i with
  | none => rw [e] at ha; exact h r a ha
  | some a0 =>
    rw [e] at ha
    by_cases c : a0.2.1 + 5000 ≤ now
    · have ha : rB (if a0.2.1 + 5000 ≤ now then (hNo (rH s) i, rT s, bSet (rB s) i none, s.2.2.2) else s) r = some a := ha
      rw [if_pos c] at ha
      have ha : bSet (rB s) i none r = some a := ha
      unfold bSet at ha
      by_cases d : r = i
      · rw [if_pos d] at ha; cases ha
      · rw [if_neg d] at ha; exact h r a ha
    · have ha : rB (if a0.2.1 + 5000 ≤ now then (hNo (rH s) i, rT s, bSet (rB s) i none, s.2.2.2) else s) r = some a := ha
      rw [if_neg c] at ha
      exact h r a ha
theorem zc_exAll {T : Tp} {E : Ev} {b N : Nat} (hE4 : eN E ≤ 400000) (hN : 16 < N) : ∀ (m i nn : Nat) (z : St) (s : Rs), i + m = 16 → m < nn → zgI z 11 4 0 = Int32.ofNat (eN E) → zRcl z b s → zRw T E b s → (∀ r a, rB s r = some a → a.2.1 ≤ eN E) →
    ∃ z', fX11_doRouter_47 N nn 0 b b (some b) (Int32.ofNat i) z = fX11_doRouter_47b N (fX11_doRouter_47 N 0) 0 b b (some b) (Int32.ofNat 16) z' ∧ zRcl z' b (rExs (eN E) i m s) ∧ zRw T E b (rExs (eN E) i m s) ∧ (∀ k j o, ¬ (k = 9 ∧ j = 5 ∧ o = b) → ¬ (k = 0 ∧ j = 9 ∧ o = b) → zgI z' k j o = zgI z k j o) ∧ ((zgI z' 0 9 b = zgI z 0 9 b ∧ rB (rExs (eN E) i m s) = rB s) ∨ zgI z' 0 9 b = 1) ∧ zKr b z z' := by
  intro m
  induction m with
  | zero =>
    intro i nn z s hi hn hE hR hw hold
    obtain ⟨nn, rfl⟩ : ∃ k, nn = k + 1 := ⟨nn - 1, by omega⟩
    have : i = 16 := by omega
    subst this
    exact ⟨z, zc_exEnd, hR, hw, fun _ _ _ _ _ => rfl, Or.inl ⟨rfl, rfl⟩, zKr_rf _ _⟩
  | succ m ih =>
    intro i nn z s hi hn hE hR hw hold
    obtain ⟨nn, rfl⟩ : ∃ k, nn = k + 1 := ⟨nn - 1, by omega⟩
    obtain ⟨z1, r1, r2, r3, r4, r5⟩ := zc_ex1 (K := fX11_doRouter_47 N nn) (i := i) hE hE4 (by omega) hR hw hold hN
    obtain ⟨z', s1, s2, s3, s4, s5, s6⟩ := ih (i + 1) nn z1 (rEx (eN E) i s) (by omega) (by omega) ((r3 11 4 0 (by omega) (by omega)).trans hE) r2 (zRw_ex hw) (rEx_old hold)
    refine ⟨z', r1.trans s1, s2, s3, fun k j o n1 n2 => (s4 k j o n1 n2).trans (r3 k j o n1 n2), ?_, zKr_tr r5 s6⟩
    rcases s5 with ⟨y1, y2⟩ | y
    · rcases r4 with ⟨y3, y4⟩ | y3
      · exact Or.inl ⟨y1.trans y3, y2.trans y4⟩
      · exact Or.inr (y1.trans y3)
    · exact Or.inr y
