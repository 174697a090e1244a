/-! routers: old adverts are taken out, both sides -/
theorem hAt_no (r key : Nat) : ∀ H : List Nb, hAt (hNo H r) key = (hAt H key).map (fun n => (n.1, n.2.1, n.2.2.1, zupd n.2.2.2 r 0)) := by
  intro H
  induction H with
  | nil => rfl
  | cons m H ih =>
    show hAt ((m.1, m.2.1, m.2.2.1, zupd m.2.2.2 r 0) :: hNo H r) key = _
    rw [hAt_cons, hAt_cons, ih]
    show (if m.1 = key then some (m.1, m.2.1, m.2.2.1, zupd m.2.2.2 r 0) else _) = _
    by_cases c : m.1 = key
    · rw [if_pos c, if_pos c]; rfl
    · rw [if_neg c, if_neg c]
theorem fn_no (H : List Nb) (r key : Nat) : fn (hNo H r) key = fn H key := by
  unfold fn
  rw [hAt_no]
  cases hAt H key <;> rfl
theorem rEx_c (now i : Nat) (s : Rs) : rEx now i s = s ∨ ∃ a, rB s i = some a ∧ a.2.1 + 5000 ≤ now ∧ rEx now i s = (hNo (rH s) i, rT s, bSet (rB s) i none, s.2.2.2) := by
  cases e : rB s i with
  | none => exact Or.inl (by unfold rEx; rw [e])
  | some a =>
    by_cases c : a.2.1 + 5000 ≤ now
    · exact Or.inr ⟨a, rfl, c, by unfold rEx; rw [e]; exact if_pos c⟩
    · exact Or.inl (by unfold rEx; rw [e]; exact if_neg c)
theorem rExs_keep (now : Nat) : ∀ (m i : Nat) (s : Rs), rT (rExs now i m s) = rT s ∧ (rExs now i m s).2.2.2 = s.2.2.2 ∧ (∀ key, fn (rH (rExs now i m s)) key = fn (rH s) key) ∧ (∀ k, rB (rExs now i m s) k = rB s k ∨ rB (rExs now i m s) k = none) ∧ (∀ k a, rB s k = some a → ¬ a.2.1 + 5000 ≤ now → rB (rExs now i m s) k = some a) ∧ ∀ n, n ∈ rH (rExs now i m s) → ∃ m, m ∈ rH s ∧ n.1 = m.1 := by
  intro m
  induction m with
  | zero => intro i s; exact ⟨rfl, rfl, fun _ => rfl, fun _ => Or.inl rfl, fun _ _ h _ => h, fun n h => ⟨n, h, rfl⟩⟩
  | succ m ih =>
    intro i s
    obtain ⟨i1, i2, i3, i4, i5, i6⟩ := ih (i + 1) (rEx now i s)
    show rT (rExs now (i + 1) m (rEx now i s)) = rT s ∧ (rExs now (i + 1) m (rEx now i s)).2.2.2 = s.2.2.2 ∧ (∀ key, fn (rH (rExs now (i + 1) m (rEx now i s))) key = fn (rH s) key) ∧ (∀ k, rB (rExs now (i + 1) m (rEx now i s)) k = rB s k ∨ rB (rExs now (i + 1) m (rEx now i s)) k = none) ∧ (∀ k a, rB s k = some a → ¬ a.2.1 + 5000 ≤ now → rB (rExs now (i + 1) m (rEx now i s)) k = some a) ∧ ∀ n, n ∈ rH (rExs now (i + 1) m (rEx now i s)) → ∃ m, m ∈ rH s ∧ n.1 = m.1
    rcases rEx_c now i s with e | ⟨a, a1, a2, e⟩
    · rw [e] at i1 i2 i3 i4 i5 i6 ⊢
      exact ⟨i1, i2, i3, i4, i5, i6⟩
    · have eB : ∀ k, rB (rEx now i s) k = bSet (rB s) i none k := fun k => by rw [e]; rfl
      refine ⟨i1.trans (by rw [e]; rfl), i2.trans (by rw [e]), fun key => (i3 key).trans (by rw [e]; exact fn_no _ _ _), fun k => ?_, fun k a' h1 h2 => i5 k a' ?_ h2, fun n hn => ?_⟩
      · rcases i4 k with y | y
        · rw [y, eB]
          unfold bSet
          by_cases d : k = i
          · exact Or.inr (if_pos d)
          · exact Or.inl (if_neg d)
        · exact Or.inr y
      · rw [eB]
        unfold bSet
        rw [if_neg (fun d => by rw [d, a1] at h1; rw [← Option.some.inj h1] at h2; exact h2 a2)]
        exact h1
      · obtain ⟨x, x1, x2⟩ := i6 n hn
        rw [e] at x1
        obtain ⟨y, y1, y2, -⟩ := hNo_mem (show x ∈ hNo (rH s) i from x1)
        exact ⟨y, y1, x2.trans y2⟩
theorem rExs_old {E : Ev} (now : Nat) : ∀ (m i : Nat) (s : Rs), (∀ r a, rB s r = some a → a.2.1 ≤ eN E) → ∀ r a, rB (rExs now i m s) r = some a → a.2.1 ≤ eN E := fun m i s h r a ha => by
  rcases (rExs_keep now m i s).2.2.2.1 r with y | y
  · rw [y] at ha; exact h r a ha
  · rw [y] at ha; cases ha
theorem zp_expire {z w : St} {T : Tp} {E : Ev} {K : Int32 → Int32 → Int32 → Prop} {g : Sg} {X TS TB : List Nat} {b N : Nat} {s : Rs} (hE : zgI z 11 4 0 = Int32.ofNat (eN E)) (hE4 : eN E ≤ 400000) (hb : b < tb T) (hr : tr T b = true) (hV : zMV w T E g K X TS (zTA w T) TB) (hR : zRp z w T E b s) (hold : ∀ r a, rB s r = some a → a.2.1 ≤ eN E) (hN : 24 < N) :
    ∃ z' w', fX11_doRouter_47 N N 0 b b (some b) (0 : Int32) z = fX11_doRouter_47b N (fX11_doRouter_47 N 0) 0 b b (some b) (Int32.ofNat 16) z' ∧ fX19_base N 0 b w = some (0, w') ∧ zRp z' w' T E b (rExs (eN E) 0 16 s) ∧ zMV w' T E g K X TS (zTA w' T) TB ∧ zKm X w w' ∧
      ((∀ k j o, ¬ (k = 9 ∧ j = 5 ∧ o = b) → ¬ (k = 0 ∧ j = 9 ∧ o = b) → zgI z' k j o = zgI z k j o) ∧ ((zgI z' 0 9 b = zgI z 0 9 b ∧ rB (rExs (eN E) 0 16 s) = rB s) ∨ zgI z' 0 9 b = 1) ∧ zKr b z z') ∧
      ((∀ k j o, ¬ (k = 12 ∧ j = 23 ∧ o = b) → ¬ (k = 19 ∧ j = 11) → zgI w' k j o = zgI w k j o) ∧ ((zgI w' 12 23 b = zgI w 12 23 b ∧ rB (rExs (eN E) 0 16 s) = rB s) ∨ zgI w' 12 23 b = 1) ∧ (∀ k o i, ¬ (o = b ∧ k = 150) → ¬ ((k = 162 ∨ k = 163) ∧ 16 * b ≤ o ∧ o < 16 * b + 16) → k ≠ 179 → k ≠ 180 → zgA w' k o i = zgA w k o i) ∧ zMr b w w') := by
  obtain ⟨hRc, hRm, hRw, hRo, h24⟩ := hR
  obtain ⟨z', r1, r2, r3, r4, r5, r6⟩ := zc_exAll (N := N) hE4 (by omega) 16 0 N z s rfl (by omega) hE hRc hRw hold
  obtain ⟨w', s1, s2, s3, s4, s5, s6, s7, s8⟩ := zm_exAll (N := N) hE4 hb hr hN 16 0 N w s rfl (by omega) hV hRm hRw hold
  obtain ⟨k1, k2, k3, k4, k5, k6⟩ := rExs_keep (eN E) 16 0 s
  have ho : bNum (rB (rExs (eN E) 0 16 s)) b ≤ ro (rExs (eN E) 0 16 s) := by
    have e : ro (rExs (eN E) 0 16 s) = ro s := congrArg (fun x => x.2.1) k2
    rw [e]
    rcases k4 b with y | y
    · unfold bNum at hRo ⊢
      rw [y]; exact hRo
    · unfold bNum
      rw [y]; exact Nat.zero_le _
  exact ⟨z', w', r1, s1, ⟨r2, s4, r3, ho, by rw [s5 12 24 b (by omega) (by omega)]; exact h24⟩, s2, s3, ⟨r4, r5, r6⟩, s5, s6, s7, s8⟩
