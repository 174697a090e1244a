/-! routers: the own advert, both sides -/
theorem rOwn_c (now b : Nat) (D : List En) (s : Rs) : rOwn now b D s = s ∨ rOwn now b D s = rMak now b D s := by
  unfold rOwn
  by_cases c1 : ro s ≠ 0 ∧ now < rm s + 10
  · rw [if_pos c1]; exact Or.inl rfl
  rw [if_neg c1]
  by_cases c2 : (ro s = 0 ∨ ro s < rh s ∨ rm s + 2000 ≤ now) ∨ bLs (rB s) b ≠ some D
  · rw [if_pos c2]; exact Or.inr rfl
  · rw [if_neg c2]; exact Or.inl rfl
theorem rOwn_age (now b : Nat) (D : List En) (s : Rs) : ro (rOwn now b D s) ≠ 0 ∧ now < rm (rOwn now b D s) + 2000 := by
  unfold rOwn
  by_cases c1 : ro s ≠ 0 ∧ now < rm s + 10
  · rw [if_pos c1]; exact ⟨c1.1, by omega⟩
  rw [if_neg c1]
  by_cases c2 : (ro s = 0 ∨ ro s < rh s ∨ rm s + 2000 ≤ now) ∨ bLs (rB s) b ≠ some D
  · rw [if_pos c2]
    exact ⟨Nat.succ_ne_zero _, show now < now + 2000 by omega⟩
  · rw [if_neg c2]
    exact ⟨fun y => c2 (Or.inl (Or.inl y)), Nat.lt_of_not_le (fun y => c2 (Or.inl (Or.inr (Or.inr y))))⟩
theorem rOwn_fn (now b : Nat) (D : List En) (s : Rs) (key : Nat) : fn (rH (rOwn now b D s)) key = fn (rH s) key := by
  rcases rOwn_c now b D s with e | e
  · rw [e]
  · rw [e]; exact fn_all _ _ _ _ _
theorem rOwn_keys {now b : Nat} {D : List En} {s : Rs} {n : Nb} (h : n ∈ rH (rOwn now b D s)) : ∃ m, m ∈ rH s ∧ n.1 = m.1 ∧ n.2.1 = m.2.1 := by
  rcases rOwn_c now b D s with e | e
  · rw [e] at h; exact ⟨n, h, rfl, rfl⟩
  · rw [e] at h
    obtain ⟨m, m1, m2, m3, -⟩ := hAll_mem (show n ∈ hAll (rH s) b none now from h)
    exact ⟨m, m1, m2, m3⟩
theorem rOwn_num (now b : Nat) (D : List En) (s : Rs) : max (ro (rOwn now b D s)) (rh (rOwn now b D s)) ≤ max (ro s) (rh s) + 1 := by
  rcases rOwn_c now b D s with e | e
  · rw [e]; omega
  · rw [e]
    show max (max (ro s) (rh s) + 1) (rh s) ≤ _
    omega
theorem zOw_own {now b : Nat} {D : List En} {s : Rs} (hD : zEn D) (h : zOw b s) : zOw b (rOwn now b D s) := by
  rcases rOwn_c now b D s with e | e
  · rw [e]; exact h
  · rw [e]
    refine Or.inr ⟨Nat.succ_le_succ (Nat.zero_le _), D, ?_, hD⟩
    show bSet (rB s) b (some (max (ro s) (rh s) + 1, now, D)) b = some (max (ro s) (rh s) + 1, now, D)
    unfold bSet
    rw [if_pos rfl]
theorem zOw_exs {now b : Nat} {s : Rs} (hage : ro s ≠ 0 → now < rm s + 5000) (h : zOw b s) : zOw b (rExs now 0 16 s) := by
  obtain ⟨k1, k2, k3, k4, k5, k6⟩ := rExs_keep now 16 0 s
  have e1 : ro (rExs now 0 16 s) = ro s := congrArg (fun x => x.2.1) k2
  have e2 : rm (rExs now 0 16 s) = rm s := congrArg (fun x => x.1) k2
  rcases h with ⟨h1, h2⟩ | ⟨h1, L, h2, h3⟩
  · refine Or.inl ⟨e1.trans h1, ?_⟩
    rcases k4 b with y | y
    · exact y.trans h2
    · exact y
  · refine Or.inr ⟨by rw [e1]; exact h1, L, ?_, h3⟩
    rw [e1, e2]
    have := hage (by omega)
    exact k5 b _ h2 (by show ¬ rm s + 5000 ≤ now; omega)
theorem own_old {now b : Nat} {D : List En} {s : Rs} (h : ∀ r a, rB s r = some a → a.2.1 ≤ now) : ∀ r a, rB (rOwn now b D s) r = some a → a.2.1 ≤ now := fun r a ha => by
  rcases rOwn_c now b D s with e | e
  · rw [e] at ha; exact h r a ha
  · rw [e] at ha
    have ha : bSet (rB s) b (some (max (ro s) (rh s) + 1, now, D)) r = some a := ha
    unfold bSet at ha
    by_cases c : r = b
    · rw [if_pos c] at ha
      rw [← Option.some.inj ha]; exact Nat.le_refl _
    · rw [if_neg c] at ha; exact h r a ha
theorem zRw_own {T : Tp} {E : Ev} {b : Nat} {D : List En} {s : Rs} (hE4 : eN E ≤ 400000) (hb : b < 16) (hM : max (ro s) (rh s) + 1 ≤ 16000000) (hD : D.length ≤ 24) (h : zRw T E b s) : zRw T E b (rOwn (eN E) b D s) := by
  rcases rOwn_c (eN E) b D s with e | e
  · rw [e]; exact h
  · rw [e]
    obtain ⟨wH, wN, wT, wB, wm⟩ := id h
    refine zRw_up h (zHn_all (by omega) wH) (fun n hn => ?_) ⟨wT.1, fun e he => Or.inl he⟩ (fun r a ha => ?_) ⟨Nat.le_refl _, hM, wm.2.2⟩
    · obtain ⟨m, m1, m2, m3, m4⟩ := hAll_mem (show n ∈ hAll (rH s) b none (eN E) from hn)
      obtain ⟨-, -, -, -, -, w6, w7, w8⟩ := wN m m1
      refine ⟨Or.inl ⟨m, m1, m2⟩, by rw [m3]; exact ⟨w6, w7⟩, fun k hk hne => ?_⟩
      show (bSet (rB s) b (some (max (ro s) (rh s) + 1, eN E, D)) k).isSome = true
      unfold bSet
      by_cases d : k = b
      · rw [if_pos d]; rfl
      · rw [if_neg d]
        rcases m4 k with y | y
        · rw [y] at hne; exact w8 k hk hne
        · exact absurd y d
    · have ha : bSet (rB s) b (some (max (ro s) (rh s) + 1, eN E, D)) r = some a := ha
      unfold bSet at ha
      by_cases d : r = b
      · rw [if_pos d] at ha
        rw [← Option.some.inj ha, d]
        exact ⟨hb, Nat.succ_le_succ (Nat.zero_le _), hM, hE4, hD⟩
      · rw [if_neg d] at ha; exact wB r a ha
/-- nets and friends that a router may tell of: all that are heard stand on nets that are up -/
def zHup (T : Tp) (E : Ev) (b : Nat) (H : List Nb) : Prop := ∀ n, n ∈ H → n.1 / 16 < tp T b ∧ eU E (tq T b (n.1 / 16) / 8) = true
theorem zp_own {z w : St} {T : Tp} {E : Ev} {K : Int32 → Int32 → Int32 → Prop} {g : Sg} {X TS TB : List Nat} {tl : Nat → Nat} {b N : Nat} {s : Rs} (hT : zTC z T) (hE : zEc z T E) (hE1 : 1 ≤ eN E) (hE4 : eN E ≤ 400000) (hb : b < tb T) (hr : tr T b = true) (hV : zMV w T E g K X TS (zTA w T) TB) (hX : X.length ≤ 40) (hW : ∀ q, tv T q → (gW g q).length ≤ 16) (hTT : TS.length + TB.length ≤ 4000) (hlC : zTlC z T tl) (hlM : zTlM w T tl) (hR : zRp z w T E b s) (hOw : zOw b s) (hM : max (ro s) (rh s) + 1 ≤ 16000000) (hup : ∀ j, j < tp T b → zgI w 18 5 (tq T b j) = zbi (eU E (tq T b j / 8))) (hHu : zHup T E b (rH s)) (hfC : zgI z 9 10 b = 0 → bLs (rB s) b = some (rDr T E tl b (fks (rH s)))) (hfM : zgI w 12 24 b = 0 → bLs (rB s) b = some (rDr T E tl b (fks (rH s)))) (hN : 77 < N) :
    ∃ z' w' s', s' = rOwn (eN E) b (rDr T E tl b (fks (rH s))) s ∧ fX11_makeOwnAdvert N 0 b z = some (0, z') ∧ fX19_ownAdvert N 0 b w = some (0, w') ∧ zRp z' w' T E b s' ∧ zMV w' T E g K X TS (zTA w' T) TB ∧ zOw b s' ∧ zHup T E b (rH s') ∧ fks (rH s') = fks (rH s) ∧
      ((zgI z' 9 10 b = 0 → bLs (rB s') b = some (rDr T E tl b (fks (rH s')))) ∧ (zgI w' 12 24 b = 0 → bLs (rB s') b = some (rDr T E tl b (fks (rH s'))))) ∧
      ((∀ k j o, ¬ (k = 0 ∧ (j = 6 ∨ j = 7 ∨ j = 8 ∨ j = 9) ∧ o = b) → ¬ (k = 9 ∧ (j = 5 ∨ j = 10) ∧ o = b) → zgI z' k j o = zgI z k j o) ∧ ((zgI z' 0 9 b = zgI z 0 9 b ∧ rB s' = rB s) ∨ zgI z' 0 9 b = 1) ∧ zKr b z z') ∧
      ((∀ k j o, ¬ (k = 12 ∧ (j = 16 ∨ j = 18 ∨ j = 23 ∨ j = 24) ∧ o = b) → ¬ (k = 19 ∧ j = 11) → zgI w' k j o = zgI w k j o) ∧ ((zgI w' 12 23 b = zgI w 12 23 b ∧ rB s' = rB s) ∨ zgI w' 12 23 b = 1) ∧ (∀ d D, d ∈ X → zMD w T K d D → zMD w' T K d D) ∧ (∀ x, x ∈ zTA w T → x < 2400 → ∀ k, k < 76 → mad w' x k = mad w x k) ∧ zMr b w w') := by
  have hc := hV.2.1
  have hb16 : b < 16 := Nat.lt_of_lt_of_le hb hc.1
  obtain ⟨hRc, hRm, hRw, hRo, h24⟩ := hR
  obtain ⟨hD, hD22⟩ := rDr_en (E := E) hc hb (fun p hp => (hlC p hp).2) hRw.1.1.2.1 hRw.1.1.2.2
  obtain ⟨z', r1, r2, r3, r4, r5, r6⟩ := zc_makeOwn (N := N) hT hc hE hE4 hb hr hlC hRc hRw hOw hfC (by omega)
  obtain ⟨w', s1, s2, s3, s4, s5, s6, s7, s8, s9⟩ := zm_ownAdvert (N := N) hV hX hW hTT hE1 hE4 hb hr hlM hRm hRw hOw hup hHu hfM hN
  have hw' := zRw_own (D := rDr T E tl b (fks (rH s))) hE4 hb16 hM hD.1 hRw
  have hO' := zOw_own (now := eN E) hD hOw
  have ef : fks (rH (rOwn (eN E) b (rDr T E tl b (fks (rH s))) s)) = fks (rH s) := fks_cg hRw.1.1.2.1 hw'.1.1.2.1 (fun key => rOwn_fn _ _ _ _ key)
  have h24' : zgI w' 12 24 b = 0 ∨ zgI w' 12 24 b = 1 := by
    rcases s6 with ⟨y, -⟩ | ⟨y, -⟩
    · rw [y]; exact h24
    · exact Or.inl y
  refine ⟨z', w', _, rfl, r1, s1, ⟨r2, s3, hw', by rw [zOw_num hO']; exact Nat.le_refl _, h24'⟩, s2, hO', fun n hn => ?_, ef, ⟨fun y => ?_, fun y => ?_⟩, ⟨r3, r5, r6⟩, s5, s7, s4, s8, s9⟩
  · obtain ⟨m, m1, m2, -⟩ := rOwn_keys hn
    rw [m2]; exact hHu m m1
  · rw [ef]
    rcases r4 with ⟨y1, y2⟩ | ⟨-, y2⟩
    · rw [y2]; rw [y1] at y; exact hfC y
    · exact y2
  · rw [ef]
    rcases s6 with ⟨y1, y2⟩ | ⟨-, y2⟩
    · rw [y2]; rw [y1] at y; exact hfM y
    · exact y2
