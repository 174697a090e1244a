/-! ways, the model: sums over all middles -/
def upd2 (D : Nat → Nat → Nat) (x y v : Nat) : Nat → Nat → Nat := fun a b => if a = x ∧ b = y then v else D a b
theorem upd2_s (D : Nat → Nat → Nat) (x y v : Nat) : upd2 D x y v x y = v := if_pos ⟨rfl, rfl⟩
theorem upd2_n {D : Nat → Nat → Nat} {x y v a b : Nat} (h : ¬ (a = x ∧ b = y)) : upd2 D x y v a b = D a b := if_neg h
def zY9 (w : St) (D : Nat → Nat → Nat) : Prop := ∀ x y, x < 16 → y < 16 → zgA w 190 0 (16 * x + y) = Int32.ofNat (D x y)
/-- only what is reckoned for sums changes -/
def zYm (w w' : St) : Prop := (∀ k j o, zgI w' k j o = zgI w k j o) ∧ (∀ k o i, ¬ (k = 190 ∧ o = 0) → zgA w' k o i = zgA w k o i) ∧ (∀ k o i, zgL w' k o i = zgL w k o i) ∧ (∀ k o i, zgQ w' k o i = zgQ w k o i) ∧ ∀ k o i, zgR w' k o i = zgR w k o i
theorem zYm_rf (w : St) : zYm w w := ⟨fun _ _ _ => rfl, fun _ _ _ _ => rfl, fun _ _ _ => rfl, fun _ _ _ => rfl, fun _ _ _ => rfl⟩
theorem zYm_tr {x y z : St} (h1 : zYm x y) (h2 : zYm y z) : zYm x z := ⟨fun k j o => (h2.1 k j o).trans (h1.1 k j o), fun k o i n => (h2.2.1 k o i n).trans (h1.2.1 k o i n), fun k o i => (h2.2.2.1 k o i).trans (h1.2.2.1 k o i), fun k o i => (h2.2.2.2.1 k o i).trans (h1.2.2.2.1 k o i), fun k o i => (h2.2.2.2.2 k o i).trans (h1.2.2.2.2 k o i)⟩
theorem zYm_A {w : St} {i : Nat} {v : Int32} : zYm w (zsA w 190 0 i v) := ⟨fun _ _ _ => rfl, fun k' o' i' n => by rw [zgA_sA, if_neg (fun y => n ⟨y.1, y.2.1⟩)], fun _ _ _ => rfl, fun _ _ _ => rfl, fun _ _ _ => rfl⟩
theorem zYm_b {w w' : St} {b : Nat} {Ba : Nat → Option Ad} (f : zYm w w') (h : zRmB w b Ba) : zRmB w' b Ba := fun r hr => by
  have h := h r hr
  have em : ∀ x k, mad w' x k = mad w x k := fun x k => f.2.1 178 0 _ (by omega)
  cases q : Ba r with
  | none => rw [q] at h; exact (f.2.1 150 b r (by omega)).trans h
  | some a =>
    rw [q] at h
    obtain ⟨x, h1, h2, h3, h4⟩ := h
    refine ⟨x, h1, (f.2.1 150 b r (by omega)).trans h2, (f.2.1 151 b r (by omega)).trans h3, ?_⟩
    unfold zAdw at h4 ⊢
    simp only [em]
    exact h4
theorem zY9_set {w : St} {D : Nat → Nat → Nat} {x y v : Nat} (hx : x < 16) (hy : y < 16) (h : zY9 w D) : zY9 (zsA w 190 0 (16 * x + y) (Int32.ofNat v)) (upd2 D x y v) := fun a b ha hb => by
  rw [zgA_sA]
  by_cases c : a = x ∧ b = y
  · rw [if_pos ⟨rfl, rfl, by rw [c.1, c.2]⟩, c.1, c.2, upd2_s]
  · rw [if_neg (fun q => c (by have := q.2.2; omega)), upd2_n c]; exact h a b ha hb
theorem zI16 {x y : Nat} : ((16 : Int32) * Int32.ofNat x) + Int32.ofNat y = Int32.ofNat (16 * x + y) := by
  rw [show (16 : Int32) = Int32.ofNat 16 from rfl, ← Int32.ofNat_mul, zo_add]
/-- what is told of friends, as far as it is written down -/
def zE0 (Ba : Nat → Option Ad) (Dn : Nat → En → Prop) (D : Nat → Nat → Nat) : Prop :=
  (∀ x, x < 16 → D x x = 0) ∧ (∀ x y, x < 16 → y < 16 → D x y ≤ FARn) ∧ (∀ x e, x < 16 → Dn x e → e.1 ≠ 0 → tellB Ba (e.1 - 1) x e.2.1 = true → D x (e.1 - 1) ≤ e.2.2) ∧ ∀ x y, x < 16 → y < 16 → x ≠ y → D x y < FARn → ∃ n, Ed Ba x y n (D x y)
theorem zE0_skip {Ba : Nat → Option Ad} {Dn : Nat → En → Prop} {D : Nat → Nat → Nat} {x : Nat} {a : En} (hs : a.1 = 0 ∨ tellB Ba (a.1 - 1) x a.2.1 = false ∨ D x (a.1 - 1) ≤ a.2.2) (h : zE0 Ba Dn D) : zE0 Ba (fun k e => Dn k e ∨ (k = x ∧ e = a)) D := by
  refine ⟨h.1, h.2.1, fun k e hk he h1 h2 => ?_, h.2.2.2⟩
  rcases he with he | ⟨e1, e2⟩
  · exact h.2.2.1 k e hk he h1 h2
  · rw [e2] at h1 h2 ⊢
    rw [e1] at h2 ⊢
    rcases hs with hs | hs | hs
    · exact absurd hs h1
    · rw [hs] at h2; cases h2
    · exact hs
theorem zE0_set {Ba : Nat → Option Ad} {Dn : Nat → En → Prop} {D : Nat → Nat → Nat} {x : Nat} {a : En} (hx : x < 16) (ha : a ∈ bE Ba x) (ha1 : a.1 ≠ 0) (ha2 : a.2.2 ≤ 1000) (ht : tellB Ba (a.1 - 1) x a.2.1 = true) (hd : ¬ D x (a.1 - 1) ≤ a.2.2) (h : zE0 Ba Dn D) : zE0 Ba (fun k e => Dn k e ∨ (k = x ∧ e = a)) (upd2 D x (a.1 - 1) a.2.2) := by
  obtain ⟨h1, h2, h3, h4⟩ := h
  have F9 : FARn = 1000000000 := rfl
  have lt : ∀ k y, upd2 D x (a.1 - 1) a.2.2 k y ≤ D k y := fun k y => by
    by_cases c : k = x ∧ y = a.1 - 1
    · rw [c.1, c.2, upd2_s]; omega
    · rw [upd2_n c]; exact Nat.le_refl _
  refine ⟨fun k hk => ?_, fun k y hk hy => Nat.le_trans (lt k y) (h2 k y hk hy), fun k e hk he e1 e2 => ?_, fun k y hk hy hne hlt => ?_⟩
  · have := lt k k
    rw [h1 k hk] at this; omega
  · rcases he with he | ⟨q1, q2⟩
    · exact Nat.le_trans (lt _ _) (h3 k e hk he e1 e2)
    · rw [q1, q2, upd2_s]; exact Nat.le_refl _
  · by_cases c : k = x ∧ y = a.1 - 1
    · refine ⟨a.2.1, ?_, ?_⟩
      · rw [c.1, c.2, upd2_s, show a.1 - 1 + 1 = a.1 from by omega]; exact ha
      · rw [c.1, c.2]; exact ht
    · rw [upd2_n c] at hlt ⊢
      exact h4 k y hk hy hne hlt
theorem zm_sumRows {w0 : St} {b x y num N : Nat} {Ba : Nat → Option Ad} {K41 : Nat → Nat → Int32 → St → Option (Int32 × St)} (hB : zRmB w0 b Ba) (hBn : zBn Ba) (hx : x < 16) (hy : y < 2400) (hA : zAdw w0 y x num (bE Ba x)) (hN : 24 < N) {w : St} {D : Nat → Nat → Nat} {Dn : Nat → En → Prop} (hD : zY9 w D) (hE : zE0 Ba Dn D) (hF : zYm w0 w) :
    ∃ w' D', fX19_leastSums_57 N K41 N 0 b (Int32.ofNat x) (Int32.ofNat y) (Int32.ofNat 0) w = K41 0 b (Int32.ofNat (x + 1)) w' ∧ zY9 w' D' ∧ zE0 Ba (fun k e => Dn k e ∨ (k = x ∧ e ∈ bE Ba x)) D' ∧ zYm w0 w' := by
  have hL := hBn x
  obtain ⟨-, nN, ⟨n1, n2⟩, m2, m3, mr, -⟩ := hA
  have F9 : FARn = 1000000000 := rfl
  have loop : ∀ (C A : List En) (i nn : Nat) (v : St) (D : Nat → Nat → Nat), A ++ C = bE Ba x → A.length = nN + i → C.length < nn → zY9 v D → zE0 Ba (fun k e => Dn k e ∨ (k = x ∧ e ∈ A)) D → zYm w0 v → ∃ w' D', fX19_leastSums_57 N K41 nn 0 b (Int32.ofNat x) (Int32.ofNat y) (Int32.ofNat i) v = K41 0 b (Int32.ofNat (x + 1)) w' ∧ zY9 w' D' ∧ zE0 Ba (fun k e => Dn k e ∨ (k = x ∧ e ∈ bE Ba x)) D' ∧ zYm w0 w' := by
    intro C
    induction C with
    | nil =>
      intro A i nn v D e hA hn' g1 g2 g3
      obtain ⟨nn, rfl⟩ : ∃ k, nn = k + 1 := ⟨nn - 1, by omega⟩
      rw [List.append_nil] at e
      rw [e] at hA g2
      refine ⟨v, D, ?_, g1, g2, g3⟩
      have em : mad v y 3 = mad w0 y 3 := g3.2.1 178 0 _ (by omega)
      show fX19_leastSums_57b N K41 (fX19_leastSums_57 N K41 nn) 0 b (Int32.ofNat x) (Int32.ofNat y) (Int32.ofNat i) v = _
      unfold fX19_leastSums_57b fX19_leastSums_165
      rw [if_neg (zo_ne1 (by omega)), show (3 : Int32) = Int32.ofNat 3 from rfl, zm_ad hy (by omega), zc_e, em, m3, if_pos (by rw [zo_le (by omega) (by omega)]; omega), zo_i1, zl_e]
    | cons a C ih =>
      intro A i nn v D e hA hn' g1 g2 g3
      obtain ⟨nn, rfl⟩ : ∃ k, nn = k + 1 := ⟨nn - 1, by omega⟩
      have hlen : A.length < (bE Ba x).length := by rw [← e, List.length_append, List.length_cons]; omega
      have hget : (bE Ba x)[nN + i]? = some a := by rw [← hA, ← e, List.getElem?_append_right (Nat.le_refl _), Nat.sub_self]; rfl
      have am := List.mem_of_getElem? hget
      obtain ⟨a1, a2, a3, a4⟩ := hL.2 a am
      obtain ⟨d1, d2, d3, d4⟩ := mr _ _ hget
      have a0 : a.1 ≠ 0 := fun q => by have := d4.mp q; omega
      have em : ∀ k, mad v y k = mad w0 y k := fun k => g3.2.1 178 0 _ (by omega)
      have hBv := zYm_b g3 hB
      obtain ⟨f, hf⟩ : ∃ f, a.1 = f + 1 := ⟨a.1 - 1, by omega⟩
      have f16 : f < 16 := by omega
      have go : ∀ (v' : St) (D' : Nat → Nat → Nat), zY9 v' D' → zE0 Ba (fun k e => (Dn k e ∨ (k = x ∧ e ∈ A)) ∨ (k = x ∧ e = a)) D' → zYm w0 v' → ∃ w' D', fX19_leastSums_159 N K41 (fX19_leastSums_57 N K41 nn) 0 b (Int32.ofNat x) (Int32.ofNat y) (Int32.ofNat i) v' = K41 0 b (Int32.ofNat (x + 1)) w' ∧ zY9 w' D' ∧ zE0 Ba (fun k e => Dn k e ∨ (k = x ∧ e ∈ bE Ba x)) D' ∧ zYm w0 w' := by
        intro v' D' q1 q2 q3
        unfold fX19_leastSums_159
        rw [zo_i1, zl_e]
        refine ih (A ++ [a]) (i + 1) nn v' D' (by rw [List.append_assoc]; exact e) (by rw [List.length_append, show [a].length = 1 from rfl]; omega) (by simp at hn'; omega) q1 ?_ q3
        obtain ⟨p1, p2, p3, p4⟩ := q2
        refine ⟨p1, p2, fun k e' hk he => p3 k e' hk ?_, p4⟩
        rcases he with he | ⟨he, he'⟩
        · exact Or.inl (Or.inl he)
        · rcases List.mem_append.mp he' with y | y
          · exact Or.inl (Or.inr ⟨he, y⟩)
          · exact Or.inr ⟨he, List.mem_singleton.mp y⟩
      have skip := fun hs => go v D g1 (zE0_skip (x := x) (a := a) hs g2) g3
      show ∃ w' D', fX19_leastSums_57b N K41 (fX19_leastSums_57 N K41 nn) 0 b (Int32.ofNat x) (Int32.ofNat y) (Int32.ofNat i) v = K41 0 b (Int32.ofNat (x + 1)) w' ∧ _
      unfold fX19_leastSums_57b
      have m2' : mad v y 2 = Int32.ofNat nN := (em 2).trans m2
      rw [if_neg (zo_ne1 (by omega)), show (3 : Int32) = Int32.ofNat 3 from rfl, zm_ad hy (by omega), zc_e, em, m3, if_neg (by rw [zo_le (by omega) (by omega)]; omega), show (0 : Int32) = Int32.ofNat 0 from rfl, zm_friendRow hy m2' (by omega), zc_e, show 4 + 3 * (nN + i) + 0 = 4 + 3 * (nN + i) from rfl, em, d1, hf, zo_s1 (Nat.succ_pos f), show f.succ - 1 = f from rfl, show (2 : Int32) = Int32.ofNat 2 from rfl, zm_friendRow hy m2' (by omega), zc_e, em, d3, zkk f16 (by omega), zoC (by omega)]
      rw [hf, show f + 1 - 1 = f from rfl] at skip
      have Bf := hBv f f16
      cases qf : Ba f with
      | none =>
        rw [qf] at Bf
        rw [if_pos (show zgA v 150 b f = -1 from Bf)]
        exact skip (Or.inr (Or.inl (by unfold tellB bE; rw [qf]; rfl)))
      | some af =>
        rw [qf] at Bf
        obtain ⟨yf, yf1, yf2, -, yf3⟩ := Bf
        have eb : bE Ba f = af.2.2 := by unfold bE; rw [qf]
        have hLf := hBn f
        rw [eb] at hLf
        have et : tellB Ba f x a.2.1 = af.2.2.any (fun e => e.1 == x + 1 && e.2.1 == a.2.1) := by unfold tellB; rw [eb]
        have ct := cTo_any hLf x a.2.1
        rw [yf2, if_neg (zo_ne1 (by omega)), zkk f16 (by omega), show (1 : Int32) = Int32.ofNat 1 from rfl, zm_friendRow hy m2' (by omega), zc_e, em, d2, zm_costTo yf1 yf3 hLf hx a2 hN, zc_e]
        by_cases k1 : tellB Ba f x a.2.1 = true
        · have k1' : ¬ cTo af.2.2 x a.2.1 = -1 := fun q => by rw [ct, ← et, k1] at q; cases q
          rw [show -Int32.ofNat 1 = (-1 : Int32) from rfl, if_neg k1', zI16, zkk (by omega) (by omega), zoC (by omega), g1 x f hx f16]
          have D9 := g2.2.1 x f hx f16
          by_cases k2 : D x f ≤ a.2.2
          · rw [if_pos ((zo_le (by omega) (by omega)).mpr k2)]
            exact skip (Or.inr (Or.inr k2))
          · rw [if_neg (fun q => k2 ((zo_le (by omega) (by omega)).mp q)), zkk (by omega) (by omega), zl_e]
            have st := zE0_set (x := x) (a := a) hx am a0 a4 (by rw [hf]; exact k1) (by rw [hf]; exact k2) g2
            rw [hf, show f + 1 - 1 = f from rfl] at st
            exact go _ _ (zY9_set hx f16 g1) st (zYm_tr g3 zYm_A)
        · have k1 : tellB Ba f x a.2.1 = false := by simpa using k1
          rw [show -Int32.ofNat 1 = (-1 : Int32) from rfl, if_pos (ct.mpr (et ▸ k1))]
          exact skip (Or.inr (Or.inl k1))
  refine loop ((bE Ba x).drop nN) ((bE Ba x).take nN) 0 N w D (List.take_append_drop _ _) (by rw [List.length_take]; omega) (by rw [List.length_drop]; omega) hD ?_ hF
  refine ⟨hE.1, hE.2.1, fun k e hk he e1 e2 => ?_, hE.2.2.2⟩
  rcases he with he | ⟨-, he⟩
  · exact hE.2.2.1 k e hk he e1 e2
  · obtain ⟨i, hi⟩ := List.getElem?_of_mem he
    have hl := (List.getElem?_eq_some_iff.mp hi).1
    rw [List.length_take] at hl
    rw [List.getElem?_take_of_lt (by omega)] at hi
    exact absurd ((mr i e hi).2.2.2.mpr (by omega)) e1
