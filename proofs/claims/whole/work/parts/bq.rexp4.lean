/-! routers: old adverts are taken out, the model's loop -/
theorem zm_exAll {T : Tp} {E : Ev} {K : Int32 → Int32 → Int32 → Prop} {g : Sg} {X TS TB : List Nat} {b N : Nat} (hE4 : eN E ≤ 400000) (hb : b < tb T) (hrt : tr T b = true) (hN : 24 < N) : ∀ (m i nn : Nat) (w : St) (s : Rs), i + m = 16 → m < nn → zMV w T E g K X TS (zTA w T) TB → zRml w T b s → zRw T E b s → (∀ r a, rB s r = some a → a.2.1 ≤ eN E) →
    ∃ w', fX19_base_2 N nn 0 b (Int32.ofNat i) w = some (0, w') ∧ zMV w' T E g K X TS (zTA w' T) TB ∧ zKm X w w' ∧ zRml w' T b (rExs (eN E) i m s) ∧ (∀ k j o, ¬ (k = 12 ∧ j = 23 ∧ o = b) → ¬ (k = 19 ∧ j = 11) → zgI w' k j o = zgI w k j o) ∧ ((zgI w' 12 23 b = zgI w 12 23 b ∧ rB (rExs (eN E) i m s) = rB s) ∨ zgI w' 12 23 b = 1) ∧ (∀ k o i, ¬ (o = b ∧ k = 150) → ¬ ((k = 162 ∨ k = 163) ∧ 16 * b ≤ o ∧ o < 16 * b + 16) → k ≠ 179 → k ≠ 180 → zgA w' k o i = zgA w k o i) ∧ zMr b w w' := by
  intro m
  induction m with
  | zero =>
    intro i nn w s hi hn hV hR hw hold
    obtain ⟨nn, rfl⟩ : ∃ k, nn = k + 1 := ⟨nn - 1, by omega⟩
    have : i = 16 := by omega
    subst this
    refine ⟨w, ?_, hV, zKm_rf _ _, hR, fun _ _ _ _ _ => rfl, Or.inl ⟨rfl, rfl⟩, fun _ _ _ _ _ _ _ => rfl, zMr_rf _ _⟩
    show fX19_base_2b N (fX19_base_2 N nn) 0 b (Int32.ofNat 16) w = _
    unfold fX19_base_2b
    rw [if_pos (by decide)]
  | succ m ih =>
    intro i nn w s hi hn hV hR hw hold
    obtain ⟨nn, rfl⟩ : ∃ k, nn = k + 1 := ⟨nn - 1, by omega⟩
    have hi16 : i < 16 := by omega
    obtain ⟨⟨ids, mN⟩, mT, mB, m16, m17, m18⟩ := id hR
    have hnow : zgI w 19 24 0 = Int32.ofNat (eN E) := hV.2.2.1.1
    have n85 : ∀ w1 : St, fX19_base_85 N (fX19_base_2 N nn) 0 b (Int32.ofNat i) w1 = fX19_base_2 N nn 0 b (Int32.ofNat (i + 1)) w1 := fun w1 => by
      unfold fX19_base_85
      rw [zo_i1, zl_e]
    have hBi := mB i hi16
    have start : fX19_base_2 N (nn + 1) 0 b (Int32.ofNat i) w = (if (zgA w 150 b i) = (-1 : Int32) then (fX19_base_85 N (fX19_base_2 N nn) 0 b (Int32.ofNat i) w) else (if (Int32.ofNat (eN E) - (zgA w 151 b i)) < (5000 : Int32) then (fX19_base_85 N (fX19_base_2 N nn) 0 b (Int32.ofNat i) w) else (zc (fX19_dropAdvert N 0 (zgA w 150 b i) w) fun _ z8 => zk (Int32.ofNat i) 16 <| zl (zsA z8 150 b i (-1 : Int32)) fun z12 => zl (zsI z12 12 23 b (1 : Int32)) fun z13 => fX19_base_59 N (fX19_base_2 N nn) N 0 b (Int32.ofNat i) (0 : Int32) z13))) := by
      show fX19_base_2b N (fX19_base_2 N nn) 0 b (Int32.ofNat i) w = _
      unfold fX19_base_2b
      rw [if_neg (by rw [show (16 : Int32) = Int32.ofNat 16 from rfl, zo_le (by omega) (by omega)]; omega), zkk hi16 (by omega), zkk hi16 (by omega), zkk hi16 (by omega), zoC (by omega), hnow]
    have stay : rEx (eN E) i s = s → fX19_base_2 N (nn + 1) 0 b (Int32.ofNat i) w = fX19_base_2 N nn 0 b (Int32.ofNat (i + 1)) w → ∃ w', fX19_base_2 N (nn + 1) 0 b (Int32.ofNat i) w = some (0, w') ∧ zMV w' T E g K X TS (zTA w' T) TB ∧ zKm X w w' ∧ zRml w' T b (rExs (eN E) i (m + 1) s) ∧ (∀ k j o, ¬ (k = 12 ∧ j = 23 ∧ o = b) → ¬ (k = 19 ∧ j = 11) → zgI w' k j o = zgI w k j o) ∧ ((zgI w' 12 23 b = zgI w 12 23 b ∧ rB (rExs (eN E) i (m + 1) s) = rB s) ∨ zgI w' 12 23 b = 1) ∧ (∀ k o i, ¬ (o = b ∧ k = 150) → ¬ ((k = 162 ∨ k = 163) ∧ 16 * b ≤ o ∧ o < 16 * b + 16) → k ≠ 179 → k ≠ 180 → zgA w' k o i = zgA w k o i) ∧ zMr b w w' := fun eR run => by
      have t := ih (i + 1) nn w s (by omega) (by omega) hV hR hw hold
      show ∃ w', fX19_base_2 N (nn + 1) 0 b (Int32.ofNat i) w = some (0, w') ∧ zMV w' T E g K X TS (zTA w' T) TB ∧ zKm X w w' ∧ zRml w' T b (rExs (eN E) (i + 1) m (rEx (eN E) i s)) ∧ (∀ k j o, ¬ (k = 12 ∧ j = 23 ∧ o = b) → ¬ (k = 19 ∧ j = 11) → zgI w' k j o = zgI w k j o) ∧ ((zgI w' 12 23 b = zgI w 12 23 b ∧ rB (rExs (eN E) (i + 1) m (rEx (eN E) i s)) = rB s) ∨ zgI w' 12 23 b = 1) ∧ (∀ k o i, ¬ (o = b ∧ k = 150) → ¬ ((k = 162 ∨ k = 163) ∧ 16 * b ≤ o ∧ o < 16 * b + 16) → k ≠ 179 → k ≠ 180 → zgA w' k o i = zgA w k o i) ∧ zMr b w w'
      rw [eR, run]
      exact t
    cases e : rB s i with
    | none =>
      rw [e] at hBi
      refine stay (by unfold rEx; rw [e]) ?_
      rw [start, if_pos hBi, n85]
    | some a =>
      rw [e] at hBi
      obtain ⟨x, x1, x2, x3, -⟩ := hBi
      have hl := hold i a e
      rw [if_neg (by rw [x2]; exact zo_ne1 (by omega)), x3, zo_sub hl] at start
      by_cases c : a.2.1 + 5000 ≤ eN E
      · have eR : rEx (eN E) i s = (hNo (rH s) i, rT s, bSet (rB s) i none, s.2.2.2) := by unfold rEx; rw [e]; exact if_pos c
        obtain ⟨w1, r1, r2, r3, r4, r5, r6, r7, r8, r9⟩ := zm_baseOut (K2 := fX19_base_2 N nn) hV hb hrt hi16 x1 x2 mN hw.1.1 mB hN
        have R1 : zRml w1 T b (rEx (eN E) i s) := by
          rw [eR]
          exact ⟨⟨ids, r4⟩, zRmT_cg (r7 _ _ _ (by omega) (by omega)) (fun k j hk => r8 k b j (by omega) (by omega) (by omega) (by omega)) mT, r5, (r7 _ _ _ (by omega) (by omega)).trans m16, (r7 _ _ _ (by omega) (by omega)).trans m17, (r7 _ _ _ (by omega) (by omega)).trans m18⟩
        obtain ⟨w', s1, s2, s3, s4, s5, s6, s7, s8⟩ := ih (i + 1) nn w1 (rEx (eN E) i s) (by omega) (by omega) r2 R1 (zRw_ex hw) (rEx_old hold)
        refine ⟨w', ?_, s2, zKm_tr r3 s3, s4, fun k j o n1 n2 => (s5 k j o n1 n2).trans (r7 k j o n1 n2), ?_, fun k o j n1 n2 n3 n4 => (s7 k o j n1 n2 n3 n4).trans (r8 k o j (fun y => n1 ⟨y.1, y.2.1⟩) n2 n3 n4), zMr_tr r9 s8⟩
        · rw [start, if_neg (by rw [show (5000 : Int32) = Int32.ofNat 5000 from rfl, zo_lt (by omega) (by omega)]; omega), x2, r1, n85]
          exact s1
        · rcases s6 with ⟨y, -⟩ | y
          · exact Or.inr (y.trans r6)
          · exact Or.inr y
      · refine stay (by unfold rEx; rw [e]; exact if_neg c) ?_
        rw [start, if_pos (by rw [show (5000 : Int32) = Int32.ofNat 5000 from rfl, zo_lt (by omega) (by omega)]; omega), n85]
