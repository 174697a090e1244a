/-! the askings of a port: asked again, or come to nothing; both sides -/
theorem zAf_mem : ∀ {A : List (Nat × Nat)}, (A.map (fun a => a.1)).Nodup → ∀ {a : Nat × Nat}, a ∈ A → zAf A a.1 = a.2 := by
  intro A
  induction A with
  | nil => intro _ a h; cases h
  | cons b A ih =>
    intro hn a h
    rw [List.map_cons, List.nodup_cons] at hn
    unfold zAf
    rw [List.find?_cons]
    rcases List.mem_cons.mp h with e | h'
    · rw [e]
      simp
    · have hne : ¬ b.1 = a.1 := fun y => hn.1 (List.mem_map.mpr ⟨a, h', y.symm⟩)
      have hb : (b.1 == a.1) = false := by simpa using hne
      rw [hb]
      exact ih hn.2 h'
/-- the model goes over askings that are just begun -/
theorem zm_askTail {w : St} {T : Tp} {E : Ev} {g : Sg} {q N : Nat} (hA : zAm w T g) (hAw : zAw T E g) (hE : zEm w T E) (hw : zEw T E) (hq : tv T q) : ∀ (m k n : Nat), k + m = (gA g q).length → m < n → (∀ j a, k ≤ j → (gA g q)[j]? = some a → a.2 = eN E) → fX19_askings_2 N n 0 q (Int32.ofNat k) w = some (0, w) := by
  have hl := zAw_len hAw hq
  obtain ⟨c9, ca⟩ := hA q hq
  intro m
  induction m with
  | zero =>
    intro k n hk hn _
    obtain ⟨n, rfl⟩ : ∃ k, n = k + 1 := ⟨n - 1, by omega⟩
    show fX19_askings_2b N (fX19_askings_2 N n) 0 q (Int32.ofNat k) w = _
    unfold fX19_askings_2b
    rw [c9, if_pos (by rw [zo_le (by omega) (by omega)]; omega)]
  | succ m ih =>
    intro k n hk hn h
    obtain ⟨n, rfl⟩ : ∃ k, n = k + 1 := ⟨n - 1, by omega⟩
    have ha : (gA g q)[k]? = some (gA g q)[k] := List.getElem?_eq_getElem (by omega)
    have h2 := h k _ (Nat.le_refl _) ha
    have hz : Int32.ofNat (eN E) - Int32.ofNat (eN E) = Int32.ofNat 0 := by rw [zo_sub (Nat.le_refl _), Nat.sub_self]
    show fX19_askings_2b N (fX19_askings_2 N n) 0 q (Int32.ofNat k) w = _
    unfold fX19_askings_2b
    rw [c9, if_neg (by rw [zo_le (by omega) (by omega)]; omega), zkk (by omega) (by omega), zl_e, zkk (by omega) (by omega), zl_e, zoC (by omega), hE.1, (ca k _ ha).2, h2, hz, if_pos (by decide), if_neg (by decide), if_pos (by decide)]
    show zl (Int32.ofNat k + 1) (fun v1 => fX19_askings_2 N n 0 q v1 w) = _
    rw [zl_e, zo_i1]
    exact ih (k + 1) n (by omega) (by omega) (fun j a hj ha' => h j a (by omega) ha')
/-- an asking ends: what waited for it is taken out, the network's state is well still -/
theorem zGI_end {T : Tp} {E : Ev} {P : Dg → Prop} {g : Sg} {q s : Nat} (h : zGI T E P g) : zGI T E P (gRem (sA g (zupd (gA g) q ((gA g q).filter (fun a => a.1 != s)))) q s ((gW g q).filter (fun x => wTo x == s)).length) := by
  have hW := h.1.1
  have hPW := h.2.2.2.2
  have hr : gRem (sA g (zupd (gA g) q ((gA g q).filter (fun a => a.1 != s)))) q s ((gW g q).filter (fun x => wTo x == s)).length = sW (sA g (zupd (gA g) q ((gA g q).filter (fun a => a.1 != s)))) (zupd (gW g) q ((gW g q).filter (fun x => wTo x != s))) := by
    unfold gRem
    show sW _ (zupd (gW g) q (wrem s _ (gW g q))) = _
    rw [wrem_all]
  rw [hr]
  obtain ⟨⟨h1, h2, h3, h4, h5⟩, h6, h7, h8, h9⟩ := h
  have gw : ∀ p, zupd (gW g) q ((gW g q).filter (fun x => wTo x != s)) p = if p = q then (gW g q).filter (fun x => wTo x != s) else gW g p := fun p => rfl
  have sub : ∀ p G, G ∈ zupd (gW g) q ((gW g q).filter (fun x => wTo x != s)) p → G ∈ gW g p := by
    intro p G hG
    rw [gw] at hG
    by_cases e : p = q
    · rw [if_pos e] at hG; rw [e]; exact (List.mem_filter.mp hG).1
    · rw [if_neg e] at hG; exact hG
  refine ⟨⟨fun p hp G hG => hW p hp G (sub p G hG), ?_, h3, fun p t hp => ?_, h5⟩, fun p hp G hG => h6 p hp G (sub p G hG), fun p hp => ?_, h8, fun p hp G hG => hPW p hp G (sub p G hG)⟩
  · have := zAw_filter (q := q) (s := s) h2
    unfold zAw at this ⊢
    exact this
  · show (zupd (gA g) q ((gA g q).filter (fun a => a.1 != s)) p).any (fun a => a.1 == t) = (zupd (gW g) q ((gW g q).filter (fun x => wTo x != s)) p).any (fun x => wTo x == t)
    have h4' : (gA g p).any (fun a => a.1 == t) = (gW g p).any (fun x => wTo x == t) := h4 p t hp
    by_cases e : p = q
    · rw [e] at h4' ⊢
      rw [zupd_s, zupd_s, any_filter, anyW_filter, h4']
    · rw [zupd_n e, zupd_n e]; exact h4'
  · show (zupd (gW g) q ((gW g q).filter (fun x => wTo x != s)) p).length ≤ 16
    rw [gw]
    by_cases e : p = q
    · rw [if_pos e]
      have := List.length_filter_le (fun x => wTo x != s) (gW g q)
      have := h7 q (e ▸ hp)
      omega
    · rw [if_neg e]; exact h7 p hp
def mAlc : Nat := mX11_putNote ||| (mX8_endAsking ||| mAkc)
def mAlm : Nat := mX19_ask ||| (mX18_endAsking ||| (mX18_takeWaiting ||| (0x2000000000000000000000000000000000000000000000000000000000000000000000000000000000000000000000000000000000000000000000000000000000000000000000000000000000000000000000000000000000000000000000000000000000000000000000000000000000000000000000000000000000000000000000000000000000000000000000000000000000000000000000000000000000000000000000000000000 ||| mAkm)))
theorem zo_k {a b : Nat} (c : Int32) (hc : c = Int32.ofNat b) (ha : a < 2147483648) (hb : b < 2147483648) : Int32.ofNat a = c ↔ a = b := by rw [hc]; exact zo_eq ha hb
theorem zIp_askLoop {T : Tp} {E : Ev} {Wy : Wyt} {K : Int32 → Int32 → Int32 → Prop} {X Y TS TA TB : List Nat} {q N L0 : Nat} {x2 : Int32} {K2 : Nat → Nat → Int32 → St → Option (Int32 × St)} (hc : zTc T) (hq : tv T q) (hY : Y.length ≤ 60) (hN : 1481 < N) (hL8 : L0 ≤ 8) :
    ∀ (rest kept V : List (Nat × Nat)) (i n n' : Nat) (g : Sg) (R : Rg) (mk : Nat → Nat) (z w : St), gA g q = kept ++ (rest ++ V) → (∀ a, a ∈ V → a.2 = eN E) → i + rest.length = L0 → rest.length < n → rest.length + 8 < n' → (∀ j a, rest[j]? = some a → zgA z 129 q (i + j) = Int32.ofNat a.1) → mk (tw T q) + 17 * rest.length < 2147483646 → zIp z w T E g g Wy R mk K X Y TS TA TB → (∀ x, x ∈ kept → eN E < x.2 + 200) →
    ∃ z' w' g' R' mk', fX11_doAskings_26 N K2 n 0 (tw T q) x2 q (Int32.ofNat L0) (Int32.ofNat i) z = K2 0 (tw T q) (x2 + 1) z' ∧ fX19_askings_2 N n' 0 q (Int32.ofNat kept.length) w = some (0, w') ∧ zIp z' w' T E g' g' Wy R' mk' K X Y TS TA TB ∧ zKe X z z' ∧ zKm Y w w' ∧ (∀ b n v, R b n = some v → R' b n = some v) ∧ (∀ c, mk c ≤ mk' c ∧ mk' c ≤ mk c + (if c = tw T q then 17 * rest.length else 0)) ∧ zFr mAlc z z' ∧ zFr mAlm w w' ∧ (∀ QF QW QD, zQcl T E QF QW QD → (∀ D p t, D.1 2 = 0 → tv T p → t < 8 → QD p (Int32.ofNat t) D) → zQI T QF QW g → zQI T QF QW g') ∧ (∀ x, x ∈ gA g' q → eN E < x.2 + 200) := by
  intro rest
  induction rest with
  | nil =>
    intro kept V i n n' g R mk z w hg hV hi hn hn' hrem hmk hp hkp
    obtain ⟨n, rfl⟩ : ∃ k, n = k + 1 := ⟨n - 1, by omega⟩
    have hi : i = L0 := by simpa using hi
    obtain ⟨⟨pC, pM, pG, pI, ⟨pWc, pWm, pWw⟩, pE, pU, p15⟩, pR, pW⟩ := id hp
    have hl := zAw_len pG.2.1 hq
    have hlen : (gA g q).length = kept.length + V.length := by rw [hg]; simp
    refine ⟨z, w, g, R, mk, ?_, ?_, hp, zKe_rf _ _, zKm_rf _ _, fun _ _ _ h => h, fun c => ⟨Nat.le_refl _, Nat.le_add_right _ _⟩, zFr_rf _ _, zFr_rf _ _, fun _ _ _ _ _ h => h, fun x hx => ?_⟩
    · show fX11_doAskings_26b N K2 (fX11_doAskings_26 N K2 n) 0 (tw T q) x2 q (Int32.ofNat L0) (Int32.ofNat i) z = _
      unfold fX11_doAskings_26b
      rw [hi, if_pos (Int32.le_refl _), zl_e]
    · exact zm_askTail pM.2.2.2.2.2.1 pG.2.1 pM.2.2.1 pM.2.2.2.1 hq V.length kept.length n' hlen.symm (by simp at hn'; omega) (fun j a hj ha => by
        rw [hg, List.nil_append, List.getElem?_append_right hj] at ha
        exact hV a (List.mem_of_getElem? ha))
    · rw [hg, List.nil_append] at hx
      rcases List.mem_append.mp hx with h | h
      · exact hkp x h
      · rw [hV x h]; omega
  | cons a rest ih =>
    intro kept V i n n' g R mk z w hg hV hi hn hn' hrem hmk hp hkp
    obtain ⟨n, rfl⟩ : ∃ k, n = k + 1 := ⟨n - 1, by omega⟩
    obtain ⟨n', rfl⟩ : ∃ k, n' = k + 1 := ⟨n' - 1, by omega⟩
    have hi' : i + (rest.length + 1) = L0 := by simpa using hi
    have hna : rest.length < n := by simp at hn; omega
    have hnb : rest.length + 8 < n' := by simp at hn'; omega
    have hmk' : mk (tw T q) + 17 * (rest.length + 1) < 2147483646 := by simpa using hmk
    obtain ⟨⟨pC, pM, pG, pI, ⟨pWc, pWm, pWw⟩, pE, pU, p15⟩, pR, pW⟩ := id hp
    have hb := (hc.2.2.2.2.2.1 q hq).1
    have hAw := pG.2.1
    obtain ⟨hnd, hin⟩ := hAw q hq
    have ham : a ∈ gA g q := by rw [hg]; simp
    obtain ⟨a8, a1, aE⟩ := hin a ham
    have hl8 := zAw_len hAw hq
    have hlen : (gA g q).length = kept.length + (rest.length + 1 + V.length) := by rw [hg]; simp; omega
    have hkl : kept.length < (gA g q).length := by omega
    have hak : (gA g q)[kept.length]? = some a := by rw [hg]; simp
    have hak' : (gA g q)[kept.length] = a := by rw [List.getElem?_eq_getElem hkl] at hak; exact Option.some.inj hak
    have c129 : zgA z 129 q i = Int32.ofNat a.1 := hrem 0 a rfl
    have isA := zc_isAsked (N := N) pC.2.2.2.2.2.2.1 hAw pC.2.2.2.1 hq a8
    have nA : nAsked g q a.1 = true := List.any_eq_true.mpr ⟨a, ham, by simp⟩
    rw [nA] at isA
    have c127 : zgA z 127 q a.1 = Int32.ofNat a.2 := by rw [(pC.2.2.2.2.2.2.1 q hq).2.2 a.1 a8, zAf_mem hnd ham]
    have cE : zgI z 11 4 0 = Int32.ofNat (eN E) := pC.2.2.1.1
    have mE : zgI w 19 24 0 = Int32.ofNat (eN E) := pM.2.2.1.1
    have hw4 := pC.2.2.2.1.1
    have hgone : Int32.ofNat (eN E) - Int32.ofNat a.2 = Int32.ofNat (eN E - a.2) := zo_sub aE
    have e20 : Int32.ofNat (eN E - a.2) = (20 : Int32) ↔ eN E - a.2 = 20 := zo_k 20 rfl (by omega) (by omega)
    have e40 : Int32.ofNat (eN E - a.2) = (40 : Int32) ↔ eN E - a.2 = 40 := zo_k 40 rfl (by omega) (by omega)
    have e200 : (200 : Int32) ≤ Int32.ofNat (eN E - a.2) ↔ 200 ≤ eN E - a.2 := zo_le (a := 200) (by omega) (by omega)
    have l200 : Int32.ofNat (eN E - a.2) < (200 : Int32) ↔ eN E - a.2 < 200 := zo_lt (b := 200) (by omega) (by omega)
    have stepC : fX11_doAskings_26 N K2 (n + 1) 0 (tw T q) x2 q (Int32.ofNat L0) (Int32.ofNat i) z = if eN E - a.2 = 20 ∨ eN E - a.2 = 40 then fX11_doAskings_82 N K2 (fX11_doAskings_26 N K2 n) 0 (tw T q) x2 q (Int32.ofNat L0) (Int32.ofNat i) (Int32.ofNat a.1) (Int32.ofNat (eN E - a.2)) z else fX11_doAskings_98 N K2 (fX11_doAskings_26 N K2 n) 0 (tw T q) x2 q (Int32.ofNat L0) (Int32.ofNat i) (Int32.ofNat a.1) (Int32.ofNat (eN E - a.2)) z := by
      show fX11_doAskings_26b N K2 (fX11_doAskings_26 N K2 n) 0 (tw T q) x2 q (Int32.ofNat L0) (Int32.ofNat i) z = _
      unfold fX11_doAskings_26b
      rw [if_neg (by rw [zo_le (by omega) (by omega)]; omega), zkk (by omega) (by omega), zl_e, zoC (by omega), c129, isA, zc_e, if_pos (show ¬ zbi true = 0 by decide), zkk (by omega) (by omega), zl_e, zoC (by omega), cE, c127, hgone]
      by_cases c1 : eN E - a.2 = 20
      · rw [if_pos (e20.mpr c1), if_pos (Or.inl c1)]
      · rw [if_neg (fun y => c1 (e20.mp y))]
        by_cases c2 : eN E - a.2 = 40
        · rw [if_neg (fun y => y (e40.mpr c2)), if_pos (Or.inr c2)]
        · rw [if_pos (fun y => c2 (e40.mp y)), if_neg (fun y => y.elim c1 c2)]
    have stepM : fX19_askings_2 N (n' + 1) 0 q (Int32.ofNat kept.length) w = if eN E - a.2 < 200 then (if eN E - a.2 = 20 ∨ eN E - a.2 = 40 then fX19_askings_141 N (fX19_askings_2 N n') 0 q (Int32.ofNat kept.length) (Int32.ofNat a.1) w else fX19_askings_147 N (fX19_askings_2 N n') 0 q (Int32.ofNat kept.length) w) else (zc (fX18_endAsking N q (Int32.ofNat kept.length) w) fun _ z10 => zc (fX19_firstWaiting N 0 q (Int32.ofNat a.1) z10) fun r13 z14 => fX19_askings_54 N (fX19_askings_2 N n') N 0 q (Int32.ofNat kept.length) (Int32.ofNat a.1) (0 : Int32) r13 z14) := by
      show fX19_askings_2b N (fX19_askings_2 N n') 0 q (Int32.ofNat kept.length) w = _
      obtain ⟨m9, ma⟩ := pM.2.2.2.2.2.1 q hq
      obtain ⟨m8, m9'⟩ := ma _ a hak
      unfold fX19_askings_2b
      rw [m9, if_neg (by rw [zo_le (by omega) (by omega)]; omega), zkk (by omega) (by omega), zl_e, zkk (by omega) (by omega), zl_e, zoC (by omega), mE, m8, m9', hgone]
      by_cases c3 : eN E - a.2 < 200
      · rw [if_pos (l200.mpr c3), if_pos c3]
        by_cases c1 : eN E - a.2 = 20
        · rw [if_pos (e20.mpr c1), if_pos (Or.inl c1)]
        · rw [if_neg (fun y => c1 (e20.mp y))]
          by_cases c2 : eN E - a.2 = 40
          · rw [if_neg (fun y => y (e40.mpr c2)), if_pos (Or.inr c2)]
          · rw [if_pos (fun y => c2 (e40.mp y)), if_neg (fun y => y.elim c1 c2)]
      · rw [if_neg (fun y => c3 (l200.mp y)), if_neg c3]
    rw [stepC, stepM]
    by_cases c : eN E - a.2 = 20 ∨ eN E - a.2 = 40
    · -- asked again
      rw [if_pos c, if_pos (by omega), if_pos c]
      obtain ⟨z1, w1, r1, r2, r3, r4, r5, f1, f2⟩ := zIp_ask (N := N) hp hq a8 (by omega) (by omega)
      obtain ⟨-, e2, -, -⟩ := nPut_W E g q (nQ q (dNote q 5 (zad (8 * (q / 8) + a.1))) (-1) 0 28)
      have e2 : gA (nAsk E g q a.1) = gA g := e2
      obtain ⟨z2, w2, g', R', mk', y1, y2, y3, y4, y5, y6, y7, y8, y9, yQ, yF⟩ := ih (kept ++ [a]) V (i + 1) n n' (nAsk E g q a.1) R mk z1 w1 (by rw [e2, hg]; simp) hV (by omega) hna hnb (fun j b hj => by
        rw [zFr_gA f1 (by decide), show i + 1 + j = i + (j + 1) by omega]; exact hrem (j + 1) b hj) (by omega) r3 (fun x hx => by
        rcases List.mem_append.mp hx with h | h
        · exact hkp x h
        · obtain rfl : x = a := by simpa using h
          omega)
      refine ⟨z2, w2, g', R', mk', ?_, ?_, y3, zKe_tr r4 y4, zKm_tr r5 y5, y6, fun c => ?_, zFr_tr (zFr_w f1 (by decide)) y8, zFr_tr (zFr_w f2 (by decide)) y9, fun QF QW QD hQ h0 h => yQ QF QW QD hQ h0 (nNote_Q hQ hq (Or.inl rfl) h), yF⟩
      · unfold fX11_doAskings_82
        obtain ⟨v1, v3, -⟩ := pC.1.2.2.2 q hq
        have ad : fX5_addressOf N (q / 8) (Int32.ofNat a.1) z = some (zad (8 * (q / 8) + a.1), z) := by
          unfold fX5_addressOf
          rw [(pC.1.2.1.1 (q / 8) (tv_24 hc hq)).2.1, zad_e (tv_24 hc hq) a8]
        rw [v3, zl_e, zd_e, ad, zc_e, r1, zc_e]
        unfold fX11_doAskings_98 fX11_doAskings_191
        rw [if_neg (fun y => by have := e200.mp y; omega), zl_e, zo_i1]
        exact y1
      · unfold fX19_askings_141 fX19_askings_147 fX19_askings_150
        rw [r2, zc_e, zl_e, zo_i1]
        rw [List.length_append] at y2
        exact y2
      · have := y7 c
        by_cases e : c = tw T q
        · rw [if_pos e] at this ⊢; simp; omega
        · rw [if_neg e] at this ⊢; exact this
    · rw [if_neg c]
      by_cases c2 : eN E - a.2 < 200
      · -- not yet
        rw [if_pos c2, if_neg c]
        obtain ⟨z2, w2, g', R', mk', y1, y2, y3, y4, y5, y6, y7, y8, y9, yQ, yF⟩ := ih (kept ++ [a]) V (i + 1) n n' g R mk z w (by rw [hg]; simp) hV (by omega) hna hnb (fun j b hj => by
          rw [show i + 1 + j = i + (j + 1) by omega]; exact hrem (j + 1) b hj) (by omega) hp (fun x hx => by
          rcases List.mem_append.mp hx with h | h
          · exact hkp x h
          · obtain rfl : x = a := by simpa using h
            omega)
        refine ⟨z2, w2, g', R', mk', ?_, ?_, y3, y4, y5, y6, fun c => ?_, y8, y9, yQ, yF⟩
        · unfold fX11_doAskings_98 fX11_doAskings_191
          rw [if_neg (fun y => by have := e200.mp y; omega), zl_e, zo_i1]
          exact y1
        · unfold fX19_askings_147 fX19_askings_150
          rw [zl_e, zo_i1]
          rw [List.length_append] at y2
          exact y2
        · have := y7 c
          by_cases e : c = tw T q
          · rw [if_pos e] at this ⊢; simp; omega
          · rw [if_neg e] at this ⊢; exact this
      · -- it came to nothing
        rw [if_neg c2]
        have hW8 : ∀ G, G ∈ gW g q → wTo G < 8 ∧ G.1 11 = Int32.ofNat (wTo G) := fun G hG => (pG.1 q hq G hG).2
        have hW16 := (pC.2.2.2.2.2.1 q hq).1
        let Ws := (gW g q).filter (fun x => wTo x == a.1)
        have hWl : Ws.length ≤ 16 := by
          have : Ws.length ≤ (gW g q).length := List.length_filter_le _ _
          omega
        let g1 : Sg := sA g (zupd (gA g) q ((gA g q).filter (fun x => x.1 != a.1)))
        have k1 := zc_count (N := N) (pC.2.2.2.2.2.1 q hq).2 hW8 a8 (by omega)
        obtain ⟨z1, u1, u2, u3, u4⟩ := zc_endAsking (N := N) pC.2.2.2.2.2.2.1 hAw hq a8 (by omega)
        have f1 : zFr mX8_endAsking z z1 := wX8_endAsking (Nat.and_self _) (zFr_rf _ _) _ _ u1
        have h7 : ∀ u, (∀ j, zgI z1 7 j u = zgI z 7 j u) ∧ ∀ i, zgA z1 125 u i = zgA z 125 u i := fun u => ⟨fun j => u4 7 j u (by simp), fun i => zFr_gA f1 (by decide) u i⟩
        have pC1 : zNC z1 T E g1 X := ⟨zTC_fr f1 (by decide) pC.1, hc, zEc_fr f1 (by decide) pC.2.2.1, pC.2.2.2.1, ⟨zTr_fr (g := g) f1 (by decide) pC.2.2.2.2.1.1, zCt_fr (g := g) f1 (by decide) pC.2.2.2.2.1.2.1, zQq_fr f1 (by decide) pC.2.2.2.2.1.2.2⟩, zWc_fr (g := g) f1 (by decide) (fun u _ => h7 u) pC.2.2.2.2.2.1, u2, zHc_fr (g := g) f1 (by decide) pC.2.2.2.2.2.2.2.1, zNo_kp (X := []) (fun u _ => h7 u) pC.2.2.2.2.2.2.2.2.1, pC.2.2.2.2.2.2.2.2.2⟩
        obtain ⟨w1, v1, v2, v3, v4, -, v6⟩ := zm_endAt (N := N) pM.2.2.2.2.2.1 hAw hq hkl (by omega)
        rw [hak'] at v2 v3
        have f2 : zFr mX18_endAsking w w1 := wX18_endAsking (Nat.and_self _) (zFr_rf _ _) _ _ v1
        have pM1 : zMV w1 T E g1 K Y TS TA TB := ⟨zTM_fr f2 (by decide) pM.1, hc, zEm_fr f2 (by decide) pM.2.2.1, pM.2.2.2.1, ⟨zTm_fr (g := g) f2 (by decide) pM.2.2.2.2.1.1, zCm_fr (g := g) f2 (by decide) pM.2.2.2.2.1.2.1, zNm_fr (g := g) f2 (by decide) hc v6 pM.2.2.2.2.1.2.2⟩, v2, zHm_fr (g := g) f2 (by decide) pM.2.2.2.2.2.2⟩
        obtain ⟨w2, ds, t1, t2, t3, -, t5, t6, f3⟩ := zm_take54 (K2 := fX19_askings_2 N n') (x2 := Int32.ofNat kept.length) (N := N) hq a8 (by omega) Ws.length 0 N g1 Y w1 rfl (by omega) (by omega) hW8 pM1
        have eg1 : gA g1 q = kept ++ (rest ++ V) := by
          show zupd (gA g) q _ q = _
          rw [zupd_s, ← v3, hg, List.eraseIdx_append_of_length_le (Nat.le_refl _)]
          simp
        have p1 : zIp z1 w2 T E g1 (gRem g1 q a.1 Ws.length) Wy R mk K X (ds.reverse ++ Y) TS TA TB := by
          refine ⟨⟨pC1, t5, ⟨pG.1, u3, pG.2.2.1, pG.2.2.2⟩, zGI_end pI, ⟨zWyc_fr f1 (by decide) pWc, zWym_fr f3 (by decide) (zWym_fr f2 (by decide) pWm), pWw⟩, zRE_fr f1 (by decide) (zFr_tr (zFr_w f2 (M := mX18_endAsking ||| (mX18_takeWaiting ||| 0x2000000000000000000000000000000000000000000000000000000000000000000000000000000000000000000000000000000000000000000000000000000000000000000000000000000000000000000000000000000000000000000000000000000000000000000000000000000000000000000000000000000000000000000000000000000000000000000000000000000000000000000000000000000000000000000000000000000)) (by decide)) (zFr_w f3 (by decide))) (by decide) pE, zUt_keep (z5_fr f1 (by decide)) (zFr_tr (zFr_w f2 (M := mX18_endAsking ||| (mX18_takeWaiting ||| 0x2000000000000000000000000000000000000000000000000000000000000000000000000000000000000000000000000000000000000000000000000000000000000000000000000000000000000000000000000000000000000000000000000000000000000000000000000000000000000000000000000000000000000000000000000000000000000000000000000000000000000000000000000000000000000000000000000000000)) (by decide)) (zFr_w f3 (by decide))) (by decide) pU, (zFr_gI f1 (by decide) (by decide) 0).trans p15⟩, zRg_same pR (fun c => zFr_gA f1 (by decide) c 2), pW⟩
        have p1' : zIp z1 w2 T E g1 (gRem g1 q a.1 Ws.length) Wy R mk K X (ds ++ Y) TS TA TB := ⟨⟨p1.1.1, zMV_perm ((List.reverse_perm ds).append_right Y) p1.1.2.1, p1.1.2.2⟩, p1.2⟩
        obtain ⟨z3, w3, g3, R3, mk3, s1, s2, s3, s4, s5, s6, s7, ⟨V2, s8, s8'⟩, s9, s10, sQ⟩ := zIp_asks (K2 := K2) (K26 := fX11_doAskings_26 N K2 n) (K2m := fX19_askings_2 N n') (x2 := x2) (x4 := Int32.ofNat L0) (x5 := Int32.ofNat i) (x2' := Int32.ofNat kept.length) (N := N) (tot := Ws.length) hc hq a8 hWl (by omega) hN Ws [] ds 0 N N g1 R mk z1 w2 t2 (by omega) (by omega) (by omega) (by rw [List.append_nil]; rfl) hW16 (fun D hD => pI.2.2.2.2 q hq D (List.mem_filter.mp hD).1) (by omega) (fun j D d hD hd => by
          have hj := (List.getElem?_eq_some_iff.mp hD)
          have hj' := (List.getElem?_eq_some_iff.mp hd)
          obtain ⟨b1, b2⟩ := hj
          obtain ⟨b3, b4⟩ := hj'
          obtain ⟨o1, o2⟩ := t3 j b1 b3 b1
          rw [b4] at o1 o2
          have b2' : ((gW g1 q).filter (fun x => wTo x == a.1))[j] = D := b2
          rw [b2'] at o1
          exact ⟨o1, o2⟩) p1'
        have s1m := s7 (tw T q)
        rw [if_pos rfl] at s1m
        obtain ⟨z4, w4, g', R', mk', y1, y2, y3, y4, y5, y6, y7, y8, y9, yQ, yF⟩ := ih kept (V ++ V2) (i + 1) n n' g3 R3 mk3 z3 w3 (by rw [s8, eg1]; simp) (fun b hb => by
          rcases List.mem_append.mp hb with h | h
          · exact hV b h
          · exact s8' b h) (by omega) hna hnb (fun j b hj => by
          rw [zFr_gA s9 (by decide), zFr_gA f1 (by decide), show i + 1 + j = i + (j + 1) by omega]; exact hrem (j + 1) b hj) (by omega) s3 hkp
        refine ⟨z4, w4, g', R', mk', ?_, ?_, y3, zKe_tr (fun u _ => h7 u) (zKe_tr s4 y4), zKm_tr (zKm_fr f2 (by decide) v6) (zKm_tr t6 (zKm_tr s5 y5)), fun b n v h => y6 _ _ _ (s6 _ _ _ h), fun c => ?_, zFr_tr (zFr_w f1 (by decide)) (zFr_tr (zFr_w s9 (by decide)) y8), zFr_tr (zFr_w f2 (by decide)) (zFr_tr (zFr_w f3 (by decide)) (zFr_tr (zFr_w s10 (by decide)) y9)), fun QF QW QD hQ h0 h => yQ QF QW QD hQ h0 (sQ QF QW QD hQ h0 (zQI_end (s := a.1) h h.1 (by show zupd (gW g) q (wrem a.1 Ws.length (gW g q)) = _; rw [wrem_all]) rfl)), yF⟩
        · unfold fX11_doAskings_98
          rw [if_pos (e200.mpr (by omega)), k1, zc_e, u1, zc_e]
          refine Eq.trans s1 ?_
          unfold fX11_doAskings_191
          rw [zl_e, zo_i1]
          exact y1
        · rw [v1, zc_e]
          refine Eq.trans t1 ?_
          rw [Nat.zero_add]
          refine Eq.trans s2 ?_
          unfold fX19_askings_150
          exact y2
        · have h1 := s7 c
          have h2 := y7 c
          by_cases e : c = tw T q
          · rw [if_pos e] at h1 h2 ⊢; simp; omega
          · rw [if_neg e] at h1 h2 ⊢; omega
/-- all askings of a port -/
theorem zIp_askPort {T : Tp} {E : Ev} {Wy : Wyt} {K : Int32 → Int32 → Int32 → Prop} {X Y TS TA TB : List Nat} {b p n N : Nat} {g : Sg} {R : Rg} {mk : Nat → Nat} {z w : St} (hc : zTc T) (hb : b < tb T) (hpp : p < tp T b) (hY : Y.length ≤ 60) (hN : 1481 < N) (hmk : mk b + 136 < 2147483646) (hp : zIp z w T E g g Wy R mk K X Y TS TA TB) :
    ∃ z' w' g' R' mk', fX11_doAskings_2 N (n + 1) 0 b (Int32.ofNat p) z = fX11_doAskings_2 N n 0 b (Int32.ofNat (p + 1)) z' ∧ fX19_askings N 0 (tq T b p) w = some (0, w') ∧ zIp z' w' T E g' g' Wy R' mk' K X Y TS TA TB ∧ zKe X z z' ∧ zKm Y w w' ∧ (∀ b n v, R b n = some v → R' b n = some v) ∧ (∀ c, mk c ≤ mk' c ∧ mk' c ≤ mk c + (if c = b then 136 else 0)) ∧ zFr (0x2000000000000000000000000000000000000000000000000000000000000000000000000000000000000000000000000000000000000000000000000000000000000000000000000000000000000000000000000000000000000000000000000000000000000000000000000000000000000000000000000000000000000000000000000000000000000000000000000000000000000000000000000000000000000000 ||| mAlc) z z' ∧ zFr mAlm w w' ∧ (∀ QF QW QD, zQcl T E QF QW QD → (∀ D p t, D.1 2 = 0 → tv T p → t < 8 → QD p (Int32.ofNat t) D) → zQI T QF QW g → zQI T QF QW g') ∧ (∀ x, x ∈ gA g' (tq T b p) → eN E < x.2 + 200) := by
  obtain ⟨⟨pC, pM, pG, pI, ⟨pWc, pWm, pWw⟩, pE, pU, p15⟩, pR, pW⟩ := id hp
  obtain ⟨hq, hqw, -⟩ := hc.2.2.2.2.2.2.1 b p hb hpp
  have hl8 := zAw_len pG.2.1 hq
  have htp := tp_le hc hb
  obtain ⟨z1, r1, r2, r3, f1, rI⟩ := zc_remember (N := N) pC pG hq (by omega)
  have p1 : zIp z1 w T E g g Wy R mk K X Y TS TA TB := ⟨⟨r2, pM, pG, pI, ⟨zWyc_fr f1 (by decide) pWc, pWm, pWw⟩, zRE_fr f1 (by decide) (zFr_rf 0 w) (by decide) pE, zUt_keepC (z5_fr f1 (by decide)) pU, (zFr_gI f1 (by decide) (by decide) 0).trans p15⟩, zRg_same pR (fun c => zFr_gA f1 (by decide) c 2), pW⟩
  obtain ⟨z2, w2, g', R', mk', y1, y2, y3, y4, y5, y6, y7, y8, y9, yQ, yF⟩ := zIp_askLoop (K2 := fX11_doAskings_2 N n) (x2 := Int32.ofNat p) (L0 := (gA g (tq T b p)).length) (N := N) hc hq hY hN hl8 (gA g (tq T b p)) [] [] 0 N N g R mk z1 w (by simp) (fun a ha => by cases ha) (by omega) (by omega) (by omega) (fun j a ha => by rw [Nat.zero_add]; exact r3 j a ha) (by rw [hqw]; omega) p1 (fun x hx => by cases hx)
  rw [hqw] at y1 y7
  refine ⟨z2, w2, g', R', mk', ?_, y2, y3, ?_, y5, y6, fun c => ?_, zFr_tr (zFr_w f1 (by decide)) (zFr_w y8 (by decide)), y9, yQ, yF⟩
  · show fX11_doAskings_2b N (fX11_doAskings_2 N n) 0 b (Int32.ofNat p) z = _
    obtain ⟨-, -, -, t3, t4, -, -⟩ := pC.1.2.1.2 b hb
    unfold fX11_doAskings_2b
    rw [t3, if_neg (by rw [zo_le (by omega) (by omega)]; omega), zkk (by omega) (by omega), zl_e, zoC (by omega), t4 p hpp, zd_e, r1, zc_e]
    refine Eq.trans y1 ?_
    rw [zo_i1]
  · exact zKe_tr (fun u _ => ⟨fun j => rI 7 j u, fun i => zFr_gA f1 (by decide) u i⟩) y4
  · have := y7 c
    by_cases e : c = b
    · rw [if_pos e] at this ⊢; omega
    · rw [if_neg e] at this ⊢; exact this
