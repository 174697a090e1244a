/-! routers, the class: dues for all; hearing and forgetting; thanks -/
theorem zo_eqI {a c : Nat} {x : Int32} (hx : x = Int32.ofNat c) (ha : a < 2147483648) (hc : c < 2147483648) : Int32.ofNat a = x ↔ a = c := by rw [hx]; exact zo_eq ha hc
def butN (but : Option Nat) : Int32 := match but with | some k => Int32.ofNat k | none => (-1 : Int32)
theorem butN_eq {k : Nat} {but : Option Nat} (hk : k < 96) (hb : ∀ x, but = some x → x < 96) : Int32.ofNat k = butN but ↔ some k = but := by
  cases but with
  | none => exact ⟨fun h => absurd h (zo_ne1 (by omega)), fun h => by cases h⟩
  | some x =>
    have := hb x rfl
    show Int32.ofNat k = Int32.ofNat x ↔ _
    rw [zo_eq (by omega) (by omega)]
    exact ⟨fun h => by rw [h], fun h => Option.some.inj h⟩
theorem hAll_mid {A B : List Nb} {n : Nb} {g : Nb → Nb} (hg : ∀ m, (g m).1 = m.1) (hp : (A ++ n :: B).Pairwise (fun a b => a.1 < b.1)) : (∀ m, m ∈ A.map g → m.1 ≠ n.1) ∧ ∀ m, m ∈ B → m.1 ≠ n.1 := by
  obtain ⟨h1, h2, h3⟩ := List.pairwise_append.mp hp
  refine ⟨fun m hm => ?_, fun m hm => ?_⟩
  · obtain ⟨a, ha, rfl⟩ := List.mem_map.mp hm
    have := h3 a ha n List.mem_cons_self
    rw [hg]; omega
  · have := (List.pairwise_cons.mp h2).1 m hm
    omega
theorem zHk_map {H : List Nb} {f : Nb → Nb} (hf : ∀ n, (f n).1 = n.1) (hb : ∀ n, n ∈ H → (f n).2.1 ≤ 400000 ∧ ∀ k, (f n).2.2.2 k ≤ 400100) (h : zHk H) : zHk (H.map f) := by
  refine ⟨fun n hn => ?_, ?_, by rw [List.length_map]; exact h.2.2⟩
  · obtain ⟨m, hm, e⟩ := List.mem_map.mp hn
    rw [← e, hf]
    exact ⟨(h.1 m hm).1, hb m hm⟩
  · rw [List.pairwise_map]
    refine h.2.1.imp (fun {a b} hab => ?_)
    rw [hf, hf]; exact hab
theorem zHk_mix {A C : List Nb} {f : Nb → Nb} (hf : ∀ n, (f n).1 = n.1) (hb : ∀ n, n ∈ A → (f n).2.1 ≤ 400000 ∧ ∀ k, (f n).2.2.2 k ≤ 400100) (h : zHk (A ++ C)) : zHk (A.map f ++ C) := by
  obtain ⟨h1, h2, h3⟩ := h
  obtain ⟨p1, p2, p3⟩ := List.pairwise_append.mp h2
  refine ⟨fun n hn => ?_, List.pairwise_append.mpr ⟨?_, p2, fun x hx y hy => ?_⟩, by rw [List.length_append, List.length_map, ← List.length_append]; exact h3⟩
  · rcases List.mem_append.mp hn with c | c
    · obtain ⟨m, hm, e⟩ := List.mem_map.mp c
      rw [← e, hf]
      exact ⟨(h1 m (List.mem_append.mpr (Or.inl hm))).1, hb m hm⟩
    · exact h1 n (List.mem_append.mpr (Or.inr c))
  · rw [List.pairwise_map]
    refine p1.imp (fun {a b} hab => ?_)
    rw [hf, hf]; exact hab
  · obtain ⟨m, hm, e⟩ := List.mem_map.mp hx
    rw [← e, hf]; exact p3 m hm y hy
theorem hAll_f {r now : Nat} {but : Option Nat} (n : Nb) : (if some n.1 = but ∨ n.2.2.1 = false then n else (n.1, n.2.1, n.2.2.1, zupd n.2.2.2 r now)).1 = n.1 := by split <;> rfl
theorem zHn_all {H : List Nb} {r now : Nat} {but : Option Nat} (hn : now ≤ 400100) (h : zHn H) : zHn (hAll H r but now) := by
  refine ⟨zHk_map hAll_f (fun n hn' => ?_) h.1, fun n hn' hf k hk => ?_⟩
  · have a := h.1.1 n hn'
    by_cases c : some n.1 = but ∨ n.2.2.1 = false
    · rw [if_pos c]; exact a.2
    · rw [if_neg c]
      refine ⟨a.2.1, fun k => ?_⟩
      show zupd n.2.2.2 r now k ≤ _
      by_cases d : k = r
      · rw [d, zupd_s]; exact hn
      · rw [zupd_n d]; exact a.2.2 k
  · obtain ⟨m, hm, e⟩ := List.mem_map.mp hn'
    by_cases c : some m.1 = but ∨ m.2.2.1 = false
    · rw [if_pos c] at e
      rw [← e] at hf ⊢; exact h.2 m hm hf k hk
    · rw [if_neg c] at e
      rw [← e] at hf
      exact absurd (Or.inr hf) c
theorem zc_setDueToAll {z : St} {b r now N : Nat} {H : List Nb} {but : Option Nat} (h : zRCk z b H) (hh : zRCh z b H) (hH : zHn H) (hr : r < 16) (hnow : now ≤ 400000) (hbut : ∀ x, but = some x → x < 96) (hN : 16 < N) :
    ∃ z', fX9_setDueToAll N b (Int32.ofNat r) (butN but) (Int32.ofNat now) z = some (0, z') ∧ zRCk z' b (hAll H r but now) ∧ zRCh z' b (hAll H r but now) ∧ (∀ k j o, ¬ (k = 9 ∧ j = 5 ∧ o = b) → zgI z' k j o = zgI z k j o) ∧ (∀ k o i, ¬ (k = 135 ∧ b * 96 ≤ o ∧ o < b * 96 + 96) → zgA z' k o i = zgA z k o i) ∧ zKr b z z' := by
  have hl16 := hH.1.2.2
  let g : Nb → Nb := fun n => if some n.1 = but ∨ n.2.2.1 = false then n else (n.1, n.2.1, n.2.2.1, zupd n.2.2.2 r now)
  have hg : ∀ m, (g m).1 = m.1 := hAll_f
  have loop : ∀ (B A : List Nb) (n : Nat) (y : St), H = A ++ B → B.length < n → zRCk y b (A.map g ++ B) → (∀ k j o, ¬ (k = 9 ∧ j = 5 ∧ o = b) → zgI y k j o = zgI z k j o) → (∀ k o i, ¬ (k = 135 ∧ b * 96 ≤ o ∧ o < b * 96 + 96) → zgA y k o i = zgA z k o i) → zKr b z y → ∃ z', fX9_setDueToAll_3 N n b (Int32.ofNat r) (butN but) (Int32.ofNat now) (Int32.ofNat A.length) y = some (0, z') ∧ zRCk z' b (H.map g) ∧ (∀ k j o, ¬ (k = 9 ∧ j = 5 ∧ o = b) → zgI z' k j o = zgI z k j o) ∧ (∀ k o i, ¬ (k = 135 ∧ b * 96 ≤ o ∧ o < b * 96 + 96) → zgA z' k o i = zgA z k o i) ∧ zKr b z z' := by
    intro B
    induction B with
    | nil =>
      intro A n y hA hn hR hI hAr hK
      obtain ⟨n, rfl⟩ : ∃ k, n = k + 1 := ⟨n - 1, by omega⟩
      rw [List.append_nil] at hA hR
      refine ⟨y, ?_, by rw [hA]; exact hR, hI, hAr, hK⟩
      show fX9_setDueToAll_3b N (fX9_setDueToAll_3 N n) b (Int32.ofNat r) (butN but) (Int32.ofNat now) (Int32.ofNat A.length) y = _
      unfold fX9_setDueToAll_3b
      rw [hI 9 1 b (by omega), hh.1, ← hA, if_pos (Int32.le_refl _)]
    | cons m B ih =>
      intro A n y hA hn hR hI hAr hK
      obtain ⟨n, rfl⟩ : ∃ k, n = k + 1 := ⟨n - 1, by omega⟩
      have hnB : B.length < n := by simp at hn; omega
      have hlen : H.length = A.length + (B.length + 1) := by rw [hA]; simp
      have hmH : m ∈ H := by rw [hA]; simp
      have hm96 := (hH.1.1 m hmH).1
      have hat : H[A.length]? = some m := by rw [hA]; simp
      have c1 : zgI y 9 1 b = Int32.ofNat H.length := (hI 9 1 b (by omega)).trans hh.1
      have c131 : zgA y 131 b A.length = Int32.ofNat m.1 := (hAr 131 b _ (by omega)).trans (hh.2 _ m hat)
      have c133 : zgA y 133 b m.1 = zbi m.2.2.1 := by
        rw [hAr 133 b _ (by omega), (h.2 m.1 hm96).2.1, fn_mem hH.1.2.1 hmH]
      have eA : A ++ m :: B = (A ++ [m]) ++ B := by simp
      have eM : (A ++ [m]).map g ++ B = A.map g ++ g m :: B := by simp
      have el : (A ++ [m]).length = A.length + 1 := by simp
      have skip : g m = m → fX9_setDueToAll_51 N (fX9_setDueToAll_3 N n) b (Int32.ofNat r) (butN but) (Int32.ofNat now) (Int32.ofNat A.length) y = fX9_setDueToAll_3 N n b (Int32.ofNat r) (butN but) (Int32.ofNat now) (Int32.ofNat (A ++ [m]).length) y := fun _ => by
        unfold fX9_setDueToAll_51
        rw [zl_e, zo_i1, el]
      have st : fX9_setDueToAll_3 N (n + 1) b (Int32.ofNat r) (butN but) (Int32.ofNat now) (Int32.ofNat A.length) y = if some m.1 = but ∨ m.2.2.1 = false then fX9_setDueToAll_51 N (fX9_setDueToAll_3 N n) b (Int32.ofNat r) (butN but) (Int32.ofNat now) (Int32.ofNat A.length) y else (zc (fX9_setDue N b (Int32.ofNat m.1) (Int32.ofNat r) (Int32.ofNat now) y) fun _ z9 => fX9_setDueToAll_51 N (fX9_setDueToAll_3 N n) b (Int32.ofNat r) (butN but) (Int32.ofNat now) (Int32.ofNat A.length) z9) := by
        show fX9_setDueToAll_3b N (fX9_setDueToAll_3 N n) b (Int32.ofNat r) (butN but) (Int32.ofNat now) (Int32.ofNat A.length) y = _
        unfold fX9_setDueToAll_3b
        rw [c1, if_neg (by rw [zo_le (by omega) (by omega)]; omega), zkk (by omega) (by omega), zoC (by omega), c131]
        by_cases d : some m.1 = but
        · rw [if_pos ((butN_eq hm96 hbut).mpr d), if_pos (Or.inl d)]
        · rw [if_neg (fun y => d ((butN_eq hm96 hbut).mp y)), zkk (by omega) (by omega), zkk hm96 (by omega), zoC (by omega), c133]
          by_cases d2 : m.2.2.1 = false
          · rw [if_pos ((zbi_0 _).mpr d2), if_pos (Or.inr d2)]
          · rw [if_neg (fun y => d2 ((zbi_0 _).mp y)), zkk (by omega) (by omega), if_neg (fun y => y.elim d d2)]
      rw [st]
      by_cases d : some m.1 = but ∨ m.2.2.1 = false
      · have hgm : g m = m := if_pos d
        rw [if_pos d, skip hgm]
        exact ih (A ++ [m]) n y (by rw [hA, eA]) hnB (by rw [eM, hgm]; exact hR) hI hAr hK
      · have hgm : g m = (m.1, m.2.1, m.2.2.1, zupd m.2.2.2 r now) := if_neg d
        rw [if_neg d]
        have hH' : zHk (A ++ m :: B) := by rw [← hA]; exact hH.1
        have gb : ∀ n, n ∈ A → (g n).2.1 ≤ 400000 ∧ ∀ k, (g n).2.2.2 k ≤ 400100 := fun n hn' => by
          have a := hH'.1 n (List.mem_append.mpr (Or.inl hn'))
          show (if some n.1 = but ∨ n.2.2.1 = false then n else (n.1, n.2.1, n.2.2.1, zupd n.2.2.2 r now)).2.1 ≤ 400000 ∧ ∀ k, (if some n.1 = but ∨ n.2.2.1 = false then n else (n.1, n.2.1, n.2.2.1, zupd n.2.2.2 r now)).2.2.2 k ≤ 400100
          by_cases c : some n.1 = but ∨ n.2.2.1 = false
          · rw [if_pos c]; exact a.2
          · rw [if_neg c]
            refine ⟨a.2.1, fun k => ?_⟩
            show zupd n.2.2.2 r now k ≤ _
            by_cases d : k = r
            · rw [d, zupd_s]; omega
            · rw [zupd_n d]; exact a.2.2 k
        have hHk : zHk (A.map g ++ m :: B) := zHk_mix hg gb hH'
        obtain ⟨y2, r1, r2, r3, r4, r5⟩ := zc_setDue (N := N) hR hHk hm96 hr (show now ≤ 400100 by omega) (Or.inl ⟨m, by simp, rfl⟩)
        obtain ⟨mA, mB⟩ := hAll_mid hg hH'.2.1
        have e2 : hDue (A.map g ++ m :: B) m.1 r now = A.map g ++ g m :: B := by
          unfold hDue
          rw [hUpd_mid mA mB, hgm]
        rw [e2, ← eM] at r2
        obtain ⟨z', s1, s2, s3, s4, s5⟩ := ih (A ++ [m]) n y2 (by rw [hA, eA]) hnB r2 (fun k j o nn => (r3 k j o nn).trans (hI k j o nn)) (fun k o i nn => (r4 k o i (fun y => nn ⟨y.1, by omega, by omega⟩)).trans (hAr k o i nn)) (zKr_tr hK r5)
        refine ⟨z', ?_, s2, s3, s4, s5⟩
        rw [r1, zc_e]
        unfold fX9_setDueToAll_51
        rw [zl_e, zo_i1, ← el]
        exact s1
  obtain ⟨z', s1, s2, s3, s4, s5⟩ := loop H [] N z rfl (by omega) h (fun _ _ _ _ => rfl) (fun _ _ _ _ => rfl) (zKr_rf _ _)
  refine ⟨z', s1, s2, ⟨?_, fun i n hi => ?_⟩, s3, s4, s5⟩
  · rw [s3 9 1 b (by omega), hh.1]
    unfold hAll
    rw [List.length_map]
  · unfold hAll at hi
    rw [List.getElem?_map] at hi
    cases e : H[i]? with
    | none => rw [e] at hi; cases hi
    | some m =>
      rw [e] at hi
      have hi : g m = n := Option.some.inj hi
      rw [s4 131 b i (by omega), hh.2 i m e, ← hi, hg]
theorem zHn_no {H : List Nb} {r : Nat} (h : zHn H) : zHn (hNo H r) := by
  refine ⟨zHk_map (fun _ => rfl) (fun n hn' => ⟨(h.1.1 n hn').2.1, fun k => ?_⟩) h.1, fun n hn' hf k hk => ?_⟩
  · show zupd n.2.2.2 r 0 k ≤ _
    by_cases d : k = r
    · rw [d, zupd_s]; omega
    · rw [zupd_n d]; exact (h.1.1 n hn').2.2 k
  · obtain ⟨m, hm, e⟩ := List.mem_map.mp hn'
    rw [← e] at hf ⊢
    show zupd m.2.2.2 r 0 k = 0
    by_cases d : k = r
    · rw [d, zupd_s]
    · rw [zupd_n d]; exact h.2 m hm hf k hk
theorem zc_clearDueOf {z : St} {b r N : Nat} {H : List Nb} (h : zRCk z b H) (hh : zRCh z b H) (hH : zHn H) (hr : r < 16) (hN : 16 < N) :
    ∃ z', fX9_clearDueOf N b (Int32.ofNat r) z = some (0, z') ∧ zRCk z' b (hNo H r) ∧ zRCh z' b (hNo H r) ∧ (∀ k j o, ¬ (k = 9 ∧ j = 5 ∧ o = b) → zgI z' k j o = zgI z k j o) ∧ (∀ k o i, ¬ (k = 135 ∧ b * 96 ≤ o ∧ o < b * 96 + 96) → zgA z' k o i = zgA z k o i) ∧ zKr b z z' := by
  have hl16 := hH.1.2.2
  let g : Nb → Nb := fun n => (n.1, n.2.1, n.2.2.1, zupd n.2.2.2 r 0)
  have hg : ∀ m, (g m).1 = m.1 := fun _ => rfl
  have loop : ∀ (B A : List Nb) (n : Nat) (y : St), H = A ++ B → B.length < n → zRCk y b (A.map g ++ B) → (∀ k j o, ¬ (k = 9 ∧ j = 5 ∧ o = b) → zgI y k j o = zgI z k j o) → (∀ k o i, ¬ (k = 135 ∧ b * 96 ≤ o ∧ o < b * 96 + 96) → zgA y k o i = zgA z k o i) → zKr b z y → ∃ z', fX9_clearDueOf_2 N n b (Int32.ofNat r) (Int32.ofNat A.length) y = some (0, z') ∧ zRCk z' b (H.map g) ∧ (∀ k j o, ¬ (k = 9 ∧ j = 5 ∧ o = b) → zgI z' k j o = zgI z k j o) ∧ (∀ k o i, ¬ (k = 135 ∧ b * 96 ≤ o ∧ o < b * 96 + 96) → zgA z' k o i = zgA z k o i) ∧ zKr b z z' := by
    intro B
    induction B with
    | nil =>
      intro A n y hA hn hR hI hAr hK
      obtain ⟨n, rfl⟩ : ∃ k, n = k + 1 := ⟨n - 1, by omega⟩
      rw [List.append_nil] at hA hR
      refine ⟨y, ?_, by rw [hA]; exact hR, hI, hAr, hK⟩
      show fX9_clearDueOf_2b N (fX9_clearDueOf_2 N n) b (Int32.ofNat r) (Int32.ofNat A.length) y = _
      unfold fX9_clearDueOf_2b
      rw [hI 9 1 b (by omega), hh.1, ← hA, if_pos (Int32.le_refl _)]
    | cons m B ih =>
      intro A n y hA hn hR hI hAr hK
      obtain ⟨n, rfl⟩ : ∃ k, n = k + 1 := ⟨n - 1, by omega⟩
      have hnB : B.length < n := by simp at hn; omega
      have hlen : H.length = A.length + (B.length + 1) := by rw [hA]; simp
      have hmH : m ∈ H := by rw [hA]; simp
      have hm96 := (hH.1.1 m hmH).1
      have hat : H[A.length]? = some m := by rw [hA]; simp
      have c1 : zgI y 9 1 b = Int32.ofNat H.length := (hI 9 1 b (by omega)).trans hh.1
      have c131 : zgA y 131 b A.length = Int32.ofNat m.1 := (hAr 131 b _ (by omega)).trans (hh.2 _ m hat)
      have eA : A ++ m :: B = (A ++ [m]) ++ B := by simp
      have eM : (A ++ [m]).map g ++ B = A.map g ++ g m :: B := by simp
      have el : (A ++ [m]).length = A.length + 1 := by simp
      have hH' : zHk (A ++ m :: B) := by rw [← hA]; exact hH.1
      have gb : ∀ n, n ∈ A → (g n).2.1 ≤ 400000 ∧ ∀ k, (g n).2.2.2 k ≤ 400100 := fun n hn' => by
        have a := hH'.1 n (List.mem_append.mpr (Or.inl hn'))
        refine ⟨a.2.1, fun k => ?_⟩
        show zupd n.2.2.2 r 0 k ≤ _
        by_cases d : k = r
        · rw [d, zupd_s]; omega
        · rw [zupd_n d]; exact a.2.2 k
      have hHk : zHk (A.map g ++ m :: B) := zHk_mix hg gb hH'
      obtain ⟨y2, r1, r2, r3, r4, r5⟩ := zc_setDue (N := N) (t := 0) hR hHk hm96 hr (by omega) (Or.inr rfl)
      obtain ⟨mA, mB⟩ := hAll_mid hg hH'.2.1
      have e2 : hDue (A.map g ++ m :: B) m.1 r 0 = A.map g ++ g m :: B := by
        unfold hDue
        rw [hUpd_mid mA mB]
      rw [e2, ← eM] at r2
      obtain ⟨z', s1, s2, s3, s4, s5⟩ := ih (A ++ [m]) n y2 (by rw [hA, eA]) hnB r2 (fun k j o nn => (r3 k j o nn).trans (hI k j o nn)) (fun k o i nn => (r4 k o i (fun y => nn ⟨y.1, by omega, by omega⟩)).trans (hAr k o i nn)) (zKr_tr hK r5)
      refine ⟨z', ?_, s2, s3, s4, s5⟩
      show fX9_clearDueOf_2b N (fX9_clearDueOf_2 N n) b (Int32.ofNat r) (Int32.ofNat A.length) y = _
      unfold fX9_clearDueOf_2b
      rw [c1, if_neg (by rw [zo_le (by omega) (by omega)]; omega), zkk (by omega) (by omega), zoC (by omega), c131]
      have r1' : fX9_setDue N b (Int32.ofNat m.1) (Int32.ofNat r) 0 y = some (0, y2) := r1
      rw [r1', zc_e, zl_e, zo_i1, ← el]
      exact s1
  obtain ⟨z', s1, s2, s3, s4, s5⟩ := loop H [] N z rfl (by omega) h (fun _ _ _ _ => rfl) (fun _ _ _ _ => rfl) (zKr_rf _ _)
  refine ⟨z', s1, s2, ⟨?_, fun i n hi => ?_⟩, s3, s4, s5⟩
  · rw [s3 9 1 b (by omega), hh.1]
    unfold hNo
    rw [List.length_map]
  · unfold hNo at hi
    rw [List.getElem?_map] at hi
    cases e : H[i]? with
    | none => rw [e] at hi; cases hi
    | some m =>
      rw [e] at hi
      have hi : g m = n := Option.some.inj hi
      rw [s4 131 b i (by omega), hh.2 i m e, ← hi, hg]
/-- one more is heard -/
theorem zc_beginHearing {z : St} {b key N : Nat} {H : List Nb} (h : zRCh z b H) (hH : zHk H) (hl : H.length < 16) (hk : key < 96) (hno : ∀ m, m ∈ H → m.1 ≠ key) (hN : 16 < N) : ∃ z', fX9_beginHearing N b (Int32.ofNat key) z = some (0, z') ∧ zRCh z' b (hIns (key, 0, false, fun _ => 0) H) ∧ (∀ k j o, ¬ (k = 9 ∧ j = 1 ∧ o = b) → zgI z' k j o = zgI z k j o) ∧ (∀ k o i, ¬ (k = 131 ∧ o = b) → zgA z' k o i = zgA z k o i) ∧ zKr b z z' := by
  obtain ⟨h1, h2⟩ := h
  obtain ⟨A, B, e1, e2, e3, e4⟩ := hIns_split (n := ((key, 0, false, fun _ => 0) : Nb)) hH.2.1
  have hlen : H.length = A.length + B.length := by rw [e1]; simp
  have atA : ∀ i a, A[i]? = some a → H[i]? = some a := fun i a ha => by
    rw [e1, List.getElem?_append_left (List.getElem?_eq_some_iff.mp ha).1]; exact ha
  have atB : ∀ i a, B[i]? = some a → H[A.length + i]? = some a := fun i a ha => by
    rw [e1, List.getElem?_append_right (by omega), show A.length + i - A.length = i by omega]; exact ha
  have loop : ∀ (m n : Nat) (y : St), m ≤ B.length → m < n → (∀ i, i < A.length + m → zgA y 131 b i = zgA z 131 b i) → (∀ i, A.length + m < i → i ≤ H.length → zgA y 131 b i = zgA z 131 b (i - 1)) → (∀ k j o, zgI y k j o = zgI z k j o) → (∀ k o i, ¬ (k = 131 ∧ o = b) → zgA y k o i = zgA z k o i) → zKr b z y → ∃ y', fX9_beginHearing_15 N n b (Int32.ofNat key) (Int32.ofNat (A.length + m)) y = fX9_beginHearing_51 N b (Int32.ofNat key) (Int32.ofNat A.length) y' ∧ (∀ i, i < A.length → zgA y' 131 b i = zgA z 131 b i) ∧ (∀ i, A.length < i → i ≤ H.length → zgA y' 131 b i = zgA z 131 b (i - 1)) ∧ (∀ k j o, zgI y' k j o = zgI z k j o) ∧ (∀ k o i, ¬ (k = 131 ∧ o = b) → zgA y' k o i = zgA z k o i) ∧ zKr b z y' := by
    intro m
    induction m with
    | zero =>
      intro n y hm hn y1 y2 yI yA yK
      obtain ⟨n, rfl⟩ : ∃ k, n = k + 1 := ⟨n - 1, by omega⟩
      refine ⟨y, ?_, fun i hi => y1 i (by omega), fun i h1 h2 => y2 i (by omega) h2, yI, yA, yK⟩
      show fX9_beginHearing_15b N (fX9_beginHearing_15 N n) b (Int32.ofNat key) (Int32.ofNat A.length) y = _
      unfold fX9_beginHearing_15b
      by_cases c : A.length = 0
      · rw [if_pos (by rw [show (0 : Int32) = Int32.ofNat 0 from rfl, zo_le (by omega) (by omega)]; omega)]
      · rw [if_neg (by rw [show (0 : Int32) = Int32.ofNat 0 from rfl, zo_le (by omega) (by omega)]; omega), zo_s1 (by omega), zkk (by omega) (by omega), zoC (by omega), y1 _ (by omega)]
        have ha : A[A.length - 1]? = some A[A.length - 1] := List.getElem?_eq_getElem (by omega)
        have hm := List.getElem_mem (l := A) (n := A.length - 1) (by omega)
        have lt : A[A.length - 1].1 < key := e3 _ hm
        have h96 := (hH.1 A[A.length - 1] (by rw [e1]; exact List.mem_append.mpr (Or.inl hm))).1
        rw [h2 _ _ (atA _ _ ha), if_pos (by rw [zo_le (by omega) (by omega)]; omega)]
    | succ m ih =>
      intro n y hm hn y1 y2 yI yA yK
      obtain ⟨n, rfl⟩ : ∃ k, n = k + 1 := ⟨n - 1, by omega⟩
      have hb : B[m]? = some B[m] := List.getElem?_eq_getElem (by omega)
      have hmb := List.getElem_mem (l := B) (n := m) (by omega)
      have hmH : B[m] ∈ H := by rw [e1]; exact List.mem_append.mpr (Or.inr hmb)
      have ge : ¬ B[m].1 < key := e4 _ hmb
      have ne := hno _ hmH
      have h96 := (hH.1 _ hmH).1
      have c131 : zgA y 131 b (A.length + m) = Int32.ofNat B[m].1 := (y1 _ (by omega)).trans (h2 _ _ (atB _ _ hb))
      obtain ⟨y', r1, r2⟩ := ih n (zsA y 131 b (A.length + (m + 1)) (Int32.ofNat B[m].1)) (by omega) (by omega) (fun i hi => by rw [zgA_sA, if_neg (by omega)]; exact y1 i (by omega)) (fun i h1 h2' => by
        rw [zgA_sA]
        by_cases c : i = A.length + (m + 1)
        · rw [if_pos ⟨rfl, rfl, c⟩, c, show A.length + (m + 1) - 1 = A.length + m by omega, ← y1 _ (by omega), c131]
        · rw [if_neg (fun y => c y.2.2)]; exact y2 i (by omega) h2') yI (fun k o i nn => by rw [zgA_sA, if_neg (fun y => nn ⟨y.1, y.2.1⟩)]; exact yA k o i nn) (zKr_tr yK (zKr_A (Or.inr (Or.inr ⟨rfl, by omega⟩))))
      refine ⟨y', ?_, r2⟩
      show fX9_beginHearing_15b N (fX9_beginHearing_15 N n) b (Int32.ofNat key) (Int32.ofNat (A.length + (m + 1))) y = _
      unfold fX9_beginHearing_15b
      rw [if_neg (by rw [show (0 : Int32) = Int32.ofNat 0 from rfl, zo_le (by omega) (by omega)]; omega), zo_s1 (by omega), show A.length + (m + 1) - 1 = A.length + m by omega, zkk (by omega) (by omega), zoC (by omega), c131, if_neg (by rw [zo_le (by omega) (by omega)]; omega), zkk (by omega) (by omega), zkk (by omega) (by omega), zoC (by omega), zl_e, zl_e]
      have : Int32.ofNat (A.length + (m + 1)) + (-1 : Int32) = Int32.ofNat (A.length + m) := by
        rw [← Int32.sub_eq_add_neg]
        exact zo_s1 (a := A.length + (m + 1)) (by omega)
      rw [this]
      exact r1
  obtain ⟨y', r1, r2, r3, r4, r5, r6⟩ := loop B.length N z (Nat.le_refl _) (by omega) (fun _ _ => rfl) (fun i h1 h2 => by omega) (fun _ _ _ => rfl) (fun _ _ _ _ => rfl) (zKr_rf _ _)
  let z' : St := zsI (zsA y' 131 b A.length (Int32.ofNat key)) 9 1 b (Int32.ofNat (H.length + 1))
  have A' : ∀ k o i, zgA z' k o i = if k = 131 ∧ o = b ∧ i = A.length then Int32.ofNat key else zgA y' k o i := fun k o i => by
    show zgA (zsI (zsA y' 131 b A.length _) 9 1 b _) k o i = _
    rw [zgA_sI, zgA_sA]
  refine ⟨z', ?_, ⟨?_, fun i n hi => ?_⟩, fun k j o nn => ?_, fun k o i nn => by rw [A', if_neg (fun y => nn ⟨y.1, y.2.1⟩)]; exact r5 k o i nn, zKr_tr r6 (zKr_tr (zKr_A (Or.inr (Or.inr ⟨rfl, by omega⟩))) (zKr_I (Or.inl rfl)))⟩
  · unfold fX9_beginHearing
    rw [h1, if_pos (by rw [show (16 : Int32) = Int32.ofNat 16 from rfl, zo_lt (by omega) (by omega)]; exact hl), zl_e]
    rw [← hlen] at r1
    refine Eq.trans r1 ?_
    unfold fX9_beginHearing_51
    rw [zkk (by omega) (by omega), zl_e, zoC (by omega)]
    have : zgI (zsA y' 131 b A.length (Int32.ofNat key)) 9 1 b = Int32.ofNat H.length := (r4 9 1 b).trans h1
    rw [this, zo_i1, zl_e]
  · show zgI (zsI (zsA y' 131 b A.length _) 9 1 b _) 9 1 b = _
    rw [zgI_sI, if_pos ⟨rfl, rfl, rfl⟩, hIns_len]
  · rw [e2] at hi
    rw [A']
    by_cases c1 : i < A.length
    · rw [if_neg (by omega)]
      rw [List.getElem?_append_left c1] at hi
      rw [r2 i c1]
      exact h2 i n (atA i n hi)
    · rw [List.getElem?_append_right (by omega)] at hi
      by_cases c2 : i = A.length
      · rw [if_pos ⟨rfl, rfl, c2⟩]
        rw [c2, Nat.sub_self, List.getElem?_cons_zero] at hi
        rw [← Option.some.inj hi]
      · rw [if_neg (fun y => c2 y.2.2)]
        rw [show i - A.length = (i - A.length - 1) + 1 by omega, List.getElem?_cons_succ] at hi
        have hil := (List.getElem?_eq_some_iff.mp hi).1
        rw [r3 i (by omega) (by omega)]
        have := atB _ n hi
        rw [show A.length + (i - A.length - 1) = i - 1 by omega] at this
        exact h2 _ n this
  · show zgI (zsI (zsA y' 131 b A.length _) 9 1 b _) k j o = _
    rw [zgI_sI, if_neg nn]
    exact r4 k j o
/-- a new one has nothing yet -/
theorem zRCk_ins {z : St} {b key : Nat} {H : List Nb} (hno : ∀ m, m ∈ H → m.1 ≠ key) (h : zRCk z b H) : zRCk z b (hIns (key, 0, false, fun _ => 0) H) := by
  refine zRCk_cg (fun key' _ => ?_) ?_ h
  · have e := hAt_ins (n := ((key, 0, false, fun _ => 0) : Nb)) key' hno
    have e0 : hAt H key = none := hAt_none.mpr hno
    unfold fl fn fd
    rw [e]
    by_cases c : key' = key
    · rw [if_pos c, c, e0]; exact ⟨rfl, rfl, fun _ _ => rfl⟩
    · rw [if_neg c]; exact ⟨rfl, rfl, fun _ _ => rfl⟩
  · rw [hCnt_ins]
    have h0 : zcnt (fun _ => decide ((0 : Nat) ≠ 0)) 16 = 0 := by decide
    have : zcnt (fun k => decide (((key, 0, false, fun _ => 0) : Nb).2.2.2 k ≠ 0)) 16 = 0 := h0
    rw [this, Nat.zero_add]
theorem zHn_ins {H : List Nb} {key : Nat} (hl : H.length < 16) (hk : key < 96) (hno : ∀ m, m ∈ H → m.1 ≠ key) (h : zHn H) : zHn (hIns (key, 0, false, fun _ => 0) H) := by
  refine ⟨⟨fun n hn => ?_, hIns_pw h.1.2.1 hno, by rw [hIns_len]; omega⟩, fun n hn hf k hk' => ?_⟩
  · rcases hIns_mem.mp hn with e | h'
    · rw [e]; exact ⟨hk, by show 0 ≤ 400000; omega, fun k => by show 0 ≤ 400100; omega⟩
    · exact h.1.1 n h'
  · rcases hIns_mem.mp hn with e | h'
    · rw [e]
    · exact h.2 n h' hf k hk'
/-- when one was heard last -/
theorem zRCk_last {z : St} {b key now : Nat} {H : List Nb} (hk : key < 96) (hex : ∃ n, n ∈ H ∧ n.1 = key) (hH : zHk H) (h : zRCk z b H) : zRCk (zsA z 132 b key (Int32.ofNat now)) b (hLast H key now) := by
  refine ⟨?_, fun key' hk' => ?_⟩
  · have : hCnt (hLast H key now) = hCnt H := by
      unfold hCnt hLast hUpd
      rw [List.map_map]
      congr 1
      exact List.map_congr_left (fun n _ => by
        show zcnt (fun k => decide ((if n.1 = key then (n.1, now, n.2.2) else n).2.2.2 k ≠ 0)) 16 = _
        by_cases d : n.1 = key
        · rw [if_pos d]
        · rw [if_neg d])
    rw [this]; exact h.1
  · obtain ⟨b1, b2, b3⟩ := h.2 key' hk'
    have e1 : fl (hLast H key now) key' = if key' = key then now else fl H key' := by
      unfold fl hLast
      rw [hAt_upd (by intro _; rfl)]
      by_cases c : key' = key
      · rw [if_pos c, if_pos c]
        obtain ⟨n, hn, hnk⟩ := hex
        rw [← hnk, hAt_mem hH.2.1 hn]; rfl
      · rw [if_neg c, if_neg c]
    have e2 : fn (hLast H key now) key' = fn H key' := fn_upd (by intro _; rfl) (by intro _; rfl) H key'
    have e3 : ∀ k, fd (hLast H key now) key' k = fd H key' k := fun k => by
      unfold hLast
      rw [fd_upd (by intro _; rfl)]
      by_cases c : key' = key
      · rw [if_pos c, c]; rfl
      · rw [if_neg c]
    rw [e1, e2]
    refine ⟨?_, by rw [zgA_sA, if_neg (by omega)]; exact b2, fun k hk2 => by rw [e3, zgA_sA, if_neg (by omega)]; exact b3 k hk2⟩
    rw [zgA_sA]
    by_cases c : key' = key
    · rw [if_pos ⟨rfl, rfl, c⟩, if_pos c]
    · rw [if_neg (fun y => c y.2.2), if_neg c]; exact b1
theorem zHn_last {H : List Nb} {key now : Nat} (hn : now ≤ 400000) (h : zHn H) : zHn (hLast H key now) := ⟨zHk_upd (fun _ => rfl) (fun n hn' _ => ⟨hn, (h.1.1 n hn').2.2⟩) h.1, zHf_upd (fun n hn' _ hf k hk => h.2 n hn' hf k hk) h.2⟩
theorem zRCh_upd {z : St} {b key : Nat} {H : List Nb} {f : Nb → Nb} (hf : ∀ n, (f n).1 = n.1) (h : zRCh z b H) : zRCh z b (hUpd H key f) := ⟨by rw [hUpd_len]; exact h.1, fun i n hi => by
  obtain ⟨m, hm, e⟩ := hUpd_at hf hi
  rw [e]; exact h.2 i m hm⟩
