/-! the class: what waits at a port, and its askings -/
def zWq (z : St) (q : Nat) (W : List Dg) : Prop := W.length ≤ 17 ∧ zgI z 8 12 q = Int32.ofNat W.length ∧ ∃ pw : Nat → Nat, (∀ i, i < 17 → zgQ z 130 q i = some (pw i) ∧ 579 + 17 * q ≤ pw i ∧ pw i < 596 + 17 * q) ∧ (∀ i j, i < 17 → j < 17 → pw i = pw j → i = j) ∧ ∀ i D, W[i]? = some D → zPC 12 z (pw i) D
def zWc (z : St) (T : Tp) (g : Sg) : Prop := ∀ q, tv T q → (gW g q).length ≤ 16 ∧ zWq z q (gW g q)
theorem zWq_cg {z z' : St} {q : Nat} {W : List Dg} (h12 : zgI z' 8 12 q = zgI z 8 12 q) (hQ : ∀ i, zgQ z' 130 q i = zgQ z 130 q i) (h7 : ∀ u, 579 + 17 * q ≤ u → u < 596 + 17 * q → (∀ j, zgI z' 7 j u = zgI z 7 j u) ∧ ∀ i, zgA z' 125 u i = zgA z 125 u i) (h : zWq z q W) : zWq z' q W := by
  obtain ⟨h1, h2, pw, h3, h4, h5⟩ := h
  refine ⟨h1, h12.trans h2, pw, fun i hi => ?_, h4, fun i D hD => ?_⟩
  · rw [hQ]; exact h3 i hi
  · have hi : i < 17 := by
      have := (List.getElem?_eq_some_iff.mp hD).1
      omega
    have hp := h3 i hi
    have := h7 (pw i) (by omega) (by omega)
    exact zPC_cg (fun j _ => this.1 j) this.2 (h5 i D hD)
/-- what is so of all that waits -/
def zWw (T : Tp) (g : Sg) : Prop := ∀ q, tv T q → ∀ D, D ∈ gW g q → zDw D ∧ wTo D < 8 ∧ D.1 11 = Int32.ofNat (wTo D)
def zAf (A : List (Nat × Nat)) (s : Nat) : Nat := match A.find? (fun a => a.1 == s) with | some a => a.2 | none => 0
def zAc (z : St) (T : Tp) (g : Sg) : Prop := ∀ q, tv T q → zgI z 8 9 q = Int32.ofNat (gA g q).length ∧ (∀ i a, (gA g q)[i]? = some a → zgA z 128 q i = Int32.ofNat a.1) ∧ ∀ s, s < 8 → zgA z 127 q s = Int32.ofNat (zAf (gA g q) s)
def zAw (T : Tp) (E : Ev) (g : Sg) : Prop := ∀ q, tv T q → ((gA g q).map (fun a => a.1)).Nodup ∧ ∀ a, a ∈ gA g q → a.1 < 8 ∧ 1 ≤ a.2 ∧ a.2 ≤ eN E
def zHc (z : St) (T : Tp) (g : Sg) : Prop := ∀ q s, tv T q → s < 8 → zgA z 126 q s = Int32.ofNat (gH g q s)
def zHw (T : Tp) (E : Ev) (g : Sg) : Prop := ∀ q s, tv T q → s < 8 → gH g q s ≤ eN E
theorem zlen_sub : ∀ {a b : List Nat}, a.Nodup → (∀ x, x ∈ a → x ∈ b) → a.length ≤ b.length := by
  intro a
  induction a with
  | nil => intro b _ _; exact Nat.zero_le _
  | cons x a ih =>
    intro b hn hs
    obtain ⟨h1, h2⟩ := List.nodup_cons.mp hn
    have hx := hs x List.mem_cons_self
    have := ih (b := b.erase x) h2 (fun y hy => (List.mem_erase_of_ne (fun e => h1 (by rw [← e]; exact hy))).mpr (hs y (List.mem_cons_of_mem _ hy)))
    rw [List.length_erase_of_mem hx] at this
    have : 0 < b.length := List.length_pos_of_mem hx
    simp only [List.length_cons]
    omega
theorem zAw_len {T : Tp} {E : Ev} {g : Sg} (h : zAw T E g) {q : Nat} (hq : tv T q) : (gA g q).length ≤ 8 := by
  obtain ⟨h1, h2⟩ := h q hq
  have h3 : ((gA g q).map (fun a => a.1)) ⊆ List.range 8 := by
    intro x hx
    obtain ⟨a, ha, rfl⟩ := List.mem_map.mp hx
    exact List.mem_range.mpr (h2 a ha).1
  have := zlen_sub h1 (fun x hx => h3 hx)
  simpa using this
theorem zWc_fr {M : Nat} {z z' : St} {T : Tp} {g : Sg} (f : zFr M z z') (hm : 0x4000000000000000000000000000000000000000000000000000000000000000000000000000000000000000000000000000000000000000000000000000000000000000000000000000000000000000000000000000000000000000000000000000100000000000000000000000000000000000000000000000000000000000000000000000000000000000000000000000000000000000000000000000000000000000 &&& M = 0) (h7 : ∀ u, 515 ≤ u → (∀ j, zgI z' 7 j u = zgI z 7 j u) ∧ ∀ i, zgA z' 125 u i = zgA z 125 u i) (h : zWc z T g) : zWc z' T g := fun q hq => ⟨(h q hq).1, zWq_cg (zFr_gI f (by decide) (ztf hm (by decide)) q) (fun i => zFr_gQ f (ztf hm (by decide)) q i) (fun u hu _ => h7 u (by omega)) (h q hq).2⟩
theorem zAc_fr {M : Nat} {z z' : St} {T : Tp} {g : Sg} (f : zFr M z z') (hm : 0x1800000000000000000000000000000000000000000000000000000000000000000000000000000000000000000000000000000000000000000000000000000000000000000000000000000000000000000000000000000000000000000000000000020000000000000000000000000000000000000000000000000000000000000000000000000000000000000000000000000000000000000000000000000000000000 &&& M = 0) (h : zAc z T g) : zAc z' T g := by
  intro q hq
  obtain ⟨h1, h2, h3⟩ := h q hq
  refine ⟨?_, fun i a ha => ?_, fun s hs => ?_⟩
  · rw [zFr_gI f (by decide) (ztf hm (by decide))]; exact h1
  · rw [zFr_gA f (ztf hm (by decide))]; exact h2 i a ha
  · rw [zFr_gA f (ztf hm (by decide))]; exact h3 s hs
theorem zHc_fr {M : Nat} {z z' : St} {T : Tp} {g : Sg} (f : zFr M z z') (hm : 0x400000000000000000000000000000000000000000000000000000000000000000000000000000000000000000000000000000000000000000000000000000000000000000000000000000000000000000000000000000000000000000000000000000000000000000000000000000000000000000000000000000000000000000000000000000000000000000000000000000000000000000000000000000000000000 &&& M = 0) (h : zHc z T g) : zHc z' T g := by
  intro q s hq hs
  rw [zFr_gA f (ztf hm (by decide))]
  exact h q s hq hs
theorem zc_knows {z : St} {T : Tp} {E : Ev} {g : Sg} {q s N : Nat} (hH : zHc z T g) (hHw : zHw T E g) (hw : zEw T E) (hq : tv T q) (hs : s < 8) : fX8_knows N q (Int32.ofNat s) (Int32.ofNat (eN E)) z = some (zbi (nKnows E g q s), z) := by
  have h1 := hH q s hq hs
  have h2 := hHw q s hq hs
  have h3 := hw.1
  unfold fX8_knows nKnows
  rw [zkk (by omega) (by omega), zoC (by omega), h1, show (0 : Int32) = Int32.ofNat 0 from rfl]
  by_cases c : 0 < gH g q s
  · rw [if_neg (by rw [zo_le (by omega) (by omega)]; omega), zkk (by omega) (by omega), zo_sub h2, show (2500 : Int32) = Int32.ofNat 2500 from rfl]
    by_cases c2 : eN E - gH g q s ≤ 2500
    · rw [if_neg (by rw [zo_lt (by omega) (by omega)]; omega)]
      simp [zbi, c, c2]
    · rw [if_pos (by rw [zo_lt (by omega) (by omega)]; omega)]
      simp [zbi, c2]
  · rw [if_pos (by rw [zo_le (by omega) (by omega)]; omega)]
    simp [zbi, c]
theorem zAf_pos {A : List (Nat × Nat)} {s : Nat} (h : ∀ a, a ∈ A → 1 ≤ a.2) : (0 < zAf A s) ↔ A.any (fun a => a.1 == s) = true := by
  unfold zAf
  cases hf : A.find? (fun a => a.1 == s) with
  | none =>
    constructor
    · intro c; cases c
    · intro c
      obtain ⟨a, ha, hs⟩ := List.any_eq_true.mp c
      have := List.find?_eq_none.mp hf a ha
      exact absurd hs this
  | some a =>
    have h1 := List.mem_of_find?_eq_some hf
    have h2 := List.find?_some hf
    constructor
    · intro _; exact List.any_eq_true.mpr ⟨a, h1, h2⟩
    · intro _; exact h a h1
theorem zAf_le {A : List (Nat × Nat)} {s t : Nat} (h : ∀ a, a ∈ A → a.2 ≤ t) : zAf A s ≤ t := by
  unfold zAf
  cases hf : A.find? (fun a => a.1 == s) with
  | none => exact Nat.zero_le _
  | some a => exact h a (List.mem_of_find?_eq_some hf)
theorem zc_isAsked {z : St} {T : Tp} {E : Ev} {g : Sg} {q s N : Nat} (hA : zAc z T g) (hAw : zAw T E g) (hw : zEw T E) (hq : tv T q) (hs : s < 8) : fX8_isAsked N q (Int32.ofNat s) z = some (zbi (nAsked g q s), z) := by
  have h1 := (hA q hq).2.2 s hs
  have h2 := (hAw q hq).2
  have h3 := hw.1
  have h4 : zAf (gA g q) s ≤ eN E := zAf_le (fun a ha => (h2 a ha).2.2)
  have h5 := zAf_pos (s := s) (fun a ha => (h2 a ha).2.1)
  unfold fX8_isAsked
  rw [zkk (by omega) (by omega), zoC (by omega), h1, show (0 : Int32) = Int32.ofNat 0 from rfl]
  by_cases c : nAsked g q s = true
  · rw [c]
    have : 0 < zAf (gA g q) s := h5.mpr c
    rw [if_neg (by rw [zo_le (by omega) (by omega)]; omega)]
    rfl
  · have c' : nAsked g q s = false := by simpa using c
    rw [c']
    have : ¬ 0 < zAf (gA g q) s := fun y => c (h5.mp y)
    rw [if_pos (by rw [zo_le (by omega) (by omega)]; omega)]
    rfl
/-- an asking begins -/
theorem zc_beginAsking {z : St} {T : Tp} {E : Ev} {g : Sg} {q s N : Nat} (hA : zAc z T g) (hAw : zAw T E g) (hw : zEw T E) (hn : 1 ≤ eN E) (hq : tv T q) (hs : s < 8) (hns : nAsked g q s = false) : ∃ z', fX8_beginAsking N q (Int32.ofNat s) (Int32.ofNat (eN E)) z = some (0, z') ∧ zAc z' T (sA g (zupd (gA g) q (gA g q ++ [(s, eN E)]))) ∧ zAw T E (sA g (zupd (gA g) q (gA g q ++ [(s, eN E)]))) ∧ (∀ k j o, ¬ (k = 8 ∧ j = 9) → zgI z' k j o = zgI z k j o) := by
  obtain ⟨a9, a128, a127⟩ := hA q hq
  obtain ⟨hnd, hin⟩ := hAw q hq
  have hw' : zAw T E (sA g (zupd (gA g) q (gA g q ++ [(s, eN E)]))) := by
    intro p hp
    by_cases e : p = q
    · subst e
      have e1 : gA (sA g (zupd (gA g) p (gA g p ++ [(s, eN E)]))) p = gA g p ++ [(s, eN E)] := zupd_s _ _ _
      rw [e1]
      refine ⟨?_, fun a ha => ?_⟩
      · rw [List.map_append]
        refine List.nodup_append.mpr ⟨hnd, by simp, ?_⟩
        intro x hx y hy
        obtain rfl : y = s := by simpa using hy
        rintro rfl
        obtain ⟨a, ha, rfl⟩ := List.mem_map.mp hx
        have : nAsked g p a.1 = true := List.any_eq_true.mpr ⟨a, ha, by simp⟩
        rw [this] at hns; cases hns
      · rcases List.mem_append.mp ha with ha | ha
        · exact hin a ha
        · obtain rfl : a = (s, eN E) := by simpa using ha
          exact ⟨hs, hn, Nat.le_refl _⟩
    · have e1 : gA (sA g (zupd (gA g) q (gA g q ++ [(s, eN E)]))) p = gA g p := zupd_n e
      rw [e1]
      exact hAw p hp
  have hl8 := zAw_len hw' hq
  have e1 : gA (sA g (zupd (gA g) q (gA g q ++ [(s, eN E)]))) q = gA g q ++ [(s, eN E)] := zupd_s _ _ _
  rw [e1, List.length_append] at hl8
  have hl : (gA g q).length < 8 := by simp only [List.length_cons, List.length_nil] at hl8; omega
  unfold fX8_beginAsking
  rw [a9, if_pos (by rw [show (8 : Int32) = Int32.ofNat 8 from rfl, zo_lt (by omega) (by omega)]; exact hl), zkk (by omega) (by omega), zl_e, zoC (by omega)]
  have a9' : zgI (zsA z 127 q s (Int32.ofNat (eN E))) 8 9 q = Int32.ofNat (gA g q).length := a9
  rw [a9', zkk (by omega) (by omega), zl_e, zoC (by omega)]
  have a9'' : zgI (zsA (zsA z 127 q s (Int32.ofNat (eN E))) 128 q (gA g q).length (Int32.ofNat s)) 8 9 q = Int32.ofNat (gA g q).length := a9
  rw [a9'', zl_e, zo_i1]
  refine ⟨_, rfl, fun p hp => ?_, hw', fun k j o h => ?_⟩
  · by_cases e : p = q
    · subst e
      rw [e1]
      refine ⟨?_, fun i a ha => ?_, fun t ht => ?_⟩
      · rw [zgI_sI, if_pos ⟨rfl, rfl, rfl⟩, List.length_append]; rfl
      · rw [zgA_sI, zgA_sA]
        rw [List.getElem?_append] at ha
        by_cases c : i < (gA g p).length
        · rw [if_pos c] at ha
          rw [if_neg (fun y => by have := y.2.2; omega), zgA_sA, if_neg (by simp)]
          exact a128 i a ha
        · rw [if_neg c] at ha
          have hi0 : i - (gA g p).length = 0 := by
            have := (List.getElem?_eq_some_iff.mp ha).1
            simpa using this
          rw [hi0] at ha
          obtain rfl : (s, eN E) = a := by simpa using ha
          rw [if_pos ⟨rfl, rfl, by omega⟩]
      · rw [zgA_sI, zgA_sA, if_neg (by simp), zgA_sA]
        have hf : zAf (gA g p ++ [(s, eN E)]) t = if t = s then eN E else zAf (gA g p) t := by
          unfold zAf
          rw [List.find?_append]
          by_cases c : t = s
          · subst c
            have : (gA g p).find? (fun a => a.1 == t) = none := by
              rw [List.find?_eq_none]
              intro a ha h1
              have : nAsked g p t = true := List.any_eq_true.mpr ⟨a, ha, h1⟩
              rw [this] at hns; cases hns
            rw [this]
            simp
          · rw [if_neg c]
            cases hx : (gA g p).find? (fun a => a.1 == t) with
            | some a => simp
            | none =>
              have : ([(s, eN E)] : List (Nat × Nat)).find? (fun a => a.1 == t) = none := List.find?_eq_none.mpr (fun a ha => by
                obtain rfl : a = (s, eN E) := by simpa using ha
                simpa using fun y : s = t => c y.symm)
              rw [this]; rfl
        rw [hf]
        by_cases c : t = s
        · rw [if_pos ⟨rfl, rfl, c⟩, if_pos c]
        · rw [if_neg (fun y => c y.2.2), if_neg c]
          exact a127 t ht
    · have e2 : gA (sA g (zupd (gA g) q (gA g q ++ [(s, eN E)]))) p = gA g p := zupd_n e
      rw [e2]
      obtain ⟨b9, b128, b127⟩ := hA p hp
      refine ⟨?_, fun i a ha => ?_, fun t ht => ?_⟩
      · rw [zgI_sI, if_neg (fun y => e y.2.2)]; exact b9
      · rw [zgA_sI, zgA_sA, if_neg (fun y => e y.2.1), zgA_sA, if_neg (by simp)]
        exact b128 i a ha
      · rw [zgA_sI, zgA_sA, if_neg (by simp), zgA_sA, if_neg (fun y => e y.2.1)]
        exact b127 t ht
  · rw [zgI_sI, if_neg (fun y => h ⟨y.1, y.2.1⟩)]; rfl
/-- the loop that takes a station out of the row of askings -/
theorem zc_endAsking11 {q s N : Nat} (hs : s < 8) : ∀ (B : List (Nat × Nat)) (i kept n : Nat) (z : St), (∀ a, a ∈ B → a.1 < 8) → B.length < n → kept ≤ i → i + B.length ≤ 8 → zgI z 8 9 q = Int32.ofNat (i + B.length) → (∀ t a, B[t]? = some a → zgA z 128 q (i + t) = Int32.ofNat a.1) →
    ∃ z', fX8_endAsking_11 N n q (Int32.ofNat s) (Int32.ofNat kept) (Int32.ofNat i) z = some (0, z') ∧ zgI z' 8 9 q = Int32.ofNat (kept + (B.filter (fun a => a.1 != s)).length) ∧ (∀ t a, (B.filter (fun a => a.1 != s))[t]? = some a → zgA z' 128 q (kept + t) = Int32.ofNat a.1) ∧ (∀ t, t < kept → zgA z' 128 q t = zgA z 128 q t) ∧ (∀ k j o, ¬ (k = 8 ∧ j = 9 ∧ o = q) → zgI z' k j o = zgI z k j o) ∧ (∀ k o t, ¬ (k = 128 ∧ o = q) → zgA z' k o t = zgA z k o t) := by
  intro B
  induction B with
  | nil =>
    intro i kept n z h8 hn hk hi h9 hB
    obtain ⟨n, rfl⟩ : ∃ n', n = n' + 1 := ⟨n - 1, by simp at hn; omega⟩
    refine ⟨zsI z 8 9 q (Int32.ofNat kept), ?_, ?_, fun t a h => by simp at h, fun t _ => rfl, fun k j o h => ?_, fun k o t _ => rfl⟩
    · show fX8_endAsking_11b N (fX8_endAsking_11 N n) q (Int32.ofNat s) (Int32.ofNat kept) (Int32.ofNat i) z = _
      unfold fX8_endAsking_11b
      rw [h9, if_pos (show Int32.ofNat (i + ([] : List (Nat × Nat)).length) ≤ Int32.ofNat i from Int32.le_refl _)]
      rfl
    · rw [zgI_sI, if_pos ⟨rfl, rfl, rfl⟩]; rfl
    · rw [zgI_sI, if_neg h]
  | cons b B ih =>
    intro i kept n z h8 hn hk hi h9 hB
    simp only [List.length_cons] at hn hi h9
    obtain ⟨n, rfl⟩ : ∃ n', n = n' + 1 := ⟨n - 1, by omega⟩
    have hb : zgA z 128 q i = Int32.ofNat b.1 := hB 0 b rfl
    have hb8 := h8 b List.mem_cons_self
    have step : fX8_endAsking_11 N (n + 1) q (Int32.ofNat s) (Int32.ofNat kept) (Int32.ofNat i) z = fX8_endAsking_11b N (fX8_endAsking_11 N n) q (Int32.ofNat s) (Int32.ofNat kept) (Int32.ofNat i) z := rfl
    rw [step]
    unfold fX8_endAsking_11b fX8_endAsking_47
    rw [h9, if_neg (by rw [zo_le (by omega) (by omega)]; omega), zkk (by omega) (by omega), zoC (by omega), hb]
    by_cases c : b.1 = s
    · rw [if_neg (fun y => y (by rw [c])), zl_e, zo_i1]
      obtain ⟨z', r1, r2, r3, r4, r5, r6⟩ := ih (i + 1) kept n z (fun a ha => h8 a (List.mem_cons_of_mem _ ha)) (by omega) (by omega) (by omega) (by rw [h9]; congr 1; omega) (fun t a h => by rw [show i + 1 + t = i + (t + 1) by omega]; exact hB (t + 1) a (by simpa using h))
      have hfil : (b :: B).filter (fun a => a.1 != s) = B.filter (fun a => a.1 != s) := by
        rw [List.filter_cons, if_neg (by simp [c])]
      rw [hfil]
      exact ⟨z', r1, r2, r3, r4, r5, r6⟩
    · rw [if_pos (by rw [zo_eq (by omega) (by omega)]; exact c), zkk (by omega) (by omega), zkk (by omega) (by omega), zl_e, zoC (by omega), zl_e, zl_e, zo_i1, zo_i1]
      obtain ⟨z', r1, r2, r3, r4, r5, r6⟩ := ih (i + 1) (kept + 1) n (zsA z 128 q kept (Int32.ofNat b.1)) (fun a ha => h8 a (List.mem_cons_of_mem _ ha)) (by omega) (by omega) (by omega) (by show zgI z 8 9 q = _; rw [h9]; congr 1; omega) (fun t a h => by
        rw [zgA_sA, if_neg (fun y => by have := y.2.2; omega), show i + 1 + t = i + (t + 1) by omega]
        exact hB (t + 1) a (by simpa using h))
      have hfil : (b :: B).filter (fun a => a.1 != s) = b :: B.filter (fun a => a.1 != s) := by
        rw [List.filter_cons, if_pos (by simp [c])]
      rw [hfil]
      refine ⟨z', r1, ?_, fun t a h => ?_, fun t ht => ?_, r5, fun k o t h => ?_⟩
      · rw [r2]; congr 1; simp only [List.length_cons]; omega
      · cases t with
        | zero =>
          obtain rfl : b = a := by simpa using h
          rw [show kept + 0 = kept by omega, r4 kept (by omega), zgA_sA, if_pos ⟨rfl, rfl, rfl⟩]
        | succ t =>
          rw [show kept + (t + 1) = kept + 1 + t by omega]
          exact r3 t a (by simpa using h)
      · rw [r4 t (by omega), zgA_sA, if_neg (fun y => by have := y.2.2; omega)]
      · rw [r6 k o t h, zgA_sA, if_neg (fun y => h ⟨y.1, y.2.1⟩)]
theorem zAf_filter {A : List (Nat × Nat)} {s t : Nat} : zAf (A.filter (fun a => a.1 != s)) t = if t = s then 0 else zAf A t := by
  induction A with
  | nil => unfold zAf; simp
  | cons a A ih =>
    by_cases c : a.1 = s
    · rw [List.filter_cons, if_neg (by simp [c]), ih]
      by_cases e : t = s
      · rw [if_pos e, if_pos e]
      · rw [if_neg e, if_neg e]
        unfold zAf
        rw [List.find?_cons_of_neg (by rw [c]; simpa using fun y : s = t => e y.symm)]
    · rw [List.filter_cons, if_pos (by simp [c])]
      by_cases d : a.1 = t
      · have e : t ≠ s := by rw [← d]; exact c
        rw [if_neg e]
        unfold zAf
        rw [List.find?_cons_of_pos (by simp [d]), List.find?_cons_of_pos (by simp [d])]
      · have h1 : zAf (a :: List.filter (fun a => a.1 != s) A) t = zAf (List.filter (fun a => a.1 != s) A) t := by
          unfold zAf
          rw [List.find?_cons_of_neg (by simp [d])]
        have h2 : zAf (a :: A) t = zAf A t := by
          unfold zAf
          rw [List.find?_cons_of_neg (by simp [d])]
        rw [h1, h2, ih]
theorem zc_endAsking {z : St} {T : Tp} {E : Ev} {g : Sg} {q s N : Nat} (hA : zAc z T g) (hAw : zAw T E g) (hq : tv T q) (hs : s < 8) (hN : 8 < N) : ∃ z', fX8_endAsking N q (Int32.ofNat s) z = some (0, z') ∧ zAc z' T (sA g (zupd (gA g) q ((gA g q).filter (fun a => a.1 != s)))) ∧ zAw T E (sA g (zupd (gA g) q ((gA g q).filter (fun a => a.1 != s)))) ∧ (∀ k j o, ¬ (k = 8 ∧ j = 9) → zgI z' k j o = zgI z k j o) := by
  obtain ⟨a9, a128, a127⟩ := hA q hq
  obtain ⟨hnd, hin⟩ := hAw q hq
  have hl8 := zAw_len hAw hq
  have e1 : gA (sA g (zupd (gA g) q ((gA g q).filter (fun a => a.1 != s)))) q = (gA g q).filter (fun a => a.1 != s) := zupd_s _ _ _
  obtain ⟨z', r1, r2, r3, r4, r5, r6⟩ := zc_endAsking11 (N := N) (q := q) hs (gA g q) 0 0 N (zsA z 127 q s 0) (fun a ha => (hin a ha).1) (by omega) (by omega) (by omega) (by show zgI z 8 9 q = _; rw [a9]; congr 1; omega) (fun t a h => by
    rw [zgA_sA, if_neg (by simp), Nat.zero_add]; exact a128 t a h)
  refine ⟨z', ?_, fun p hp => ?_, fun p hp => ?_, fun k j o h => ?_⟩
  · unfold fX8_endAsking
    rw [zkk (by omega) (by omega), zl_e, zoC (by omega)]
    exact r1
  · by_cases e : p = q
    · subst e
      rw [e1]
      refine ⟨by rw [r2, Nat.zero_add], fun i a h => ?_, fun t ht => ?_⟩
      · have := r3 i a h
        rw [Nat.zero_add] at this
        exact this
      · rw [r6 127 p t (by simp), zgA_sA, zAf_filter]
        by_cases c : t = s
        · rw [if_pos ⟨rfl, rfl, c⟩, if_pos c]; rfl
        · rw [if_neg (fun y => c y.2.2), if_neg c]
          exact a127 t ht
    · have e2 : gA (sA g (zupd (gA g) q ((gA g q).filter (fun a => a.1 != s)))) p = gA g p := zupd_n e
      rw [e2]
      obtain ⟨b9, b128, b127⟩ := hA p hp
      refine ⟨?_, fun i a h => ?_, fun t ht => ?_⟩
      · rw [r5 8 9 p (fun y => e y.2.2)]; exact b9
      · rw [r6 128 p i (fun y => e y.2), zgA_sA, if_neg (by simp)]; exact b128 i a h
      · rw [r6 127 p t (by simp), zgA_sA, if_neg (fun y => e y.2.1)]; exact b127 t ht
  · by_cases e : p = q
    · subst e
      rw [e1]
      refine ⟨hnd.sublist (List.filter_sublist.map _), fun a ha => hin a (List.mem_filter.mp ha).1⟩
    · have e2 : gA (sA g (zupd (gA g) q ((gA g q).filter (fun a => a.1 != s)))) p = gA g p := zupd_n e
      rw [e2]
      exact hAw p hp
  · rw [r5 k j o (fun y => h ⟨y.1, y.2.1⟩)]; rfl
