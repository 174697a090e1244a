/-! routers, the class: adverts and thanks that come -/
/-- what an advert's bytes say: whose it is, its number, its entries -/
def zAe (p : Nat → Int32) (of_ num : Nat) (L : List En) : Prop := g2 p 0 = Int32.ofNat of_ ∧ g4 p 2 = Int32.ofNat num ∧ g2 p 6 = Int32.ofNat L.length ∧ ∀ i e, L[i]? = some e → g2 p (12 + 6 * i) = Int32.ofNat e.1 ∧ g2 p (12 + 6 * i + 2) = Int32.ofNat e.2.1 ∧ g2 p (12 + 6 * i + 4) = Int32.ofNat e.2.2
/-- entries that a router may tell -/
def zEn (L : List En) : Prop := L.length ≤ 24 ∧ ∀ e, e ∈ L → e.1 ≤ 16 ∧ e.2.1 < 24 ∧ 1 ≤ e.2.2 ∧ e.2.2 ≤ 1000
def zDr (z : St) (b : Nat) (L : List En) : Prop := zgI z 0 6 b = Int32.ofNat L.length ∧ ∀ i e, L[i]? = some e → zgA z 105 b i = Int32.ofNat (ze e)
theorem zc_addToDraft {z : St} {b N : Nat} {L : List En} {e : En} (h : zDr z b L) (hl : L.length < 24) (h1 : e.1 < 2048) (h2 : e.2.1 < 256) (h3 : e.2.2 < 4096) : ∃ z', fX0_addToDraft N b (Int32.ofNat e.1) (Int32.ofNat e.2.1) (Int32.ofNat e.2.2) z = some (0, z') ∧ zDr z' b (L ++ [e]) ∧ (∀ k j o, ¬ (k = 0 ∧ j = 6 ∧ o = b) → zgI z' k j o = zgI z k j o) ∧ (∀ k o i, ¬ (k = 105 ∧ o = b) → zgA z' k o i = zgA z k o i) ∧ zKr b z z' := by
  obtain ⟨c1, c2⟩ := h
  let z' : St := zsI (zsA z 105 b L.length (Int32.ofNat (ze e))) 0 6 b (Int32.ofNat (L.length + 1))
  refine ⟨z', ?_, ⟨?_, fun i e2 hi => ?_⟩, fun k j o n => ?_, fun k o i n => ?_, zKr_tr (zKr_A (Or.inr (Or.inr ⟨rfl, by omega⟩))) (zKr_I (Or.inr rfl))⟩
  · unfold fX0_addToDraft
    rw [c1, if_pos (by rw [show (24 : Int32) = Int32.ofNat 24 from rfl, zo_lt (by omega) (by omega)]; exact hl), zkk hl (by omega), zoC (by omega), zenc h1 h2 h3, zl_e]
    have : zgI (zsA z 105 b L.length (Int32.ofNat (e.1 * 1048576 + e.2.1 * 4096 + e.2.2))) 0 6 b = Int32.ofNat L.length := c1
    rw [this, zo_i1, zl_e]
    rfl
  · show zgI (zsI (zsA z 105 b L.length _) 0 6 b _) 0 6 b = _
    rw [zgI_sI, if_pos ⟨rfl, rfl, rfl⟩]; simp
  · show zgA (zsI (zsA z 105 b L.length _) 0 6 b _) 105 b i = _
    rw [zgA_sI, zgA_sA]
    by_cases c : i = L.length
    · rw [if_pos ⟨rfl, rfl, c⟩]
      rw [c, List.getElem?_append_right (Nat.le_refl _), Nat.sub_self] at hi
      have : e = e2 := by simpa using hi
      rw [this]
    · rw [if_neg (fun y => c y.2.2)]
      have hil := (List.getElem?_eq_some_iff.mp hi).1
      rw [List.length_append] at hil
      have : i < L.length := by simp at hil; omega
      rw [List.getElem?_append_left this] at hi
      exact c2 i e2 hi
  · show zgI (zsI (zsA z 105 b L.length _) 0 6 b _) k j o = _
    rw [zgI_sI, if_neg n]; rfl
  · show zgA (zsI (zsA z 105 b L.length _) 0 6 b _) k o i = _
    rw [zgA_sI, zgA_sA, if_neg (fun y => n ⟨y.1, y.2.1⟩)]
/-- a base with one advert more -/
def bSet (Ba : Nat → Option Ad) (r : Nat) (a : Option Ad) : Nat → Option Ad := fun k => if k = r then a else Ba k
theorem zc_takeDraft {z : St} {b r num now N : Nat} {L : List En} {Ba : Nat → Option Ad} (hD : zDr z b L) (hB : zRCb z b Ba) (hr : r < 16) (hl : L.length ≤ 24) (hN : 24 < N) : ∃ z', fX0_takeDraft N b (Int32.ofNat r) (Int32.ofNat num) (Int32.ofNat now) z = some (0, z') ∧ zRCb z' b (bSet Ba r (some (num, now, L))) ∧ (∀ k j o, ¬ (k = 0 ∧ j = 9 ∧ o = b) → zgI z' k j o = zgI z k j o) ∧ zgI z' 0 9 b = 1 ∧ (∀ k o i, ¬ ((k = 100 ∨ k = 101 ∨ k = 102) ∧ o = b) → ¬ (k = 104 ∧ b * 16 ≤ o ∧ o < b * 16 + 16) → zgA z' k o i = zgA z k o i) ∧ zKr b z z' := by
  obtain ⟨d1, d2⟩ := hD
  let z1 : St := zsA (zsA (zsA z 100 b r (Int32.ofNat num)) 101 b r (Int32.ofNat now)) 102 b r (Int32.ofNat L.length)
  have A1 : ∀ k o i, zgA z1 k o i = if k = 102 ∧ o = b ∧ i = r then Int32.ofNat L.length else if k = 101 ∧ o = b ∧ i = r then Int32.ofNat now else if k = 100 ∧ o = b ∧ i = r then Int32.ofNat num else zgA z k o i := fun k o i => by
    show zgA (zsA (zsA (zsA z 100 b r _) 101 b r _) 102 b r _) k o i = _
    rw [zgA_sA, zgA_sA, zgA_sA]
  have K1 : zKr b z z1 := zKr_tr (zKr_A (Or.inr (Or.inr ⟨rfl, by omega⟩))) (zKr_tr (zKr_A (Or.inr (Or.inr ⟨rfl, by omega⟩))) (zKr_A (Or.inr (Or.inr ⟨rfl, by omega⟩))))
  have loop : ∀ (m i n : Nat) (y : St), i + m = L.length → m < n → (∀ j e, j < i → L[j]? = some e → zgA y 104 (b * 16 + r) j = Int32.ofNat (ze e)) → (∀ k j o, zgI y k j o = zgI z k j o) → (∀ k o j, ¬ (k = 104 ∧ o = b * 16 + r) → zgA y k o j = zgA z1 k o j) → zKr b z y → ∃ y', fX0_takeDraft_27 N n b (Int32.ofNat r) (Int32.ofNat i) y = some (0, zsI y' 0 9 b 1) ∧ (∀ j e, L[j]? = some e → zgA y' 104 (b * 16 + r) j = Int32.ofNat (ze e)) ∧ (∀ k j o, zgI y' k j o = zgI z k j o) ∧ (∀ k o j, ¬ (k = 104 ∧ o = b * 16 + r) → zgA y' k o j = zgA z1 k o j) ∧ zKr b z y' := by
    intro m
    induction m with
    | zero =>
      intro i n y hi hn h1 yI yA yK
      obtain ⟨n, rfl⟩ : ∃ k, n = k + 1 := ⟨n - 1, by omega⟩
      refine ⟨y, ?_, fun j e he => h1 j e (by have := (List.getElem?_eq_some_iff.mp he).1; omega) he, yI, yA, yK⟩
      show fX0_takeDraft_27b N (fX0_takeDraft_27 N n) b (Int32.ofNat r) (Int32.ofNat i) y = _
      unfold fX0_takeDraft_27b
      rw [yI 0 6 b, d1, if_pos (by rw [zo_le (by omega) (by omega)]; omega), zl_e]
    | succ m ih =>
      intro i n y hi hn h1 yI yA yK
      obtain ⟨n, rfl⟩ : ∃ k, n = k + 1 := ⟨n - 1, by omega⟩
      have he : L[i]? = some L[i] := List.getElem?_eq_getElem (by omega)
      have c105 : zgA y 105 b i = Int32.ofNat (ze L[i]) := by
        rw [yA 105 b i (by omega), A1, if_neg (by omega), if_neg (by omega), if_neg (by omega)]
        exact d2 i _ he
      obtain ⟨y', r1, r2⟩ := ih (i + 1) n (zsA y 104 (b * 16 + r) i (Int32.ofNat (ze L[i]))) (by omega) (by omega) (fun j e hj hje => by
        rw [zgA_sA]
        by_cases c : j = i
        · rw [if_pos ⟨rfl, rfl, c⟩]
          rw [c, he] at hje
          rw [Option.some.inj hje]
        · rw [if_neg (fun y => c y.2.2)]; exact h1 j e (by omega) hje) yI (fun k o j hk => by rw [zgA_sA, if_neg (fun y => hk ⟨y.1, y.2.1⟩)]; exact yA k o j hk) (zKr_tr yK (zKr_A (Or.inr (Or.inl ⟨rfl, by omega, by omega⟩))))
      refine ⟨y', ?_, r2⟩
      show fX0_takeDraft_27b N (fX0_takeDraft_27 N n) b (Int32.ofNat r) (Int32.ofNat i) y = _
      unfold fX0_takeDraft_27b
      rw [yI 0 6 b, d1, if_neg (by rw [zo_le (by omega) (by omega)]; omega), zkk hr (by omega), zkk (by omega) (by omega), zkk (by omega) (by omega), zoC (by omega), zoC (by omega), c105, zl_e, zl_e, zo_i1]
      exact r1
  obtain ⟨y', r1, r2, r3, r4, r5⟩ := loop L.length 0 N z1 (by omega) (by omega) (fun j e hj => by omega) (fun _ _ _ => rfl) (fun _ _ _ _ => rfl) K1
  have I' : ∀ k j o, ¬ (k = 0 ∧ j = 9 ∧ o = b) → zgI (zsI y' 0 9 b 1) k j o = zgI z k j o := fun k j o n => by rw [zgI_sI, if_neg n]; exact r3 k j o
  refine ⟨zsI y' 0 9 b 1, ?_, fun k hk => ?_, I', by rw [zgI_sI, if_pos ⟨rfl, rfl, rfl⟩], fun k o i n1 n2 => ?_, zKr_tr r5 (zKr_I (Or.inr rfl))⟩
  · unfold fX0_takeDraft
    rw [zkk hr (by omega), zl_e, zkk hr (by omega), zl_e, zkk hr (by omega), zoC (by omega)]
    have : zgI (zsA (zsA z 100 b r (Int32.ofNat num)) 101 b r (Int32.ofNat now)) 0 6 b = Int32.ofNat L.length := d1
    rw [this, zl_e]
    exact r1
  · have e : ∀ kk i, kk = 100 ∨ kk = 101 ∨ kk = 102 → zgA (zsI y' 0 9 b 1) kk b i = zgA z1 kk b i := fun kk i h => by
      rw [zgA_sI]; exact r4 kk b i (by omega)
    unfold bSet
    by_cases c : k = r
    · rw [if_pos c]
      refine ⟨?_, ?_, ?_, fun i en hi => ?_⟩
      · rw [e 100 k (by simp), A1, if_neg (by omega), if_neg (by omega), if_pos ⟨rfl, rfl, c⟩]
      · rw [e 101 k (by simp), A1, if_neg (by omega), if_pos ⟨rfl, rfl, c⟩]
      · rw [e 102 k (by simp), A1, if_pos ⟨rfl, rfl, c⟩]
      · rw [zgA_sI, c]; exact r2 i en hi
    · rw [if_neg c]
      have hB' := hB k hk
      have a : ∀ kk, kk = 100 ∨ kk = 101 ∨ kk = 102 → zgA (zsI y' 0 9 b 1) kk b k = zgA z kk b k := fun kk h => by
        rw [e kk k h, A1, if_neg (fun y => c y.2.2), if_neg (fun y => c y.2.2), if_neg (fun y => c y.2.2)]
      cases hk' : Ba k with
      | none =>
        rw [hk'] at hB'
        exact ⟨(a 100 (by simp)).trans hB'.1, (a 102 (by simp)).trans hB'.2⟩
      | some ad =>
        rw [hk'] at hB'
        refine ⟨(a 100 (by simp)).trans hB'.1, (a 101 (by simp)).trans hB'.2.1, (a 102 (by simp)).trans hB'.2.2.1, fun i en hi => ?_⟩
        rw [zgA_sI, r4 104 _ i (by omega), A1, if_neg (by omega), if_neg (by omega), if_neg (by omega)]
        exact hB'.2.2.2 i en hi
  · rw [zgA_sI, r4 k o i (fun y => n2 ⟨y.1, by omega, by omega⟩), A1, if_neg (fun y => n1 ⟨Or.inr (Or.inr y.1), y.2.1⟩), if_neg (fun y => n1 ⟨Or.inr (Or.inl y.1), y.2.1⟩), if_neg (fun y => n1 ⟨Or.inl y.1, y.2.1⟩)]
/-- an advert's bytes go into the base -/
theorem zc_baseTake {z : St} {b x of_ num now N : Nat} {L : List En} {D : Dg} {Ba : Nat → Option Ad} (hB : zRCb z b Ba) (hx : zPC 11 z x D) (hf : df D = 0) (hdl : dl D = 12 + 6 * L.length) (hA : zAe D.2 of_ num L) (hL : zEn L) (ho : of_ < 16) (hN : 24 < N) : ∃ z', fX0_takeAdvert N b x (Int32.ofNat of_) (Int32.ofNat num) (Int32.ofNat now) z = some (0, z') ∧ zRCb z' b (bSet Ba of_ (some (num, now, L))) ∧ (∀ k j o, ¬ (k = 0 ∧ (j = 6 ∨ j = 9) ∧ o = b) → zgI z' k j o = zgI z k j o) ∧ zgI z' 0 9 b = 1 ∧ (∀ k o i, ¬ ((k = 100 ∨ k = 101 ∨ k = 102 ∨ k = 105) ∧ o = b) → ¬ (k = 104 ∧ b * 16 ≤ o ∧ o < b * 16 + 16) → zgA z' k o i = zgA z k o i) ∧ zKr b z z' := by
  have hl24 := hL.1
  have loop : ∀ (B A : List En) (n : Nat) (y : St), L = A ++ B → B.length < n → zDr y b A → (∀ k j o, ¬ (k = 0 ∧ j = 6 ∧ o = b) → zgI y k j o = zgI z k j o) → (∀ k o i, ¬ (k = 105 ∧ o = b) → zgA y k o i = zgA z k o i) → zKr b z y → ∃ y', fX0_takeAdvert_21 N n b x (Int32.ofNat of_) (Int32.ofNat num) (Int32.ofNat now) (Int32.ofNat L.length) (Int32.ofNat A.length) y = (zc (fX0_takeDraft N b (Int32.ofNat of_) (Int32.ofNat num) (Int32.ofNat now) y') fun _ z3 => some (0, z3)) ∧ zDr y' b L ∧ (∀ k j o, ¬ (k = 0 ∧ j = 6 ∧ o = b) → zgI y' k j o = zgI z k j o) ∧ (∀ k o i, ¬ (k = 105 ∧ o = b) → zgA y' k o i = zgA z k o i) ∧ zKr b z y' := by
    intro B
    induction B with
    | nil =>
      intro A n y hLA hn hD yI yA yK
      obtain ⟨n, rfl⟩ : ∃ k, n = k + 1 := ⟨n - 1, by omega⟩
      rw [List.append_nil] at hLA
      refine ⟨y, ?_, by rw [hLA]; exact hD, yI, yA, yK⟩
      show fX0_takeAdvert_21b N (fX0_takeAdvert_21 N n) b x (Int32.ofNat of_) (Int32.ofNat num) (Int32.ofNat now) (Int32.ofNat L.length) (Int32.ofNat A.length) y = _
      unfold fX0_takeAdvert_21b
      rw [← hLA, if_pos (Int32.le_refl _)]
    | cons e B ih =>
      intro A n y hLA hn hD yI yA yK
      obtain ⟨n, rfl⟩ : ∃ k, n = k + 1 := ⟨n - 1, by omega⟩
      have hlen : L.length = A.length + (B.length + 1) := by rw [hLA]; simp
      have he : L[A.length]? = some e := by rw [hLA]; simp
      have hmem : e ∈ L := by rw [hLA]; simp
      obtain ⟨e1, e2, e3, e4⟩ := hL.2 e hmem
      obtain ⟨a1, a2, a3⟩ := hA.2.2.2 _ e he
      have hxy : zPC 11 y x D := zPC_cg (fun j _ => yI 7 j x (by omega)) (fun i => yA 125 x i (by omega)) hx
      obtain ⟨y2, r1, r2, r3, r4, r5⟩ := zc_addToDraft (N := N) hD (show A.length < 24 by omega) (show e.1 < 2048 by omega) (show e.2.1 < 256 by omega) (show e.2.2 < 4096 by omega)
      obtain ⟨y', s1, s2⟩ := ih (A ++ [e]) n y2 (by rw [hLA]; simp) (by simp at hn; omega) r2 (fun k j o nn => (r3 k j o nn).trans (yI k j o nn)) (fun k o i nn => (r4 k o i nn).trans (yA k o i nn)) (zKr_tr yK r5)
      refine ⟨y', ?_, s2⟩
      show fX0_takeAdvert_21b N (fX0_takeAdvert_21 N n) b x (Int32.ofNat of_) (Int32.ofNat num) (Int32.ofNat now) (Int32.ofNat L.length) (Int32.ofNat A.length) y = _
      unfold fX0_takeAdvert_21b
      have e6 : (12 : Int32) + (6 : Int32) * Int32.ofNat A.length = Int32.ofNat (12 + 6 * A.length) := by
        rw [show (6 : Int32) * Int32.ofNat A.length = Int32.ofNat (6 * A.length) from (Int32.ofNat_mul 6 _).symm]
        exact zo_add 12 _
      have e62 : Int32.ofNat (12 + 6 * A.length) + (2 : Int32) = Int32.ofNat (12 + 6 * A.length + 2) := zo_add _ 2
      have e64 : Int32.ofNat (12 + 6 * A.length) + (4 : Int32) = Int32.ofNat (12 + 6 * A.length + 4) := zo_add _ 4
      rw [if_neg (by rw [zo_le (by omega) (by omega)]; omega), e6, zl_e, zc_get2D hxy hf (by omega) (by omega), a1, zc_e, e62, zc_get2D hxy hf (by omega) (by omega), a2, zc_e, e64, zc_get2D hxy hf (by omega) (by omega), a3, zc_e, r1, zc_e, zl_e, zo_i1]
      rw [List.length_append] at s1
      exact s1
  have z0 : zDr (zsI z 0 6 b 0) b [] := ⟨by rw [zgI_sI, if_pos ⟨rfl, rfl, rfl⟩]; rfl, fun i e hi => by simp at hi⟩
  obtain ⟨y, r1, r2, r3, r4, r5⟩ := loop L [] N (zsI z 0 6 b 0) rfl (by omega) z0 (fun k j o n => by rw [zgI_sI, if_neg n]) (fun _ _ _ _ => rfl) (zKr_I (Or.inr rfl))
  have By : zRCb y b Ba := zRCb_cg (fun k i hk => r4 k b i (by omega)) (fun o i _ _ => r4 104 o i (by omega)) hB
  obtain ⟨z', s1, s2, s3, s4, s5, s6⟩ := zc_takeDraft (N := N) (num := num) (now := now) r2 By ho hl24 hN
  refine ⟨z', ?_, s2, fun k j o n => (s3 k j o (fun y => n ⟨y.1, Or.inr y.2.1, y.2.2⟩)).trans (r3 k j o (fun y => n ⟨y.1, Or.inl y.2.1, y.2.2⟩)), s4, fun k o i n1 n2 => (s5 k o i (fun y => n1 ⟨by omega, y.2⟩) n2).trans (r4 k o i (fun y => n1 ⟨by omega, y.2⟩)), zKr_tr r5 s6⟩
  unfold fX0_takeAdvert
  have hx0 : zPC 11 (zsI z 0 6 b 0) x D := zPC_cg (fun j _ => by rw [zgI_sI, if_neg (by omega)]) (fun _ => rfl) hx
  have e6 : fX7_get2 N x (6 : Int32) (zsI z 0 6 b 0) = some (Int32.ofNat L.length, zsI z 0 6 b 0) := by
    have := zc_get2D (N := N) (i := 6) hx0 hf (by omega) (by omega)
    rw [hA.2.2.1] at this; exact this
  have e24 : (if (24 : Int32) < Int32.ofNat L.length then (24 : Int32) else Int32.ofNat L.length) = Int32.ofNat L.length := if_neg (by rw [show (24 : Int32) = Int32.ofNat 24 from rfl, zo_lt (by omega) (by omega)]; omega)
  rw [zl_e, e6, zc_e, e24, zl_e]
  refine Eq.trans r1 ?_
  rw [s1, zc_e]
