/-! routers: the model's side -/
def zNb (w : St) (x : Nat) (n : Nb) : Prop := zgI w 15 0 x = Int32.ofNat (n.1 / 16) ∧ zgI w 15 1 x = Int32.ofNat (n.1 % 16) ∧ zgI w 15 2 x = Int32.ofNat n.2.1 ∧ zgI w 15 3 x = zbi n.2.2.1 ∧ ∀ k, k < 16 → zgA w 162 x k = zbi (decide (n.2.2.2 k ≠ 0)) ∧ (n.2.2.2 k ≠ 0 → zgA w 163 x k = Int32.ofNat (n.2.2.2 k))
/-- the row of neighbours: ids are the objects' numbers -/
def zRmI (w : St) (b : Nat) (H : List Nb) (f : Nat → Nat) : Prop := (zgI w 12 13 b = Int32.ofNat H.length ∧ (∀ i, i < 16 → 16 * b ≤ f i ∧ f i < 16 * b + 16 ∧ zgQ w 149 b i = some (f i)) ∧ ∀ i j, i < 16 → j < 16 → f i = f j → i = j) ∧ H.length ≤ 16 ∧ ∀ i n, H[i]? = some n → zNb w (f i) n
def zRmN (w : St) (b : Nat) (H : List Nb) : Prop := ∃ f, zRmI w b H f
def zRmT (w : St) (T : Tp) (b : Nat) (L : List (Nat × Nat × Nat)) : Prop := zgI w 12 22 b = Int32.ofNat L.length ∧ ∀ i e, L[i]? = some e → zgA w 152 b i = Int32.ofNat (e.1 / 16) ∧ (∃ p, tpo T (e.1 % 16) (tq T b (e.1 / 16) / 8) = some p ∧ zgA w 153 b i = zad p) ∧ zgA w 154 b i = (Int32.ofNat e.2.1 <<< ((24 : Int32) &&& 31)) ||| Int32.ofNat e.2.2
/-- an advert in the pool -/
def zAdw (w : St) (x of_ num : Nat) (L : List En) : Prop := (mad w x 0 = Int32.ofNat of_ ∧ mad w x 1 = Int32.ofNat num) ∧ ∃ nN, (nN ≤ L.length ∧ L.length ≤ 24) ∧ mad w x 2 = Int32.ofNat nN ∧ mad w x 3 = Int32.ofNat (L.length - nN) ∧ (∀ i e, L[i]? = some e → mad w x (4 + 3 * i) = Int32.ofNat e.1 - 1 ∧ mad w x (4 + 3 * i + 1) = Int32.ofNat e.2.1 ∧ mad w x (4 + 3 * i + 2) = Int32.ofNat e.2.2 ∧ (e.1 = 0 ↔ i < nN)) ∧ ∀ k, 4 + 3 * L.length ≤ k → k < 76 → mad w x k = 0
def zRmB (w : St) (b : Nat) (Ba : Nat → Option Ad) : Prop := ∀ r, r < 16 → (match Ba r with
  | none => zgA w 150 b r = -1
  | some a => ∃ x, x < 2400 ∧ zgA w 150 b r = Int32.ofNat x ∧ zgA w 151 b r = Int32.ofNat a.2.1 ∧ zAdw w x r a.1 a.2.2)
def zRml (w : St) (T : Tp) (b : Nat) (s : Rs) : Prop := zRmN w b (rH s) ∧ zRmT w T b (rT s) ∧ zRmB w b (rB s) ∧ zgI w 12 16 b = Int32.ofNat (ro s) ∧ zgI w 12 17 b = Int32.ofNat (rh s) ∧ zgI w 12 18 b = (if ro s = 0 then (-1000000 : Int32) else Int32.ofNat (rm s))
/-- only router b of the model is touched -/
def zMr (b : Nat) (w w' : St) : Prop := (∀ k j o, ¬ (k = 12 ∧ o = b ∧ (j = 13 ∨ j = 16 ∨ j = 17 ∨ j = 18 ∨ j = 22 ∨ j = 23 ∨ j = 24)) → ¬ (k = 15 ∧ 16 * b ≤ o ∧ o < 16 * b + 16) → ¬ (k = 19 ∧ (j = 11 ∨ j = 27)) → zgI w' k j o = zgI w k j o) ∧ (∀ k o i, ¬ (o = b ∧ (k = 150 ∨ k = 151 ∨ k = 152 ∨ k = 153 ∨ k = 154)) → ¬ ((k = 162 ∨ k = 163) ∧ 16 * b ≤ o ∧ o < 16 * b + 16) → ¬ (k = 178 ∨ k = 179 ∨ k = 180) → zgA w' k o i = zgA w k o i) ∧ (∀ k o i, zgL w' k o i = zgL w k o i) ∧ (∀ k o i, ¬ (k = 149 ∧ o = b) → zgQ w' k o i = zgQ w k o i) ∧ ∀ k o i, zgR w' k o i = zgR w k o i
theorem zMr_rf (b : Nat) (w : St) : zMr b w w := ⟨fun _ _ _ _ _ _ => rfl, fun _ _ _ _ _ _ => rfl, fun _ _ _ => rfl, fun _ _ _ _ => rfl, fun _ _ _ => rfl⟩
theorem zMr_tr {b : Nat} {x y z : St} (h1 : zMr b x y) (h2 : zMr b y z) : zMr b x z := ⟨fun k j o a c d => (h2.1 k j o a c d).trans (h1.1 k j o a c d), fun k o i a c d => (h2.2.1 k o i a c d).trans (h1.2.1 k o i a c d), fun k o i => (h2.2.2.1 k o i).trans (h1.2.2.1 k o i), fun k o i n => (h2.2.2.2.1 k o i n).trans (h1.2.2.2.1 k o i n), fun k o i => (h2.2.2.2.2 k o i).trans (h1.2.2.2.2 k o i)⟩
theorem zMr_I {b k j o : Nat} {w : St} {v : Int32} (hk : (k = 12 ∧ o = b ∧ (j = 13 ∨ j = 16 ∨ j = 17 ∨ j = 18 ∨ j = 22 ∨ j = 23 ∨ j = 24)) ∨ (k = 15 ∧ 16 * b ≤ o ∧ o < 16 * b + 16) ∨ (k = 19 ∧ (j = 11 ∨ j = 27))) : zMr b w (zsI w k j o v) := ⟨fun k' j' o' n1 n2 n3 => by
  rw [zgI_sI, if_neg]
  rintro ⟨rfl, rfl, rfl⟩
  rcases hk with h | h | h
  · exact n1 h
  · exact n2 h
  · exact n3 h, fun _ _ _ _ _ _ => rfl, fun _ _ _ => rfl, fun _ _ _ _ => rfl, fun _ _ _ => rfl⟩
theorem zMr_A {b k o i : Nat} {w : St} {v : Int32} (hk : (o = b ∧ (k = 150 ∨ k = 151 ∨ k = 152 ∨ k = 153 ∨ k = 154)) ∨ ((k = 162 ∨ k = 163) ∧ 16 * b ≤ o ∧ o < 16 * b + 16) ∨ (k = 178 ∨ k = 179 ∨ k = 180)) : zMr b w (zsA w k o i v) := ⟨fun _ _ _ _ _ _ => rfl, fun k' o' i' n1 n2 n3 => by
  rw [zgA_sA, if_neg]
  rintro ⟨rfl, rfl, -⟩
  rcases hk with h | h | h
  · exact n1 h
  · exact n2 h
  · exact n3 h, fun _ _ _ => rfl, fun _ _ _ _ => rfl, fun _ _ _ => rfl⟩
theorem zMr_Q {b i : Nat} {w : St} {v : Option Nat} : zMr b w (zsQ w 149 b i v) := ⟨fun _ _ _ _ _ _ => rfl, fun _ _ _ _ _ _ => rfl, fun _ _ _ => rfl, fun k o j n => by rw [zgQ_sQ, if_neg (fun y => n ⟨y.1, y.2.1⟩)], fun _ _ _ => rfl⟩
theorem zNb_cg {w w' : St} {x : Nat} {n : Nb} (h1 : ∀ j, j < 4 → zgI w' 15 j x = zgI w 15 j x) (h2 : ∀ k i, k = 162 ∨ k = 163 → zgA w' k x i = zgA w k x i) (h : zNb w x n) : zNb w' x n := ⟨(h1 0 (by omega)).trans h.1, (h1 1 (by omega)).trans h.2.1, (h1 2 (by omega)).trans h.2.2.1, (h1 3 (by omega)).trans h.2.2.2.1, fun k hk => ⟨(h2 162 k (by simp)).trans (h.2.2.2.2 k hk).1, fun c => (h2 163 k (by simp)).trans ((h.2.2.2.2 k hk).2 c)⟩⟩
theorem zRmI_cg {w w' : St} {b : Nat} {H : List Nb} {f : Nat → Nat} (h1 : zgI w' 12 13 b = zgI w 12 13 b) (h2 : ∀ i, zgQ w' 149 b i = zgQ w 149 b i) (h3 : ∀ x, 16 * b ≤ x → x < 16 * b + 16 → (∀ j, j < 4 → zgI w' 15 j x = zgI w 15 j x) ∧ ∀ k i, k = 162 ∨ k = 163 → zgA w' k x i = zgA w k x i) (h : zRmI w b H f) : zRmI w' b H f := by
  obtain ⟨⟨a1, a2, a3⟩, a4, a5⟩ := h
  refine ⟨⟨h1.trans a1, fun i hi => ⟨(a2 i hi).1, (a2 i hi).2.1, (h2 i).trans (a2 i hi).2.2⟩, a3⟩, a4, fun i n hn => ?_⟩
  have hil := (List.getElem?_eq_some_iff.mp hn).1
  obtain ⟨b1, b2, -⟩ := a2 i (by omega)
  exact zNb_cg (h3 _ b1 b2).1 (h3 _ b1 b2).2 (a5 i n hn)
/-- the place of a neighbour -/
def hix (H : List Nb) (key : Nat) : Option Nat := zfst (fun i => match H[i]? with | some n => n.1 == key | none => false) H.length 0
theorem hix_none {H : List Nb} {key : Nat} : hix H key = none ↔ hAt H key = none := by
  constructor
  · intro h
    rw [hAt_none]
    intro n hn y
    obtain ⟨i, hi⟩ := List.getElem?_of_mem hn
    have hl := (List.getElem?_eq_some_iff.mp hi).1
    have := zfst_none h i (by omega) (by omega)
    rw [hi] at this
    have : ¬ n.1 = key := by simpa using this
    exact this y
  · intro h
    cases e : hix H key with
    | none => rfl
    | some i =>
      obtain ⟨-, h2, h3, -⟩ := zfst_some e
      rw [Nat.zero_add] at h2
      rw [List.getElem?_eq_getElem h2] at h3
      have h3 : H[i].1 = key := by simpa using h3
      exact absurd h3 (hAt_none.mp h _ (List.getElem_mem h2))
theorem hix_some {H : List Nb} {key i : Nat} (hp : H.Pairwise (fun a b => a.1 < b.1)) (h : hix H key = some i) : ∃ n, H[i]? = some n ∧ n.1 = key ∧ hAt H key = some n := by
  obtain ⟨-, h2, h3, -⟩ := zfst_some h
  rw [Nat.zero_add] at h2
  rw [List.getElem?_eq_getElem h2] at h3
  have h3 : H[i].1 = key := by simpa using h3
  refine ⟨H[i], List.getElem?_eq_getElem h2, h3, ?_⟩
  rw [← h3]
  exact hAt_mem hp (List.getElem_mem h2)
theorem zm_neighbour {w : St} {b port rt_ N : Nat} {H : List Nb} {ids : Nat → Nat} (h : zRmI w b H ids) (hH : zHk H) (hp : port < 6) (hr : rt_ < 16) (hN : 16 < N) : fX19_neighbour N b (Int32.ofNat port) (Int32.ofNat rt_) w = some ((match hix H (16 * port + rt_) with | some i => some (ids i) | none => none), w) := by
  obtain ⟨⟨a1, a2, a3⟩, a4, a5⟩ := h
  have hl16 := hH.2.2
  have step : ∀ (n i : Nat), i < H.length → fX19_neighbour_2 N (n + 1) b (Int32.ofNat port) (Int32.ofNat rt_) (Int32.ofNat i) w = if (match H[i]? with | some n => n.1 == 16 * port + rt_ | none => false) = true then some (some (ids i), w) else fX19_neighbour_2 N n b (Int32.ofNat port) (Int32.ofNat rt_) (Int32.ofNat (i + 1)) w := by
    intro n i hi
    have hn : H[i]? = some H[i] := List.getElem?_eq_getElem hi
    have q := (a2 i (by omega)).2.2
    obtain ⟨c0, c1, -⟩ := a5 i _ hn
    have h96 := (hH.1 H[i] (List.getElem_mem hi)).1
    have nx : fX19_neighbour_43 N (fX19_neighbour_2 N n) b (Int32.ofNat port) (Int32.ofNat rt_) (Int32.ofNat i) w = fX19_neighbour_2 N n b (Int32.ofNat port) (Int32.ofNat rt_) (Int32.ofNat (i + 1)) w := by
      unfold fX19_neighbour_43
      rw [zl_e, zo_i1]
    show fX19_neighbour_2b N (fX19_neighbour_2 N n) b (Int32.ofNat port) (Int32.ofNat rt_) (Int32.ofNat i) w = _
    unfold fX19_neighbour_2b
    rw [a1, if_neg (by rw [zo_le (by omega) (by omega)]; omega), zkk (by omega) (by omega), zl_e, zoC (by omega), q, zd_e, c0, hn]
    by_cases d0 : H[i].1 / 16 = port
    · rw [if_neg (by rw [zo_eq (by omega) (by omega)]; exact fun y => y d0), zkk (by omega) (by omega), zl_e, zd_e, c1]
      by_cases d1 : H[i].1 % 16 = rt_
      · rw [if_neg (by rw [zo_eq (by omega) (by omega)]; exact fun y => y d1), zkk (by omega) (by omega), zl_e, if_pos (by simp; omega)]
      · rw [if_pos (by rw [zo_eq (by omega) (by omega)]; exact d1), nx, if_neg (by simp; omega)]
    · rw [if_pos (by rw [zo_eq (by omega) (by omega)]; exact d0), nx, if_neg (by simp; omega)]
  have e0 : fX19_neighbour_2 N N b (Int32.ofNat port) (Int32.ofNat rt_) (Int32.ofNat 0) w = _ := zlf0 (G := fun n i => fX19_neighbour_2 N n b (Int32.ofNat port) (Int32.ofNat rt_) (Int32.ofNat i) w) (p := fun i => match H[i]? with | some n => n.1 == 16 * port + rt_ | none => false) (f := fun i => some (some (ids i), w)) (r := some (none, w)) (k := H.length) (by omega) (fun n i hi hp => by
    show fX19_neighbour_2 N (n + 1) b (Int32.ofNat port) (Int32.ofNat rt_) (Int32.ofNat i) w = _
    rw [step n i hi, if_neg (by rw [hp]; decide)]) (fun n i hi hp => by
    show fX19_neighbour_2 N (n + 1) b (Int32.ofNat port) (Int32.ofNat rt_) (Int32.ofNat i) w = _
    rw [step n i hi, if_pos hp]) (fun n => by
    show fX19_neighbour_2b N (fX19_neighbour_2 N n) b (Int32.ofNat port) (Int32.ofNat rt_) (Int32.ofNat H.length) w = _
    unfold fX19_neighbour_2b
    rw [a1, if_pos (Int32.le_refl _)])
  show fX19_neighbour_2 N N b (Int32.ofNat port) (Int32.ofNat rt_) (Int32.ofNat 0) w = _
  rw [e0]
  unfold hix
  cases zfst (fun i => match H[i]? with | some n => n.1 == 16 * port + rt_ | none => false) H.length 0 <;> rfl
/-- the friend of a key: its place and its object -/
theorem zm_friend {w : St} {b port rt_ N : Nat} {H : List Nb} {ids : Nat → Nat} (h : zRmI w b H ids) (hH : zHk H) (hp : port < 6) (hr : rt_ < 16) (hN : 16 < N) : (fn H (16 * port + rt_) = false ∧ fX19_friend N b (Int32.ofNat port) (Int32.ofNat rt_) w = some (none, w)) ∨ (fn H (16 * port + rt_) = true ∧ ∃ i n, H[i]? = some n ∧ n.1 = 16 * port + rt_ ∧ fX19_friend N b (Int32.ofNat port) (Int32.ofNat rt_) w = some (some (ids i), w)) := by
  have hn := zm_neighbour h hH hp hr hN
  cases e : hix H (16 * port + rt_) with
  | none =>
    rw [e] at hn
    left
    refine ⟨?_, ?_⟩
    · unfold fn; rw [hix_none.mp e]
    · unfold fX19_friend
      rw [hn, zc_e]
      rfl
  | some i =>
    rw [e] at hn
    obtain ⟨n, n1, n2, n3⟩ := hix_some hH.2.1 e
    obtain ⟨-, -, -, c3, -⟩ := h.2.2 i n n1
    have hn : fX19_neighbour N b (Int32.ofNat port) (Int32.ofNat rt_) w = some (some (ids i), w) := hn
    have hfn : fn H (16 * port + rt_) = n.2.2.1 := by unfold fn; rw [n3]
    rw [hfn]
    cases e2 : n.2.2.1 with
    | false =>
      left
      refine ⟨rfl, ?_⟩
      unfold fX19_friend
      rw [hn, zc_e, zo_e, c3, e2, if_pos (show zbi false = 0 from rfl)]
    | true =>
      right
      refine ⟨rfl, i, n, n1, n2, ?_⟩
      unfold fX19_friend
      rw [hn, zc_e, zo_e, c3, e2, if_neg (show ¬ zbi true = 0 by decide)]
/-- one neighbour's object is changed, in its place -/
theorem zRmI_set {w w' : St} {b i : Nat} {H : List Nb} {ids : Nat → Nat} {n : Nb} {f : Nb → Nb} (h : zRmI w b H ids) (hp : H.Pairwise (fun a b => a.1 < b.1)) (hn : H[i]? = some n) (h1 : zgI w' 12 13 b = zgI w 12 13 b) (h2 : ∀ i, zgQ w' 149 b i = zgQ w 149 b i) (h3 : ∀ y, y ≠ ids i → (∀ j, j < 4 → zgI w' 15 j y = zgI w 15 j y) ∧ ∀ k i, k = 162 ∨ k = 163 → zgA w' k y i = zgA w k y i) (h4 : zNb w' (ids i) (f n)) : zRmI w' b (hUpd H n.1 f) ids := by
  obtain ⟨⟨a1, a2, a3⟩, a4, a5⟩ := h
  have hil := (List.getElem?_eq_some_iff.mp hn).1
  refine ⟨⟨by rw [h1, hUpd_len]; exact a1, fun i hi => ⟨(a2 i hi).1, (a2 i hi).2.1, (h2 i).trans (a2 i hi).2.2⟩, a3⟩, by rw [hUpd_len]; exact a4, fun j m hm => ?_⟩
  unfold hUpd at hm
  rw [List.getElem?_map] at hm
  cases e : H[j]? with
  | none => rw [e] at hm; cases hm
  | some m0 =>
    rw [e] at hm
    have hm : (if m0.1 = n.1 then f m0 else m0) = m := Option.some.inj hm
    have hjl := (List.getElem?_eq_some_iff.mp e).1
    by_cases c : j = i
    · subst c
      rw [hn] at e
      have e : n = m0 := Option.some.inj e
      rw [← e, if_pos rfl] at hm
      rw [← hm]; exact h4
    · have hxy : ids j ≠ ids i := fun q => c (a3 j i (by omega) (by omega) q)
      have hk : ¬ m0.1 = n.1 := fun q => by
        obtain ⟨l1, g1⟩ := List.getElem?_eq_some_iff.mp e
        obtain ⟨l2, g2⟩ := List.getElem?_eq_some_iff.mp hn
        have pw := List.pairwise_iff_getElem.mp hp
        rcases Nat.lt_trichotomy j i with c1 | c1 | c1
        · have := pw j i l1 l2 c1
          rw [g1, g2] at this; omega
        · exact c c1
        · have := pw i j l2 l1 c1
          rw [g1, g2] at this; omega
      rw [if_neg hk] at hm
      rw [← hm]
      exact zNb_cg (h3 _ hxy).1 (h3 _ hxy).2 (a5 j m0 e)
/-- a new neighbour -/
theorem zm_newNeighbour {w : St} {b port rt_ N : Nat} {H : List Nb} {ids : Nat → Nat} (h : zRmI w b H ids) (hH : zHk H) (hl : H.length < 16) (hp : port < 6) (hr : rt_ < 16) (hno : ∀ m, m ∈ H → m.1 ≠ 16 * port + rt_) (hN : 16 < N) :
    ∃ (w' : St) (ids' : Nat → Nat) (i : Nat), fX19_newNeighbour N 0 b (Int32.ofNat port) (Int32.ofNat rt_) w = some (some (ids' i), w') ∧ i < 16 ∧ (zgI w' 12 13 b = Int32.ofNat (H.length + 1) ∧ (∀ i, i < 16 → 16 * b ≤ ids' i ∧ ids' i < 16 * b + 16 ∧ zgQ w' 149 b i = some (ids' i)) ∧ ∀ i j, i < 16 → j < 16 → ids' i = ids' j → i = j) ∧ (∀ j n, (hIns (16 * port + rt_, 0, false, fun _ => 0) H)[j]? = some n → (j ≠ i → zNb w' (ids' j) n) ∧ (j = i → n = (16 * port + rt_, 0, false, fun _ => 0))) ∧ (hIns (16 * port + rt_, 0, false, fun _ => 0) H)[i]? = some (16 * port + rt_, 0, false, fun _ => 0) ∧ (zgI w' 15 0 (ids' i) = Int32.ofNat port ∧ zgI w' 15 1 (ids' i) = Int32.ofNat rt_ ∧ zgI w' 15 3 (ids' i) = 0 ∧ ∀ k, k < 16 → zgA w' 162 (ids' i) k = 0) ∧ (∀ k j o, ¬ (k = 12 ∧ j = 13 ∧ o = b) → ¬ (k = 15 ∧ o = ids' i) → zgI w' k j o = zgI w k j o) ∧ (∀ k o j, ¬ ((k = 162 ∨ k = 163) ∧ o = ids' i) → zgA w' k o j = zgA w k o j) ∧ zMr b w w' := by
  obtain ⟨⟨a1, a2, a3⟩, a4, a5⟩ := h
  obtain ⟨A, B, e1, e2, e3, e4⟩ := hIns_split (n := ((16 * port + rt_, 0, false, fun _ => 0) : Nb)) hH.2.1
  have hlen : H.length = A.length + B.length := by rw [e1]; simp
  have atA : ∀ i a, A[i]? = some a → H[i]? = some a := fun i a ha => by
    rw [e1, List.getElem?_append_left (List.getElem?_eq_some_iff.mp ha).1]; exact ha
  have atB : ∀ i a, B[i]? = some a → H[A.length + i]? = some a := fun i a ha => by
    rw [e1, List.getElem?_append_right (by omega), show A.length + i - A.length = i by omega]; exact ha
  let x := ids H.length
  have loop : ∀ (m n : Nat) (y : St), m ≤ B.length → m < n → (∀ i, i < A.length + m → zgQ y 149 b i = zgQ w 149 b i) → (∀ i, A.length + m < i → i ≤ H.length → zgQ y 149 b i = zgQ w 149 b (i - 1)) → (∀ i, H.length < i → zgQ y 149 b i = zgQ w 149 b i) → (∀ k j o, zgI y k j o = zgI w k j o) → (∀ k o i, zgA y k o i = zgA w k o i) → zMr b w y → ∃ y', fX19_newNeighbour_17 N n b (Int32.ofNat port) (Int32.ofNat rt_) (some x) (Int32.ofNat (A.length + m)) y = fX19_newNeighbour_92 N b (Int32.ofNat port) (Int32.ofNat rt_) (some x) (Int32.ofNat A.length) y' ∧ (∀ i, i < A.length → zgQ y' 149 b i = zgQ w 149 b i) ∧ (∀ i, A.length < i → i ≤ H.length → zgQ y' 149 b i = zgQ w 149 b (i - 1)) ∧ (∀ i, H.length < i → zgQ y' 149 b i = zgQ w 149 b i) ∧ (∀ k j o, zgI y' k j o = zgI w k j o) ∧ (∀ k o i, zgA y' k o i = zgA w k o i) ∧ zMr b w y' := by
    intro m
    induction m with
    | zero =>
      intro n y hm hn y1 y2 y3 yI yA yK
      obtain ⟨n, rfl⟩ : ∃ k, n = k + 1 := ⟨n - 1, by omega⟩
      refine ⟨y, ?_, fun i hi => y1 i (by omega), fun i h1 h2 => y2 i (by omega) h2, y3, yI, yA, yK⟩
      show fX19_newNeighbour_17b N (fX19_newNeighbour_17 N n) b (Int32.ofNat port) (Int32.ofNat rt_) (some x) (Int32.ofNat A.length) y = _
      unfold fX19_newNeighbour_17b
      by_cases c : A.length = 0
      · rw [if_pos (by rw [show (0 : Int32) = Int32.ofNat 0 from rfl, zo_le (by omega) (by omega)]; omega)]
      · have ha : A[A.length - 1]? = some A[A.length - 1] := List.getElem?_eq_getElem (by omega)
        have hm := List.getElem_mem (l := A) (n := A.length - 1) (by omega)
        have lt : A[A.length - 1].1 < 16 * port + rt_ := e3 _ hm
        have h96 := (hH.1 A[A.length - 1] (by rw [e1]; exact List.mem_append.mpr (Or.inl hm))).1
        obtain ⟨c0, c1, -⟩ := a5 _ _ (atA _ _ ha)
        have q := (a2 (A.length - 1) (by omega)).2.2
        rw [if_neg (by rw [show (0 : Int32) = Int32.ofNat 0 from rfl, zo_le (by omega) (by omega)]; omega), zo_s1 (by omega), zkk (by omega) (by omega), zl_e, zoC (by omega), y1 _ (by omega), q, zd_e, yI, c0, if_neg (by rw [zo_lt (by omega) (by omega)]; omega), zkk (by omega) (by omega), zl_e, zd_e, yI, c0]
        by_cases d : A[A.length - 1].1 / 16 = port
        · rw [if_neg (by rw [zo_eq (by omega) (by omega)]; exact fun y => y d), zkk (by omega) (by omega), zl_e, zd_e, yI, c1, if_pos (by rw [zo_le (by omega) (by omega)]; omega)]
        · rw [if_pos (by rw [zo_eq (by omega) (by omega)]; exact d)]
    | succ m ih =>
      intro n y hm hn y1 y2 y3 yI yA yK
      obtain ⟨n, rfl⟩ : ∃ k, n = k + 1 := ⟨n - 1, by omega⟩
      have hb : B[m]? = some B[m] := List.getElem?_eq_getElem (by omega)
      have hmb := List.getElem_mem (l := B) (n := m) (by omega)
      have hmH : B[m] ∈ H := by rw [e1]; exact List.mem_append.mpr (Or.inr hmb)
      have ge : ¬ B[m].1 < 16 * port + rt_ := e4 _ hmb
      have ne := hno _ hmH
      have h96 := (hH.1 _ hmH).1
      obtain ⟨c0, c1, -⟩ := a5 _ _ (atB _ _ hb)
      have q := (a2 (A.length + m) (by omega)).2.2
      have cq : zgQ y 149 b (A.length + m) = some (ids (A.length + m)) := (y1 _ (by omega)).trans q
      obtain ⟨y', r1, r2⟩ := ih n (zsQ y 149 b (A.length + (m + 1)) (some (ids (A.length + m)))) (by omega) (by omega) (fun i hi => by rw [zsQ_at, if_neg (by omega)]; exact y1 i (by omega)) (fun i h1 h2' => by
        rw [zsQ_at]
        by_cases c : i = A.length + (m + 1)
        · rw [if_pos c, c, show A.length + (m + 1) - 1 = A.length + m by omega, q]
        · rw [if_neg c]; exact y2 i (by omega) h2') (fun i hi => by rw [zsQ_at, if_neg (by omega)]; exact y3 i hi) yI yA (zMr_tr yK zMr_Q)
      refine ⟨y', ?_, r2⟩
      have s70 : fX19_newNeighbour_70 N (fX19_newNeighbour_17 N n) b (Int32.ofNat port) (Int32.ofNat rt_) (some x) (Int32.ofNat (A.length + (m + 1))) y = fX19_newNeighbour_92 N b (Int32.ofNat port) (Int32.ofNat rt_) (some x) (Int32.ofNat A.length) y' := by
        unfold fX19_newNeighbour_70
        rw [zo_s1 (by omega), show A.length + (m + 1) - 1 = A.length + m by omega, zkk (by omega) (by omega), zl_e, zkk (by omega) (by omega), zoC (by omega), zoC (by omega), cq, zl_e, zl_e]
        have : Int32.ofNat (A.length + (m + 1)) + (-1 : Int32) = Int32.ofNat (A.length + m) := by
          rw [← Int32.sub_eq_add_neg]
          exact zo_s1 (a := A.length + (m + 1)) (by omega)
        rw [this]
        exact r1
      show fX19_newNeighbour_17b N (fX19_newNeighbour_17 N n) b (Int32.ofNat port) (Int32.ofNat rt_) (some x) (Int32.ofNat (A.length + (m + 1))) y = _
      unfold fX19_newNeighbour_17b
      rw [if_neg (by rw [show (0 : Int32) = Int32.ofNat 0 from rfl, zo_le (by omega) (by omega)]; omega), zo_s1 (by omega), show A.length + (m + 1) - 1 = A.length + m by omega, zkk (by omega) (by omega), zl_e, zoC (by omega), cq, zd_e, yI, c0]
      by_cases d : port < B[m].1 / 16
      · rw [if_pos (by rw [zo_lt (by omega) (by omega)]; exact d), s70]
      · rw [if_neg (by rw [zo_lt (by omega) (by omega)]; exact d), zkk (by omega) (by omega), zl_e, zd_e, yI, c0, if_neg (by rw [zo_eq (by omega) (by omega)]; omega), zkk (by omega) (by omega), zl_e, zd_e, yI, c1, if_neg (by rw [zo_le (by omega) (by omega)]; omega), s70]
  obtain ⟨y', r1, r2, r3, r4, r5, r6, r7⟩ := loop B.length N w (Nat.le_refl _) (by omega) (fun _ _ => rfl) (fun i h1 h2 => by omega) (fun _ _ => rfl) (fun _ _ _ => rfl) (fun _ _ _ => rfl) (zMr_rf _ _)
  let ids' : Nat → Nat := fun i => if i < A.length then ids i else if i = A.length then x else if i ≤ H.length then ids (i - 1) else ids i
  have hxA : ids' A.length = x := by
    show (if A.length < A.length then ids A.length else if A.length = A.length then x else _) = x
    rw [if_neg (by omega), if_pos rfl]
  have hx16 := a2 H.length hl
  let w1 : St := zsI (zsI (zsI (zsI (zsQ y' 149 b A.length (some x)) 12 13 b (Int32.ofNat (H.length + 1))) 15 0 x (Int32.ofNat port)) 15 1 x (Int32.ofNat rt_)) 15 3 x 0
  have I1 : ∀ k j o, zgI w1 k j o = if k = 15 ∧ j = 3 ∧ o = x then 0 else if k = 15 ∧ j = 1 ∧ o = x then Int32.ofNat rt_ else if k = 15 ∧ j = 0 ∧ o = x then Int32.ofNat port else if k = 12 ∧ j = 13 ∧ o = b then Int32.ofNat (H.length + 1) else zgI w k j o := fun k j o => by
    show zgI (zsI (zsI (zsI (zsI (zsQ y' 149 b A.length (some x)) 12 13 b (Int32.ofNat (H.length + 1))) 15 0 x (Int32.ofNat port)) 15 1 x (Int32.ofNat rt_)) 15 3 x 0) k j o = _
    rw [zgI_sI, zgI_sI, zgI_sI, zgI_sI, zgI_sQ, r5]
  have K1 : zMr b w w1 := zMr_tr r7 (zMr_tr zMr_Q (zMr_tr (zMr_I (Or.inl ⟨rfl, rfl, Or.inl rfl⟩)) (zMr_tr (zMr_I (Or.inr (Or.inl ⟨rfl, hx16.1, hx16.2.1⟩))) (zMr_tr (zMr_I (Or.inr (Or.inl ⟨rfl, hx16.1, hx16.2.1⟩))) (zMr_I (Or.inr (Or.inl ⟨rfl, hx16.1, hx16.2.1⟩)))))))
  have clear : ∀ (m i n : Nat) (y : St), i + m = 16 → m < n → (∀ k, k < i → zgA y 162 x k = 0) → (∀ k o j, ¬ ((k = 162 ∨ k = 163) ∧ o = x) → zgA y k o j = zgA w1 k o j) → (∀ k j o, zgI y k j o = zgI w1 k j o) → (∀ k o j, zgQ y k o j = zgQ w1 k o j) → zMr b w1 y → ∃ y', fX19_newNeighbour_132 N n x (Int32.ofNat i) y = some (some x, y') ∧ (∀ k, k < 16 → zgA y' 162 x k = 0) ∧ (∀ k o j, ¬ ((k = 162 ∨ k = 163) ∧ o = x) → zgA y' k o j = zgA w1 k o j) ∧ (∀ k j o, zgI y' k j o = zgI w1 k j o) ∧ (∀ k o j, zgQ y' k o j = zgQ w1 k o j) ∧ zMr b w1 y' := by
    intro m
    induction m with
    | zero =>
      intro i n y hi hn y1 y2 y3 y4 y5
      obtain ⟨n, rfl⟩ : ∃ k, n = k + 1 := ⟨n - 1, by omega⟩
      refine ⟨y, ?_, fun k hk => y1 k (by omega), y2, y3, y4, y5⟩
      show fX19_newNeighbour_132b N (fX19_newNeighbour_132 N n) x (Int32.ofNat i) y = _
      unfold fX19_newNeighbour_132b
      rw [if_pos (by rw [show (16 : Int32) = Int32.ofNat 16 from rfl, zo_le (by omega) (by omega)]; omega)]
    | succ m ih =>
      intro i n y hi hn y1 y2 y3 y4 y5
      obtain ⟨n, rfl⟩ : ∃ k, n = k + 1 := ⟨n - 1, by omega⟩
      obtain ⟨y', s1, s2⟩ := ih (i + 1) n (zsA (zsA y 162 x i 0) 163 x i 0) (by omega) (by omega) (fun k hk => by
        rw [zgA_sA, if_neg (by omega), zgA_sA]
        by_cases c : k = i
        · rw [if_pos ⟨rfl, rfl, c⟩]
        · rw [if_neg (fun y => c y.2.2)]; exact y1 k (by omega)) (fun k o j nn => by rw [zgA_sA, if_neg (fun y => nn ⟨Or.inr y.1, y.2.1⟩), zgA_sA, if_neg (fun y => nn ⟨Or.inl y.1, y.2.1⟩)]; exact y2 k o j nn) y3 y4 (zMr_tr y5 (zMr_tr (zMr_A (Or.inr (Or.inl ⟨Or.inl rfl, hx16.1, hx16.2.1⟩))) (zMr_A (Or.inr (Or.inl ⟨Or.inr rfl, hx16.1, hx16.2.1⟩)))))
      refine ⟨y', ?_, s2⟩
      show fX19_newNeighbour_132b N (fX19_newNeighbour_132 N n) x (Int32.ofNat i) y = _
      unfold fX19_newNeighbour_132b
      have vp : vp_nar .boolean (0 : Int32) = 0 := by decide
      rw [if_neg (by rw [show (16 : Int32) = Int32.ofNat 16 from rfl, zo_le (by omega) (by omega)]; omega), zkk (by omega) (by omega), zoC (by omega), vp, zl_e, zkk (by omega) (by omega), zl_e, zl_e, zo_i1]
      exact s1
  obtain ⟨w', s1, s2, s3, s4, s5, s6⟩ := clear 16 0 N w1 rfl hN (fun k hk => by omega) (fun _ _ _ _ => rfl) (fun _ _ _ => rfl) (fun _ _ _ => rfl) (zMr_rf _ _)
  have hQ : ∀ i, i < 16 → zgQ w' 149 b i = some (ids' i) := fun i hi => by
    rw [s5]
    show zgQ (zsQ y' 149 b A.length (some x)) 149 b i = some (if i < A.length then ids i else if i = A.length then x else if i ≤ H.length then ids (i - 1) else ids i)
    rw [zsQ_at]
    by_cases c1 : i < A.length
    · rw [if_neg (by omega), if_pos c1, r2 i c1]; exact (a2 i hi).2.2
    · rw [if_neg c1]
      by_cases c2 : i = A.length
      · rw [if_pos c2, if_pos c2]
      · rw [if_neg c2, if_neg c2]
        by_cases c3 : i ≤ H.length
        · rw [if_pos c3, r3 i (by omega) c3]; exact (a2 (i - 1) (by omega)).2.2
        · rw [if_neg c3, r4 i (by omega)]; exact (a2 i hi).2.2
  have hsrc : ∀ i, i < 16 → ∃ j, j < 16 ∧ ids' i = ids j ∧ ((i < A.length ∧ j = i) ∨ (i = A.length ∧ j = H.length) ∨ (A.length < i ∧ i ≤ H.length ∧ j = i - 1) ∨ (H.length < i ∧ j = i)) := fun i hi => by
    by_cases c1 : i < A.length
    · exact ⟨i, hi, if_pos c1, Or.inl ⟨c1, rfl⟩⟩
    · by_cases c2 : i = A.length
      · exact ⟨H.length, hl, by
          show (if i < A.length then ids i else if i = A.length then x else if i ≤ H.length then ids (i - 1) else ids i) = x
          rw [if_neg c1, if_pos c2], Or.inr (Or.inl ⟨c2, rfl⟩)⟩
      · by_cases c3 : i ≤ H.length
        · exact ⟨i - 1, by omega, by
            show (if i < A.length then ids i else if i = A.length then x else if i ≤ H.length then ids (i - 1) else ids i) = _
            rw [if_neg c1, if_neg c2, if_pos c3], Or.inr (Or.inr (Or.inl ⟨by omega, c3, rfl⟩))⟩
        · exact ⟨i, hi, by
            show (if i < A.length then ids i else if i = A.length then x else if i ≤ H.length then ids (i - 1) else ids i) = _
            rw [if_neg c1, if_neg c2, if_neg c3], Or.inr (Or.inr (Or.inr ⟨by omega, rfl⟩))⟩
  refine ⟨w', ids', A.length, ?_, by omega, ⟨?_, fun i hi => ?_, fun i j hi hj hij => ?_⟩, fun j n hj => ⟨fun hne => ?_, fun he => ?_⟩, ?_, ?_, fun k j o n1 n2 => ?_, fun k o j n1 => ?_, zMr_tr K1 s6⟩
  · unfold fX19_newNeighbour
    rw [a1, zkk hl (by omega), zl_e, zoC (by omega), hx16.2.2, zl_e]
    rw [← hlen] at r1
    refine Eq.trans r1 ?_
    unfold fX19_newNeighbour_92
    have c13 : zgI (zsQ y' 149 b A.length (some x)) 12 13 b = Int32.ofNat H.length := (r5 12 13 b).trans a1
    rw [zkk (by omega) (by omega), zoC (by omega), zl_e, c13, zo_i1, zl_e, zd_e, zl_e, zl_e, zl_e, hxA]
    exact s1
  · rw [s4, I1, if_neg (by omega), if_neg (by omega), if_neg (by omega), if_pos ⟨rfl, rfl, rfl⟩]
  · obtain ⟨j, hj, e, -⟩ := hsrc i hi
    rw [hQ i hi, e]
    exact ⟨(a2 j hj).1, (a2 j hj).2.1, rfl⟩
  · obtain ⟨i1, hi1, ei, fi⟩ := hsrc i hi
    obtain ⟨j1, hj1, ej, fj⟩ := hsrc j hj
    have hh := a3 i1 j1 hi1 hj1 (by rw [← ei, ← ej]; exact hij)
    clear ei ej hij
    omega
  · rw [e2] at hj
    have keep : ∀ {jj : Nat} {m : Nb}, H[jj]? = some m → ids' j = ids jj → zNb w' (ids' j) m := fun {jj} {m} hm e => by
      have hjl := (List.getElem?_eq_some_iff.mp hm).1
      have hne2 : ids jj ≠ x := fun q => by
        have := a3 jj H.length (by omega) hl q
        omega
      rw [e]
      exact zNb_cg (fun j _ => by rw [s4, I1, if_neg (fun y => hne2 y.2.2), if_neg (fun y => hne2 y.2.2), if_neg (fun y => hne2 y.2.2), if_neg (by omega)]) (fun k i hk => by
        rw [s3 k _ i (fun y => hne2 y.2)]
        exact r6 k _ i) (a5 jj m hm)
    by_cases c1 : j < A.length
    · rw [List.getElem?_append_left c1] at hj
      exact keep (atA j n hj) (if_pos c1)
    · rw [List.getElem?_append_right (by omega), show j - A.length = (j - A.length - 1) + 1 by omega, List.getElem?_cons_succ] at hj
      have hjl := (List.getElem?_eq_some_iff.mp hj).1
      have := atB _ n hj
      rw [show A.length + (j - A.length - 1) = j - 1 by omega] at this
      exact keep this (by
        show (if j < A.length then ids j else if j = A.length then x else if j ≤ H.length then ids (j - 1) else ids j) = _
        rw [if_neg c1, if_neg hne, if_pos (by omega)])
  · rw [e2, he, List.getElem?_append_right (Nat.le_refl _), Nat.sub_self, List.getElem?_cons_zero] at hj
    exact (Option.some.inj hj).symm
  · rw [e2, List.getElem?_append_right (Nat.le_refl _), Nat.sub_self, List.getElem?_cons_zero]
  · rw [hxA]
    refine ⟨?_, ?_, ?_, s2⟩
    · rw [s4, I1, if_neg (by omega), if_neg (by omega), if_pos ⟨rfl, rfl, rfl⟩]
    · rw [s4, I1, if_neg (by omega), if_pos ⟨rfl, rfl, rfl⟩]
    · rw [s4, I1, if_pos ⟨rfl, rfl, rfl⟩]
  · rw [hxA] at n2
    rw [s4, I1, if_neg (fun y => n2 ⟨y.1, y.2.2⟩), if_neg (fun y => n2 ⟨y.1, y.2.2⟩), if_neg (fun y => n2 ⟨y.1, y.2.2⟩), if_neg n1]
  · rw [hxA] at n1
    rw [s3 k o j n1]
    exact r6 k o j
