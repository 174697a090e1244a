/-! routers, the model: an advert is due, an advert is taken, an advert comes -/
/-- only what is due at b's neighbours is touched -/
def zMh (b : Nat) (w w' : St) : Prop := (∀ k j o, zgI w' k j o = zgI w k j o) ∧ (∀ k o i, ¬ ((k = 162 ∨ k = 163) ∧ 16 * b ≤ o ∧ o < 16 * b + 16) → zgA w' k o i = zgA w k o i) ∧ (∀ k o i, zgL w' k o i = zgL w k o i) ∧ (∀ k o i, zgQ w' k o i = zgQ w k o i) ∧ ∀ k o i, zgR w' k o i = zgR w k o i
theorem zMh_rf (b : Nat) (w : St) : zMh b w w := ⟨fun _ _ _ => rfl, fun _ _ _ _ => rfl, fun _ _ _ => rfl, fun _ _ _ => rfl, fun _ _ _ => rfl⟩
theorem zMh_tr {b : Nat} {x y z : St} (h1 : zMh b x y) (h2 : zMh b y z) : zMh b x z := ⟨fun k j o => (h2.1 k j o).trans (h1.1 k j o), fun k o i n => (h2.2.1 k o i n).trans (h1.2.1 k o i n), fun k o i => (h2.2.2.1 k o i).trans (h1.2.2.1 k o i), fun k o i => (h2.2.2.2.1 k o i).trans (h1.2.2.2.1 k o i), fun k o i => (h2.2.2.2.2 k o i).trans (h1.2.2.2.2 k o i)⟩
theorem zMh_A {b k o i : Nat} {w : St} {v : Int32} (hk : (k = 162 ∨ k = 163) ∧ 16 * b ≤ o ∧ o < 16 * b + 16) : zMh b w (zsA w k o i v) := ⟨fun _ _ _ => rfl, fun k' o' i' n => by
  rw [zgA_sA, if_neg]
  rintro ⟨rfl, rfl, -⟩
  exact n hk, fun _ _ _ => rfl, fun _ _ _ => rfl, fun _ _ _ => rfl⟩
theorem zMh_mr {b : Nat} {w w' : St} (h : zMh b w w') : zMr b w w' := ⟨fun k j o _ _ _ => h.1 k j o, fun k o i _ n _ => h.2.1 k o i n, h.2.2.1, fun k o i _ => h.2.2.2.1 k o i, h.2.2.2.2⟩
theorem zRmI_due {w w' : St} {b i r t : Nat} {H : List Nb} {ids : Nat → Nat} {n : Nb} (h : zRmI w b H ids) (hp : H.Pairwise (fun a b => a.1 < b.1)) (hi : H[i]? = some n) (hI : ∀ k j o, zgI w' k j o = zgI w k j o) (hQ : ∀ k o j, zgQ w' k o j = zgQ w k o j) (hA : ∀ k o j, ¬ ((k = 162 ∨ k = 163) ∧ o = ids i ∧ j = r) → zgA w' k o j = zgA w k o j) (h1 : zgA w' 162 (ids i) r = zbi (decide (t ≠ 0))) (h2 : t ≠ 0 → zgA w' 163 (ids i) r = Int32.ofNat t) : zRmI w' b (hDue H n.1 r t) ids := by
  obtain ⟨c0, c1, c2, c3, c4⟩ := h.2.2 i n hi
  unfold hDue
  refine zRmI_set h hp hi (hI _ _ _) (fun _ => hQ _ _ _) (fun y hy => ⟨fun _ _ => hI _ _ _, fun k j _ => hA k y j (fun q => hy q.2.1)⟩) ?_
  refine ⟨(hI _ _ _).trans c0, (hI _ _ _).trans c1, (hI _ _ _).trans c2, (hI _ _ _).trans c3, fun k hk => ?_⟩
  show zgA w' 162 (ids i) k = zbi (decide (zupd n.2.2.2 r t k ≠ 0)) ∧ (zupd n.2.2.2 r t k ≠ 0 → zgA w' 163 (ids i) k = Int32.ofNat (zupd n.2.2.2 r t k))
  by_cases c : k = r
  · rw [c, zupd_s]; exact ⟨h1, h2⟩
  · rw [zupd_n c, hA 162 _ _ (fun q => c q.2.2), hA 163 _ _ (fun q => c q.2.2)]; exact c4 k hk
theorem zm_isDue {w : St} {b i r now N : Nat} {H : List Nb} {ids : Nat → Nat} {n : Nb} (h : zRmI w b H ids) (hp : H.Pairwise (fun a b => a.1 < b.1)) (hi : H[i]? = some n) (hr : r < 16) (hnow : zgI w 19 24 0 = Int32.ofNat now) (hn1 : 1 ≤ now) : ∃ w', fX19_isDue N 0 (ids i) (Int32.ofNat r) w = some (0, w') ∧ zRmI w' b (hDue H n.1 r now) ids ∧ zMh b w w' := by
  have hil := (List.getElem?_eq_some_iff.mp hi).1
  have h16 := h.2.1
  obtain ⟨x1, x2, -⟩ := h.1.2.1 i (by omega)
  have vp : vp_nar .boolean (1 : Int32) = 1 := by decide
  refine ⟨zsA (zsA w 162 (ids i) r 1) 163 (ids i) r (Int32.ofNat now), ?_, ?_, zMh_tr (zMh_A ⟨Or.inl rfl, x1, x2⟩) (zMh_A ⟨Or.inr rfl, x1, x2⟩)⟩
  · unfold fX19_isDue
    have q : zgI (zsA w 162 (ids i) r 1) 19 24 0 = Int32.ofNat now := hnow
    rw [zkk hr (by omega), zoC (by omega), vp, zl_e, zkk hr (by omega), q, zl_e]
  · refine zRmI_due h hp hi (fun _ _ _ => rfl) (fun _ _ _ => rfl) (fun k o j n => ?_) ?_ (fun _ => ?_)
    · rw [zgA_sA, if_neg (fun y => n ⟨Or.inr y.1, y.2.1, y.2.2⟩), zgA_sA, if_neg (fun y => n ⟨Or.inl y.1, y.2.1, y.2.2⟩)]
    · rw [zgA_sA, if_neg (by omega), zgA_sA, if_pos ⟨rfl, rfl, rfl⟩]
      have : decide (now ≠ 0) = true := by simp; omega
      rw [this]; rfl
    · rw [zgA_sA, if_pos ⟨rfl, rfl, rfl⟩]
/-- nothing is due there -/
theorem zm_noDue {w : St} {b i r : Nat} {H : List Nb} {ids : Nat → Nat} {n : Nb} (h : zRmI w b H ids) (hp : H.Pairwise (fun a b => a.1 < b.1)) (hi : H[i]? = some n) : zRmI (zsA w 162 (ids i) r 0) b (hDue H n.1 r 0) ids ∧ zMh b w (zsA w 162 (ids i) r 0) := by
  have hil := (List.getElem?_eq_some_iff.mp hi).1
  have h16 := h.2.1
  obtain ⟨x1, x2, -⟩ := h.1.2.1 i (by omega)
  refine ⟨zRmI_due h hp hi (fun _ _ _ => rfl) (fun _ _ _ => rfl) (fun k o j n => ?_) ?_ (fun y => absurd rfl y), zMh_A ⟨Or.inl rfl, x1, x2⟩⟩
  · rw [zgA_sA, if_neg (fun y => n ⟨Or.inl y.1, y.2.1, y.2.2⟩)]
  · rw [zgA_sA, if_pos ⟨rfl, rfl, rfl⟩]; rfl
theorem hAll_app (A B : List Nb) (r : Nat) (but : Option Nat) (now : Nat) : hAll (A ++ B) r but now = hAll A r but now ++ hAll B r but now := List.map_append
theorem hAll_len (A : List Nb) (r : Nat) (but : Option Nat) (now : Nat) : (hAll A r but now).length = A.length := List.length_map _
theorem hAll_key {A : List Nb} {r : Nat} {but : Option Nat} {now : Nat} {m : Nb} (h : m ∈ hAll A r but now) : ∃ n, n ∈ A ∧ m.1 = n.1 := by
  obtain ⟨n, hn, e⟩ := List.mem_map.mp h
  refine ⟨n, hn, ?_⟩
  rw [← e]
  split <;> rfl
theorem hAll_pw {A B : List Nb} (r : Nat) (but : Option Nat) (now : Nat) (h : (A ++ B).Pairwise (fun a b => a.1 < b.1)) : (hAll A r but now ++ B).Pairwise (fun a b => a.1 < b.1) := by
  obtain ⟨h1, h2, h3⟩ := List.pairwise_append.mp h
  refine List.pairwise_append.mpr ⟨?_, h2, fun a ha b hb => ?_⟩
  · unfold hAll
    rw [List.pairwise_map]
    refine h1.imp (fun {a b} hab => ?_)
    have e : ∀ m : Nb, (if some m.1 = but ∨ m.2.2.1 = false then m else (m.1, m.2.1, m.2.2.1, zupd m.2.2.2 r now)).1 = m.1 := fun m => by split <;> rfl
    rw [e, e]; exact hab
  · obtain ⟨n, hn, e⟩ := hAll_key ha
    rw [e]; exact h3 n hn b hb
/-- all other friends are due -/
theorem zm_dueAll {w : St} {b r now N : Nat} {H : List Nb} {ids : Nat → Nat} {but fr : Option Nat} (h : zRmI w b H ids) (hH : zHk H) (hr : r < 16) (hnow : zgI w 19 24 0 = Int32.ofNat now) (hn1 : 1 ≤ now) (hbut : ∀ j n, H[j]? = some n → (some (ids j) = fr ↔ some n.1 = but)) :
    ∀ (B A : List Nb) (nn : Nat) (y : St), H = A ++ B → B.length < nn → zRmI y b (hAll A r but now ++ B) ids → zMh b w y → ∃ y', fX19_take_57 N nn 0 b fr (Int32.ofNat r) (Int32.ofNat A.length) y = some (0, y') ∧ zRmI y' b (hAll H r but now) ids ∧ zMh b w y' := by
  intro B
  induction B with
  | nil =>
    intro A nn y e hn y1 y2
    obtain ⟨nn, rfl⟩ : ∃ k, nn = k + 1 := ⟨nn - 1, by simp at hn; omega⟩
    rw [List.append_nil] at e y1
    refine ⟨y, ?_, by rw [e]; exact y1, y2⟩
    show fX19_take_57b N (fX19_take_57 N nn) 0 b fr (Int32.ofNat r) (Int32.ofNat A.length) y = _
    unfold fX19_take_57b
    have q := y1.1.1
    rw [hAll_len] at q
    rw [q, if_pos (Int32.le_refl _)]
  | cons n B ih =>
    intro A nn y e hn y1 y2
    obtain ⟨nn, rfl⟩ : ∃ k, nn = k + 1 := ⟨nn - 1, by omega⟩
    have hl16 := hH.2.2
    have hlen : H.length = A.length + (B.length + 1) := by rw [e]; simp
    have q : zgI y 12 13 b = Int32.ofNat (A.length + (B.length + 1)) := by
      have := y1.1.1
      rw [List.length_append, hAll_len, List.length_cons] at this
      exact this
    have q2 := (y1.1.2.1 A.length (by omega)).2.2
    have hat : (hAll A r but now ++ n :: B)[A.length]? = some n := by
      rw [List.getElem?_append_right (by rw [hAll_len]; omega), hAll_len, Nat.sub_self]; rfl
    have hatH : H[A.length]? = some n := by
      rw [e, List.getElem?_append_right (by omega), Nat.sub_self]; rfl
    obtain ⟨c0, c1, c2, c3, -⟩ := y1.2.2 _ n hat
    have pw : (hAll A r but now ++ n :: B).Pairwise (fun a b => a.1 < b.1) := hAll_pw r but now (by rw [← e]; exact hH.2.1)
    have eH : H = (A ++ [n]) ++ B := by rw [e]; simp
    have al : (A ++ [n]).length = A.length + 1 := by simp
    have nx : ∀ y' : St, zRmI y' b (hAll (A ++ [n]) r but now ++ B) ids → zMh b w y' → ∃ y'', fX19_take_97 N (fX19_take_57 N nn) 0 b fr (Int32.ofNat r) (Int32.ofNat A.length) y' = some (0, y'') ∧ zRmI y'' b (hAll H r but now) ids ∧ zMh b w y'' := fun y' a1 a2 => by
      obtain ⟨y'', r1, r2⟩ := ih (A ++ [n]) nn y' eH (by simp at hn; omega) a1 a2
      refine ⟨y'', ?_, r2⟩
      unfold fX19_take_97
      rw [zo_i1, zl_e]
      rw [al] at r1
      exact r1
    have skip : (some n.1 = but ∨ n.2.2.1 = false) → hAll (A ++ [n]) r but now ++ B = hAll A r but now ++ n :: B := fun c => by
      rw [hAll_app]
      have : hAll [n] r but now = [n] := by
        show [if some n.1 = but ∨ n.2.2.1 = false then n else (n.1, n.2.1, n.2.2.1, zupd n.2.2.2 r now)] = [n]
        rw [if_pos c]
      rw [this, List.append_assoc]; rfl
    have start : fX19_take_57 N (nn + 1) 0 b fr (Int32.ofNat r) (Int32.ofNat A.length) y = if some (ids A.length) = fr then fX19_take_97 N (fX19_take_57 N nn) 0 b fr (Int32.ofNat r) (Int32.ofNat A.length) y else if zbi n.2.2.1 = 0 then fX19_take_97 N (fX19_take_57 N nn) 0 b fr (Int32.ofNat r) (Int32.ofNat A.length) y else zc (fX19_isDue N 0 (ids A.length) (Int32.ofNat r) y) fun _ z8 => fX19_take_97 N (fX19_take_57 N nn) 0 b fr (Int32.ofNat r) (Int32.ofNat A.length) z8 := by
      show fX19_take_57b N (fX19_take_57 N nn) 0 b fr (Int32.ofNat r) (Int32.ofNat A.length) y = _
      unfold fX19_take_57b
      rw [q, if_neg (by rw [zo_le (by omega) (by omega)]; omega), zkk (by omega) (by omega), zl_e, zoC (by omega), q2, zd_e, c3]
    rw [start]
    by_cases d : some (ids A.length) = fr
    · rw [if_pos d]
      exact nx y (by rw [skip (Or.inl ((hbut _ _ hatH).mp d))]; exact y1) y2
    · rw [if_neg d]
      cases hf : n.2.2.1 with
      | false =>
        rw [if_pos (show zbi false = 0 from rfl)]
        exact nx y (by rw [skip (Or.inr hf)]; exact y1) y2
      | true =>
        rw [if_neg (show ¬ zbi true = 0 by decide)]
        obtain ⟨y', r1, r2, r3⟩ := zm_isDue (N := N) y1 pw hat hr ((y2.1 _ _ _).trans hnow) hn1
        rw [r1, zc_e]
        refine nx y' ?_ (zMh_tr y2 r3)
        have e1 : hDue (hAll A r but now ++ n :: B) n.1 r now = hAll (A ++ [n]) r but now ++ B := by
          have hA : ∀ m, m ∈ hAll A r but now → m.1 ≠ n.1 := fun m hm => by
            have := (List.pairwise_append.mp pw).2.2 m hm n (List.mem_cons_self ..)
            omega
          have hB : ∀ m, m ∈ B → m.1 ≠ n.1 := fun m hm => by
            have := (List.pairwise_cons.mp (List.pairwise_append.mp pw).2.1).1 m hm
            omega
          unfold hDue
          rw [hUpd_mid hA hB, hAll_app]
          have : hAll [n] r but now = [(n.1, n.2.1, n.2.2.1, zupd n.2.2.2 r now)] := by
            show [if some n.1 = but ∨ n.2.2.1 = false then n else (n.1, n.2.1, n.2.2.1, zupd n.2.2.2 r now)] = _
            rw [if_neg (fun y => by
              rcases y with y | y
              · exact d ((hbut _ _ hatH).mpr y)
              · rw [hf] at y; cases y)]
          rw [this, List.append_assoc]; rfl
        rw [← e1]; exact r2
