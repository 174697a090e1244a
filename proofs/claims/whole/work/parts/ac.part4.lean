theorem zc_putHit {z : St} {T : Tp} {b x ord N : Nat} {L : List Pe} {e : Pe} {D : Dg} (hT : zTC z T) (hb : b < tb T) (h : zPcS z b L ord) (ho : ord < 2147483648) (hxc : zPC 11 z x D) (hDw : zDw D) (hpart : dl D < dw D) (he : e ∈ L) (hd : dSb (peD e) D = true) (hu : ∀ e2, e2 ∈ L → dSb (peD e2) D = true → e2 = e) (hN : 4 < N) : fX11_putTogether N 0 b x z = fX11_putTogether_51 N b x (Int32.ofNat (pes e)) z := by
  have i6 : zgI z 7 6 x = Int32.ofNat (dl D) := (hxc.1 6 (by omega) (by omega)).trans hDw.1
  have i7 : zgI z 7 7 x = Int32.ofNat (dw D) := (hxc.1 7 (by omega) (by omega)).trans hDw.2.2.1
  have d14 := hDw.2.2.2.2.1
  have hs := h.1.2.1 e he
  have pf := zc_partialFor (N := N) hT hb h ho (fun j hj => hxc.1 j (by omega) (by omega)) hN
  have pn : zfst (fun i => L.any (fun e => pes e == i && dSb (peD e) D)) 4 0 = some (pes e) := by
    cases e1 : zfst (fun i => L.any (fun e => pes e == i && dSb (peD e) D)) 4 0 with
    | none =>
      have := zfst_none e1 (pes e) (by omega) (by omega)
      rw [List.any_eq_false] at this
      exact absurd (by simp [hd]) (this e he)
    | some i =>
      obtain ⟨-, -, h3, -⟩ := zfst_some e1
      obtain ⟨e2, he2, h4⟩ := List.any_eq_true.mp h3
      obtain ⟨h5, h6⟩ := Bool.and_eq_true_iff.mp h4
      rw [← hu e2 he2 h6]
      have h7 : pes e2 = i := by simpa using h5
      rw [h7]
  rw [pn] at pf
  unfold fX11_putTogether
  rw [i6, i7, if_pos (by rw [zo_lt (by omega) (by omega)]; exact hpart), pf, zc_e]
  show (if 0 ≤ Int32.ofNat (pes e) then _ else _) = _
  rw [if_pos (zo_ge (by omega))]
/-! datagrams that are put together: the model -/
def zPem (w : St) (e : Pe) : Prop := (∀ j, j < 4 → zgI w 17 j (pep e) = (peD e).1 j) ∧ zgI w 17 4 (pep e) = Int32.ofNat (pet e) ∧ zgI w 17 5 (pep e) = (if peU e ((dw (peD e) - 1) / 8) = true then Int32.ofNat (dw (peD e)) else (-1 : Int32)) ∧ ∀ u, u < 192 → zgA w 166 (pep e) u = zbi (peU e u)
def zPmS (w : St) (b : Nat) (L : List Pe) : Prop := (L.length ≤ 4 ∧ zgI w 12 11 b = Int32.ofNat L.length) ∧ (∃ rest : List Nat, (L.map pep ++ rest).length = 4 ∧ (L.map pep ++ rest).Nodup ∧ (∀ x, x ∈ L.map pep ++ rest → 4 * b ≤ x ∧ x < 4 * b + 4) ∧ ∀ k x, (L.map pep ++ rest)[k]? = some x → zgQ w 148 b k = some x) ∧ ∀ e, e ∈ L → zPem w e
theorem zPem_keep {w w' : St} {e : Pe} (h1 : ∀ j, zgI w' 17 j (pep e) = zgI w 17 j (pep e)) (h2 : ∀ u, zgA w' 166 (pep e) u = zgA w 166 (pep e) u) (h : zPem w e) : zPem w' e := ⟨fun j hj => (h1 j).trans (h.1 j hj), (h1 4).trans h.2.1, (h1 5).trans h.2.2.1, fun u hu => (h2 u).trans (h.2.2.2 u hu)⟩
theorem zsQ_at {z : St} {k o i j : Nat} {v : Option Nat} : zgQ (zsQ z k o i v) k o j = if j = i then v else zgQ z k o j := by
  rw [zgQ_sQ]
  by_cases c : j = i
  · rw [if_pos ⟨rfl, rfl, c⟩, if_pos c]
  · rw [if_neg (fun y => c y.2.2), if_neg c]
/-- the following ones move up -/
theorem zm_endPieces19 {b N t : Nat} {v : Option Nat} (ht : t < 4) : ∀ (m i n : Nat) (w : St), i + m = t → m < n → zgI w 12 11 b = Int32.ofNat t → ∃ w', fX19_endPieces_19 N n b v (Int32.ofNat i) w = some (0, w') ∧ (∀ j, zgQ w' 148 b j = if i ≤ j ∧ j < t then zgQ w 148 b (j + 1) else if j = t then v else zgQ w 148 b j) ∧ (∀ k o j, ¬ (k = 148 ∧ o = b) → zgQ w' k o j = zgQ w k o j) ∧ (∀ k j o, zgI w' k j o = zgI w k j o) ∧ (∀ k o j, zgA w' k o j = zgA w k o j) ∧ (∀ k o j, zgL w' k o j = zgL w k o j) ∧ (∀ k o i, zgR w' k o i = zgR w k o i) := by
  intro m
  induction m with
  | zero =>
    intro i n w hi hn h11
    obtain ⟨n, rfl⟩ : ∃ k, n = k + 1 := ⟨n - 1, by omega⟩
    refine ⟨zsQ w 148 b t v, ?_, fun j => ?_, fun k o j h => ?_, fun _ _ _ => rfl, fun _ _ _ => rfl, fun _ _ _ => rfl, fun _ _ _ => rfl⟩
    · show fX19_endPieces_19b N (fX19_endPieces_19 N n) b v (Int32.ofNat i) w = _
      unfold fX19_endPieces_19b
      rw [h11, if_pos (by rw [zo_le (by omega) (by omega)]; omega), zkk ht (by omega), zoC (by omega), zl_e]
    · rw [zsQ_at, if_neg (by omega : ¬ (i ≤ j ∧ j < t))]
    · rw [zgQ_sQ, if_neg (fun y => h ⟨y.1, y.2.1⟩)]
  | succ m ih =>
    intro i n w hi hn h11
    obtain ⟨n, rfl⟩ : ∃ k, n = k + 1 := ⟨n - 1, by omega⟩
    obtain ⟨w', r1, r2, r3, r4, r5, r6, r7⟩ := ih (i + 1) n (zsQ w 148 b i (zgQ w 148 b (i + 1))) (by omega) (by omega) h11
    refine ⟨w', ?_, fun j => ?_, fun k o j h => ?_, r4, r5, r6, r7⟩
    · show fX19_endPieces_19b N (fX19_endPieces_19 N n) b v (Int32.ofNat i) w = _
      unfold fX19_endPieces_19b
      rw [h11, if_neg (by rw [zo_le (by omega) (by omega)]; omega), zo_i1, zkk (by omega) (by omega), zl_e, zkk (by omega) (by omega), zl_e, zoC (by omega), zoC (by omega), zl_e]
      exact r1
    · rw [r2 j, zsQ_at, zsQ_at]
      by_cases c1 : i + 1 ≤ j ∧ j < t
      · rw [if_pos c1, if_neg (by omega), if_pos (by omega : i ≤ j ∧ j < t)]
      · rw [if_neg c1]
        by_cases c2 : j = t
        · rw [if_pos c2, if_neg (by omega : ¬ (i ≤ j ∧ j < t)), if_pos c2]
        · rw [if_neg c2]
          by_cases c3 : j = i
          · rw [if_pos c3, if_pos (by omega : i ≤ j ∧ j < t), c3]
          · rw [if_neg c3, if_neg (by omega : ¬ (i ≤ j ∧ j < t)), if_neg c2]
    · rw [r3 k o j h, zgQ_sQ, if_neg (fun y => h ⟨y.1, y.2.1⟩)]
theorem zm_endPieces {w : St} {b N : Nat} {A B : List Pe} {e : Pe} (h : zPmS w b (A ++ e :: B)) (hN : 4 < N) : ∃ w', fX19_endPieces N b (Int32.ofNat A.length) w = some (0, w') ∧ zPmS w' b (A ++ B) ∧ (∀ k j o, ¬ (k = 12 ∧ j = 11 ∧ o = b) → zgI w' k j o = zgI w k j o) ∧ (∀ k o i, zgA w' k o i = zgA w k o i) ∧ (∀ k o i, zgL w' k o i = zgL w k o i) ∧ (∀ k o j, ¬ (k = 148 ∧ o = b) → zgQ w' k o j = zgQ w k o j) ∧ (∀ k o i, zgR w' k o i = zgR w k o i) := by
  obtain ⟨⟨h1, h2⟩, ⟨rest, p1, p2, p3, p4⟩, h5⟩ := h
  have hlen : (A ++ e :: B).length = A.length + B.length + 1 := by simp; omega
  rw [hlen] at h1 h2
  have hp : (A ++ e :: B).map pep ++ rest = A.map pep ++ (pep e :: (B.map pep ++ rest)) := by simp
  rw [hp] at p1 p2 p3 p4
  have q0 : zgQ w 148 b A.length = some (pep e) := p4 A.length (pep e) (by
    rw [List.getElem?_append_right (by simp)]; simp)
  let w1 : St := zsI w 12 11 b (Int32.ofNat (A.length + B.length))
  obtain ⟨w', r1, r2, r3, r4, r5, r6, r7⟩ := zm_endPieces19 (N := N) (b := b) (t := A.length + B.length) (v := some (pep e)) (by omega) B.length A.length N w1 rfl (by omega) (by
    show zgI (zsI w 12 11 b _) 12 11 b = _
    rw [zgI_sI, if_pos ⟨rfl, rfl, rfl⟩])
  have hp2 : (A ++ B).map pep ++ (pep e :: rest) = A.map pep ++ (B.map pep ++ (pep e :: rest)) := by simp
  have perm : ((A ++ B).map pep ++ (pep e :: rest)).Perm (A.map pep ++ (pep e :: (B.map pep ++ rest))) := by
    rw [hp2]
    exact List.Perm.append_left _ List.perm_middle
  have l1 : (A ++ B).length = A.length + B.length := by simp
  refine ⟨w', ?_, ⟨⟨by rw [l1]; omega, ?_⟩, ⟨pep e :: rest, by rw [perm.length_eq]; exact p1, perm.nodup_iff.mpr p2, fun x hx => p3 x (perm.mem_iff.mp hx), fun k x hk => ?_⟩, fun e2 he2 => ?_⟩, fun k j o hk => ?_, fun k o i => r5 k o i, fun k o i => r6 k o i, fun k o j hk => r3 k o j hk, fun k o i => r7 k o i⟩
  · unfold fX19_endPieces
    rw [zkk (by omega) (by omega), zl_e, zoC (by omega), h2, zo_s1 (by omega), zl_e, q0]
    exact r1
  · rw [r4, l1]
    show zgI (zsI w 12 11 b _) 12 11 b = _
    rw [zgI_sI, if_pos ⟨rfl, rfl, rfl⟩]
  · rw [hp2] at hk
    rw [r2]
    have q : ∀ j, zgQ w1 148 b j = zgQ w 148 b j := fun _ => rfl
    rw [q, q]
    have hkl := (List.getElem?_eq_some_iff.mp hk).1
    simp only [List.length_append, List.length_map, List.length_cons] at hkl
    by_cases c1 : k < A.length
    · rw [if_neg (by omega), if_neg (by omega)]
      rw [List.getElem?_append_left (by simpa using c1)] at hk
      exact p4 k x (by rw [List.getElem?_append_left (by simpa using c1)]; exact hk)
    · rw [List.getElem?_append_right (by simp; omega)] at hk
      simp only [List.length_map] at hk
      by_cases c2 : k < A.length + B.length
      · rw [if_pos (by omega)]
        rw [List.getElem?_append_left (by simp; omega)] at hk
        refine p4 (k + 1) x ?_
        rw [List.getElem?_append_right (by simp; omega)]
        simp only [List.length_map]
        rw [show k + 1 - A.length = (k - A.length) + 1 by omega, List.getElem?_cons_succ, List.getElem?_append_left (by simp; omega)]
        exact hk
      · rw [if_neg (by omega)]
        rw [List.getElem?_append_right (by simp; omega)] at hk
        simp only [List.length_map] at hk
        by_cases c3 : k = A.length + B.length
        · rw [if_pos c3]
          rw [show k - A.length - B.length = 0 by omega, List.getElem?_cons_zero] at hk
          exact hk
        · rw [if_neg c3]
          rw [show k - A.length - B.length = (k - A.length - B.length - 1) + 1 by omega, List.getElem?_cons_succ] at hk
          refine p4 k x ?_
          rw [List.getElem?_append_right (by simp; omega)]
          simp only [List.length_map]
          rw [show k - A.length = (k - A.length - 1) + 1 by omega, List.getElem?_cons_succ, List.getElem?_append_right (by simp; omega)]
          simp only [List.length_map]
          rw [show k - A.length - 1 - B.length = k - A.length - B.length - 1 by omega]
          exact hk
  · have m2 : e2 ∈ A ++ e :: B := by
      rcases List.mem_append.mp he2 with y | y
      · exact List.mem_append.mpr (Or.inl y)
      · exact List.mem_append.mpr (Or.inr (List.mem_cons_of_mem _ y))
    refine zPem_keep (fun j => ?_) (fun u => r5 166 _ u) (h5 e2 m2)
    rw [r4]
  · rw [r4]
    show zgI (zsI w 12 11 b _) k j o = _
    rw [zgI_sI, if_neg hk]
/-- whether one is whole -/
theorem zdv8b : ∀ v, v < 1500 → ((Int32.ofNat v) / (8 : Int32)) = Int32.ofNat (v / 8) := by decide +kernel
theorem zbi_0 (c : Bool) : zbi c = 0 ↔ c = false := by cases c <;> decide
theorem zm_isWhole {w : St} {p d N : Nat} {V : Nat → Bool} (hd : d ≤ 1480) (hd1 : 1 ≤ d) (h5 : zgI w 17 5 p = (if V ((d - 1) / 8) = true then Int32.ofNat d else (-1 : Int32))) (hV : ∀ u, u < 192 → zgA w 166 p u = zbi (V u)) (hN : 192 < N) : fX17_isWhole N p w = some (zbi (zAll V d), w) := by
  have h1 : fX17_isWhole_2 N N p (Int32.ofNat 0) w = some (zbi (zAll V d), w) := by
    by_cases c : V ((d - 1) / 8) = true
    · rw [if_pos c] at h5
      have e7 : (Int32.ofNat d + (7 : Int32)) / (8 : Int32) = Int32.ofNat ((d + 7) / 8) := by
        rw [show Int32.ofNat d + (7 : Int32) = Int32.ofNat (d + 7) from zo_add d 7, zdv8b _ (by omega)]
      have loop := zlf0 (G := fun n i => fX17_isWhole_2 N n p (Int32.ofNat i) w) (p := fun i => ! V i) (f := fun _ => some ((0 : Int32), w)) (r := some ((1 : Int32), w)) (k := (d + 7) / 8) (n := N) (by omega) (fun n i hi hp => by
        show fX17_isWhole_2b N (fX17_isWhole_2 N n) p (Int32.ofNat i) w = _
        have hp : V i = true := by simpa using hp
        unfold fX17_isWhole_2b
        rw [h5, e7, if_neg (by rw [zo_le (by omega) (by omega)]; omega), zkk (by omega) (by omega), zoC (by omega), hV i (by omega), hp, if_pos (show ¬ zbi true = 0 by decide), zl_e, zo_i1]) (fun n i hi hp => by
        show fX17_isWhole_2b N (fX17_isWhole_2 N n) p (Int32.ofNat i) w = _
        have hp : V i = false := by simpa using hp
        unfold fX17_isWhole_2b
        rw [h5, e7, if_neg (by rw [zo_le (by omega) (by omega)]; omega), zkk (by omega) (by omega), zoC (by omega), hV i (by omega), hp, if_neg (fun y => y rfl)]) (fun n => by
        show fX17_isWhole_2b N (fX17_isWhole_2 N n) p (Int32.ofNat ((d + 7) / 8)) w = _
        unfold fX17_isWhole_2b
        rw [h5, e7, if_pos (Int32.le_refl _), if_neg (zo_ne1 (by omega))])
      have loop : fX17_isWhole_2 N N p (Int32.ofNat 0) w = _ := loop
      rw [loop]
      cases e : zfst (fun i => ! V i) ((d + 7) / 8) 0 with
      | some j =>
        obtain ⟨-, h2, h3, -⟩ := zfst_some e
        have h3 : V j = false := by simpa using h3
        have : zAll V d = false := by
          cases ca : zAll V d with
          | false => rfl
          | true => rw [(zAll_iff hd).mp ca j (by omega)] at h3; cases h3
        rw [this]; rfl
      | none =>
        have : zAll V d = true := (zAll_iff hd).mpr (fun v hv => by
          have := zfst_none e v (by omega) (by omega)
          simpa using this)
        rw [this]; rfl
    · rw [if_neg c] at h5
      have : zAll V d = false := by
        cases ca : zAll V d with
        | false => rfl
        | true => exact absurd ((zAll_iff hd).mp ca ((d - 1) / 8) (by omega)) c
      obtain ⟨n, rfl⟩ : ∃ n, N = n + 1 := ⟨N - 1, by omega⟩
      show fX17_isWhole_2b (n + 1) (fX17_isWhole_2 (n + 1) n) p (Int32.ofNat 0) w = _
      unfold fX17_isWhole_2b
      rw [h5, if_pos (by decide), if_pos rfl, this]; rfl
  exact h1
